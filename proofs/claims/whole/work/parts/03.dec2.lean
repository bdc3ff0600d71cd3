theorem dX11_text_226 : decode cX11_text 226 = .ok (.aload_n 0, 1) := by decide +kernel
theorem dX11_text_227 : decode cX11_text 227 = .ok (.aload_n 0, 1) := by decide +kernel
theorem dX11_text_228 : decode cX11_text 228 = .ok (.getfield 126, 3) := by decide +kernel
theorem dX11_text_231 : decode cX11_text 231 = .ok (.putfield 22, 3) := by decide +kernel
theorem dX11_text_234 : decode cX11_text 234 = .ok (.iconst (-1), 1) := by decide +kernel
theorem dX11_text_235 : decode cX11_text 235 = .ok (.ireturn, 1) := by decide +kernel
theorem dX11_text_236 : decode cX11_text 236 = .ok (.aload_n 0, 1) := by decide +kernel
theorem dX11_text_237 : decode cX11_text 237 = .ok (.getfield 29, 3) := by decide +kernel
theorem dX11_text_240 : decode cX11_text 240 = .ok (.sipush 941, 3) := by decide +kernel
theorem dX11_text_243 : decode cX11_text 243 = .ok (.iload_n 1, 1) := by decide +kernel
theorem dX11_text_244 : decode cX11_text 244 = .ok (.iadd, 1) := by decide +kernel
theorem dX11_text_245 : decode cX11_text 245 = .ok (.iload_n 2, 1) := by decide +kernel
theorem dX11_text_246 : decode cX11_text 246 = .ok (.iastore, 1) := by decide +kernel
theorem dX11_text_247 : decode cX11_text 247 = .ok (.aload_n 0, 1) := by decide +kernel
theorem dX11_text_248 : decode cX11_text 248 = .ok (.getfield 29, 3) := by decide +kernel
theorem dX11_text_251 : decode cX11_text 251 = .ok (.aload_n 0, 1) := by decide +kernel
theorem dX11_text_252 : decode cX11_text 252 = .ok (.getfield 9, 3) := by decide +kernel
theorem dX11_text_255 : decode cX11_text 255 = .ok (.sipush 2425, 3) := by decide +kernel
theorem dX11_text_258 : decode cX11_text 258 = .ok (.invokestatic 86, 3) := by decide +kernel
theorem dX11_text_261 : decode cX11_text 261 = .ok (.iload_n 1, 1) := by decide +kernel
theorem dX11_text_262 : decode cX11_text 262 = .ok (.iconst 1, 1) := by decide +kernel
theorem dX11_text_263 : decode cX11_text 263 = .ok (.if_icmp .ne 7, 3) := by decide +kernel
theorem dX11_text_266 : decode cX11_text 266 = .ok (.aload_n 0, 1) := by decide +kernel
theorem dX11_text_267 : decode cX11_text 267 = .ok (.invokevirtual 191, 3) := by decide +kernel
theorem dX11_text_270 : decode cX11_text 270 = .ok (.iconst 0, 1) := by decide +kernel
theorem dX11_text_271 : decode cX11_text 271 = .ok (.istore_n 3, 1) := by decide +kernel
theorem dX11_text_272 : decode cX11_text 272 = .ok (.iload_n 3, 1) := by decide +kernel
theorem dX11_text_273 : decode cX11_text 273 = .ok (.bipush 16, 2) := by decide +kernel
theorem dX11_text_275 : decode cX11_text 275 = .ok (.if_icmp .ge 31, 3) := by decide +kernel
theorem dX11_text_278 : decode cX11_text 278 = .ok (.iload_n 1, 1) := by decide +kernel
theorem dX11_text_279 : decode cX11_text 279 = .ok (.iconst 2, 1) := by decide +kernel
theorem dX11_text_280 : decode cX11_text 280 = .ok (.if_icmp .ne 26, 3) := by decide +kernel
theorem dX11_text_283 : decode cX11_text 283 = .ok (.aload_n 0, 1) := by decide +kernel
theorem dX11_text_284 : decode cX11_text 284 = .ok (.getfield 9, 3) := by decide +kernel
theorem dX11_text_287 : decode cX11_text 287 = .ok (.sipush 144, 3) := by decide +kernel
theorem dX11_text_290 : decode cX11_text 290 = .ok (.bipush 12, 2) := by decide +kernel
theorem dX11_text_292 : decode cX11_text 292 = .ok (.iload_n 3, 1) := by decide +kernel
theorem dX11_text_293 : decode cX11_text 293 = .ok (.imul, 1) := by decide +kernel
theorem dX11_text_294 : decode cX11_text 294 = .ok (.iadd, 1) := by decide +kernel
theorem dX11_text_295 : decode cX11_text 295 = .ok (.bipush 8, 2) := by decide +kernel
theorem dX11_text_297 : decode cX11_text 297 = .ok (.iadd, 1) := by decide +kernel
theorem dX11_text_298 : decode cX11_text 298 = .ok (.iconst 0, 1) := by decide +kernel
theorem dX11_text_299 : decode cX11_text 299 = .ok (.iastore, 1) := by decide +kernel
theorem dX11_text_300 : decode cX11_text 300 = .ok (.iinc 3 1, 3) := by decide +kernel
theorem dX11_text_303 : decode cX11_text 303 = .ok (.goto (-31), 3) := by decide +kernel
theorem dX11_text_306 : decode cX11_text 306 = .ok (.iload_n 1, 1) := by decide +kernel
theorem dX11_text_307 : decode cX11_text 307 = .ok (.ifCond .le 8, 3) := by decide +kernel
theorem dX11_text_310 : decode cX11_text 310 = .ok (.aload_n 0, 1) := by decide +kernel
theorem dX11_text_311 : decode cX11_text 311 = .ok (.iconst 0, 1) := by decide +kernel
theorem dX11_text_312 : decode cX11_text 312 = .ok (.putfield 94, 3) := by decide +kernel
theorem dX11_text_315 : decode cX11_text 315 = .ok (.iload_n 2, 1) := by decide +kernel
theorem dX11_text_316 : decode cX11_text 316 = .ok (.ireturn, 1) := by decide +kernel
theorem dX11_drivesOut_0 : decode cX11_drivesOut 0 = .ok (.iconst 0, 1) := by decide +kernel
theorem dX11_drivesOut_1 : decode cX11_drivesOut 1 = .ok (.istore_n 1, 1) := by decide +kernel
theorem dX11_drivesOut_2 : decode cX11_drivesOut 2 = .ok (.iload_n 1, 1) := by decide +kernel
theorem dX11_drivesOut_3 : decode cX11_drivesOut 3 = .ok (.aload_n 0, 1) := by decide +kernel
theorem dX11_drivesOut_4 : decode cX11_drivesOut 4 = .ok (.getfield 9, 3) := by decide +kernel
theorem dX11_drivesOut_7 : decode cX11_drivesOut 7 = .ok (.sipush 940, 3) := by decide +kernel
theorem dX11_drivesOut_10 : decode cX11_drivesOut 10 = .ok (.iaload, 1) := by decide +kernel
theorem dX11_drivesOut_11 : decode cX11_drivesOut 11 = .ok (.if_icmp .ge 67, 3) := by decide +kernel
theorem dX11_drivesOut_14 : decode cX11_drivesOut 14 = .ok (.sipush 144, 3) := by decide +kernel
theorem dX11_drivesOut_17 : decode cX11_drivesOut 17 = .ok (.bipush 12, 2) := by decide +kernel
theorem dX11_drivesOut_19 : decode cX11_drivesOut 19 = .ok (.iload_n 1, 1) := by decide +kernel
theorem dX11_drivesOut_20 : decode cX11_drivesOut 20 = .ok (.imul, 1) := by decide +kernel
theorem dX11_drivesOut_21 : decode cX11_drivesOut 21 = .ok (.iadd, 1) := by decide +kernel
theorem dX11_drivesOut_22 : decode cX11_drivesOut 22 = .ok (.istore_n 2, 1) := by decide +kernel
theorem dX11_drivesOut_23 : decode cX11_drivesOut 23 = .ok (.aload_n 0, 1) := by decide +kernel
theorem dX11_drivesOut_24 : decode cX11_drivesOut 24 = .ok (.getfield 9, 3) := by decide +kernel
theorem dX11_drivesOut_27 : decode cX11_drivesOut 27 = .ok (.iload_n 2, 1) := by decide +kernel
theorem dX11_drivesOut_28 : decode cX11_drivesOut 28 = .ok (.iconst 1, 1) := by decide +kernel
theorem dX11_drivesOut_29 : decode cX11_drivesOut 29 = .ok (.iadd, 1) := by decide +kernel
theorem dX11_drivesOut_30 : decode cX11_drivesOut 30 = .ok (.iaload, 1) := by decide +kernel
theorem dX11_drivesOut_31 : decode cX11_drivesOut 31 = .ok (.iconst 1, 1) := by decide +kernel
theorem dX11_drivesOut_32 : decode cX11_drivesOut 32 = .ok (.if_icmp .ne 40, 3) := by decide +kernel
theorem dX11_drivesOut_35 : decode cX11_drivesOut 35 = .ok (.aload_n 0, 1) := by decide +kernel
theorem dX11_drivesOut_36 : decode cX11_drivesOut 36 = .ok (.getfield 9, 3) := by decide +kernel
theorem dX11_drivesOut_39 : decode cX11_drivesOut 39 = .ok (.aload_n 0, 1) := by decide +kernel
theorem dX11_drivesOut_40 : decode cX11_drivesOut 40 = .ok (.getfield 9, 3) := by decide +kernel
theorem dX11_drivesOut_43 : decode cX11_drivesOut 43 = .ok (.iload_n 2, 1) := by decide +kernel
theorem dX11_drivesOut_44 : decode cX11_drivesOut 44 = .ok (.iconst 2, 1) := by decide +kernel
theorem dX11_drivesOut_45 : decode cX11_drivesOut 45 = .ok (.iadd, 1) := by decide +kernel
theorem dX11_drivesOut_46 : decode cX11_drivesOut 46 = .ok (.iaload, 1) := by decide +kernel
theorem dX11_drivesOut_47 : decode cX11_drivesOut 47 = .ok (.aload_n 0, 1) := by decide +kernel
theorem dX11_drivesOut_48 : decode cX11_drivesOut 48 = .ok (.getfield 9, 3) := by decide +kernel
theorem dX11_drivesOut_51 : decode cX11_drivesOut 51 = .ok (.iload_n 2, 1) := by decide +kernel
theorem dX11_drivesOut_52 : decode cX11_drivesOut 52 = .ok (.iconst 3, 1) := by decide +kernel
theorem dX11_drivesOut_53 : decode cX11_drivesOut 53 = .ok (.iadd, 1) := by decide +kernel
theorem dX11_drivesOut_54 : decode cX11_drivesOut 54 = .ok (.iaload, 1) := by decide +kernel
theorem dX11_drivesOut_55 : decode cX11_drivesOut 55 = .ok (.invokestatic 108, 3) := by decide +kernel
theorem dX11_drivesOut_58 : decode cX11_drivesOut 58 = .ok (.iaload, 1) := by decide +kernel
theorem dX11_drivesOut_59 : decode cX11_drivesOut 59 = .ok (.iconst 1, 1) := by decide +kernel
theorem dX11_drivesOut_60 : decode cX11_drivesOut 60 = .ok (.if_icmp .ne 12, 3) := by decide +kernel
theorem dX11_drivesOut_63 : decode cX11_drivesOut 63 = .ok (.aload_n 0, 1) := by decide +kernel
theorem dX11_drivesOut_64 : decode cX11_drivesOut 64 = .ok (.getfield 9, 3) := by decide +kernel
theorem dX11_drivesOut_67 : decode cX11_drivesOut 67 = .ok (.iload_n 2, 1) := by decide +kernel
theorem dX11_drivesOut_68 : decode cX11_drivesOut 68 = .ok (.iconst 1, 1) := by decide +kernel
theorem dX11_drivesOut_69 : decode cX11_drivesOut 69 = .ok (.iadd, 1) := by decide +kernel
theorem dX11_drivesOut_70 : decode cX11_drivesOut 70 = .ok (.iconst 0, 1) := by decide +kernel
theorem dX11_drivesOut_71 : decode cX11_drivesOut 71 = .ok (.iastore, 1) := by decide +kernel
theorem dX11_drivesOut_72 : decode cX11_drivesOut 72 = .ok (.iinc 1 1, 3) := by decide +kernel
theorem dX11_drivesOut_75 : decode cX11_drivesOut 75 = .ok (.goto (-73), 3) := by decide +kernel
theorem dX11_drivesOut_78 : decode cX11_drivesOut 78 = .ok (.return_, 1) := by decide +kernel
theorem dX11_fault_0 : decode cX11_fault 0 = .ok (.iload_n 1, 1) := by decide +kernel
theorem dX11_fault_1 : decode cX11_fault 1 = .ok (.ifCond .ne 10, 3) := by decide +kernel
theorem dX11_fault_4 : decode cX11_fault 4 = .ok (.aload_n 0, 1) := by decide +kernel
theorem dX11_fault_5 : decode cX11_fault 5 = .ok (.getfield 169, 3) := by decide +kernel
theorem dX11_fault_8 : decode cX11_fault 8 = .ok (.goto 16, 3) := by decide +kernel
theorem dX11_fault_11 : decode cX11_fault 11 = .ok (.iload_n 1, 1) := by decide +kernel
theorem dX11_fault_12 : decode cX11_fault 12 = .ok (.iconst 1, 1) := by decide +kernel
theorem dX11_fault_13 : decode cX11_fault 13 = .ok (.if_icmp .ne 10, 3) := by decide +kernel
theorem dX11_fault_16 : decode cX11_fault 16 = .ok (.aload_n 0, 1) := by decide +kernel
theorem dX11_fault_17 : decode cX11_fault 17 = .ok (.getfield 22, 3) := by decide +kernel
theorem dX11_fault_20 : decode cX11_fault 20 = .ok (.goto 4, 3) := by decide +kernel
theorem dX11_fault_23 : decode cX11_fault 23 = .ok (.iconst (-1), 1) := by decide +kernel
theorem dX11_fault_24 : decode cX11_fault 24 = .ok (.ireturn, 1) := by decide +kernel
theorem dX11_readStones_0 : decode cX11_readStones 0 = .ok (.aload_n 0, 1) := by decide +kernel
theorem dX11_readStones_1 : decode cX11_readStones 1 = .ok (.invokevirtual 160, 3) := by decide +kernel
theorem dX11_readStones_4 : decode cX11_readStones 4 = .ok (.istore_n 2, 1) := by decide +kernel
theorem dX11_readStones_5 : decode cX11_readStones 5 = .ok (.iload_n 2, 1) := by decide +kernel
theorem dX11_readStones_6 : decode cX11_readStones 6 = .ok (.bipush 115, 2) := by decide +kernel
theorem dX11_readStones_8 : decode cX11_readStones 8 = .ok (.bipush 116, 2) := by decide +kernel
theorem dX11_readStones_10 : decode cX11_readStones 10 = .ok (.bipush 111, 2) := by decide +kernel
theorem dX11_readStones_12 : decode cX11_readStones 12 = .ok (.bipush 110, 2) := by decide +kernel
theorem dX11_readStones_14 : decode cX11_readStones 14 = .ok (.bipush 101, 2) := by decide +kernel
theorem dX11_readStones_16 : decode cX11_readStones 16 = .ok (.iconst 0, 1) := by decide +kernel
theorem dX11_readStones_17 : decode cX11_readStones 17 = .ok (.invokestatic 194, 3) := by decide +kernel
theorem dX11_readStones_20 : decode cX11_readStones 20 = .ok (.if_icmp .ne 7, 3) := by decide +kernel
theorem dX11_readStones_23 : decode cX11_readStones 23 = .ok (.iconst 1, 1) := by decide +kernel
theorem dX11_readStones_24 : decode cX11_readStones 24 = .ok (.goto 67, 3) := by decide +kernel
theorem dX11_readStones_27 : decode cX11_readStones 27 = .ok (.iload_n 2, 1) := by decide +kernel
theorem dX11_readStones_28 : decode cX11_readStones 28 = .ok (.bipush 115, 2) := by decide +kernel
theorem dX11_readStones_30 : decode cX11_readStones 30 = .ok (.bipush 110, 2) := by decide +kernel
theorem dX11_readStones_32 : decode cX11_readStones 32 = .ok (.bipush 111, 2) := by decide +kernel
theorem dX11_readStones_34 : decode cX11_readStones 34 = .ok (.bipush 119, 2) := by decide +kernel
theorem dX11_readStones_36 : decode cX11_readStones 36 = .ok (.iconst 0, 1) := by decide +kernel
theorem dX11_readStones_37 : decode cX11_readStones 37 = .ok (.iconst 0, 1) := by decide +kernel
theorem dX11_readStones_38 : decode cX11_readStones 38 = .ok (.invokestatic 194, 3) := by decide +kernel
theorem dX11_readStones_41 : decode cX11_readStones 41 = .ok (.if_icmp .ne 7, 3) := by decide +kernel
theorem dX11_readStones_44 : decode cX11_readStones 44 = .ok (.iconst 2, 1) := by decide +kernel
theorem dX11_readStones_45 : decode cX11_readStones 45 = .ok (.goto 46, 3) := by decide +kernel
theorem dX11_readStones_48 : decode cX11_readStones 48 = .ok (.iload_n 2, 1) := by decide +kernel
theorem dX11_readStones_49 : decode cX11_readStones 49 = .ok (.bipush 115, 2) := by decide +kernel
theorem dX11_readStones_51 : decode cX11_readStones 51 = .ok (.bipush 105, 2) := by decide +kernel
theorem dX11_readStones_53 : decode cX11_readStones 53 = .ok (.bipush 103, 2) := by decide +kernel
theorem dX11_readStones_55 : decode cX11_readStones 55 = .ok (.bipush 110, 2) := by decide +kernel
theorem dX11_readStones_57 : decode cX11_readStones 57 = .ok (.iconst 0, 1) := by decide +kernel
theorem dX11_readStones_58 : decode cX11_readStones 58 = .ok (.iconst 0, 1) := by decide +kernel
theorem dX11_readStones_59 : decode cX11_readStones 59 = .ok (.invokestatic 194, 3) := by decide +kernel
theorem dX11_readStones_62 : decode cX11_readStones 62 = .ok (.if_icmp .ne 7, 3) := by decide +kernel
theorem dX11_readStones_65 : decode cX11_readStones 65 = .ok (.iconst 3, 1) := by decide +kernel
theorem dX11_readStones_66 : decode cX11_readStones 66 = .ok (.goto 25, 3) := by decide +kernel
theorem dX11_readStones_69 : decode cX11_readStones 69 = .ok (.iload_n 2, 1) := by decide +kernel
theorem dX11_readStones_70 : decode cX11_readStones 70 = .ok (.bipush 98, 2) := by decide +kernel
theorem dX11_readStones_72 : decode cX11_readStones 72 = .ok (.bipush 97, 2) := by decide +kernel
theorem dX11_readStones_74 : decode cX11_readStones 74 = .ok (.bipush 114, 2) := by decide +kernel
theorem dX11_readStones_76 : decode cX11_readStones 76 = .ok (.bipush 101, 2) := by decide +kernel
theorem dX11_readStones_78 : decode cX11_readStones 78 = .ok (.iconst 0, 1) := by decide +kernel
theorem dX11_readStones_79 : decode cX11_readStones 79 = .ok (.iconst 0, 1) := by decide +kernel
theorem dX11_readStones_80 : decode cX11_readStones 80 = .ok (.invokestatic 194, 3) := by decide +kernel
theorem dX11_readStones_83 : decode cX11_readStones 83 = .ok (.if_icmp .ne 7, 3) := by decide +kernel
theorem dX11_readStones_86 : decode cX11_readStones 86 = .ok (.iconst 0, 1) := by decide +kernel
theorem dX11_readStones_87 : decode cX11_readStones 87 = .ok (.goto 4, 3) := by decide +kernel
theorem dX11_readStones_90 : decode cX11_readStones 90 = .ok (.iconst (-1), 1) := by decide +kernel
theorem dX11_readStones_91 : decode cX11_readStones 91 = .ok (.istore_n 3, 1) := by decide +kernel
theorem dX11_readStones_92 : decode cX11_readStones 92 = .ok (.aload_n 0, 1) := by decide +kernel
theorem dX11_readStones_93 : decode cX11_readStones 93 = .ok (.iload_n 3, 1) := by decide +kernel
theorem dX11_readStones_94 : decode cX11_readStones 94 = .ok (.iconst (-1), 1) := by decide +kernel
theorem dX11_readStones_95 : decode cX11_readStones 95 = .ok (.if_icmp .eq 7, 3) := by decide +kernel
theorem dX11_readStones_98 : decode cX11_readStones 98 = .ok (.iconst 1, 1) := by decide +kernel
theorem dX11_readStones_99 : decode cX11_readStones 99 = .ok (.goto 4, 3) := by decide +kernel
theorem dX11_readStones_102 : decode cX11_readStones 102 = .ok (.iconst 0, 1) := by decide +kernel
theorem dX11_readStones_103 : decode cX11_readStones 103 = .ok (.iload_n 1, 1) := by decide +kernel
theorem dX11_readStones_104 : decode cX11_readStones 104 = .ok (.bipush 16, 2) := by decide +kernel
theorem dX11_readStones_106 : decode cX11_readStones 106 = .ok (.if_icmp .ne 7, 3) := by decide +kernel
theorem dX11_readStones_109 : decode cX11_readStones 109 = .ok (.iconst 1, 1) := by decide +kernel
theorem dX11_readStones_110 : decode cX11_readStones 110 = .ok (.goto 4, 3) := by decide +kernel
theorem dX11_readStones_113 : decode cX11_readStones 113 = .ok (.iconst 0, 1) := by decide +kernel
theorem dX11_readStones_114 : decode cX11_readStones 114 = .ok (.invokevirtual 198, 3) := by decide +kernel
theorem dX11_readStones_117 : decode cX11_readStones 117 = .ok (.aload_n 0, 1) := by decide +kernel
theorem dX11_readStones_118 : decode cX11_readStones 118 = .ok (.iconst 0, 1) := by decide +kernel
theorem dX11_readStones_119 : decode cX11_readStones 119 = .ok (.bipush 11, 2) := by decide +kernel
theorem dX11_readStones_121 : decode cX11_readStones 121 = .ok (.invokevirtual 202, 3) := by decide +kernel
theorem dX11_readStones_124 : decode cX11_readStones 124 = .ok (.istore 4, 2) := by decide +kernel
theorem dX11_readStones_126 : decode cX11_readStones 126 = .ok (.aload_n 0, 1) := by decide +kernel
theorem dX11_readStones_127 : decode cX11_readStones 127 = .ok (.iconst 0, 1) := by decide +kernel
theorem dX11_readStones_128 : decode cX11_readStones 128 = .ok (.bipush 11, 2) := by decide +kernel
theorem dX11_readStones_130 : decode cX11_readStones 130 = .ok (.invokevirtual 202, 3) := by decide +kernel
theorem dX11_readStones_133 : decode cX11_readStones 133 = .ok (.istore 5, 2) := by decide +kernel
theorem dX11_readStones_135 : decode cX11_readStones 135 = .ok (.iload 4, 2) := by decide +kernel
theorem dX11_readStones_137 : decode cX11_readStones 137 = .ok (.istore 6, 2) := by decide +kernel
theorem dX11_readStones_139 : decode cX11_readStones 139 = .ok (.iload 5, 2) := by decide +kernel
theorem dX11_readStones_141 : decode cX11_readStones 141 = .ok (.istore 7, 2) := by decide +kernel
theorem dX11_readStones_143 : decode cX11_readStones 143 = .ok (.aload_n 0, 1) := by decide +kernel
theorem dX11_readStones_144 : decode cX11_readStones 144 = .ok (.invokevirtual 149, 3) := by decide +kernel
theorem dX11_readStones_147 : decode cX11_readStones 147 = .ok (.ifCond .eq 43, 3) := by decide +kernel
theorem dX11_readStones_150 : decode cX11_readStones 150 = .ok (.aload_n 0, 1) := by decide +kernel
theorem dX11_readStones_151 : decode cX11_readStones 151 = .ok (.invokevirtual 160, 3) := by decide +kernel
theorem dX11_readStones_154 : decode cX11_readStones 154 = .ok (.bipush 116, 2) := by decide +kernel
theorem dX11_readStones_156 : decode cX11_readStones 156 = .ok (.bipush 111, 2) := by decide +kernel
theorem dX11_readStones_158 : decode cX11_readStones 158 = .ok (.iconst 0, 1) := by decide +kernel
theorem dX11_readStones_159 : decode cX11_readStones 159 = .ok (.iconst 0, 1) := by decide +kernel
theorem dX11_readStones_160 : decode cX11_readStones 160 = .ok (.iconst 0, 1) := by decide +kernel
theorem dX11_readStones_161 : decode cX11_readStones 161 = .ok (.iconst 0, 1) := by decide +kernel
theorem dX11_readStones_162 : decode cX11_readStones 162 = .ok (.invokestatic 194, 3) := by decide +kernel
theorem dX11_readStones_165 : decode cX11_readStones 165 = .ok (.if_icmp .ne 25, 3) := by decide +kernel
theorem dX11_readStones_168 : decode cX11_readStones 168 = .ok (.aload_n 0, 1) := by decide +kernel
theorem dX11_readStones_169 : decode cX11_readStones 169 = .ok (.invokevirtual 163, 3) := by decide +kernel
theorem dX11_readStones_172 : decode cX11_readStones 172 = .ok (.aload_n 0, 1) := by decide +kernel
theorem dX11_readStones_173 : decode cX11_readStones 173 = .ok (.iconst 0, 1) := by decide +kernel
theorem dX11_readStones_174 : decode cX11_readStones 174 = .ok (.bipush 11, 2) := by decide +kernel
theorem dX11_readStones_176 : decode cX11_readStones 176 = .ok (.invokevirtual 202, 3) := by decide +kernel
theorem dX11_readStones_179 : decode cX11_readStones 179 = .ok (.istore 6, 2) := by decide +kernel
theorem dX11_readStones_181 : decode cX11_readStones 181 = .ok (.aload_n 0, 1) := by decide +kernel
theorem dX11_readStones_182 : decode cX11_readStones 182 = .ok (.iconst 0, 1) := by decide +kernel
theorem dX11_readStones_183 : decode cX11_readStones 183 = .ok (.bipush 11, 2) := by decide +kernel
theorem dX11_readStones_185 : decode cX11_readStones 185 = .ok (.invokevirtual 202, 3) := by decide +kernel
theorem dX11_readStones_188 : decode cX11_readStones 188 = .ok (.istore 7, 2) := by decide +kernel
theorem dX11_readStones_190 : decode cX11_readStones 190 = .ok (.iconst 0, 1) := by decide +kernel
theorem dX11_readStones_191 : decode cX11_readStones 191 = .ok (.istore 8, 2) := by decide +kernel
theorem dX11_readStones_193 : decode cX11_readStones 193 = .ok (.iload 8, 2) := by decide +kernel
theorem dX11_readStones_195 : decode cX11_readStones 195 = .ok (.sipush 144, 3) := by decide +kernel
theorem dX11_readStones_198 : decode cX11_readStones 198 = .ok (.if_icmp .ge 124, 3) := by decide +kernel
theorem dX11_readStones_201 : decode cX11_readStones 201 = .ok (.aload_n 0, 1) := by decide +kernel
theorem dX11_readStones_202 : decode cX11_readStones 202 = .ok (.invokevirtual 149, 3) := by decide +kernel
theorem dX11_readStones_205 : decode cX11_readStones 205 = .ok (.ifCond .eq 117, 3) := by decide +kernel
theorem dX11_readStones_208 : decode cX11_readStones 208 = .ok (.iload 8, 2) := by decide +kernel
theorem dX11_readStones_210 : decode cX11_readStones 210 = .ok (.bipush 12, 2) := by decide +kernel
theorem dX11_readStones_212 : decode cX11_readStones 212 = .ok (.irem, 1) := by decide +kernel
theorem dX11_readStones_213 : decode cX11_readStones 213 = .ok (.iload 4, 2) := by decide +kernel
theorem dX11_readStones_215 : decode cX11_readStones 215 = .ok (.iload 6, 2) := by decide +kernel
theorem dX11_readStones_217 : decode cX11_readStones 217 = .ok (.if_icmp .ge 8, 3) := by decide +kernel
theorem dX11_readStones_220 : decode cX11_readStones 220 = .ok (.iload 4, 2) := by decide +kernel
theorem dX11_readStones_222 : decode cX11_readStones 222 = .ok (.goto 5, 3) := by decide +kernel
theorem dX11_readStones_225 : decode cX11_readStones 225 = .ok (.iload 6, 2) := by decide +kernel
theorem dX11_readStones_227 : decode cX11_readStones 227 = .ok (.iload 4, 2) := by decide +kernel
theorem dX11_readStones_229 : decode cX11_readStones 229 = .ok (.iload 6, 2) := by decide +kernel
theorem dX11_readStones_231 : decode cX11_readStones 231 = .ok (.if_icmp .ge 8, 3) := by decide +kernel
theorem dX11_readStones_234 : decode cX11_readStones 234 = .ok (.iload 6, 2) := by decide +kernel
theorem dX11_readStones_236 : decode cX11_readStones 236 = .ok (.goto 5, 3) := by decide +kernel
theorem dX11_readStones_239 : decode cX11_readStones 239 = .ok (.iload 4, 2) := by decide +kernel
theorem dX11_readStones_241 : decode cX11_readStones 241 = .ok (.invokestatic 100, 3) := by decide +kernel
theorem dX11_readStones_244 : decode cX11_readStones 244 = .ok (.ifCond .eq 46, 3) := by decide +kernel
theorem dX11_readStones_247 : decode cX11_readStones 247 = .ok (.iload 8, 2) := by decide +kernel
theorem dX11_readStones_249 : decode cX11_readStones 249 = .ok (.bipush 12, 2) := by decide +kernel
theorem dX11_readStones_251 : decode cX11_readStones 251 = .ok (.idiv, 1) := by decide +kernel
theorem dX11_readStones_252 : decode cX11_readStones 252 = .ok (.iload 5, 2) := by decide +kernel
theorem dX11_readStones_254 : decode cX11_readStones 254 = .ok (.iload 7, 2) := by decide +kernel
theorem dX11_readStones_256 : decode cX11_readStones 256 = .ok (.if_icmp .ge 8, 3) := by decide +kernel
theorem dX11_readStones_259 : decode cX11_readStones 259 = .ok (.iload 5, 2) := by decide +kernel
theorem dX11_readStones_261 : decode cX11_readStones 261 = .ok (.goto 5, 3) := by decide +kernel
theorem dX11_readStones_264 : decode cX11_readStones 264 = .ok (.iload 7, 2) := by decide +kernel
theorem dX11_readStones_266 : decode cX11_readStones 266 = .ok (.iload 5, 2) := by decide +kernel
theorem dX11_readStones_268 : decode cX11_readStones 268 = .ok (.iload 7, 2) := by decide +kernel
theorem dX11_readStones_270 : decode cX11_readStones 270 = .ok (.if_icmp .ge 8, 3) := by decide +kernel
theorem dX11_readStones_273 : decode cX11_readStones 273 = .ok (.iload 7, 2) := by decide +kernel
theorem dX11_readStones_275 : decode cX11_readStones 275 = .ok (.goto 5, 3) := by decide +kernel
theorem dX11_readStones_278 : decode cX11_readStones 278 = .ok (.iload 5, 2) := by decide +kernel
theorem dX11_readStones_280 : decode cX11_readStones 280 = .ok (.invokestatic 100, 3) := by decide +kernel
theorem dX11_readStones_283 : decode cX11_readStones 283 = .ok (.ifCond .eq 7, 3) := by decide +kernel
theorem dX11_readStones_286 : decode cX11_readStones 286 = .ok (.iconst 1, 1) := by decide +kernel
theorem dX11_readStones_287 : decode cX11_readStones 287 = .ok (.goto 4, 3) := by decide +kernel
theorem dX11_readStones_290 : decode cX11_readStones 290 = .ok (.iconst 0, 1) := by decide +kernel
theorem dX11_readStones_291 : decode cX11_readStones 291 = .ok (.istore 9, 2) := by decide +kernel
theorem dX11_readStones_293 : decode cX11_readStones 293 = .ok (.aload_n 0, 1) := by decide +kernel
theorem dX11_readStones_294 : decode cX11_readStones 294 = .ok (.getfield 29, 3) := by decide +kernel
theorem dX11_readStones_297 : decode cX11_readStones 297 = .ok (.iload 8, 2) := by decide +kernel
theorem dX11_readStones_299 : decode cX11_readStones 299 = .ok (.iload 9, 2) := by decide +kernel
theorem dX11_readStones_301 : decode cX11_readStones 301 = .ok (.ifCond .eq 7, 3) := by decide +kernel
theorem dX11_readStones_304 : decode cX11_readStones 304 = .ok (.iload_n 3, 1) := by decide +kernel
theorem dX11_readStones_305 : decode cX11_readStones 305 = .ok (.goto 10, 3) := by decide +kernel
theorem dX11_readStones_308 : decode cX11_readStones 308 = .ok (.aload_n 0, 1) := by decide +kernel
theorem dX11_readStones_309 : decode cX11_readStones 309 = .ok (.getfield 29, 3) := by decide +kernel
theorem dX11_readStones_312 : decode cX11_readStones 312 = .ok (.iload 8, 2) := by decide +kernel
theorem dX11_readStones_314 : decode cX11_readStones 314 = .ok (.iaload, 1) := by decide +kernel
theorem dX11_readStones_315 : decode cX11_readStones 315 = .ok (.iastore, 1) := by decide +kernel
theorem dX11_readStones_316 : decode cX11_readStones 316 = .ok (.iinc 8 1, 3) := by decide +kernel
theorem dX11_readStones_319 : decode cX11_readStones 319 = .ok (.goto (-126), 3) := by decide +kernel
theorem dX11_readStones_322 : decode cX11_readStones 322 = .ok (.return_, 1) := by decide +kernel
theorem dX11_wayWord_0 : decode cX11_wayWord 0 = .ok (.iload_n 0, 1) := by decide +kernel
theorem dX11_wayWord_1 : decode cX11_wayWord 1 = .ok (.bipush 108, 2) := by decide +kernel
theorem dX11_wayWord_3 : decode cX11_wayWord 3 = .ok (.bipush 101, 2) := by decide +kernel
theorem dX11_wayWord_5 : decode cX11_wayWord 5 = .ok (.bipush 102, 2) := by decide +kernel
theorem dX11_wayWord_7 : decode cX11_wayWord 7 = .ok (.bipush 116, 2) := by decide +kernel
theorem dX11_wayWord_9 : decode cX11_wayWord 9 = .ok (.iconst 0, 1) := by decide +kernel
theorem dX11_wayWord_10 : decode cX11_wayWord 10 = .ok (.iconst 0, 1) := by decide +kernel
theorem dX11_wayWord_11 : decode cX11_wayWord 11 = .ok (.invokestatic 194, 3) := by decide +kernel
theorem dX11_wayWord_14 : decode cX11_wayWord 14 = .ok (.if_icmp .ne 7, 3) := by decide +kernel
theorem dX11_wayWord_17 : decode cX11_wayWord 17 = .ok (.iconst 0, 1) := by decide +kernel
theorem dX11_wayWord_18 : decode cX11_wayWord 18 = .ok (.goto 90, 3) := by decide +kernel
theorem dX11_wayWord_21 : decode cX11_wayWord 21 = .ok (.iload_n 0, 1) := by decide +kernel
theorem dX11_wayWord_22 : decode cX11_wayWord 22 = .ok (.bipush 114, 2) := by decide +kernel
theorem dX11_wayWord_24 : decode cX11_wayWord 24 = .ok (.bipush 105, 2) := by decide +kernel
theorem dX11_wayWord_26 : decode cX11_wayWord 26 = .ok (.bipush 103, 2) := by decide +kernel
theorem dX11_wayWord_28 : decode cX11_wayWord 28 = .ok (.bipush 104, 2) := by decide +kernel
theorem dX11_wayWord_30 : decode cX11_wayWord 30 = .ok (.bipush 116, 2) := by decide +kernel
theorem dX11_wayWord_32 : decode cX11_wayWord 32 = .ok (.iconst 0, 1) := by decide +kernel
theorem dX11_wayWord_33 : decode cX11_wayWord 33 = .ok (.invokestatic 194, 3) := by decide +kernel
theorem dX11_wayWord_36 : decode cX11_wayWord 36 = .ok (.if_icmp .ne 7, 3) := by decide +kernel
theorem dX11_wayWord_39 : decode cX11_wayWord 39 = .ok (.iconst 1, 1) := by decide +kernel
theorem dX11_wayWord_40 : decode cX11_wayWord 40 = .ok (.goto 68, 3) := by decide +kernel
theorem dX11_wayWord_43 : decode cX11_wayWord 43 = .ok (.iload_n 0, 1) := by decide +kernel
theorem dX11_wayWord_44 : decode cX11_wayWord 44 = .ok (.bipush 98, 2) := by decide +kernel
theorem dX11_wayWord_46 : decode cX11_wayWord 46 = .ok (.bipush 97, 2) := by decide +kernel
theorem dX11_wayWord_48 : decode cX11_wayWord 48 = .ok (.bipush 99, 2) := by decide +kernel
theorem dX11_wayWord_50 : decode cX11_wayWord 50 = .ok (.bipush 107, 2) := by decide +kernel
theorem dX11_wayWord_52 : decode cX11_wayWord 52 = .ok (.iconst 0, 1) := by decide +kernel
theorem dX11_wayWord_53 : decode cX11_wayWord 53 = .ok (.iconst 0, 1) := by decide +kernel
theorem dX11_wayWord_54 : decode cX11_wayWord 54 = .ok (.invokestatic 194, 3) := by decide +kernel
theorem dX11_wayWord_57 : decode cX11_wayWord 57 = .ok (.if_icmp .ne 7, 3) := by decide +kernel
theorem dX11_wayWord_60 : decode cX11_wayWord 60 = .ok (.iconst 2, 1) := by decide +kernel
theorem dX11_wayWord_61 : decode cX11_wayWord 61 = .ok (.goto 47, 3) := by decide +kernel
theorem dX11_wayWord_64 : decode cX11_wayWord 64 = .ok (.iload_n 0, 1) := by decide +kernel
theorem dX11_wayWord_65 : decode cX11_wayWord 65 = .ok (.bipush 97, 2) := by decide +kernel
theorem dX11_wayWord_67 : decode cX11_wayWord 67 = .ok (.bipush 104, 2) := by decide +kernel
theorem dX11_wayWord_69 : decode cX11_wayWord 69 = .ok (.bipush 101, 2) := by decide +kernel
theorem dX11_wayWord_71 : decode cX11_wayWord 71 = .ok (.bipush 97, 2) := by decide +kernel
theorem dX11_wayWord_73 : decode cX11_wayWord 73 = .ok (.bipush 100, 2) := by decide +kernel
theorem dX11_wayWord_75 : decode cX11_wayWord 75 = .ok (.iconst 0, 1) := by decide +kernel
theorem dX11_wayWord_76 : decode cX11_wayWord 76 = .ok (.invokestatic 194, 3) := by decide +kernel
theorem dX11_wayWord_79 : decode cX11_wayWord 79 = .ok (.if_icmp .ne 7, 3) := by decide +kernel
theorem dX11_wayWord_82 : decode cX11_wayWord 82 = .ok (.iconst 3, 1) := by decide +kernel
theorem dX11_wayWord_83 : decode cX11_wayWord 83 = .ok (.goto 25, 3) := by decide +kernel
theorem dX11_wayWord_86 : decode cX11_wayWord 86 = .ok (.iload_n 0, 1) := by decide +kernel
theorem dX11_wayWord_87 : decode cX11_wayWord 87 = .ok (.bipush 119, 2) := by decide +kernel
theorem dX11_wayWord_89 : decode cX11_wayWord 89 = .ok (.bipush 97, 2) := by decide +kernel
theorem dX11_wayWord_91 : decode cX11_wayWord 91 = .ok (.bipush 105, 2) := by decide +kernel
theorem dX11_wayWord_93 : decode cX11_wayWord 93 = .ok (.bipush 116, 2) := by decide +kernel
theorem dX11_wayWord_95 : decode cX11_wayWord 95 = .ok (.iconst 0, 1) := by decide +kernel
theorem dX11_wayWord_96 : decode cX11_wayWord 96 = .ok (.iconst 0, 1) := by decide +kernel
theorem dX11_wayWord_97 : decode cX11_wayWord 97 = .ok (.invokestatic 194, 3) := by decide +kernel
theorem dX11_wayWord_100 : decode cX11_wayWord 100 = .ok (.if_icmp .ne 7, 3) := by decide +kernel
theorem dX11_wayWord_103 : decode cX11_wayWord 103 = .ok (.iconst 4, 1) := by decide +kernel
theorem dX11_wayWord_104 : decode cX11_wayWord 104 = .ok (.goto 4, 3) := by decide +kernel
theorem dX11_wayWord_107 : decode cX11_wayWord 107 = .ok (.iconst (-1), 1) := by decide +kernel
theorem dX11_wayWord_108 : decode cX11_wayWord 108 = .ok (.ireturn, 1) := by decide +kernel
theorem dX11_readWay_0 : decode cX11_readWay 0 = .ok (.aload_n 0, 1) := by decide +kernel
theorem dX11_readWay_1 : decode cX11_readWay 1 = .ok (.aload_n 0, 1) := by decide +kernel
theorem dX11_readWay_2 : decode cX11_readWay 2 = .ok (.invokevirtual 160, 3) := by decide +kernel
theorem dX11_readWay_5 : decode cX11_readWay 5 = .ok (.bipush 119, 2) := by decide +kernel
theorem dX11_readWay_7 : decode cX11_readWay 7 = .ok (.bipush 97, 2) := by decide +kernel
theorem dX11_readWay_9 : decode cX11_readWay 9 = .ok (.bipush 108, 2) := by decide +kernel
theorem dX11_readWay_11 : decode cX11_readWay 11 = .ok (.bipush 107, 2) := by decide +kernel
theorem dX11_readWay_13 : decode cX11_readWay 13 = .ok (.bipush 101, 2) := by decide +kernel
theorem dX11_readWay_15 : decode cX11_readWay 15 = .ok (.bipush 114, 2) := by decide +kernel
theorem dX11_readWay_17 : decode cX11_readWay 17 = .ok (.invokestatic 194, 3) := by decide +kernel
theorem dX11_readWay_20 : decode cX11_readWay 20 = .ok (.if_icmp .ne 7, 3) := by decide +kernel
theorem dX11_readWay_23 : decode cX11_readWay 23 = .ok (.iconst 1, 1) := by decide +kernel
theorem dX11_readWay_24 : decode cX11_readWay 24 = .ok (.goto 4, 3) := by decide +kernel
theorem dX11_readWay_27 : decode cX11_readWay 27 = .ok (.iconst 0, 1) := by decide +kernel
theorem dX11_readWay_28 : decode cX11_readWay 28 = .ok (.iload_n 1, 1) := by decide +kernel
theorem dX11_readWay_29 : decode cX11_readWay 29 = .ok (.bipush 16, 2) := by decide +kernel
theorem dX11_readWay_31 : decode cX11_readWay 31 = .ok (.if_icmp .ne 7, 3) := by decide +kernel
theorem dX11_readWay_34 : decode cX11_readWay 34 = .ok (.iconst 1, 1) := by decide +kernel
theorem dX11_readWay_35 : decode cX11_readWay 35 = .ok (.goto 4, 3) := by decide +kernel
theorem dX11_readWay_38 : decode cX11_readWay 38 = .ok (.iconst 0, 1) := by decide +kernel
theorem dX11_readWay_39 : decode cX11_readWay 39 = .ok (.invokevirtual 198, 3) := by decide +kernel
theorem dX11_readWay_42 : decode cX11_readWay 42 = .ok (.aload_n 0, 1) := by decide +kernel
theorem dX11_readWay_43 : decode cX11_readWay 43 = .ok (.iconst 0, 1) := by decide +kernel
theorem dX11_readWay_44 : decode cX11_readWay 44 = .ok (.aload_n 0, 1) := by decide +kernel
theorem dX11_readWay_45 : decode cX11_readWay 45 = .ok (.getfield 9, 3) := by decide +kernel
theorem dX11_readWay_48 : decode cX11_readWay 48 = .ok (.sipush 940, 3) := by decide +kernel
theorem dX11_readWay_51 : decode cX11_readWay 51 = .ok (.iaload, 1) := by decide +kernel
theorem dX11_readWay_52 : decode cX11_readWay 52 = .ok (.iconst 1, 1) := by decide +kernel
theorem dX11_readWay_53 : decode cX11_readWay 53 = .ok (.isub, 1) := by decide +kernel
theorem dX11_readWay_54 : decode cX11_readWay 54 = .ok (.invokevirtual 202, 3) := by decide +kernel
theorem dX11_readWay_57 : decode cX11_readWay 57 = .ok (.istore_n 2, 1) := by decide +kernel
theorem dX11_readWay_58 : decode cX11_readWay 58 = .ok (.sipush 1925, 3) := by decide +kernel
theorem dX11_readWay_61 : decode cX11_readWay 61 = .ok (.bipush 25, 2) := by decide +kernel
theorem dX11_readWay_63 : decode cX11_readWay 63 = .ok (.iload_n 2, 1) := by decide +kernel
theorem dX11_readWay_64 : decode cX11_readWay 64 = .ok (.imul, 1) := by decide +kernel
theorem dX11_readWay_65 : decode cX11_readWay 65 = .ok (.iadd, 1) := by decide +kernel
theorem dX11_readWay_66 : decode cX11_readWay 66 = .ok (.istore_n 3, 1) := by decide +kernel
theorem dX11_readWay_67 : decode cX11_readWay 67 = .ok (.iconst 0, 1) := by decide +kernel
theorem dX11_readWay_68 : decode cX11_readWay 68 = .ok (.istore 4, 2) := by decide +kernel
theorem dX11_readWay_70 : decode cX11_readWay 70 = .ok (.aload_n 0, 1) := by decide +kernel
theorem dX11_readWay_71 : decode cX11_readWay 71 = .ok (.invokevirtual 149, 3) := by decide +kernel
theorem dX11_readWay_74 : decode cX11_readWay 74 = .ok (.ifCond .eq 113, 3) := by decide +kernel
theorem dX11_readWay_77 : decode cX11_readWay 77 = .ok (.aload_n 0, 1) := by decide +kernel
theorem dX11_readWay_78 : decode cX11_readWay 78 = .ok (.invokevirtual 138, 3) := by decide +kernel
theorem dX11_readWay_81 : decode cX11_readWay 81 = .ok (.bipush 59, 2) := by decide +kernel
theorem dX11_readWay_83 : decode cX11_readWay 83 = .ok (.if_icmp .eq 104, 3) := by decide +kernel
theorem dX11_readWay_86 : decode cX11_readWay 86 = .ok (.aload_n 0, 1) := by decide +kernel
theorem dX11_readWay_87 : decode cX11_readWay 87 = .ok (.invokevirtual 160, 3) := by decide +kernel
theorem dX11_readWay_90 : decode cX11_readWay 90 = .ok (.invokestatic 205, 3) := by decide +kernel
theorem dX11_readWay_93 : decode cX11_readWay 93 = .ok (.istore 5, 2) := by decide +kernel
theorem dX11_readWay_95 : decode cX11_readWay 95 = .ok (.aload_n 0, 1) := by decide +kernel
theorem dX11_readWay_96 : decode cX11_readWay 96 = .ok (.iload 5, 2) := by decide +kernel
theorem dX11_readWay_98 : decode cX11_readWay 98 = .ok (.iconst (-1), 1) := by decide +kernel
theorem dX11_readWay_99 : decode cX11_readWay 99 = .ok (.if_icmp .eq 7, 3) := by decide +kernel
theorem dX11_readWay_102 : decode cX11_readWay 102 = .ok (.iconst 1, 1) := by decide +kernel
theorem dX11_readWay_103 : decode cX11_readWay 103 = .ok (.goto 4, 3) := by decide +kernel
theorem dX11_readWay_106 : decode cX11_readWay 106 = .ok (.iconst 0, 1) := by decide +kernel
theorem dX11_readWay_107 : decode cX11_readWay 107 = .ok (.iload 4, 2) := by decide +kernel
theorem dX11_readWay_109 : decode cX11_readWay 109 = .ok (.bipush 12, 2) := by decide +kernel
theorem dX11_readWay_111 : decode cX11_readWay 111 = .ok (.if_icmp .ne 7, 3) := by decide +kernel
theorem dX11_readWay_114 : decode cX11_readWay 114 = .ok (.iconst 1, 1) := by decide +kernel
theorem dX11_readWay_115 : decode cX11_readWay 115 = .ok (.goto 4, 3) := by decide +kernel
theorem dX11_readWay_118 : decode cX11_readWay 118 = .ok (.iconst 0, 1) := by decide +kernel
theorem dX11_readWay_119 : decode cX11_readWay 119 = .ok (.invokevirtual 198, 3) := by decide +kernel
theorem dX11_readWay_122 : decode cX11_readWay 122 = .ok (.iload 5, 2) := by decide +kernel
theorem dX11_readWay_124 : decode cX11_readWay 124 = .ok (.iconst 3, 1) := by decide +kernel
theorem dX11_readWay_125 : decode cX11_readWay 125 = .ok (.if_icmp .ge 7, 3) := by decide +kernel
theorem dX11_readWay_128 : decode cX11_readWay 128 = .ok (.iconst 1, 1) := by decide +kernel
theorem dX11_readWay_129 : decode cX11_readWay 129 = .ok (.goto 10, 3) := by decide +kernel
theorem dX11_readWay_132 : decode cX11_readWay 132 = .ok (.aload_n 0, 1) := by decide +kernel
theorem dX11_readWay_133 : decode cX11_readWay 133 = .ok (.iconst 1, 1) := by decide +kernel
theorem dX11_readWay_134 : decode cX11_readWay 134 = .ok (.bipush 11, 2) := by decide +kernel
theorem dX11_readWay_136 : decode cX11_readWay 136 = .ok (.invokevirtual 202, 3) := by decide +kernel
theorem dX11_readWay_139 : decode cX11_readWay 139 = .ok (.istore 6, 2) := by decide +kernel
theorem dX11_readWay_141 : decode cX11_readWay 141 = .ok (.aload_n 0, 1) := by decide +kernel
theorem dX11_readWay_142 : decode cX11_readWay 142 = .ok (.invokevirtual 149, 3) := by decide +kernel
theorem dX11_readWay_145 : decode cX11_readWay 145 = .ok (.ifCond .ne 6, 3) := by decide +kernel
theorem dX11_readWay_148 : decode cX11_readWay 148 = .ok (.goto 39, 3) := by decide +kernel
theorem dX11_readWay_151 : decode cX11_readWay 151 = .ok (.aload_n 0, 1) := by decide +kernel
theorem dX11_readWay_152 : decode cX11_readWay 152 = .ok (.getfield 29, 3) := by decide +kernel
theorem dX11_readWay_155 : decode cX11_readWay 155 = .ok (.iload_n 3, 1) := by decide +kernel
theorem dX11_readWay_156 : decode cX11_readWay 156 = .ok (.iconst 1, 1) := by decide +kernel
theorem dX11_readWay_157 : decode cX11_readWay 157 = .ok (.iadd, 1) := by decide +kernel
theorem dX11_readWay_158 : decode cX11_readWay 158 = .ok (.iconst 2, 1) := by decide +kernel
theorem dX11_readWay_159 : decode cX11_readWay 159 = .ok (.iload 4, 2) := by decide +kernel
theorem dX11_readWay_161 : decode cX11_readWay 161 = .ok (.imul, 1) := by decide +kernel
theorem dX11_readWay_162 : decode cX11_readWay 162 = .ok (.iadd, 1) := by decide +kernel
theorem dX11_readWay_163 : decode cX11_readWay 163 = .ok (.iload 5, 2) := by decide +kernel
theorem dX11_readWay_165 : decode cX11_readWay 165 = .ok (.iastore, 1) := by decide +kernel
theorem dX11_readWay_166 : decode cX11_readWay 166 = .ok (.aload_n 0, 1) := by decide +kernel
theorem dX11_readWay_167 : decode cX11_readWay 167 = .ok (.getfield 29, 3) := by decide +kernel
theorem dX11_readWay_170 : decode cX11_readWay 170 = .ok (.iload_n 3, 1) := by decide +kernel
theorem dX11_readWay_171 : decode cX11_readWay 171 = .ok (.iconst 2, 1) := by decide +kernel
theorem dX11_readWay_172 : decode cX11_readWay 172 = .ok (.iadd, 1) := by decide +kernel
theorem dX11_readWay_173 : decode cX11_readWay 173 = .ok (.iconst 2, 1) := by decide +kernel
theorem dX11_readWay_174 : decode cX11_readWay 174 = .ok (.iload 4, 2) := by decide +kernel
theorem dX11_readWay_176 : decode cX11_readWay 176 = .ok (.imul, 1) := by decide +kernel
theorem dX11_readWay_177 : decode cX11_readWay 177 = .ok (.iadd, 1) := by decide +kernel
theorem dX11_readWay_178 : decode cX11_readWay 178 = .ok (.iload 6, 2) := by decide +kernel
theorem dX11_readWay_180 : decode cX11_readWay 180 = .ok (.iastore, 1) := by decide +kernel
theorem dX11_readWay_181 : decode cX11_readWay 181 = .ok (.iinc 4 1, 3) := by decide +kernel
theorem dX11_readWay_184 : decode cX11_readWay 184 = .ok (.goto (-114), 3) := by decide +kernel
theorem dX11_readWay_187 : decode cX11_readWay 187 = .ok (.aload_n 0, 1) := by decide +kernel
theorem dX11_readWay_188 : decode cX11_readWay 188 = .ok (.invokevirtual 149, 3) := by decide +kernel
theorem dX11_readWay_191 : decode cX11_readWay 191 = .ok (.ifCond .eq 11, 3) := by decide +kernel
theorem dX11_readWay_194 : decode cX11_readWay 194 = .ok (.aload_n 0, 1) := by decide +kernel
theorem dX11_readWay_195 : decode cX11_readWay 195 = .ok (.getfield 29, 3) := by decide +kernel
theorem dX11_readWay_198 : decode cX11_readWay 198 = .ok (.iload_n 3, 1) := by decide +kernel
theorem dX11_readWay_199 : decode cX11_readWay 199 = .ok (.iload 4, 2) := by decide +kernel
theorem dX11_readWay_201 : decode cX11_readWay 201 = .ok (.iastore, 1) := by decide +kernel
theorem dX11_readWay_202 : decode cX11_readWay 202 = .ok (.return_, 1) := by decide +kernel
theorem dX11_readHour_0 : decode cX11_readHour 0 = .ok (.aload_n 0, 1) := by decide +kernel
theorem dX11_readHour_1 : decode cX11_readHour 1 = .ok (.aload_n 0, 1) := by decide +kernel
theorem dX11_readHour_2 : decode cX11_readHour 2 = .ok (.invokevirtual 160, 3) := by decide +kernel
theorem dX11_readHour_5 : decode cX11_readHour 5 = .ok (.bipush 102, 2) := by decide +kernel
theorem dX11_readHour_7 : decode cX11_readHour 7 = .ok (.bipush 114, 2) := by decide +kernel
theorem dX11_readHour_9 : decode cX11_readHour 9 = .ok (.bipush 111, 2) := by decide +kernel
theorem dX11_readHour_11 : decode cX11_readHour 11 = .ok (.bipush 109, 2) := by decide +kernel
theorem dX11_readHour_13 : decode cX11_readHour 13 = .ok (.iconst 0, 1) := by decide +kernel
theorem dX11_readHour_14 : decode cX11_readHour 14 = .ok (.iconst 0, 1) := by decide +kernel
theorem dX11_readHour_15 : decode cX11_readHour 15 = .ok (.invokestatic 194, 3) := by decide +kernel
theorem dX11_readHour_18 : decode cX11_readHour 18 = .ok (.if_icmp .ne 7, 3) := by decide +kernel
theorem dX11_readHour_21 : decode cX11_readHour 21 = .ok (.iconst 1, 1) := by decide +kernel
theorem dX11_readHour_22 : decode cX11_readHour 22 = .ok (.goto 4, 3) := by decide +kernel
theorem dX11_readHour_25 : decode cX11_readHour 25 = .ok (.iconst 0, 1) := by decide +kernel
theorem dX11_readHour_26 : decode cX11_readHour 26 = .ok (.iload_n 1, 1) := by decide +kernel
theorem dX11_readHour_27 : decode cX11_readHour 27 = .ok (.bipush 16, 2) := by decide +kernel
theorem dX11_readHour_29 : decode cX11_readHour 29 = .ok (.if_icmp .ne 7, 3) := by decide +kernel
theorem dX11_readHour_32 : decode cX11_readHour 32 = .ok (.iconst 1, 1) := by decide +kernel
theorem dX11_readHour_33 : decode cX11_readHour 33 = .ok (.goto 4, 3) := by decide +kernel
theorem dX11_readHour_36 : decode cX11_readHour 36 = .ok (.iconst 0, 1) := by decide +kernel
theorem dX11_readHour_37 : decode cX11_readHour 37 = .ok (.invokevirtual 198, 3) := by decide +kernel
theorem dX11_readHour_40 : decode cX11_readHour 40 = .ok (.aload_n 0, 1) := by decide +kernel
theorem dX11_readHour_41 : decode cX11_readHour 41 = .ok (.iconst 0, 1) := by decide +kernel
theorem dX11_readHour_42 : decode cX11_readHour 42 = .ok (.sipush 999, 3) := by decide +kernel
theorem dX11_readHour_45 : decode cX11_readHour 45 = .ok (.invokevirtual 202, 3) := by decide +kernel
theorem dX11_readHour_48 : decode cX11_readHour 48 = .ok (.istore_n 2, 1) := by decide +kernel
theorem dX11_readHour_49 : decode cX11_readHour 49 = .ok (.aload_n 0, 1) := by decide +kernel
theorem dX11_readHour_50 : decode cX11_readHour 50 = .ok (.invokevirtual 149, 3) := by decide +kernel
theorem dX11_readHour_53 : decode cX11_readHour 53 = .ok (.ifCond .eq 10, 3) := by decide +kernel
theorem dX11_readHour_56 : decode cX11_readHour 56 = .ok (.aload_n 0, 1) := by decide +kernel
theorem dX11_readHour_57 : decode cX11_readHour 57 = .ok (.invokevirtual 160, 3) := by decide +kernel
theorem dX11_readHour_60 : decode cX11_readHour 60 = .ok (.goto 4, 3) := by decide +kernel
theorem dX11_readHour_63 : decode cX11_readHour 63 = .ok (.iconst 0, 1) := by decide +kernel
theorem dX11_readHour_64 : decode cX11_readHour 64 = .ok (.istore_n 3, 1) := by decide +kernel
theorem dX11_readHour_65 : decode cX11_readHour 65 = .ok (.aload_n 0, 1) := by decide +kernel
theorem dX11_readHour_66 : decode cX11_readHour 66 = .ok (.invokevirtual 149, 3) := by decide +kernel
theorem dX11_readHour_69 : decode cX11_readHour 69 = .ok (.ifCond .eq 48, 3) := by decide +kernel
theorem dX11_readHour_72 : decode cX11_readHour 72 = .ok (.iload_n 3, 1) := by decide +kernel
theorem dX11_readHour_73 : decode cX11_readHour 73 = .ok (.bipush 119, 2) := by decide +kernel
theorem dX11_readHour_75 : decode cX11_readHour 75 = .ok (.bipush 97, 2) := by decide +kernel
theorem dX11_readHour_77 : decode cX11_readHour 77 = .ok (.bipush 116, 2) := by decide +kernel
theorem dX11_readHour_79 : decode cX11_readHour 79 = .ok (.bipush 99, 2) := by decide +kernel
theorem dX11_readHour_81 : decode cX11_readHour 81 = .ok (.bipush 104, 2) := by decide +kernel
theorem dX11_readHour_83 : decode cX11_readHour 83 = .ok (.iconst 0, 1) := by decide +kernel
theorem dX11_readHour_84 : decode cX11_readHour 84 = .ok (.invokestatic 194, 3) := by decide +kernel
theorem dX11_readHour_87 : decode cX11_readHour 87 = .ok (.if_icmp .eq 30, 3) := by decide +kernel
theorem dX11_readHour_90 : decode cX11_readHour 90 = .ok (.iload_n 3, 1) := by decide +kernel
theorem dX11_readHour_91 : decode cX11_readHour 91 = .ok (.bipush 98, 2) := by decide +kernel
theorem dX11_readHour_93 : decode cX11_readHour 93 = .ok (.bipush 108, 2) := by decide +kernel
theorem dX11_readHour_95 : decode cX11_readHour 95 = .ok (.bipush 105, 2) := by decide +kernel
theorem dX11_readHour_97 : decode cX11_readHour 97 = .ok (.bipush 110, 2) := by decide +kernel
theorem dX11_readHour_99 : decode cX11_readHour 99 = .ok (.bipush 100, 2) := by decide +kernel
theorem dX11_readHour_101 : decode cX11_readHour 101 = .ok (.iconst 0, 1) := by decide +kernel
theorem dX11_readHour_102 : decode cX11_readHour 102 = .ok (.invokestatic 194, 3) := by decide +kernel
theorem dX11_readHour_105 : decode cX11_readHour 105 = .ok (.if_icmp .eq 12, 3) := by decide +kernel
theorem dX11_readHour_108 : decode cX11_readHour 108 = .ok (.aload_n 0, 1) := by decide +kernel
theorem dX11_readHour_109 : decode cX11_readHour 109 = .ok (.iconst 1, 1) := by decide +kernel
theorem dX11_readHour_110 : decode cX11_readHour 110 = .ok (.aload_n 0, 1) := by decide +kernel
theorem dX11_readHour_111 : decode cX11_readHour 111 = .ok (.getfield 132, 3) := by decide +kernel
theorem dX11_readHour_114 : decode cX11_readHour 114 = .ok (.invokevirtual 156, 3) := by decide +kernel
theorem dX11_readHour_117 : decode cX11_readHour 117 = .ok (.aload_n 0, 1) := by decide +kernel
theorem dX11_readHour_118 : decode cX11_readHour 118 = .ok (.invokevirtual 149, 3) := by decide +kernel
theorem dX11_readHour_121 : decode cX11_readHour 121 = .ok (.ifCond .ne 4, 3) := by decide +kernel
theorem dX11_readHour_124 : decode cX11_readHour 124 = .ok (.return_, 1) := by decide +kernel
theorem dX11_readHour_125 : decode cX11_readHour 125 = .ok (.aload_n 0, 1) := by decide +kernel
theorem dX11_readHour_126 : decode cX11_readHour 126 = .ok (.invokevirtual 163, 3) := by decide +kernel
theorem dX11_readHour_129 : decode cX11_readHour 129 = .ok (.iload_n 3, 1) := by decide +kernel
theorem dX11_readHour_130 : decode cX11_readHour 130 = .ok (.bipush 119, 2) := by decide +kernel
theorem dX11_readHour_132 : decode cX11_readHour 132 = .ok (.bipush 97, 2) := by decide +kernel
theorem dX11_readHour_134 : decode cX11_readHour 134 = .ok (.bipush 116, 2) := by decide +kernel
theorem dX11_readHour_136 : decode cX11_readHour 136 = .ok (.bipush 99, 2) := by decide +kernel
theorem dX11_readHour_138 : decode cX11_readHour 138 = .ok (.bipush 104, 2) := by decide +kernel
theorem dX11_readHour_140 : decode cX11_readHour 140 = .ok (.iconst 0, 1) := by decide +kernel
theorem dX11_readHour_141 : decode cX11_readHour 141 = .ok (.invokestatic 194, 3) := by decide +kernel
theorem dX11_readHour_144 : decode cX11_readHour 144 = .ok (.if_icmp .ne 13, 3) := by decide +kernel
theorem dX11_readHour_147 : decode cX11_readHour 147 = .ok (.aload_n 0, 1) := by decide +kernel
theorem dX11_readHour_148 : decode cX11_readHour 148 = .ok (.iconst 1, 1) := by decide +kernel
theorem dX11_readHour_149 : decode cX11_readHour 149 = .ok (.bipush 9, 2) := by decide +kernel
theorem dX11_readHour_151 : decode cX11_readHour 151 = .ok (.invokevirtual 202, 3) := by decide +kernel
theorem dX11_readHour_154 : decode cX11_readHour 154 = .ok (.goto 4, 3) := by decide +kernel
theorem dX11_readHour_157 : decode cX11_readHour 157 = .ok (.iconst 0, 1) := by decide +kernel
theorem dX11_readHour_158 : decode cX11_readHour 158 = .ok (.istore 4, 2) := by decide +kernel
theorem dX11_readHour_160 : decode cX11_readHour 160 = .ok (.aload_n 0, 1) := by decide +kernel
theorem dX11_readHour_161 : decode cX11_readHour 161 = .ok (.invokevirtual 149, 3) := by decide +kernel
theorem dX11_readHour_164 : decode cX11_readHour 164 = .ok (.ifCond .ne 4, 3) := by decide +kernel
theorem dX11_readHour_167 : decode cX11_readHour 167 = .ok (.return_, 1) := by decide +kernel
theorem dX11_readHour_168 : decode cX11_readHour 168 = .ok (.aload_n 0, 1) := by decide +kernel
theorem dX11_readHour_169 : decode cX11_readHour 169 = .ok (.getfield 29, 3) := by decide +kernel
theorem dX11_readHour_172 : decode cX11_readHour 172 = .ok (.sipush 2325, 3) := by decide +kernel
theorem dX11_readHour_175 : decode cX11_readHour 175 = .ok (.iconst 2, 1) := by decide +kernel
theorem dX11_readHour_176 : decode cX11_readHour 176 = .ok (.iload_n 1, 1) := by decide +kernel
theorem dX11_readHour_177 : decode cX11_readHour 177 = .ok (.imul, 1) := by decide +kernel
theorem dX11_readHour_178 : decode cX11_readHour 178 = .ok (.iadd, 1) := by decide +kernel
theorem dX11_readHour_179 : decode cX11_readHour 179 = .ok (.iload_n 2, 1) := by decide +kernel
theorem dX11_readHour_180 : decode cX11_readHour 180 = .ok (.iastore, 1) := by decide +kernel
theorem dX11_readHour_181 : decode cX11_readHour 181 = .ok (.aload_n 0, 1) := by decide +kernel
theorem dX11_readHour_182 : decode cX11_readHour 182 = .ok (.getfield 29, 3) := by decide +kernel
theorem dX11_readHour_185 : decode cX11_readHour 185 = .ok (.sipush 2325, 3) := by decide +kernel
theorem dX11_readHour_188 : decode cX11_readHour 188 = .ok (.iconst 2, 1) := by decide +kernel
theorem dX11_readHour_189 : decode cX11_readHour 189 = .ok (.iload_n 1, 1) := by decide +kernel
theorem dX11_readHour_190 : decode cX11_readHour 190 = .ok (.imul, 1) := by decide +kernel
theorem dX11_readHour_191 : decode cX11_readHour 191 = .ok (.iadd, 1) := by decide +kernel
theorem dX11_readHour_192 : decode cX11_readHour 192 = .ok (.iconst 1, 1) := by decide +kernel
theorem dX11_readHour_193 : decode cX11_readHour 193 = .ok (.iadd, 1) := by decide +kernel
theorem dX11_readHour_194 : decode cX11_readHour 194 = .ok (.iload 4, 2) := by decide +kernel
theorem dX11_readHour_196 : decode cX11_readHour 196 = .ok (.iastore, 1) := by decide +kernel
theorem dX11_readHour_197 : decode cX11_readHour 197 = .ok (.return_, 1) := by decide +kernel
theorem dX11_codes_0 : decode cX11_codes 0 = .ok (.aload_n 0, 1) := by decide +kernel
theorem dX11_codes_1 : decode cX11_codes 1 = .ok (.invokevirtual 149, 3) := by decide +kernel
theorem dX11_codes_4 : decode cX11_codes 4 = .ok (.ifCond .ne 4, 3) := by decide +kernel
theorem dX11_codes_7 : decode cX11_codes 7 = .ok (.return_, 1) := by decide +kernel
theorem dX11_codes_8 : decode cX11_codes 8 = .ok (.aload_n 0, 1) := by decide +kernel
theorem dX11_codes_9 : decode cX11_codes 9 = .ok (.getfield 29, 3) := by decide +kernel
theorem dX11_codes_12 : decode cX11_codes 12 = .ok (.sipush 1025, 3) := by decide +kernel
theorem dX11_codes_15 : decode cX11_codes 15 = .ok (.iconst 2, 1) := by decide +kernel
theorem dX11_codes_16 : decode cX11_codes 16 = .ok (.aload_n 0, 1) := by decide +kernel
theorem dX11_codes_17 : decode cX11_codes 17 = .ok (.getfield 172, 3) := by decide +kernel
theorem dX11_codes_20 : decode cX11_codes 20 = .ok (.imul, 1) := by decide +kernel
theorem dX11_codes_21 : decode cX11_codes 21 = .ok (.iadd, 1) := by decide +kernel
theorem dX11_codes_22 : decode cX11_codes 22 = .ok (.iload_n 1, 1) := by decide +kernel
theorem dX11_codes_23 : decode cX11_codes 23 = .ok (.iastore, 1) := by decide +kernel
theorem dX11_codes_24 : decode cX11_codes 24 = .ok (.aload_n 0, 1) := by decide +kernel
theorem dX11_codes_25 : decode cX11_codes 25 = .ok (.getfield 29, 3) := by decide +kernel
theorem dX11_codes_28 : decode cX11_codes 28 = .ok (.sipush 1025, 3) := by decide +kernel
theorem dX11_codes_31 : decode cX11_codes 31 = .ok (.iconst 2, 1) := by decide +kernel
theorem dX11_codes_32 : decode cX11_codes 32 = .ok (.aload_n 0, 1) := by decide +kernel
theorem dX11_codes_33 : decode cX11_codes 33 = .ok (.getfield 172, 3) := by decide +kernel
theorem dX11_codes_36 : decode cX11_codes 36 = .ok (.imul, 1) := by decide +kernel
theorem dX11_codes_37 : decode cX11_codes 37 = .ok (.iadd, 1) := by decide +kernel
theorem dX11_codes_38 : decode cX11_codes 38 = .ok (.iconst 1, 1) := by decide +kernel
theorem dX11_codes_39 : decode cX11_codes 39 = .ok (.iadd, 1) := by decide +kernel
theorem dX11_codes_40 : decode cX11_codes 40 = .ok (.iload_n 2, 1) := by decide +kernel
theorem dX11_codes_41 : decode cX11_codes 41 = .ok (.iastore, 1) := by decide +kernel
theorem dX11_codes_42 : decode cX11_codes 42 = .ok (.aload_n 0, 1) := by decide +kernel
theorem dX11_codes_43 : decode cX11_codes 43 = .ok (.dup, 1) := by decide +kernel
theorem dX11_codes_44 : decode cX11_codes 44 = .ok (.getfield 172, 3) := by decide +kernel
theorem dX11_codes_47 : decode cX11_codes 47 = .ok (.iconst 1, 1) := by decide +kernel
theorem dX11_codes_48 : decode cX11_codes 48 = .ok (.iadd, 1) := by decide +kernel
theorem dX11_codes_49 : decode cX11_codes 49 = .ok (.putfield 172, 3) := by decide +kernel
theorem dX11_codes_52 : decode cX11_codes 52 = .ok (.return_, 1) := by decide +kernel
theorem dX11_readRule_0 : decode cX11_readRule 0 = .ok (.aload_n 0, 1) := by decide +kernel
theorem dX11_readRule_1 : decode cX11_readRule 1 = .ok (.invokevirtual 160, 3) := by decide +kernel
theorem dX11_readRule_4 : decode cX11_readRule 4 = .ok (.istore_n 2, 1) := by decide +kernel
theorem dX11_readRule_5 : decode cX11_readRule 5 = .ok (.iload_n 2, 1) := by decide +kernel
theorem dX11_readRule_6 : decode cX11_readRule 6 = .ok (.bipush 115, 2) := by decide +kernel
theorem dX11_readRule_8 : decode cX11_readRule 8 = .ok (.bipush 108, 2) := by decide +kernel
theorem dX11_readRule_10 : decode cX11_readRule 10 = .ok (.bipush 105, 2) := by decide +kernel
theorem dX11_readRule_12 : decode cX11_readRule 12 = .ok (.bipush 112, 2) := by decide +kernel
theorem dX11_readRule_14 : decode cX11_readRule 14 = .ok (.bipush 115, 2) := by decide +kernel
theorem dX11_readRule_16 : decode cX11_readRule 16 = .ok (.iconst 0, 1) := by decide +kernel
theorem dX11_readRule_17 : decode cX11_readRule 17 = .ok (.invokestatic 194, 3) := by decide +kernel
theorem dX11_readRule_20 : decode cX11_readRule 20 = .ok (.if_icmp .ne 7, 3) := by decide +kernel
theorem dX11_readRule_23 : decode cX11_readRule 23 = .ok (.iconst 0, 1) := by decide +kernel
theorem dX11_readRule_24 : decode cX11_readRule 24 = .ok (.goto 46, 3) := by decide +kernel
theorem dX11_readRule_27 : decode cX11_readRule 27 = .ok (.iload_n 2, 1) := by decide +kernel
theorem dX11_readRule_28 : decode cX11_readRule 28 = .ok (.bipush 115, 2) := by decide +kernel
theorem dX11_readRule_30 : decode cX11_readRule 30 = .ok (.bipush 101, 2) := by decide +kernel
theorem dX11_readRule_32 : decode cX11_readRule 32 = .ok (.bipush 101, 2) := by decide +kernel
theorem dX11_readRule_34 : decode cX11_readRule 34 = .ok (.bipush 115, 2) := by decide +kernel
theorem dX11_readRule_36 : decode cX11_readRule 36 = .ok (.iconst 0, 1) := by decide +kernel
theorem dX11_readRule_37 : decode cX11_readRule 37 = .ok (.iconst 0, 1) := by decide +kernel
theorem dX11_readRule_38 : decode cX11_readRule 38 = .ok (.invokestatic 194, 3) := by decide +kernel
theorem dX11_readRule_41 : decode cX11_readRule 41 = .ok (.if_icmp .ne 7, 3) := by decide +kernel
theorem dX11_readRule_44 : decode cX11_readRule 44 = .ok (.iconst 1, 1) := by decide +kernel
theorem dX11_readRule_45 : decode cX11_readRule 45 = .ok (.goto 25, 3) := by decide +kernel
theorem dX11_readRule_48 : decode cX11_readRule 48 = .ok (.iload_n 2, 1) := by decide +kernel
theorem dX11_readRule_49 : decode cX11_readRule 49 = .ok (.bipush 112, 2) := by decide +kernel
theorem dX11_readRule_51 : decode cX11_readRule 51 = .ok (.bipush 97, 2) := by decide +kernel
theorem dX11_readRule_53 : decode cX11_readRule 53 = .ok (.bipush 121, 2) := by decide +kernel
theorem dX11_readRule_55 : decode cX11_readRule 55 = .ok (.bipush 115, 2) := by decide +kernel
theorem dX11_readRule_57 : decode cX11_readRule 57 = .ok (.iconst 0, 1) := by decide +kernel
theorem dX11_readRule_58 : decode cX11_readRule 58 = .ok (.iconst 0, 1) := by decide +kernel
theorem dX11_readRule_59 : decode cX11_readRule 59 = .ok (.invokestatic 194, 3) := by decide +kernel
theorem dX11_readRule_62 : decode cX11_readRule 62 = .ok (.if_icmp .ne 7, 3) := by decide +kernel
theorem dX11_readRule_65 : decode cX11_readRule 65 = .ok (.iconst 2, 1) := by decide +kernel
theorem dX11_readRule_66 : decode cX11_readRule 66 = .ok (.goto 4, 3) := by decide +kernel
theorem dX11_readRule_69 : decode cX11_readRule 69 = .ok (.iconst (-1), 1) := by decide +kernel
theorem dX11_readRule_70 : decode cX11_readRule 70 = .ok (.istore_n 3, 1) := by decide +kernel
theorem dX11_readRule_71 : decode cX11_readRule 71 = .ok (.aload_n 0, 1) := by decide +kernel
theorem dX11_readRule_72 : decode cX11_readRule 72 = .ok (.iload_n 3, 1) := by decide +kernel
theorem dX11_readRule_73 : decode cX11_readRule 73 = .ok (.iconst (-1), 1) := by decide +kernel
theorem dX11_readRule_74 : decode cX11_readRule 74 = .ok (.if_icmp .eq 7, 3) := by decide +kernel
theorem dX11_readRule_77 : decode cX11_readRule 77 = .ok (.iconst 1, 1) := by decide +kernel
theorem dX11_readRule_78 : decode cX11_readRule 78 = .ok (.goto 4, 3) := by decide +kernel
theorem dX11_readRule_81 : decode cX11_readRule 81 = .ok (.iconst 0, 1) := by decide +kernel
theorem dX11_readRule_82 : decode cX11_readRule 82 = .ok (.iload_n 1, 1) := by decide +kernel
theorem dX11_readRule_83 : decode cX11_readRule 83 = .ok (.bipush 16, 2) := by decide +kernel
theorem dX11_readRule_85 : decode cX11_readRule 85 = .ok (.if_icmp .ne 7, 3) := by decide +kernel
theorem dX11_readRule_88 : decode cX11_readRule 88 = .ok (.iconst 1, 1) := by decide +kernel
theorem dX11_readRule_89 : decode cX11_readRule 89 = .ok (.goto 4, 3) := by decide +kernel
theorem dX11_readRule_92 : decode cX11_readRule 92 = .ok (.iconst 0, 1) := by decide +kernel
theorem dX11_readRule_93 : decode cX11_readRule 93 = .ok (.invokevirtual 198, 3) := by decide +kernel
theorem dX11_readRule_96 : decode cX11_readRule 96 = .ok (.aload_n 0, 1) := by decide +kernel
theorem dX11_readRule_97 : decode cX11_readRule 97 = .ok (.getfield 172, 3) := by decide +kernel
theorem dX11_readRule_100 : decode cX11_readRule 100 = .ok (.istore 4, 2) := by decide +kernel
theorem dX11_readRule_102 : decode cX11_readRule 102 = .ok (.aload_n 0, 1) := by decide +kernel
theorem dX11_readRule_103 : decode cX11_readRule 103 = .ok (.invokevirtual 208, 3) := by decide +kernel
theorem dX11_readRule_106 : decode cX11_readRule 106 = .ok (.aload_n 0, 1) := by decide +kernel
theorem dX11_readRule_107 : decode cX11_readRule 107 = .ok (.getfield 172, 3) := by decide +kernel
theorem dX11_readRule_110 : decode cX11_readRule 110 = .ok (.istore 5, 2) := by decide +kernel
theorem dX11_readRule_112 : decode cX11_readRule 112 = .ok (.iconst (-1), 1) := by decide +kernel
theorem dX11_readRule_113 : decode cX11_readRule 113 = .ok (.istore 6, 2) := by decide +kernel
theorem dX11_readRule_115 : decode cX11_readRule 115 = .ok (.aload_n 0, 1) := by decide +kernel
theorem dX11_readRule_116 : decode cX11_readRule 116 = .ok (.invokevirtual 149, 3) := by decide +kernel
theorem dX11_readRule_119 : decode cX11_readRule 119 = .ok (.ifCond .eq 37, 3) := by decide +kernel
theorem dX11_readRule_122 : decode cX11_readRule 122 = .ok (.aload_n 0, 1) := by decide +kernel
theorem dX11_readRule_123 : decode cX11_readRule 123 = .ok (.invokevirtual 160, 3) := by decide +kernel
theorem dX11_readRule_126 : decode cX11_readRule 126 = .ok (.bipush 119, 2) := by decide +kernel
theorem dX11_readRule_128 : decode cX11_readRule 128 = .ok (.bipush 104, 2) := by decide +kernel
theorem dX11_readRule_130 : decode cX11_readRule 130 = .ok (.bipush 101, 2) := by decide +kernel
theorem dX11_readRule_132 : decode cX11_readRule 132 = .ok (.bipush 110, 2) := by decide +kernel
theorem dX11_readRule_134 : decode cX11_readRule 134 = .ok (.iconst 0, 1) := by decide +kernel
theorem dX11_readRule_135 : decode cX11_readRule 135 = .ok (.iconst 0, 1) := by decide +kernel
theorem dX11_readRule_136 : decode cX11_readRule 136 = .ok (.invokestatic 194, 3) := by decide +kernel
theorem dX11_readRule_139 : decode cX11_readRule 139 = .ok (.if_icmp .ne 17, 3) := by decide +kernel
theorem dX11_readRule_142 : decode cX11_readRule 142 = .ok (.aload_n 0, 1) := by decide +kernel
theorem dX11_readRule_143 : decode cX11_readRule 143 = .ok (.invokevirtual 163, 3) := by decide +kernel
theorem dX11_readRule_146 : decode cX11_readRule 146 = .ok (.aload_n 0, 1) := by decide +kernel
theorem dX11_readRule_147 : decode cX11_readRule 147 = .ok (.invokevirtual 211, 3) := by decide +kernel
theorem dX11_readRule_150 : decode cX11_readRule 150 = .ok (.aload_n 0, 1) := by decide +kernel
theorem dX11_readRule_151 : decode cX11_readRule 151 = .ok (.getfield 172, 3) := by decide +kernel
theorem dX11_readRule_154 : decode cX11_readRule 154 = .ok (.istore 6, 2) := by decide +kernel
theorem dX11_readRule_156 : decode cX11_readRule 156 = .ok (.aload_n 0, 1) := by decide +kernel
theorem dX11_readRule_157 : decode cX11_readRule 157 = .ok (.invokevirtual 149, 3) := by decide +kernel
theorem dX11_readRule_160 : decode cX11_readRule 160 = .ok (.ifCond .ne 4, 3) := by decide +kernel
theorem dX11_readRule_163 : decode cX11_readRule 163 = .ok (.return_, 1) := by decide +kernel
theorem dX11_readRule_164 : decode cX11_readRule 164 = .ok (.sipush 945, 3) := by decide +kernel
theorem dX11_readRule_167 : decode cX11_readRule 167 = .ok (.iconst 5, 1) := by decide +kernel
theorem dX11_readRule_168 : decode cX11_readRule 168 = .ok (.iload_n 1, 1) := by decide +kernel
theorem dX11_readRule_169 : decode cX11_readRule 169 = .ok (.imul, 1) := by decide +kernel
theorem dX11_readRule_170 : decode cX11_readRule 170 = .ok (.iadd, 1) := by decide +kernel
theorem dX11_readRule_171 : decode cX11_readRule 171 = .ok (.istore 7, 2) := by decide +kernel
theorem dX11_readRule_173 : decode cX11_readRule 173 = .ok (.aload_n 0, 1) := by decide +kernel
theorem dX11_readRule_174 : decode cX11_readRule 174 = .ok (.getfield 29, 3) := by decide +kernel
theorem dX11_readRule_177 : decode cX11_readRule 177 = .ok (.iload 7, 2) := by decide +kernel
theorem dX11_readRule_179 : decode cX11_readRule 179 = .ok (.iload_n 3, 1) := by decide +kernel
theorem dX11_readRule_180 : decode cX11_readRule 180 = .ok (.iastore, 1) := by decide +kernel
theorem dX11_readRule_181 : decode cX11_readRule 181 = .ok (.aload_n 0, 1) := by decide +kernel
theorem dX11_readRule_182 : decode cX11_readRule 182 = .ok (.getfield 29, 3) := by decide +kernel
theorem dX11_readRule_185 : decode cX11_readRule 185 = .ok (.iload 7, 2) := by decide +kernel
theorem dX11_readRule_187 : decode cX11_readRule 187 = .ok (.iconst 1, 1) := by decide +kernel
theorem dX11_readRule_188 : decode cX11_readRule 188 = .ok (.iadd, 1) := by decide +kernel
theorem dX11_readRule_189 : decode cX11_readRule 189 = .ok (.iload 4, 2) := by decide +kernel
theorem dX11_readRule_191 : decode cX11_readRule 191 = .ok (.iastore, 1) := by decide +kernel
theorem dX11_readRule_192 : decode cX11_readRule 192 = .ok (.aload_n 0, 1) := by decide +kernel
theorem dX11_readRule_193 : decode cX11_readRule 193 = .ok (.getfield 29, 3) := by decide +kernel
theorem dX11_readRule_196 : decode cX11_readRule 196 = .ok (.iload 7, 2) := by decide +kernel
theorem dX11_readRule_198 : decode cX11_readRule 198 = .ok (.iconst 2, 1) := by decide +kernel
theorem dX11_readRule_199 : decode cX11_readRule 199 = .ok (.iadd, 1) := by decide +kernel
theorem dX11_readRule_200 : decode cX11_readRule 200 = .ok (.iload 5, 2) := by decide +kernel
theorem dX11_readRule_202 : decode cX11_readRule 202 = .ok (.iastore, 1) := by decide +kernel
theorem dX11_readRule_203 : decode cX11_readRule 203 = .ok (.aload_n 0, 1) := by decide +kernel
theorem dX11_readRule_204 : decode cX11_readRule 204 = .ok (.getfield 29, 3) := by decide +kernel
theorem dX11_readRule_207 : decode cX11_readRule 207 = .ok (.iload 7, 2) := by decide +kernel
theorem dX11_readRule_209 : decode cX11_readRule 209 = .ok (.iconst 3, 1) := by decide +kernel
theorem dX11_readRule_210 : decode cX11_readRule 210 = .ok (.iadd, 1) := by decide +kernel
theorem dX11_readRule_211 : decode cX11_readRule 211 = .ok (.iload 5, 2) := by decide +kernel
theorem dX11_readRule_213 : decode cX11_readRule 213 = .ok (.iastore, 1) := by decide +kernel
theorem dX11_readRule_214 : decode cX11_readRule 214 = .ok (.aload_n 0, 1) := by decide +kernel
theorem dX11_readRule_215 : decode cX11_readRule 215 = .ok (.getfield 29, 3) := by decide +kernel
theorem dX11_readRule_218 : decode cX11_readRule 218 = .ok (.iload 7, 2) := by decide +kernel
theorem dX11_readRule_220 : decode cX11_readRule 220 = .ok (.iconst 4, 1) := by decide +kernel
theorem dX11_readRule_221 : decode cX11_readRule 221 = .ok (.iadd, 1) := by decide +kernel
theorem dX11_readRule_222 : decode cX11_readRule 222 = .ok (.iload 6, 2) := by decide +kernel
theorem dX11_readRule_224 : decode cX11_readRule 224 = .ok (.iastore, 1) := by decide +kernel
theorem dX11_readRule_225 : decode cX11_readRule 225 = .ok (.return_, 1) := by decide +kernel
theorem dX11_opensOne_0 : decode cX11_opensOne 0 = .ok (.aload_n 0, 1) := by decide +kernel
theorem dX11_opensOne_1 : decode cX11_opensOne 1 = .ok (.getfield 166, 3) := by decide +kernel
theorem dX11_opensOne_4 : decode cX11_opensOne 4 = .ok (.bipush 8, 2) := by decide +kernel
theorem dX11_opensOne_6 : decode cX11_opensOne 6 = .ok (.if_icmp .ne 12, 3) := by decide +kernel
theorem dX11_opensOne_9 : decode cX11_opensOne 9 = .ok (.aload_n 0, 1) := by decide +kernel
theorem dX11_opensOne_10 : decode cX11_opensOne 10 = .ok (.iconst 3, 1) := by decide +kernel
theorem dX11_opensOne_11 : decode cX11_opensOne 11 = .ok (.aload_n 0, 1) := by decide +kernel
theorem dX11_opensOne_12 : decode cX11_opensOne 12 = .ok (.getfield 132, 3) := by decide +kernel
theorem dX11_opensOne_15 : decode cX11_opensOne 15 = .ok (.invokevirtual 156, 3) := by decide +kernel
theorem dX11_opensOne_18 : decode cX11_opensOne 18 = .ok (.aload_n 0, 1) := by decide +kernel
theorem dX11_opensOne_19 : decode cX11_opensOne 19 = .ok (.dup, 1) := by decide +kernel
theorem dX11_opensOne_20 : decode cX11_opensOne 20 = .ok (.getfield 166, 3) := by decide +kernel
theorem dX11_opensOne_23 : decode cX11_opensOne 23 = .ok (.iconst 1, 1) := by decide +kernel
theorem dX11_opensOne_24 : decode cX11_opensOne 24 = .ok (.iadd, 1) := by decide +kernel
theorem dX11_opensOne_25 : decode cX11_opensOne 25 = .ok (.putfield 166, 3) := by decide +kernel
theorem dX11_opensOne_28 : decode cX11_opensOne 28 = .ok (.aload_n 0, 1) := by decide +kernel
theorem dX11_opensOne_29 : decode cX11_opensOne 29 = .ok (.getfield 32, 3) := by decide +kernel
theorem dX11_opensOne_32 : decode cX11_opensOne 32 = .ok (.aload_n 0, 1) := by decide +kernel
theorem dX11_opensOne_33 : decode cX11_opensOne 33 = .ok (.getfield 214, 3) := by decide +kernel
theorem dX11_opensOne_36 : decode cX11_opensOne 36 = .ok (.iload_n 1, 1) := by decide +kernel
theorem dX11_opensOne_37 : decode cX11_opensOne 37 = .ok (.iastore, 1) := by decide +kernel
theorem dX11_opensOne_38 : decode cX11_opensOne 38 = .ok (.aload_n 0, 1) := by decide +kernel
theorem dX11_opensOne_39 : decode cX11_opensOne 39 = .ok (.dup, 1) := by decide +kernel
theorem dX11_opensOne_40 : decode cX11_opensOne 40 = .ok (.getfield 214, 3) := by decide +kernel
theorem dX11_opensOne_43 : decode cX11_opensOne 43 = .ok (.iconst 1, 1) := by decide +kernel
theorem dX11_opensOne_44 : decode cX11_opensOne 44 = .ok (.iadd, 1) := by decide +kernel
theorem dX11_opensOne_45 : decode cX11_opensOne 45 = .ok (.putfield 214, 3) := by decide +kernel
theorem dX11_opensOne_48 : decode cX11_opensOne 48 = .ok (.return_, 1) := by decide +kernel
theorem dX11_closes_0 : decode cX11_closes 0 = .ok (.aload_n 0, 1) := by decide +kernel
theorem dX11_closes_1 : decode cX11_closes 1 = .ok (.getfield 214, 3) := by decide +kernel
theorem dX11_closes_4 : decode cX11_closes 4 = .ok (.ifCond .le 77, 3) := by decide +kernel
theorem dX11_closes_7 : decode cX11_closes 7 = .ok (.aload_n 0, 1) := by decide +kernel
theorem dX11_closes_8 : decode cX11_closes 8 = .ok (.getfield 32, 3) := by decide +kernel
theorem dX11_closes_11 : decode cX11_closes 11 = .ok (.aload_n 0, 1) := by decide +kernel
theorem dX11_closes_12 : decode cX11_closes 12 = .ok (.getfield 214, 3) := by decide +kernel
theorem dX11_closes_15 : decode cX11_closes 15 = .ok (.iconst 1, 1) := by decide +kernel
theorem dX11_closes_16 : decode cX11_closes 16 = .ok (.isub, 1) := by decide +kernel
theorem dX11_closes_17 : decode cX11_closes 17 = .ok (.iaload, 1) := by decide +kernel
theorem dX11_closes_18 : decode cX11_closes 18 = .ok (.iload_n 1, 1) := by decide +kernel
theorem dX11_closes_19 : decode cX11_closes 19 = .ok (.if_icmp .ne 62, 3) := by decide +kernel
theorem dX11_closes_22 : decode cX11_closes 22 = .ok (.aload_n 0, 1) := by decide +kernel
theorem dX11_closes_23 : decode cX11_closes 23 = .ok (.dup, 1) := by decide +kernel
theorem dX11_closes_24 : decode cX11_closes 24 = .ok (.getfield 214, 3) := by decide +kernel
theorem dX11_closes_27 : decode cX11_closes 27 = .ok (.iconst 1, 1) := by decide +kernel
theorem dX11_closes_28 : decode cX11_closes 28 = .ok (.isub, 1) := by decide +kernel
theorem dX11_closes_29 : decode cX11_closes 29 = .ok (.putfield 214, 3) := by decide +kernel
theorem dX11_closes_32 : decode cX11_closes 32 = .ok (.aload_n 0, 1) := by decide +kernel
theorem dX11_closes_33 : decode cX11_closes 33 = .ok (.dup, 1) := by decide +kernel
theorem dX11_closes_34 : decode cX11_closes 34 = .ok (.getfield 166, 3) := by decide +kernel
theorem dX11_closes_37 : decode cX11_closes 37 = .ok (.iload_n 1, 1) := by decide +kernel
theorem dX11_closes_38 : decode cX11_closes 38 = .ok (.iconst 2, 1) := by decide +kernel
theorem dX11_closes_39 : decode cX11_closes 39 = .ok (.if_icmp .ne 7, 3) := by decide +kernel
theorem dX11_closes_42 : decode cX11_closes 42 = .ok (.iconst 1, 1) := by decide +kernel
theorem dX11_closes_43 : decode cX11_closes 43 = .ok (.goto 4, 3) := by decide +kernel
theorem dX11_closes_46 : decode cX11_closes 46 = .ok (.iconst 0, 1) := by decide +kernel
theorem dX11_closes_47 : decode cX11_closes 47 = .ok (.isub, 1) := by decide +kernel
theorem dX11_closes_48 : decode cX11_closes 48 = .ok (.putfield 166, 3) := by decide +kernel
theorem dX11_closes_51 : decode cX11_closes 51 = .ok (.aload_n 0, 1) := by decide +kernel
theorem dX11_closes_52 : decode cX11_closes 52 = .ok (.iload_n 1, 1) := by decide +kernel
theorem dX11_closes_53 : decode cX11_closes 53 = .ok (.iconst 2, 1) := by decide +kernel
theorem dX11_closes_54 : decode cX11_closes 54 = .ok (.if_icmp .ne 8, 3) := by decide +kernel
theorem dX11_closes_57 : decode cX11_closes 57 = .ok (.bipush 9, 2) := by decide +kernel
theorem dX11_closes_59 : decode cX11_closes 59 = .ok (.goto 15, 3) := by decide +kernel
theorem dX11_closes_62 : decode cX11_closes 62 = .ok (.iload_n 1, 1) := by decide +kernel
theorem dX11_closes_63 : decode cX11_closes 63 = .ok (.iconst 3, 1) := by decide +kernel
theorem dX11_closes_64 : decode cX11_closes 64 = .ok (.if_icmp .ne 8, 3) := by decide +kernel
theorem dX11_closes_67 : decode cX11_closes 67 = .ok (.bipush 10, 2) := by decide +kernel
theorem dX11_closes_69 : decode cX11_closes 69 = .ok (.goto 5, 3) := by decide +kernel
theorem dX11_closes_72 : decode cX11_closes 72 = .ok (.bipush 11, 2) := by decide +kernel
theorem dX11_closes_74 : decode cX11_closes 74 = .ok (.iconst 0, 1) := by decide +kernel
theorem dX11_closes_75 : decode cX11_closes 75 = .ok (.invokevirtual 217, 3) := by decide +kernel
theorem dX11_closes_78 : decode cX11_closes 78 = .ok (.goto (-78), 3) := by decide +kernel
theorem dX11_closes_81 : decode cX11_closes 81 = .ok (.return_, 1) := by decide +kernel
theorem dX11_readOpening_0 : decode cX11_readOpening 0 = .ok (.iconst 1, 1) := by decide +kernel
theorem dX11_readOpening_1 : decode cX11_readOpening 1 = .ok (.istore_n 1, 1) := by decide +kernel
theorem dX11_readOpening_2 : decode cX11_readOpening 2 = .ok (.iload_n 1, 1) := by decide +kernel
theorem dX11_readOpening_3 : decode cX11_readOpening 3 = .ok (.ifCond .eq 77, 3) := by decide +kernel
theorem dX11_readOpening_6 : decode cX11_readOpening 6 = .ok (.aload_n 0, 1) := by decide +kernel
theorem dX11_readOpening_7 : decode cX11_readOpening 7 = .ok (.invokevirtual 149, 3) := by decide +kernel
theorem dX11_readOpening_10 : decode cX11_readOpening 10 = .ok (.ifCond .eq 70, 3) := by decide +kernel
theorem dX11_readOpening_13 : decode cX11_readOpening 13 = .ok (.iconst 0, 1) := by decide +kernel
theorem dX11_readOpening_14 : decode cX11_readOpening 14 = .ok (.istore_n 1, 1) := by decide +kernel
theorem dX11_readOpening_15 : decode cX11_readOpening 15 = .ok (.aload_n 0, 1) := by decide +kernel
theorem dX11_readOpening_16 : decode cX11_readOpening 16 = .ok (.invokevirtual 160, 3) := by decide +kernel
theorem dX11_readOpening_19 : decode cX11_readOpening 19 = .ok (.bipush 110, 2) := by decide +kernel
theorem dX11_readOpening_21 : decode cX11_readOpening 21 = .ok (.bipush 111, 2) := by decide +kernel
theorem dX11_readOpening_23 : decode cX11_readOpening 23 = .ok (.bipush 116, 2) := by decide +kernel
theorem dX11_readOpening_25 : decode cX11_readOpening 25 = .ok (.iconst 0, 1) := by decide +kernel
theorem dX11_readOpening_26 : decode cX11_readOpening 26 = .ok (.iconst 0, 1) := by decide +kernel
theorem dX11_readOpening_27 : decode cX11_readOpening 27 = .ok (.iconst 0, 1) := by decide +kernel
theorem dX11_readOpening_28 : decode cX11_readOpening 28 = .ok (.invokestatic 194, 3) := by decide +kernel
theorem dX11_readOpening_31 : decode cX11_readOpening 31 = .ok (.if_icmp .ne 24, 3) := by decide +kernel
theorem dX11_readOpening_34 : decode cX11_readOpening 34 = .ok (.aload_n 0, 1) := by decide +kernel
theorem dX11_readOpening_35 : decode cX11_readOpening 35 = .ok (.iconst 2, 1) := by decide +kernel
theorem dX11_readOpening_36 : decode cX11_readOpening 36 = .ok (.invokevirtual 219, 3) := by decide +kernel
theorem dX11_readOpening_39 : decode cX11_readOpening 39 = .ok (.aload_n 0, 1) := by decide +kernel
theorem dX11_readOpening_40 : decode cX11_readOpening 40 = .ok (.invokevirtual 149, 3) := by decide +kernel
theorem dX11_readOpening_43 : decode cX11_readOpening 43 = .ok (.ifCond .eq 7, 3) := by decide +kernel
theorem dX11_readOpening_46 : decode cX11_readOpening 46 = .ok (.aload_n 0, 1) := by decide +kernel
theorem dX11_readOpening_47 : decode cX11_readOpening 47 = .ok (.invokevirtual 163, 3) := by decide +kernel
theorem dX11_readOpening_50 : decode cX11_readOpening 50 = .ok (.iconst 1, 1) := by decide +kernel
theorem dX11_readOpening_51 : decode cX11_readOpening 51 = .ok (.istore_n 1, 1) := by decide +kernel
theorem dX11_readOpening_52 : decode cX11_readOpening 52 = .ok (.goto (-50), 3) := by decide +kernel
theorem dX11_readOpening_55 : decode cX11_readOpening 55 = .ok (.aload_n 0, 1) := by decide +kernel
theorem dX11_readOpening_56 : decode cX11_readOpening 56 = .ok (.invokevirtual 138, 3) := by decide +kernel
theorem dX11_readOpening_59 : decode cX11_readOpening 59 = .ok (.bipush 40, 2) := by decide +kernel
theorem dX11_readOpening_61 : decode cX11_readOpening 61 = .ok (.if_icmp .ne (-59), 3) := by decide +kernel
theorem dX11_readOpening_64 : decode cX11_readOpening 64 = .ok (.aload_n 0, 1) := by decide +kernel
theorem dX11_readOpening_65 : decode cX11_readOpening 65 = .ok (.iconst 1, 1) := by decide +kernel
theorem dX11_readOpening_66 : decode cX11_readOpening 66 = .ok (.invokevirtual 219, 3) := by decide +kernel
theorem dX11_readOpening_69 : decode cX11_readOpening 69 = .ok (.aload_n 0, 1) := by decide +kernel
theorem dX11_readOpening_70 : decode cX11_readOpening 70 = .ok (.bipush 40, 2) := by decide +kernel
theorem dX11_readOpening_72 : decode cX11_readOpening 72 = .ok (.invokevirtual 188, 3) := by decide +kernel
theorem dX11_readOpening_75 : decode cX11_readOpening 75 = .ok (.iconst 1, 1) := by decide +kernel
theorem dX11_readOpening_76 : decode cX11_readOpening 76 = .ok (.istore_n 1, 1) := by decide +kernel
theorem dX11_readOpening_77 : decode cX11_readOpening 77 = .ok (.goto (-75), 3) := by decide +kernel
theorem dX11_readOpening_80 : decode cX11_readOpening 80 = .ok (.return_, 1) := by decide +kernel
theorem dX11_readTwo_0 : decode cX11_readTwo 0 = .ok (.aload_n 0, 1) := by decide +kernel
theorem dX11_readTwo_1 : decode cX11_readTwo 1 = .ok (.invokevirtual 208, 3) := by decide +kernel
theorem dX11_readTwo_4 : decode cX11_readTwo 4 = .ok (.aload_n 0, 1) := by decide +kernel
theorem dX11_readTwo_5 : decode cX11_readTwo 5 = .ok (.invokevirtual 149, 3) := by decide +kernel
theorem dX11_readTwo_8 : decode cX11_readTwo 8 = .ok (.ifCond .eq 10, 3) := by decide +kernel
theorem dX11_readTwo_11 : decode cX11_readTwo 11 = .ok (.aload_n 0, 1) := by decide +kernel
theorem dX11_readTwo_12 : decode cX11_readTwo 12 = .ok (.invokevirtual 138, 3) := by decide +kernel
theorem dX11_readTwo_15 : decode cX11_readTwo 15 = .ok (.goto 4, 3) := by decide +kernel
theorem dX11_readTwo_18 : decode cX11_readTwo 18 = .ok (.iconst 0, 1) := by decide +kernel
theorem dX11_readTwo_19 : decode cX11_readTwo 19 = .ok (.istore_n 1, 1) := by decide +kernel
theorem dX11_readTwo_20 : decode cX11_readTwo 20 = .ok (.aload_n 0, 1) := by decide +kernel
theorem dX11_readTwo_21 : decode cX11_readTwo 21 = .ok (.invokevirtual 149, 3) := by decide +kernel
theorem dX11_readTwo_24 : decode cX11_readTwo 24 = .ok (.ifCond .eq 30, 3) := by decide +kernel
theorem dX11_readTwo_27 : decode cX11_readTwo 27 = .ok (.iload_n 1, 1) := by decide +kernel
theorem dX11_readTwo_28 : decode cX11_readTwo 28 = .ok (.bipush 60, 2) := by decide +kernel
theorem dX11_readTwo_30 : decode cX11_readTwo 30 = .ok (.if_icmp .eq 24, 3) := by decide +kernel
theorem dX11_readTwo_33 : decode cX11_readTwo 33 = .ok (.iload_n 1, 1) := by decide +kernel
theorem dX11_readTwo_34 : decode cX11_readTwo 34 = .ok (.bipush 61, 2) := by decide +kernel
theorem dX11_readTwo_36 : decode cX11_readTwo 36 = .ok (.if_icmp .eq 18, 3) := by decide +kernel
theorem dX11_readTwo_39 : decode cX11_readTwo 39 = .ok (.iload_n 1, 1) := by decide +kernel
theorem dX11_readTwo_40 : decode cX11_readTwo 40 = .ok (.bipush 62, 2) := by decide +kernel
theorem dX11_readTwo_42 : decode cX11_readTwo 42 = .ok (.if_icmp .eq 12, 3) := by decide +kernel
theorem dX11_readTwo_45 : decode cX11_readTwo 45 = .ok (.aload_n 0, 1) := by decide +kernel
theorem dX11_readTwo_46 : decode cX11_readTwo 46 = .ok (.iconst 1, 1) := by decide +kernel
theorem dX11_readTwo_47 : decode cX11_readTwo 47 = .ok (.aload_n 0, 1) := by decide +kernel
theorem dX11_readTwo_48 : decode cX11_readTwo 48 = .ok (.getfield 132, 3) := by decide +kernel
theorem dX11_readTwo_51 : decode cX11_readTwo 51 = .ok (.invokevirtual 156, 3) := by decide +kernel
theorem dX11_readTwo_54 : decode cX11_readTwo 54 = .ok (.aload_n 0, 1) := by decide +kernel
theorem dX11_readTwo_55 : decode cX11_readTwo 55 = .ok (.invokevirtual 149, 3) := by decide +kernel
theorem dX11_readTwo_58 : decode cX11_readTwo 58 = .ok (.ifCond .eq 13, 3) := by decide +kernel
theorem dX11_readTwo_61 : decode cX11_readTwo 61 = .ok (.aload_n 0, 1) := by decide +kernel
theorem dX11_readTwo_62 : decode cX11_readTwo 62 = .ok (.dup, 1) := by decide +kernel
theorem dX11_readTwo_63 : decode cX11_readTwo 63 = .ok (.getfield 132, 3) := by decide +kernel
theorem dX11_readTwo_66 : decode cX11_readTwo 66 = .ok (.iconst 1, 1) := by decide +kernel
theorem dX11_readTwo_67 : decode cX11_readTwo 67 = .ok (.iadd, 1) := by decide +kernel
theorem dX11_readTwo_68 : decode cX11_readTwo 68 = .ok (.putfield 132, 3) := by decide +kernel
theorem dX11_readTwo_71 : decode cX11_readTwo 71 = .ok (.aload_n 0, 1) := by decide +kernel
theorem dX11_readTwo_72 : decode cX11_readTwo 72 = .ok (.invokevirtual 208, 3) := by decide +kernel
theorem dX11_readTwo_75 : decode cX11_readTwo 75 = .ok (.aload_n 0, 1) := by decide +kernel
theorem dX11_readTwo_76 : decode cX11_readTwo 76 = .ok (.iload_n 1, 1) := by decide +kernel
theorem dX11_readTwo_77 : decode cX11_readTwo 77 = .ok (.bipush 60, 2) := by decide +kernel
theorem dX11_readTwo_79 : decode cX11_readTwo 79 = .ok (.if_icmp .ne 8, 3) := by decide +kernel
theorem dX11_readTwo_82 : decode cX11_readTwo 82 = .ok (.bipush 6, 2) := by decide +kernel
theorem dX11_readTwo_84 : decode cX11_readTwo 84 = .ok (.goto 16, 3) := by decide +kernel
theorem dX11_readTwo_87 : decode cX11_readTwo 87 = .ok (.iload_n 1, 1) := by decide +kernel
theorem dX11_readTwo_88 : decode cX11_readTwo 88 = .ok (.bipush 61, 2) := by decide +kernel
theorem dX11_readTwo_90 : decode cX11_readTwo 90 = .ok (.if_icmp .ne 8, 3) := by decide +kernel
theorem dX11_readTwo_93 : decode cX11_readTwo 93 = .ok (.bipush 7, 2) := by decide +kernel
theorem dX11_readTwo_95 : decode cX11_readTwo 95 = .ok (.goto 5, 3) := by decide +kernel
theorem dX11_readTwo_98 : decode cX11_readTwo 98 = .ok (.bipush 8, 2) := by decide +kernel
theorem dX11_readTwo_100 : decode cX11_readTwo 100 = .ok (.iconst 0, 1) := by decide +kernel
theorem dX11_readTwo_101 : decode cX11_readTwo 101 = .ok (.invokevirtual 217, 3) := by decide +kernel
theorem dX11_readTwo_104 : decode cX11_readTwo 104 = .ok (.return_, 1) := by decide +kernel
theorem dX11_goesOnWith_0 : decode cX11_goesOnWith 0 = .ok (.aload_n 0, 1) := by decide +kernel
theorem dX11_goesOnWith_1 : decode cX11_goesOnWith 1 = .ok (.iconst 2, 1) := by decide +kernel
theorem dX11_goesOnWith_2 : decode cX11_goesOnWith 2 = .ok (.invokevirtual 222, 3) := by decide +kernel
theorem dX11_goesOnWith_5 : decode cX11_goesOnWith 5 = .ok (.aload_n 0, 1) := by decide +kernel
theorem dX11_goesOnWith_6 : decode cX11_goesOnWith 6 = .ok (.invokevirtual 160, 3) := by decide +kernel
theorem dX11_goesOnWith_9 : decode cX11_goesOnWith 9 = .ok (.bipush 97, 2) := by decide +kernel
theorem dX11_goesOnWith_11 : decode cX11_goesOnWith 11 = .ok (.bipush 110, 2) := by decide +kernel
theorem dX11_goesOnWith_13 : decode cX11_goesOnWith 13 = .ok (.bipush 100, 2) := by decide +kernel
theorem dX11_goesOnWith_15 : decode cX11_goesOnWith 15 = .ok (.iconst 0, 1) := by decide +kernel
theorem dX11_goesOnWith_16 : decode cX11_goesOnWith 16 = .ok (.iconst 0, 1) := by decide +kernel
theorem dX11_goesOnWith_17 : decode cX11_goesOnWith 17 = .ok (.iconst 0, 1) := by decide +kernel
theorem dX11_goesOnWith_18 : decode cX11_goesOnWith 18 = .ok (.invokestatic 194, 3) := by decide +kernel
theorem dX11_goesOnWith_21 : decode cX11_goesOnWith 21 = .ok (.if_icmp .ne 21, 3) := by decide +kernel
theorem dX11_goesOnWith_24 : decode cX11_goesOnWith 24 = .ok (.aload_n 0, 1) := by decide +kernel
theorem dX11_goesOnWith_25 : decode cX11_goesOnWith 25 = .ok (.iconst 3, 1) := by decide +kernel
theorem dX11_goesOnWith_26 : decode cX11_goesOnWith 26 = .ok (.invokevirtual 222, 3) := by decide +kernel
theorem dX11_goesOnWith_29 : decode cX11_goesOnWith 29 = .ok (.aload_n 0, 1) := by decide +kernel
theorem dX11_goesOnWith_30 : decode cX11_goesOnWith 30 = .ok (.getfield 32, 3) := by decide +kernel
theorem dX11_goesOnWith_33 : decode cX11_goesOnWith 33 = .ok (.aload_n 0, 1) := by decide +kernel
theorem dX11_goesOnWith_34 : decode cX11_goesOnWith 34 = .ok (.getfield 214, 3) := by decide +kernel
theorem dX11_goesOnWith_37 : decode cX11_goesOnWith 37 = .ok (.iconst 3, 1) := by decide +kernel
theorem dX11_goesOnWith_38 : decode cX11_goesOnWith 38 = .ok (.iastore, 1) := by decide +kernel
theorem dX11_goesOnWith_39 : decode cX11_goesOnWith 39 = .ok (.goto 56, 3) := by decide +kernel
theorem dX11_goesOnWith_42 : decode cX11_goesOnWith 42 = .ok (.aload_n 0, 1) := by decide +kernel
theorem dX11_goesOnWith_43 : decode cX11_goesOnWith 43 = .ok (.invokevirtual 160, 3) := by decide +kernel
theorem dX11_goesOnWith_46 : decode cX11_goesOnWith 46 = .ok (.bipush 111, 2) := by decide +kernel
theorem dX11_goesOnWith_48 : decode cX11_goesOnWith 48 = .ok (.bipush 114, 2) := by decide +kernel
theorem dX11_goesOnWith_50 : decode cX11_goesOnWith 50 = .ok (.iconst 0, 1) := by decide +kernel
theorem dX11_goesOnWith_51 : decode cX11_goesOnWith 51 = .ok (.iconst 0, 1) := by decide +kernel
theorem dX11_goesOnWith_52 : decode cX11_goesOnWith 52 = .ok (.iconst 0, 1) := by decide +kernel
theorem dX11_goesOnWith_53 : decode cX11_goesOnWith 53 = .ok (.iconst 0, 1) := by decide +kernel
theorem dX11_goesOnWith_54 : decode cX11_goesOnWith 54 = .ok (.invokestatic 194, 3) := by decide +kernel
theorem dX11_goesOnWith_57 : decode cX11_goesOnWith 57 = .ok (.if_icmp .ne 26, 3) := by decide +kernel
theorem dX11_goesOnWith_60 : decode cX11_goesOnWith 60 = .ok (.aload_n 0, 1) := by decide +kernel
theorem dX11_goesOnWith_61 : decode cX11_goesOnWith 61 = .ok (.iconst 3, 1) := by decide +kernel
theorem dX11_goesOnWith_62 : decode cX11_goesOnWith 62 = .ok (.invokevirtual 222, 3) := by decide +kernel
theorem dX11_goesOnWith_65 : decode cX11_goesOnWith 65 = .ok (.aload_n 0, 1) := by decide +kernel
theorem dX11_goesOnWith_66 : decode cX11_goesOnWith 66 = .ok (.iconst 4, 1) := by decide +kernel
theorem dX11_goesOnWith_67 : decode cX11_goesOnWith 67 = .ok (.invokevirtual 222, 3) := by decide +kernel
theorem dX11_goesOnWith_70 : decode cX11_goesOnWith 70 = .ok (.aload_n 0, 1) := by decide +kernel
theorem dX11_goesOnWith_71 : decode cX11_goesOnWith 71 = .ok (.getfield 32, 3) := by decide +kernel
theorem dX11_goesOnWith_74 : decode cX11_goesOnWith 74 = .ok (.aload_n 0, 1) := by decide +kernel
theorem dX11_goesOnWith_75 : decode cX11_goesOnWith 75 = .ok (.getfield 214, 3) := by decide +kernel
theorem dX11_goesOnWith_78 : decode cX11_goesOnWith 78 = .ok (.iconst 4, 1) := by decide +kernel
theorem dX11_goesOnWith_79 : decode cX11_goesOnWith 79 = .ok (.iastore, 1) := by decide +kernel
theorem dX11_goesOnWith_80 : decode cX11_goesOnWith 80 = .ok (.goto 15, 3) := by decide +kernel
theorem dX11_goesOnWith_83 : decode cX11_goesOnWith 83 = .ok (.aload_n 0, 1) := by decide +kernel
theorem dX11_goesOnWith_84 : decode cX11_goesOnWith 84 = .ok (.iconst 3, 1) := by decide +kernel
theorem dX11_goesOnWith_85 : decode cX11_goesOnWith 85 = .ok (.invokevirtual 222, 3) := by decide +kernel
theorem dX11_goesOnWith_88 : decode cX11_goesOnWith 88 = .ok (.aload_n 0, 1) := by decide +kernel
theorem dX11_goesOnWith_89 : decode cX11_goesOnWith 89 = .ok (.iconst 4, 1) := by decide +kernel
theorem dX11_goesOnWith_90 : decode cX11_goesOnWith 90 = .ok (.invokevirtual 222, 3) := by decide +kernel
theorem dX11_goesOnWith_93 : decode cX11_goesOnWith 93 = .ok (.iconst 0, 1) := by decide +kernel
theorem dX11_goesOnWith_94 : decode cX11_goesOnWith 94 = .ok (.ireturn, 1) := by decide +kernel
theorem dX11_goesOnWith_95 : decode cX11_goesOnWith 95 = .ok (.aload_n 0, 1) := by decide +kernel
theorem dX11_goesOnWith_96 : decode cX11_goesOnWith 96 = .ok (.invokevirtual 163, 3) := by decide +kernel
theorem dX11_goesOnWith_99 : decode cX11_goesOnWith 99 = .ok (.aload_n 0, 1) := by decide +kernel
theorem dX11_goesOnWith_100 : decode cX11_goesOnWith 100 = .ok (.dup, 1) := by decide +kernel
theorem dX11_goesOnWith_101 : decode cX11_goesOnWith 101 = .ok (.getfield 214, 3) := by decide +kernel
theorem dX11_goesOnWith_104 : decode cX11_goesOnWith 104 = .ok (.iconst 1, 1) := by decide +kernel
theorem dX11_goesOnWith_105 : decode cX11_goesOnWith 105 = .ok (.iadd, 1) := by decide +kernel
theorem dX11_goesOnWith_106 : decode cX11_goesOnWith 106 = .ok (.putfield 214, 3) := by decide +kernel
theorem dX11_goesOnWith_109 : decode cX11_goesOnWith 109 = .ok (.iconst 1, 1) := by decide +kernel
theorem dX11_goesOnWith_110 : decode cX11_goesOnWith 110 = .ok (.ireturn, 1) := by decide +kernel
theorem dX11_readEither_0 : decode cX11_readEither 0 = .ok (.aload_n 0, 1) := by decide +kernel
theorem dX11_readEither_1 : decode cX11_readEither 1 = .ok (.iconst 0, 1) := by decide +kernel
theorem dX11_readEither_2 : decode cX11_readEither 2 = .ok (.putfield 214, 3) := by decide +kernel
theorem dX11_readEither_5 : decode cX11_readEither 5 = .ok (.iconst 1, 1) := by decide +kernel
theorem dX11_readEither_6 : decode cX11_readEither 6 = .ok (.istore_n 1, 1) := by decide +kernel
theorem dX11_readEither_7 : decode cX11_readEither 7 = .ok (.iload_n 1, 1) := by decide +kernel
theorem dX11_readEither_8 : decode cX11_readEither 8 = .ok (.ifCond .eq 105, 3) := by decide +kernel
theorem dX11_readEither_11 : decode cX11_readEither 11 = .ok (.aload_n 0, 1) := by decide +kernel
theorem dX11_readEither_12 : decode cX11_readEither 12 = .ok (.invokevirtual 149, 3) := by decide +kernel
theorem dX11_readEither_15 : decode cX11_readEither 15 = .ok (.ifCond .eq 98, 3) := by decide +kernel
theorem dX11_readEither_18 : decode cX11_readEither 18 = .ok (.aload_n 0, 1) := by decide +kernel
theorem dX11_readEither_19 : decode cX11_readEither 19 = .ok (.invokevirtual 225, 3) := by decide +kernel
theorem dX11_readEither_22 : decode cX11_readEither 22 = .ok (.aload_n 0, 1) := by decide +kernel
theorem dX11_readEither_23 : decode cX11_readEither 23 = .ok (.invokevirtual 228, 3) := by decide +kernel
theorem dX11_readEither_26 : decode cX11_readEither 26 = .ok (.aload_n 0, 1) := by decide +kernel
theorem dX11_readEither_27 : decode cX11_readEither 27 = .ok (.invokevirtual 149, 3) := by decide +kernel
theorem dX11_readEither_30 : decode cX11_readEither 30 = .ok (.ifCond .eq 14, 3) := by decide +kernel
theorem dX11_readEither_33 : decode cX11_readEither 33 = .ok (.aload_n 0, 1) := by decide +kernel
theorem dX11_readEither_34 : decode cX11_readEither 34 = .ok (.invokevirtual 231, 3) := by decide +kernel
theorem dX11_readEither_37 : decode cX11_readEither 37 = .ok (.ifCond .eq 7, 3) := by decide +kernel
theorem dX11_readEither_40 : decode cX11_readEither 40 = .ok (.iconst 1, 1) := by decide +kernel
theorem dX11_readEither_41 : decode cX11_readEither 41 = .ok (.goto 4, 3) := by decide +kernel
theorem dX11_readEither_44 : decode cX11_readEither 44 = .ok (.iconst 0, 1) := by decide +kernel
theorem dX11_readEither_45 : decode cX11_readEither 45 = .ok (.istore_n 1, 1) := by decide +kernel
theorem dX11_readEither_46 : decode cX11_readEither 46 = .ok (.iload_n 1, 1) := by decide +kernel
theorem dX11_readEither_47 : decode cX11_readEither 47 = .ok (.ifCond .ne (-40), 3) := by decide +kernel
theorem dX11_readEither_50 : decode cX11_readEither 50 = .ok (.aload_n 0, 1) := by decide +kernel
theorem dX11_readEither_51 : decode cX11_readEither 51 = .ok (.invokevirtual 149, 3) := by decide +kernel
theorem dX11_readEither_54 : decode cX11_readEither 54 = .ok (.ifCond .eq (-47), 3) := by decide +kernel
theorem dX11_readEither_57 : decode cX11_readEither 57 = .ok (.aload_n 0, 1) := by decide +kernel
theorem dX11_readEither_58 : decode cX11_readEither 58 = .ok (.getfield 214, 3) := by decide +kernel
theorem dX11_readEither_61 : decode cX11_readEither 61 = .ok (.ifCond .le (-54), 3) := by decide +kernel
theorem dX11_readEither_64 : decode cX11_readEither 64 = .ok (.aload_n 0, 1) := by decide +kernel
theorem dX11_readEither_65 : decode cX11_readEither 65 = .ok (.bipush 41, 2) := by decide +kernel
theorem dX11_readEither_67 : decode cX11_readEither 67 = .ok (.invokevirtual 188, 3) := by decide +kernel
theorem dX11_readEither_70 : decode cX11_readEither 70 = .ok (.aload_n 0, 1) := by decide +kernel
theorem dX11_readEither_71 : decode cX11_readEither 71 = .ok (.dup, 1) := by decide +kernel
theorem dX11_readEither_72 : decode cX11_readEither 72 = .ok (.getfield 214, 3) := by decide +kernel
theorem dX11_readEither_75 : decode cX11_readEither 75 = .ok (.iconst 1, 1) := by decide +kernel
theorem dX11_readEither_76 : decode cX11_readEither 76 = .ok (.isub, 1) := by decide +kernel
theorem dX11_readEither_77 : decode cX11_readEither 77 = .ok (.putfield 214, 3) := by decide +kernel
theorem dX11_readEither_80 : decode cX11_readEither 80 = .ok (.aload_n 0, 1) := by decide +kernel
theorem dX11_readEither_81 : decode cX11_readEither 81 = .ok (.dup, 1) := by decide +kernel
theorem dX11_readEither_82 : decode cX11_readEither 82 = .ok (.getfield 166, 3) := by decide +kernel
theorem dX11_readEither_85 : decode cX11_readEither 85 = .ok (.iconst 1, 1) := by decide +kernel
theorem dX11_readEither_86 : decode cX11_readEither 86 = .ok (.isub, 1) := by decide +kernel
theorem dX11_readEither_87 : decode cX11_readEither 87 = .ok (.putfield 166, 3) := by decide +kernel
theorem dX11_readEither_90 : decode cX11_readEither 90 = .ok (.aload_n 0, 1) := by decide +kernel
theorem dX11_readEither_91 : decode cX11_readEither 91 = .ok (.invokevirtual 149, 3) := by decide +kernel
theorem dX11_readEither_94 : decode cX11_readEither 94 = .ok (.ifCond .eq 14, 3) := by decide +kernel
theorem dX11_readEither_97 : decode cX11_readEither 97 = .ok (.aload_n 0, 1) := by decide +kernel
theorem dX11_readEither_98 : decode cX11_readEither 98 = .ok (.invokevirtual 231, 3) := by decide +kernel
theorem dX11_readEither_101 : decode cX11_readEither 101 = .ok (.ifCond .eq 7, 3) := by decide +kernel
theorem dX11_readEither_104 : decode cX11_readEither 104 = .ok (.iconst 1, 1) := by decide +kernel
theorem dX11_readEither_105 : decode cX11_readEither 105 = .ok (.goto 4, 3) := by decide +kernel
theorem dX11_readEither_108 : decode cX11_readEither 108 = .ok (.iconst 0, 1) := by decide +kernel
theorem dX11_readEither_109 : decode cX11_readEither 109 = .ok (.istore_n 1, 1) := by decide +kernel
theorem dX11_readEither_110 : decode cX11_readEither 110 = .ok (.goto (-64), 3) := by decide +kernel
theorem dX11_readEither_113 : decode cX11_readEither 113 = .ok (.return_, 1) := by decide +kernel
theorem dX11_readSum_0 : decode cX11_readSum 0 = .ok (.aload_n 0, 1) := by decide +kernel
theorem dX11_readSum_1 : decode cX11_readSum 1 = .ok (.invokevirtual 234, 3) := by decide +kernel
theorem dX11_readSum_4 : decode cX11_readSum 4 = .ok (.aload_n 0, 1) := by decide +kernel
theorem dX11_readSum_5 : decode cX11_readSum 5 = .ok (.invokevirtual 149, 3) := by decide +kernel
theorem dX11_readSum_8 : decode cX11_readSum 8 = .ok (.ifCond .eq 59, 3) := by decide +kernel
theorem dX11_readSum_11 : decode cX11_readSum 11 = .ok (.aload_n 0, 1) := by decide +kernel
theorem dX11_readSum_12 : decode cX11_readSum 12 = .ok (.invokevirtual 138, 3) := by decide +kernel
theorem dX11_readSum_15 : decode cX11_readSum 15 = .ok (.bipush 43, 2) := by decide +kernel
theorem dX11_readSum_17 : decode cX11_readSum 17 = .ok (.if_icmp .eq 12, 3) := by decide +kernel
theorem dX11_readSum_20 : decode cX11_readSum 20 = .ok (.aload_n 0, 1) := by decide +kernel
theorem dX11_readSum_21 : decode cX11_readSum 21 = .ok (.invokevirtual 138, 3) := by decide +kernel
theorem dX11_readSum_24 : decode cX11_readSum 24 = .ok (.bipush 45, 2) := by decide +kernel
theorem dX11_readSum_26 : decode cX11_readSum 26 = .ok (.if_icmp .ne 41, 3) := by decide +kernel
theorem dX11_readSum_29 : decode cX11_readSum 29 = .ok (.aload_n 0, 1) := by decide +kernel
theorem dX11_readSum_30 : decode cX11_readSum 30 = .ok (.invokevirtual 138, 3) := by decide +kernel
theorem dX11_readSum_33 : decode cX11_readSum 33 = .ok (.bipush 43, 2) := by decide +kernel
theorem dX11_readSum_35 : decode cX11_readSum 35 = .ok (.if_icmp .ne 7, 3) := by decide +kernel
theorem dX11_readSum_38 : decode cX11_readSum 38 = .ok (.iconst 2, 1) := by decide +kernel
theorem dX11_readSum_39 : decode cX11_readSum 39 = .ok (.goto 4, 3) := by decide +kernel
theorem dX11_readSum_42 : decode cX11_readSum 42 = .ok (.iconst 3, 1) := by decide +kernel
theorem dX11_readSum_43 : decode cX11_readSum 43 = .ok (.istore_n 1, 1) := by decide +kernel
theorem dX11_readSum_44 : decode cX11_readSum 44 = .ok (.aload_n 0, 1) := by decide +kernel
theorem dX11_readSum_45 : decode cX11_readSum 45 = .ok (.dup, 1) := by decide +kernel
theorem dX11_readSum_46 : decode cX11_readSum 46 = .ok (.getfield 132, 3) := by decide +kernel
theorem dX11_readSum_49 : decode cX11_readSum 49 = .ok (.iconst 1, 1) := by decide +kernel
theorem dX11_readSum_50 : decode cX11_readSum 50 = .ok (.iadd, 1) := by decide +kernel
theorem dX11_readSum_51 : decode cX11_readSum 51 = .ok (.putfield 132, 3) := by decide +kernel
theorem dX11_readSum_54 : decode cX11_readSum 54 = .ok (.aload_n 0, 1) := by decide +kernel
theorem dX11_readSum_55 : decode cX11_readSum 55 = .ok (.invokevirtual 234, 3) := by decide +kernel
theorem dX11_readSum_58 : decode cX11_readSum 58 = .ok (.aload_n 0, 1) := by decide +kernel
theorem dX11_readSum_59 : decode cX11_readSum 59 = .ok (.iload_n 1, 1) := by decide +kernel
theorem dX11_readSum_60 : decode cX11_readSum 60 = .ok (.iconst 0, 1) := by decide +kernel
theorem dX11_readSum_61 : decode cX11_readSum 61 = .ok (.invokevirtual 217, 3) := by decide +kernel
theorem dX11_readSum_64 : decode cX11_readSum 64 = .ok (.goto (-60), 3) := by decide +kernel
theorem dX11_readSum_67 : decode cX11_readSum 67 = .ok (.return_, 1) := by decide +kernel
theorem dX11_readPart_0 : decode cX11_readPart 0 = .ok (.aload_n 0, 1) := by decide +kernel
theorem dX11_readPart_1 : decode cX11_readPart 1 = .ok (.invokevirtual 237, 3) := by decide +kernel
theorem dX11_readPart_4 : decode cX11_readPart 4 = .ok (.aload_n 0, 1) := by decide +kernel
theorem dX11_readPart_5 : decode cX11_readPart 5 = .ok (.invokevirtual 149, 3) := by decide +kernel
theorem dX11_readPart_8 : decode cX11_readPart 8 = .ok (.ifCond .eq 79, 3) := by decide +kernel
theorem dX11_readPart_11 : decode cX11_readPart 11 = .ok (.aload_n 0, 1) := by decide +kernel
theorem dX11_readPart_12 : decode cX11_readPart 12 = .ok (.invokevirtual 138, 3) := by decide +kernel
theorem dX11_readPart_15 : decode cX11_readPart 15 = .ok (.bipush 42, 2) := by decide +kernel
theorem dX11_readPart_17 : decode cX11_readPart 17 = .ok (.if_icmp .eq 12, 3) := by decide +kernel
theorem dX11_readPart_20 : decode cX11_readPart 20 = .ok (.aload_n 0, 1) := by decide +kernel
theorem dX11_readPart_21 : decode cX11_readPart 21 = .ok (.invokevirtual 138, 3) := by decide +kernel
theorem dX11_readPart_24 : decode cX11_readPart 24 = .ok (.bipush 47, 2) := by decide +kernel
theorem dX11_readPart_26 : decode cX11_readPart 26 = .ok (.if_icmp .ne 61, 3) := by decide +kernel
theorem dX11_readPart_29 : decode cX11_readPart 29 = .ok (.aload_n 0, 1) := by decide +kernel
theorem dX11_readPart_30 : decode cX11_readPart 30 = .ok (.invokevirtual 138, 3) := by decide +kernel
theorem dX11_readPart_33 : decode cX11_readPart 33 = .ok (.bipush 47, 2) := by decide +kernel
theorem dX11_readPart_35 : decode cX11_readPart 35 = .ok (.if_icmp .ne 7, 3) := by decide +kernel
theorem dX11_readPart_38 : decode cX11_readPart 38 = .ok (.iconst 1, 1) := by decide +kernel
theorem dX11_readPart_39 : decode cX11_readPart 39 = .ok (.goto 4, 3) := by decide +kernel
theorem dX11_readPart_42 : decode cX11_readPart 42 = .ok (.iconst 0, 1) := by decide +kernel
theorem dX11_readPart_43 : decode cX11_readPart 43 = .ok (.istore_n 1, 1) := by decide +kernel
theorem dX11_readPart_44 : decode cX11_readPart 44 = .ok (.aload_n 0, 1) := by decide +kernel
theorem dX11_readPart_45 : decode cX11_readPart 45 = .ok (.dup, 1) := by decide +kernel
theorem dX11_readPart_46 : decode cX11_readPart 46 = .ok (.getfield 132, 3) := by decide +kernel
theorem dX11_readPart_49 : decode cX11_readPart 49 = .ok (.iconst 1, 1) := by decide +kernel
theorem dX11_readPart_50 : decode cX11_readPart 50 = .ok (.iadd, 1) := by decide +kernel
theorem dX11_readPart_51 : decode cX11_readPart 51 = .ok (.putfield 132, 3) := by decide +kernel
theorem dX11_readPart_54 : decode cX11_readPart 54 = .ok (.iload_n 1, 1) := by decide +kernel
theorem dX11_readPart_55 : decode cX11_readPart 55 = .ok (.ifCond .eq 19, 3) := by decide +kernel
theorem dX11_readPart_58 : decode cX11_readPart 58 = .ok (.aload_n 0, 1) := by decide +kernel
theorem dX11_readPart_59 : decode cX11_readPart 59 = .ok (.iconst 5, 1) := by decide +kernel
theorem dX11_readPart_60 : decode cX11_readPart 60 = .ok (.aload_n 0, 1) := by decide +kernel
theorem dX11_readPart_61 : decode cX11_readPart 61 = .ok (.iconst 1, 1) := by decide +kernel
theorem dX11_readPart_62 : decode cX11_readPart 62 = .ok (.sipush 9999, 3) := by decide +kernel
theorem dX11_readPart_65 : decode cX11_readPart 65 = .ok (.invokevirtual 202, 3) := by decide +kernel
theorem dX11_readPart_68 : decode cX11_readPart 68 = .ok (.invokevirtual 217, 3) := by decide +kernel
theorem dX11_readPart_71 : decode cX11_readPart 71 = .ok (.goto 13, 3) := by decide +kernel
theorem dX11_readPart_74 : decode cX11_readPart 74 = .ok (.aload_n 0, 1) := by decide +kernel
theorem dX11_readPart_75 : decode cX11_readPart 75 = .ok (.invokevirtual 237, 3) := by decide +kernel
theorem dX11_readPart_78 : decode cX11_readPart 78 = .ok (.aload_n 0, 1) := by decide +kernel
theorem dX11_readPart_79 : decode cX11_readPart 79 = .ok (.iconst 4, 1) := by decide +kernel
theorem dX11_readPart_80 : decode cX11_readPart 80 = .ok (.iconst 0, 1) := by decide +kernel
theorem dX11_readPart_81 : decode cX11_readPart 81 = .ok (.invokevirtual 217, 3) := by decide +kernel
theorem dX11_readPart_84 : decode cX11_readPart 84 = .ok (.goto (-80), 3) := by decide +kernel
theorem dX11_readPart_87 : decode cX11_readPart 87 = .ok (.return_, 1) := by decide +kernel
theorem dX11_factOf_0 : decode cX11_factOf 0 = .ok (.iload_n 0, 1) := by decide +kernel
theorem dX11_factOf_1 : decode cX11_factOf 1 = .ok (.bipush 104, 2) := by decide +kernel
theorem dX11_factOf_3 : decode cX11_factOf 3 = .ok (.bipush 97, 2) := by decide +kernel
theorem dX11_factOf_5 : decode cX11_factOf 5 = .ok (.bipush 115, 2) := by decide +kernel
theorem dX11_factOf_7 : decode cX11_factOf 7 = .ok (.bipush 116, 2) := by decide +kernel
theorem dX11_factOf_9 : decode cX11_factOf 9 = .ok (.bipush 101, 2) := by decide +kernel
theorem dX11_factOf_11 : decode cX11_factOf 11 = .ok (.iconst 0, 1) := by decide +kernel
theorem dX11_factOf_12 : decode cX11_factOf 12 = .ok (.invokestatic 194, 3) := by decide +kernel
theorem dX11_factOf_15 : decode cX11_factOf 15 = .ok (.if_icmp .ne 7, 3) := by decide +kernel
theorem dX11_factOf_18 : decode cX11_factOf 18 = .ok (.iconst 0, 1) := by decide +kernel
theorem dX11_factOf_19 : decode cX11_factOf 19 = .ok (.goto 200, 3) := by decide +kernel
theorem dX11_factOf_22 : decode cX11_factOf 22 = .ok (.iload_n 0, 1) := by decide +kernel
theorem dX11_factOf_23 : decode cX11_factOf 23 = .ok (.bipush 116, 2) := by decide +kernel
theorem dX11_factOf_25 : decode cX11_factOf 25 = .ok (.bipush 117, 2) := by decide +kernel
theorem dX11_factOf_27 : decode cX11_factOf 27 = .ok (.bipush 114, 2) := by decide +kernel
theorem dX11_factOf_29 : decode cX11_factOf 29 = .ok (.bipush 110, 2) := by decide +kernel
theorem dX11_factOf_31 : decode cX11_factOf 31 = .ok (.bipush 115, 2) := by decide +kernel
theorem dX11_factOf_33 : decode cX11_factOf 33 = .ok (.iconst 0, 1) := by decide +kernel
theorem dX11_factOf_34 : decode cX11_factOf 34 = .ok (.invokestatic 194, 3) := by decide +kernel
theorem dX11_factOf_37 : decode cX11_factOf 37 = .ok (.if_icmp .ne 7, 3) := by decide +kernel
theorem dX11_factOf_40 : decode cX11_factOf 40 = .ok (.iconst 1, 1) := by decide +kernel
theorem dX11_factOf_41 : decode cX11_factOf 41 = .ok (.goto 178, 3) := by decide +kernel
theorem dX11_factOf_44 : decode cX11_factOf 44 = .ok (.iload_n 0, 1) := by decide +kernel
theorem dX11_factOf_45 : decode cX11_factOf 45 = .ok (.bipush 115, 2) := by decide +kernel
theorem dX11_factOf_47 : decode cX11_factOf 47 = .ok (.bipush 105, 2) := by decide +kernel
theorem dX11_factOf_49 : decode cX11_factOf 49 = .ok (.bipush 103, 2) := by decide +kernel
theorem dX11_factOf_51 : decode cX11_factOf 51 = .ok (.bipush 110, 2) := by decide +kernel
theorem dX11_factOf_53 : decode cX11_factOf 53 = .ok (.bipush 115, 2) := by decide +kernel
theorem dX11_factOf_55 : decode cX11_factOf 55 = .ok (.iconst 0, 1) := by decide +kernel
theorem dX11_factOf_56 : decode cX11_factOf 56 = .ok (.invokestatic 194, 3) := by decide +kernel
theorem dX11_factOf_59 : decode cX11_factOf 59 = .ok (.if_icmp .ne 7, 3) := by decide +kernel
theorem dX11_factOf_62 : decode cX11_factOf 62 = .ok (.iconst 2, 1) := by decide +kernel
theorem dX11_factOf_63 : decode cX11_factOf 63 = .ok (.goto 156, 3) := by decide +kernel
theorem dX11_factOf_66 : decode cX11_factOf 66 = .ok (.iload_n 0, 1) := by decide +kernel
theorem dX11_factOf_67 : decode cX11_factOf 67 = .ok (.bipush 120, 2) := by decide +kernel
theorem dX11_factOf_69 : decode cX11_factOf 69 = .ok (.iconst 0, 1) := by decide +kernel
theorem dX11_factOf_70 : decode cX11_factOf 70 = .ok (.iconst 0, 1) := by decide +kernel
theorem dX11_factOf_71 : decode cX11_factOf 71 = .ok (.iconst 0, 1) := by decide +kernel
theorem dX11_factOf_72 : decode cX11_factOf 72 = .ok (.iconst 0, 1) := by decide +kernel
theorem dX11_factOf_73 : decode cX11_factOf 73 = .ok (.iconst 0, 1) := by decide +kernel
theorem dX11_factOf_74 : decode cX11_factOf 74 = .ok (.invokestatic 194, 3) := by decide +kernel
theorem dX11_factOf_77 : decode cX11_factOf 77 = .ok (.if_icmp .ne 7, 3) := by decide +kernel
theorem dX11_factOf_80 : decode cX11_factOf 80 = .ok (.iconst 3, 1) := by decide +kernel
theorem dX11_factOf_81 : decode cX11_factOf 81 = .ok (.goto 138, 3) := by decide +kernel
theorem dX11_factOf_84 : decode cX11_factOf 84 = .ok (.iload_n 0, 1) := by decide +kernel
theorem dX11_factOf_85 : decode cX11_factOf 85 = .ok (.bipush 121, 2) := by decide +kernel
theorem dX11_factOf_87 : decode cX11_factOf 87 = .ok (.iconst 0, 1) := by decide +kernel
theorem dX11_factOf_88 : decode cX11_factOf 88 = .ok (.iconst 0, 1) := by decide +kernel
theorem dX11_factOf_89 : decode cX11_factOf 89 = .ok (.iconst 0, 1) := by decide +kernel
theorem dX11_factOf_90 : decode cX11_factOf 90 = .ok (.iconst 0, 1) := by decide +kernel
theorem dX11_factOf_91 : decode cX11_factOf 91 = .ok (.iconst 0, 1) := by decide +kernel
theorem dX11_factOf_92 : decode cX11_factOf 92 = .ok (.invokestatic 194, 3) := by decide +kernel
theorem dX11_factOf_95 : decode cX11_factOf 95 = .ok (.if_icmp .ne 7, 3) := by decide +kernel
theorem dX11_factOf_98 : decode cX11_factOf 98 = .ok (.iconst 4, 1) := by decide +kernel
theorem dX11_factOf_99 : decode cX11_factOf 99 = .ok (.goto 120, 3) := by decide +kernel
theorem dX11_factOf_102 : decode cX11_factOf 102 = .ok (.iload_n 0, 1) := by decide +kernel
theorem dX11_factOf_103 : decode cX11_factOf 103 = .ok (.bipush 102, 2) := by decide +kernel
theorem dX11_factOf_105 : decode cX11_factOf 105 = .ok (.bipush 97, 2) := by decide +kernel
theorem dX11_factOf_107 : decode cX11_factOf 107 = .ok (.bipush 99, 2) := by decide +kernel
theorem dX11_factOf_109 : decode cX11_factOf 109 = .ok (.bipush 105, 2) := by decide +kernel
theorem dX11_factOf_111 : decode cX11_factOf 111 = .ok (.bipush 110, 2) := by decide +kernel
theorem dX11_factOf_113 : decode cX11_factOf 113 = .ok (.bipush 103, 2) := by decide +kernel
theorem dX11_factOf_115 : decode cX11_factOf 115 = .ok (.invokestatic 194, 3) := by decide +kernel
theorem dX11_factOf_118 : decode cX11_factOf 118 = .ok (.if_icmp .ne 7, 3) := by decide +kernel
theorem dX11_factOf_121 : decode cX11_factOf 121 = .ok (.iconst 5, 1) := by decide +kernel
theorem dX11_factOf_122 : decode cX11_factOf 122 = .ok (.goto 97, 3) := by decide +kernel
theorem dX11_factOf_125 : decode cX11_factOf 125 = .ok (.iload_n 0, 1) := by decide +kernel
theorem dX11_factOf_126 : decode cX11_factOf 126 = .ok (.bipush 115, 2) := by decide +kernel
theorem dX11_factOf_128 : decode cX11_factOf 128 = .ok (.bipush 110, 2) := by decide +kernel
theorem dX11_factOf_130 : decode cX11_factOf 130 = .ok (.bipush 111, 2) := by decide +kernel
theorem dX11_factOf_132 : decode cX11_factOf 132 = .ok (.bipush 119, 2) := by decide +kernel
theorem dX11_factOf_134 : decode cX11_factOf 134 = .ok (.iconst 0, 1) := by decide +kernel
theorem dX11_factOf_135 : decode cX11_factOf 135 = .ok (.iconst 0, 1) := by decide +kernel
theorem dX11_factOf_136 : decode cX11_factOf 136 = .ok (.invokestatic 194, 3) := by decide +kernel
theorem dX11_factOf_139 : decode cX11_factOf 139 = .ok (.if_icmp .ne 8, 3) := by decide +kernel
theorem dX11_factOf_142 : decode cX11_factOf 142 = .ok (.bipush 6, 2) := by decide +kernel
theorem dX11_factOf_144 : decode cX11_factOf 144 = .ok (.goto 75, 3) := by decide +kernel
theorem dX11_factOf_147 : decode cX11_factOf 147 = .ok (.iload_n 0, 1) := by decide +kernel
theorem dX11_factOf_148 : decode cX11_factOf 148 = .ok (.bipush 105, 2) := by decide +kernel
theorem dX11_factOf_150 : decode cX11_factOf 150 = .ok (.bipush 110, 2) := by decide +kernel
theorem dX11_factOf_152 : decode cX11_factOf 152 = .ok (.bipush 115, 2) := by decide +kernel
theorem dX11_factOf_154 : decode cX11_factOf 154 = .ok (.bipush 105, 2) := by decide +kernel
theorem dX11_factOf_156 : decode cX11_factOf 156 = .ok (.bipush 100, 2) := by decide +kernel
theorem dX11_factOf_158 : decode cX11_factOf 158 = .ok (.bipush 101, 2) := by decide +kernel
theorem dX11_factOf_160 : decode cX11_factOf 160 = .ok (.invokestatic 194, 3) := by decide +kernel
theorem dX11_factOf_163 : decode cX11_factOf 163 = .ok (.if_icmp .ne 8, 3) := by decide +kernel
theorem dX11_factOf_166 : decode cX11_factOf 166 = .ok (.bipush 7, 2) := by decide +kernel
theorem dX11_factOf_168 : decode cX11_factOf 168 = .ok (.goto 51, 3) := by decide +kernel
theorem dX11_factOf_171 : decode cX11_factOf 171 = .ok (.iload_n 0, 1) := by decide +kernel
theorem dX11_factOf_172 : decode cX11_factOf 172 = .ok (.bipush 119, 2) := by decide +kernel
theorem dX11_factOf_174 : decode cX11_factOf 174 = .ok (.bipush 97, 2) := by decide +kernel
theorem dX11_factOf_176 : decode cX11_factOf 176 = .ok (.bipush 116, 2) := by decide +kernel
theorem dX11_factOf_178 : decode cX11_factOf 178 = .ok (.bipush 99, 2) := by decide +kernel
theorem dX11_factOf_180 : decode cX11_factOf 180 = .ok (.bipush 104, 2) := by decide +kernel
theorem dX11_factOf_182 : decode cX11_factOf 182 = .ok (.iconst 0, 1) := by decide +kernel
theorem dX11_factOf_183 : decode cX11_factOf 183 = .ok (.invokestatic 194, 3) := by decide +kernel
theorem dX11_factOf_186 : decode cX11_factOf 186 = .ok (.if_icmp .ne 8, 3) := by decide +kernel
theorem dX11_factOf_189 : decode cX11_factOf 189 = .ok (.bipush 8, 2) := by decide +kernel
theorem dX11_factOf_191 : decode cX11_factOf 191 = .ok (.goto 28, 3) := by decide +kernel
theorem dX11_factOf_194 : decode cX11_factOf 194 = .ok (.iload_n 0, 1) := by decide +kernel
theorem dX11_factOf_195 : decode cX11_factOf 195 = .ok (.bipush 109, 2) := by decide +kernel
theorem dX11_factOf_197 : decode cX11_factOf 197 = .ok (.bipush 105, 2) := by decide +kernel
theorem dX11_factOf_199 : decode cX11_factOf 199 = .ok (.bipush 110, 2) := by decide +kernel
theorem dX11_factOf_201 : decode cX11_factOf 201 = .ok (.bipush 117, 2) := by decide +kernel
theorem dX11_factOf_203 : decode cX11_factOf 203 = .ok (.bipush 116, 2) := by decide +kernel
theorem dX11_factOf_205 : decode cX11_factOf 205 = .ok (.bipush 101, 2) := by decide +kernel
theorem dX11_factOf_207 : decode cX11_factOf 207 = .ok (.invokestatic 194, 3) := by decide +kernel
theorem dX11_factOf_210 : decode cX11_factOf 210 = .ok (.if_icmp .ne 8, 3) := by decide +kernel
theorem dX11_factOf_213 : decode cX11_factOf 213 = .ok (.bipush 9, 2) := by decide +kernel
theorem dX11_factOf_215 : decode cX11_factOf 215 = .ok (.goto 4, 3) := by decide +kernel
theorem dX11_factOf_218 : decode cX11_factOf 218 = .ok (.iconst (-1), 1) := by decide +kernel
theorem dX11_factOf_219 : decode cX11_factOf 219 = .ok (.ireturn, 1) := by decide +kernel
theorem dX11_readUnit_0 : decode cX11_readUnit 0 = .ok (.aload_n 0, 1) := by decide +kernel
theorem dX11_readUnit_1 : decode cX11_readUnit 1 = .ok (.invokevirtual 149, 3) := by decide +kernel
theorem dX11_readUnit_4 : decode cX11_readUnit 4 = .ok (.ifCond .ne 4, 3) := by decide +kernel
theorem dX11_readUnit_7 : decode cX11_readUnit 7 = .ok (.return_, 1) := by decide +kernel
theorem dX11_readUnit_8 : decode cX11_readUnit 8 = .ok (.aload_n 0, 1) := by decide +kernel
theorem dX11_readUnit_9 : decode cX11_readUnit 9 = .ok (.invokevirtual 138, 3) := by decide +kernel
theorem dX11_readUnit_12 : decode cX11_readUnit 12 = .ok (.invokestatic 153, 3) := by decide +kernel
theorem dX11_readUnit_15 : decode cX11_readUnit 15 = .ok (.ifCond .eq 17, 3) := by decide +kernel
theorem dX11_readUnit_18 : decode cX11_readUnit 18 = .ok (.aload_n 0, 1) := by decide +kernel
theorem dX11_readUnit_19 : decode cX11_readUnit 19 = .ok (.iconst 0, 1) := by decide +kernel
theorem dX11_readUnit_20 : decode cX11_readUnit 20 = .ok (.aload_n 0, 1) := by decide +kernel
theorem dX11_readUnit_21 : decode cX11_readUnit 21 = .ok (.iconst 0, 1) := by decide +kernel
theorem dX11_readUnit_22 : decode cX11_readUnit 22 = .ok (.sipush 9999, 3) := by decide +kernel
theorem dX11_readUnit_25 : decode cX11_readUnit 25 = .ok (.invokevirtual 202, 3) := by decide +kernel
theorem dX11_readUnit_28 : decode cX11_readUnit 28 = .ok (.invokevirtual 217, 3) := by decide +kernel
theorem dX11_readUnit_31 : decode cX11_readUnit 31 = .ok (.return_, 1) := by decide +kernel
theorem dX11_readUnit_32 : decode cX11_readUnit 32 = .ok (.aload_n 0, 1) := by decide +kernel
theorem dX11_readUnit_33 : decode cX11_readUnit 33 = .ok (.invokevirtual 160, 3) := by decide +kernel
theorem dX11_readUnit_36 : decode cX11_readUnit 36 = .ok (.invokestatic 240, 3) := by decide +kernel
theorem dX11_readUnit_39 : decode cX11_readUnit 39 = .ok (.istore_n 1, 1) := by decide +kernel
theorem dX11_readUnit_40 : decode cX11_readUnit 40 = .ok (.iload_n 1, 1) := by decide +kernel
theorem dX11_readUnit_41 : decode cX11_readUnit 41 = .ok (.iconst (-1), 1) := by decide +kernel
theorem dX11_readUnit_42 : decode cX11_readUnit 42 = .ok (.if_icmp .ne 12, 3) := by decide +kernel
theorem dX11_readUnit_45 : decode cX11_readUnit 45 = .ok (.aload_n 0, 1) := by decide +kernel
theorem dX11_readUnit_46 : decode cX11_readUnit 46 = .ok (.iconst 1, 1) := by decide +kernel
theorem dX11_readUnit_47 : decode cX11_readUnit 47 = .ok (.aload_n 0, 1) := by decide +kernel
theorem dX11_readUnit_48 : decode cX11_readUnit 48 = .ok (.getfield 132, 3) := by decide +kernel
theorem dX11_readUnit_51 : decode cX11_readUnit 51 = .ok (.invokevirtual 156, 3) := by decide +kernel
theorem dX11_readUnit_54 : decode cX11_readUnit 54 = .ok (.aload_n 0, 1) := by decide +kernel
theorem dX11_readUnit_55 : decode cX11_readUnit 55 = .ok (.invokevirtual 149, 3) := by decide +kernel
theorem dX11_readUnit_58 : decode cX11_readUnit 58 = .ok (.ifCond .ne 4, 3) := by decide +kernel
theorem dX11_readUnit_61 : decode cX11_readUnit 61 = .ok (.return_, 1) := by decide +kernel
theorem dX11_readUnit_62 : decode cX11_readUnit 62 = .ok (.aload_n 0, 1) := by decide +kernel
theorem dX11_readUnit_63 : decode cX11_readUnit 63 = .ok (.invokevirtual 163, 3) := by decide +kernel
theorem dX11_readUnit_66 : decode cX11_readUnit 66 = .ok (.aload_n 0, 1) := by decide +kernel
theorem dX11_readUnit_67 : decode cX11_readUnit 67 = .ok (.iconst 1, 1) := by decide +kernel
theorem dX11_readUnit_68 : decode cX11_readUnit 68 = .ok (.iload_n 1, 1) := by decide +kernel
theorem dX11_readUnit_69 : decode cX11_readUnit 69 = .ok (.invokevirtual 217, 3) := by decide +kernel
theorem dX11_readUnit_72 : decode cX11_readUnit 72 = .ok (.return_, 1) := by decide +kernel
theorem dX11_watchNow_0 : decode cX11_watchNow 0 = .ok (.iconst 0, 1) := by decide +kernel
theorem dX11_watchNow_1 : decode cX11_watchNow 1 = .ok (.istore_n 1, 1) := by decide +kernel
theorem dX11_watchNow_2 : decode cX11_watchNow 2 = .ok (.iconst 0, 1) := by decide +kernel
theorem dX11_watchNow_3 : decode cX11_watchNow 3 = .ok (.istore_n 2, 1) := by decide +kernel
theorem dX11_watchNow_4 : decode cX11_watchNow 4 = .ok (.iload_n 2, 1) := by decide +kernel
theorem dX11_watchNow_5 : decode cX11_watchNow 5 = .ok (.aload_n 0, 1) := by decide +kernel
theorem dX11_watchNow_6 : decode cX11_watchNow 6 = .ok (.getfield 13, 3) := by decide +kernel
theorem dX11_watchNow_9 : decode cX11_watchNow 9 = .ok (.sipush 944, 3) := by decide +kernel
theorem dX11_watchNow_12 : decode cX11_watchNow 12 = .ok (.iaload, 1) := by decide +kernel
theorem dX11_watchNow_13 : decode cX11_watchNow 13 = .ok (.if_icmp .ge 47, 3) := by decide +kernel
theorem dX11_watchNow_16 : decode cX11_watchNow 16 = .ok (.aload_n 0, 1) := by decide +kernel
theorem dX11_watchNow_17 : decode cX11_watchNow 17 = .ok (.getfield 13, 3) := by decide +kernel
theorem dX11_watchNow_20 : decode cX11_watchNow 20 = .ok (.sipush 2325, 3) := by decide +kernel
theorem dX11_watchNow_23 : decode cX11_watchNow 23 = .ok (.iconst 2, 1) := by decide +kernel
theorem dX11_watchNow_24 : decode cX11_watchNow 24 = .ok (.iload_n 2, 1) := by decide +kernel
theorem dX11_watchNow_25 : decode cX11_watchNow 25 = .ok (.imul, 1) := by decide +kernel
theorem dX11_watchNow_26 : decode cX11_watchNow 26 = .ok (.iadd, 1) := by decide +kernel
theorem dX11_watchNow_27 : decode cX11_watchNow 27 = .ok (.iaload, 1) := by decide +kernel
theorem dX11_watchNow_28 : decode cX11_watchNow 28 = .ok (.aload_n 0, 1) := by decide +kernel
theorem dX11_watchNow_29 : decode cX11_watchNow 29 = .ok (.getfield 13, 3) := by decide +kernel
theorem dX11_watchNow_32 : decode cX11_watchNow 32 = .ok (.sipush 936, 3) := by decide +kernel
theorem dX11_watchNow_35 : decode cX11_watchNow 35 = .ok (.iaload, 1) := by decide +kernel
theorem dX11_watchNow_36 : decode cX11_watchNow 36 = .ok (.if_icmp .gt 18, 3) := by decide +kernel
theorem dX11_watchNow_39 : decode cX11_watchNow 39 = .ok (.aload_n 0, 1) := by decide +kernel
theorem dX11_watchNow_40 : decode cX11_watchNow 40 = .ok (.getfield 13, 3) := by decide +kernel
theorem dX11_watchNow_43 : decode cX11_watchNow 43 = .ok (.sipush 2325, 3) := by decide +kernel
theorem dX11_watchNow_46 : decode cX11_watchNow 46 = .ok (.iconst 2, 1) := by decide +kernel
theorem dX11_watchNow_47 : decode cX11_watchNow 47 = .ok (.iload_n 2, 1) := by decide +kernel
theorem dX11_watchNow_48 : decode cX11_watchNow 48 = .ok (.imul, 1) := by decide +kernel
theorem dX11_watchNow_49 : decode cX11_watchNow 49 = .ok (.iadd, 1) := by decide +kernel
theorem dX11_watchNow_50 : decode cX11_watchNow 50 = .ok (.iconst 1, 1) := by decide +kernel
theorem dX11_watchNow_51 : decode cX11_watchNow 51 = .ok (.iadd, 1) := by decide +kernel
theorem dX11_watchNow_52 : decode cX11_watchNow 52 = .ok (.iaload, 1) := by decide +kernel
theorem dX11_watchNow_53 : decode cX11_watchNow 53 = .ok (.istore_n 1, 1) := by decide +kernel
theorem dX11_watchNow_54 : decode cX11_watchNow 54 = .ok (.iinc 2 1, 3) := by decide +kernel
theorem dX11_watchNow_57 : decode cX11_watchNow 57 = .ok (.goto (-53), 3) := by decide +kernel
theorem dX11_watchNow_60 : decode cX11_watchNow 60 = .ok (.iload_n 1, 1) := by decide +kernel
theorem dX11_watchNow_61 : decode cX11_watchNow 61 = .ok (.ireturn, 1) := by decide +kernel
theorem dX11_inside_0 : decode cX11_inside 0 = .ok (.iconst 0, 1) := by decide +kernel
theorem dX11_inside_1 : decode cX11_inside 1 = .ok (.istore_n 1, 1) := by decide +kernel
theorem dX11_inside_2 : decode cX11_inside 2 = .ok (.iconst 0, 1) := by decide +kernel
theorem dX11_inside_3 : decode cX11_inside 3 = .ok (.istore_n 2, 1) := by decide +kernel
theorem dX11_inside_4 : decode cX11_inside 4 = .ok (.iload_n 2, 1) := by decide +kernel
theorem dX11_inside_5 : decode cX11_inside 5 = .ok (.aload_n 0, 1) := by decide +kernel
theorem dX11_inside_6 : decode cX11_inside 6 = .ok (.getfield 13, 3) := by decide +kernel
theorem dX11_inside_9 : decode cX11_inside 9 = .ok (.sipush 940, 3) := by decide +kernel
theorem dX11_inside_12 : decode cX11_inside 12 = .ok (.iaload, 1) := by decide +kernel
theorem dX11_inside_13 : decode cX11_inside 13 = .ok (.if_icmp .ge 18, 3) := by decide +kernel
theorem dX11_inside_16 : decode cX11_inside 16 = .ok (.iload_n 1, 1) := by decide +kernel
theorem dX11_inside_17 : decode cX11_inside 17 = .ok (.aload_n 0, 1) := by decide +kernel
theorem dX11_inside_18 : decode cX11_inside 18 = .ok (.iload_n 2, 1) := by decide +kernel
theorem dX11_inside_19 : decode cX11_inside 19 = .ok (.iconst 1, 1) := by decide +kernel
theorem dX11_inside_20 : decode cX11_inside 20 = .ok (.invokevirtual 104, 3) := by decide +kernel
theorem dX11_inside_23 : decode cX11_inside 23 = .ok (.iadd, 1) := by decide +kernel
theorem dX11_inside_24 : decode cX11_inside 24 = .ok (.istore_n 1, 1) := by decide +kernel
theorem dX11_inside_25 : decode cX11_inside 25 = .ok (.iinc 2 1, 3) := by decide +kernel
theorem dX11_inside_28 : decode cX11_inside 28 = .ok (.goto (-24), 3) := by decide +kernel
theorem dX11_inside_31 : decode cX11_inside 31 = .ok (.iload_n 1, 1) := by decide +kernel
theorem dX11_inside_32 : decode cX11_inside 32 = .ok (.ireturn, 1) := by decide +kernel
theorem dX11_laysFacts_0 : decode cX11_laysFacts 0 = .ok (.aload_n 0, 1) := by decide +kernel
theorem dX11_laysFacts_1 : decode cX11_laysFacts 1 = .ok (.iload_n 1, 1) := by decide +kernel
theorem dX11_laysFacts_2 : decode cX11_laysFacts 2 = .ok (.iconst 1, 1) := by decide +kernel
theorem dX11_laysFacts_3 : decode cX11_laysFacts 3 = .ok (.invokevirtual 104, 3) := by decide +kernel
theorem dX11_laysFacts_6 : decode cX11_laysFacts 6 = .ok (.istore_n 2, 1) := by decide +kernel
theorem dX11_laysFacts_7 : decode cX11_laysFacts 7 = .ok (.aload_n 0, 1) := by decide +kernel
theorem dX11_laysFacts_8 : decode cX11_laysFacts 8 = .ok (.getfield 35, 3) := by decide +kernel
theorem dX11_laysFacts_11 : decode cX11_laysFacts 11 = .ok (.iconst 0, 1) := by decide +kernel
theorem dX11_laysFacts_12 : decode cX11_laysFacts 12 = .ok (.aload_n 0, 1) := by decide +kernel
theorem dX11_laysFacts_13 : decode cX11_laysFacts 13 = .ok (.iload_n 1, 1) := by decide +kernel
theorem dX11_laysFacts_14 : decode cX11_laysFacts 14 = .ok (.iconst 0, 1) := by decide +kernel
theorem dX11_laysFacts_15 : decode cX11_laysFacts 15 = .ok (.invokevirtual 104, 3) := by decide +kernel
theorem dX11_laysFacts_18 : decode cX11_laysFacts 18 = .ok (.iastore, 1) := by decide +kernel
theorem dX11_laysFacts_19 : decode cX11_laysFacts 19 = .ok (.aload_n 0, 1) := by decide +kernel
theorem dX11_laysFacts_20 : decode cX11_laysFacts 20 = .ok (.getfield 35, 3) := by decide +kernel
theorem dX11_laysFacts_23 : decode cX11_laysFacts 23 = .ok (.iconst 1, 1) := by decide +kernel
theorem dX11_laysFacts_24 : decode cX11_laysFacts 24 = .ok (.iload_n 2, 1) := by decide +kernel
theorem dX11_laysFacts_25 : decode cX11_laysFacts 25 = .ok (.aload_n 0, 1) := by decide +kernel
theorem dX11_laysFacts_26 : decode cX11_laysFacts 26 = .ok (.iload_n 1, 1) := by decide +kernel
theorem dX11_laysFacts_27 : decode cX11_laysFacts 27 = .ok (.iconst 5, 1) := by decide +kernel
theorem dX11_laysFacts_28 : decode cX11_laysFacts 28 = .ok (.invokevirtual 104, 3) := by decide +kernel
theorem dX11_laysFacts_31 : decode cX11_laysFacts 31 = .ok (.imul, 1) := by decide +kernel
theorem dX11_laysFacts_32 : decode cX11_laysFacts 32 = .ok (.iastore, 1) := by decide +kernel
theorem dX11_laysFacts_33 : decode cX11_laysFacts 33 = .ok (.aload_n 0, 1) := by decide +kernel
theorem dX11_laysFacts_34 : decode cX11_laysFacts 34 = .ok (.getfield 35, 3) := by decide +kernel
theorem dX11_laysFacts_37 : decode cX11_laysFacts 37 = .ok (.iconst 2, 1) := by decide +kernel
theorem dX11_laysFacts_38 : decode cX11_laysFacts 38 = .ok (.iload_n 2, 1) := by decide +kernel
theorem dX11_laysFacts_39 : decode cX11_laysFacts 39 = .ok (.aload_n 0, 1) := by decide +kernel
theorem dX11_laysFacts_40 : decode cX11_laysFacts 40 = .ok (.iload_n 1, 1) := by decide +kernel
theorem dX11_laysFacts_41 : decode cX11_laysFacts 41 = .ok (.bipush 6, 2) := by decide +kernel
theorem dX11_laysFacts_43 : decode cX11_laysFacts 43 = .ok (.invokevirtual 104, 3) := by decide +kernel
theorem dX11_laysFacts_46 : decode cX11_laysFacts 46 = .ok (.imul, 1) := by decide +kernel
theorem dX11_laysFacts_47 : decode cX11_laysFacts 47 = .ok (.iastore, 1) := by decide +kernel
theorem dX11_laysFacts_48 : decode cX11_laysFacts 48 = .ok (.aload_n 0, 1) := by decide +kernel
theorem dX11_laysFacts_49 : decode cX11_laysFacts 49 = .ok (.getfield 35, 3) := by decide +kernel
theorem dX11_laysFacts_52 : decode cX11_laysFacts 52 = .ok (.iconst 3, 1) := by decide +kernel
theorem dX11_laysFacts_53 : decode cX11_laysFacts 53 = .ok (.iload_n 2, 1) := by decide +kernel
theorem dX11_laysFacts_54 : decode cX11_laysFacts 54 = .ok (.aload_n 0, 1) := by decide +kernel
theorem dX11_laysFacts_55 : decode cX11_laysFacts 55 = .ok (.iload_n 1, 1) := by decide +kernel
theorem dX11_laysFacts_56 : decode cX11_laysFacts 56 = .ok (.iconst 2, 1) := by decide +kernel
theorem dX11_laysFacts_57 : decode cX11_laysFacts 57 = .ok (.invokevirtual 104, 3) := by decide +kernel
theorem dX11_laysFacts_60 : decode cX11_laysFacts 60 = .ok (.imul, 1) := by decide +kernel
theorem dX11_laysFacts_61 : decode cX11_laysFacts 61 = .ok (.iastore, 1) := by decide +kernel
theorem dX11_laysFacts_62 : decode cX11_laysFacts 62 = .ok (.aload_n 0, 1) := by decide +kernel
theorem dX11_laysFacts_63 : decode cX11_laysFacts 63 = .ok (.getfield 35, 3) := by decide +kernel
theorem dX11_laysFacts_66 : decode cX11_laysFacts 66 = .ok (.iconst 4, 1) := by decide +kernel
theorem dX11_laysFacts_67 : decode cX11_laysFacts 67 = .ok (.iload_n 2, 1) := by decide +kernel
theorem dX11_laysFacts_68 : decode cX11_laysFacts 68 = .ok (.aload_n 0, 1) := by decide +kernel
theorem dX11_laysFacts_69 : decode cX11_laysFacts 69 = .ok (.iload_n 1, 1) := by decide +kernel
theorem dX11_laysFacts_70 : decode cX11_laysFacts 70 = .ok (.iconst 3, 1) := by decide +kernel
theorem dX11_laysFacts_71 : decode cX11_laysFacts 71 = .ok (.invokevirtual 104, 3) := by decide +kernel
theorem dX11_laysFacts_74 : decode cX11_laysFacts 74 = .ok (.imul, 1) := by decide +kernel
theorem dX11_laysFacts_75 : decode cX11_laysFacts 75 = .ok (.iastore, 1) := by decide +kernel
theorem dX11_laysFacts_76 : decode cX11_laysFacts 76 = .ok (.aload_n 0, 1) := by decide +kernel
theorem dX11_laysFacts_77 : decode cX11_laysFacts 77 = .ok (.getfield 35, 3) := by decide +kernel
theorem dX11_laysFacts_80 : decode cX11_laysFacts 80 = .ok (.iconst 5, 1) := by decide +kernel
theorem dX11_laysFacts_81 : decode cX11_laysFacts 81 = .ok (.iload_n 2, 1) := by decide +kernel
theorem dX11_laysFacts_82 : decode cX11_laysFacts 82 = .ok (.aload_n 0, 1) := by decide +kernel
theorem dX11_laysFacts_83 : decode cX11_laysFacts 83 = .ok (.iload_n 1, 1) := by decide +kernel
theorem dX11_laysFacts_84 : decode cX11_laysFacts 84 = .ok (.iconst 4, 1) := by decide +kernel
theorem dX11_laysFacts_85 : decode cX11_laysFacts 85 = .ok (.invokevirtual 104, 3) := by decide +kernel
theorem dX11_laysFacts_88 : decode cX11_laysFacts 88 = .ok (.imul, 1) := by decide +kernel
theorem dX11_laysFacts_89 : decode cX11_laysFacts 89 = .ok (.iastore, 1) := by decide +kernel
theorem dX11_laysFacts_90 : decode cX11_laysFacts 90 = .ok (.aload_n 0, 1) := by decide +kernel
theorem dX11_laysFacts_91 : decode cX11_laysFacts 91 = .ok (.getfield 35, 3) := by decide +kernel
theorem dX11_laysFacts_94 : decode cX11_laysFacts 94 = .ok (.bipush 6, 2) := by decide +kernel
theorem dX11_laysFacts_96 : decode cX11_laysFacts 96 = .ok (.iload_n 2, 1) := by decide +kernel
theorem dX11_laysFacts_97 : decode cX11_laysFacts 97 = .ok (.iconst 1, 1) := by decide +kernel
theorem dX11_laysFacts_98 : decode cX11_laysFacts 98 = .ok (.if_icmp .ne 21, 3) := by decide +kernel
theorem dX11_laysFacts_101 : decode cX11_laysFacts 101 = .ok (.aload_n 0, 1) := by decide +kernel
theorem dX11_laysFacts_102 : decode cX11_laysFacts 102 = .ok (.getfield 13, 3) := by decide +kernel
theorem dX11_laysFacts_105 : decode cX11_laysFacts 105 = .ok (.aload_n 0, 1) := by decide +kernel
theorem dX11_laysFacts_106 : decode cX11_laysFacts 106 = .ok (.iload_n 1, 1) := by decide +kernel
theorem dX11_laysFacts_107 : decode cX11_laysFacts 107 = .ok (.invokevirtual 111, 3) := by decide +kernel
theorem dX11_laysFacts_110 : decode cX11_laysFacts 110 = .ok (.iaload, 1) := by decide +kernel
theorem dX11_laysFacts_111 : decode cX11_laysFacts 111 = .ok (.iconst 2, 1) := by decide +kernel
theorem dX11_laysFacts_112 : decode cX11_laysFacts 112 = .ok (.if_icmp .ne 7, 3) := by decide +kernel
theorem dX11_laysFacts_115 : decode cX11_laysFacts 115 = .ok (.iconst 1, 1) := by decide +kernel
theorem dX11_laysFacts_116 : decode cX11_laysFacts 116 = .ok (.goto 4, 3) := by decide +kernel
theorem dX11_laysFacts_119 : decode cX11_laysFacts 119 = .ok (.iconst 0, 1) := by decide +kernel
theorem dX11_laysFacts_120 : decode cX11_laysFacts 120 = .ok (.iastore, 1) := by decide +kernel
theorem dX11_laysFacts_121 : decode cX11_laysFacts 121 = .ok (.aload_n 0, 1) := by decide +kernel
theorem dX11_laysFacts_122 : decode cX11_laysFacts 122 = .ok (.getfield 35, 3) := by decide +kernel
theorem dX11_laysFacts_125 : decode cX11_laysFacts 125 = .ok (.bipush 7, 2) := by decide +kernel
theorem dX11_laysFacts_127 : decode cX11_laysFacts 127 = .ok (.aload_n 0, 1) := by decide +kernel
theorem dX11_laysFacts_128 : decode cX11_laysFacts 128 = .ok (.invokevirtual 243, 3) := by decide +kernel
theorem dX11_laysFacts_131 : decode cX11_laysFacts 131 = .ok (.iastore, 1) := by decide +kernel
theorem dX11_laysFacts_132 : decode cX11_laysFacts 132 = .ok (.aload_n 0, 1) := by decide +kernel
theorem dX11_laysFacts_133 : decode cX11_laysFacts 133 = .ok (.getfield 35, 3) := by decide +kernel
theorem dX11_laysFacts_136 : decode cX11_laysFacts 136 = .ok (.bipush 8, 2) := by decide +kernel
theorem dX11_laysFacts_138 : decode cX11_laysFacts 138 = .ok (.aload_n 0, 1) := by decide +kernel
theorem dX11_laysFacts_139 : decode cX11_laysFacts 139 = .ok (.invokevirtual 246, 3) := by decide +kernel
theorem dX11_laysFacts_142 : decode cX11_laysFacts 142 = .ok (.iastore, 1) := by decide +kernel
theorem dX11_laysFacts_143 : decode cX11_laysFacts 143 = .ok (.aload_n 0, 1) := by decide +kernel
theorem dX11_laysFacts_144 : decode cX11_laysFacts 144 = .ok (.getfield 35, 3) := by decide +kernel
theorem dX11_laysFacts_147 : decode cX11_laysFacts 147 = .ok (.bipush 9, 2) := by decide +kernel
theorem dX11_laysFacts_149 : decode cX11_laysFacts 149 = .ok (.aload_n 0, 1) := by decide +kernel
theorem dX11_laysFacts_150 : decode cX11_laysFacts 150 = .ok (.getfield 13, 3) := by decide +kernel
theorem dX11_laysFacts_153 : decode cX11_laysFacts 153 = .ok (.sipush 936, 3) := by decide +kernel
theorem dX11_laysFacts_156 : decode cX11_laysFacts 156 = .ok (.iaload, 1) := by decide +kernel
theorem dX11_laysFacts_157 : decode cX11_laysFacts 157 = .ok (.iastore, 1) := by decide +kernel
theorem dX11_laysFacts_158 : decode cX11_laysFacts 158 = .ok (.return_, 1) := by decide +kernel
theorem dX11_asInt_0 : decode cX11_asInt 0 = .ok (.iload_n 0, 1) := by decide +kernel
theorem dX11_asInt_1 : decode cX11_asInt 1 = .ok (.ifCond .eq 7, 3) := by decide +kernel
theorem dX11_asInt_4 : decode cX11_asInt 4 = .ok (.iconst 1, 1) := by decide +kernel
theorem dX11_asInt_5 : decode cX11_asInt 5 = .ok (.goto 4, 3) := by decide +kernel
theorem dX11_asInt_8 : decode cX11_asInt 8 = .ok (.iconst 0, 1) := by decide +kernel
theorem dX11_asInt_9 : decode cX11_asInt 9 = .ok (.ireturn, 1) := by decide +kernel
theorem dX11_both_0 : decode cX11_both 0 = .ok (.iload_n 0, 1) := by decide +kernel
theorem dX11_both_1 : decode cX11_both 1 = .ok (.bipush 6, 2) := by decide +kernel
theorem dX11_both_3 : decode cX11_both 3 = .ok (.if_icmp .ge 29, 3) := by decide +kernel
theorem dX11_both_6 : decode cX11_both 6 = .ok (.iload_n 0, 1) := by decide +kernel
theorem dX11_both_7 : decode cX11_both 7 = .ok (.iconst 2, 1) := by decide +kernel
theorem dX11_both_8 : decode cX11_both 8 = .ok (.if_icmp .ne 9, 3) := by decide +kernel
theorem dX11_both_11 : decode cX11_both 11 = .ok (.iload_n 1, 1) := by decide +kernel
theorem dX11_both_12 : decode cX11_both 12 = .ok (.iload_n 2, 1) := by decide +kernel
theorem dX11_both_13 : decode cX11_both 13 = .ok (.iadd, 1) := by decide +kernel
theorem dX11_both_14 : decode cX11_both 14 = .ok (.goto 17, 3) := by decide +kernel
theorem dX11_both_17 : decode cX11_both 17 = .ok (.iload_n 0, 1) := by decide +kernel
theorem dX11_both_18 : decode cX11_both 18 = .ok (.iconst 3, 1) := by decide +kernel
theorem dX11_both_19 : decode cX11_both 19 = .ok (.if_icmp .ne 9, 3) := by decide +kernel
theorem dX11_both_22 : decode cX11_both 22 = .ok (.iload_n 1, 1) := by decide +kernel
theorem dX11_both_23 : decode cX11_both 23 = .ok (.iload_n 2, 1) := by decide +kernel
theorem dX11_both_24 : decode cX11_both 24 = .ok (.isub, 1) := by decide +kernel
theorem dX11_both_25 : decode cX11_both 25 = .ok (.goto 6, 3) := by decide +kernel
theorem dX11_both_28 : decode cX11_both 28 = .ok (.iload_n 1, 1) := by decide +kernel
theorem dX11_both_29 : decode cX11_both 29 = .ok (.iload_n 2, 1) := by decide +kernel
theorem dX11_both_30 : decode cX11_both 30 = .ok (.imul, 1) := by decide +kernel
theorem dX11_both_31 : decode cX11_both 31 = .ok (.ireturn, 1) := by decide +kernel
theorem dX11_both_32 : decode cX11_both 32 = .ok (.iload_n 0, 1) := by decide +kernel
theorem dX11_both_33 : decode cX11_both 33 = .ok (.bipush 9, 2) := by decide +kernel
theorem dX11_both_35 : decode cX11_both 35 = .ok (.if_icmp .ge 55, 3) := by decide +kernel
theorem dX11_both_38 : decode cX11_both 38 = .ok (.iload_n 0, 1) := by decide +kernel
theorem dX11_both_39 : decode cX11_both 39 = .ok (.bipush 6, 2) := by decide +kernel
theorem dX11_both_41 : decode cX11_both 41 = .ok (.if_icmp .ne 16, 3) := by decide +kernel
theorem dX11_both_44 : decode cX11_both 44 = .ok (.iload_n 1, 1) := by decide +kernel
theorem dX11_both_45 : decode cX11_both 45 = .ok (.iload_n 2, 1) := by decide +kernel
theorem dX11_both_46 : decode cX11_both 46 = .ok (.if_icmp .ge 7, 3) := by decide +kernel
theorem dX11_both_49 : decode cX11_both 49 = .ok (.iconst 1, 1) := by decide +kernel
theorem dX11_both_50 : decode cX11_both 50 = .ok (.goto 36, 3) := by decide +kernel
theorem dX11_both_53 : decode cX11_both 53 = .ok (.iconst 0, 1) := by decide +kernel
theorem dX11_both_54 : decode cX11_both 54 = .ok (.goto 32, 3) := by decide +kernel
theorem dX11_both_57 : decode cX11_both 57 = .ok (.iload_n 0, 1) := by decide +kernel
theorem dX11_both_58 : decode cX11_both 58 = .ok (.bipush 7, 2) := by decide +kernel
theorem dX11_both_60 : decode cX11_both 60 = .ok (.if_icmp .ne 16, 3) := by decide +kernel
theorem dX11_both_63 : decode cX11_both 63 = .ok (.iload_n 1, 1) := by decide +kernel
theorem dX11_both_64 : decode cX11_both 64 = .ok (.iload_n 2, 1) := by decide +kernel
theorem dX11_both_65 : decode cX11_both 65 = .ok (.if_icmp .ne 7, 3) := by decide +kernel
theorem dX11_both_68 : decode cX11_both 68 = .ok (.iconst 1, 1) := by decide +kernel
theorem dX11_both_69 : decode cX11_both 69 = .ok (.goto 17, 3) := by decide +kernel
theorem dX11_both_72 : decode cX11_both 72 = .ok (.iconst 0, 1) := by decide +kernel
theorem dX11_both_73 : decode cX11_both 73 = .ok (.goto 13, 3) := by decide +kernel
theorem dX11_both_76 : decode cX11_both 76 = .ok (.iload_n 1, 1) := by decide +kernel
theorem dX11_both_77 : decode cX11_both 77 = .ok (.iload_n 2, 1) := by decide +kernel
theorem dX11_both_78 : decode cX11_both 78 = .ok (.if_icmp .le 7, 3) := by decide +kernel
theorem dX11_both_81 : decode cX11_both 81 = .ok (.iconst 1, 1) := by decide +kernel
theorem dX11_both_82 : decode cX11_both 82 = .ok (.goto 4, 3) := by decide +kernel
theorem dX11_both_85 : decode cX11_both 85 = .ok (.iconst 0, 1) := by decide +kernel
theorem dX11_both_86 : decode cX11_both 86 = .ok (.invokestatic 249, 3) := by decide +kernel
theorem dX11_both_89 : decode cX11_both 89 = .ok (.ireturn, 1) := by decide +kernel
theorem dX11_both_90 : decode cX11_both 90 = .ok (.iload_n 0, 1) := by decide +kernel
theorem dX11_both_91 : decode cX11_both 91 = .ok (.bipush 10, 2) := by decide +kernel
theorem dX11_both_93 : decode cX11_both 93 = .ok (.if_icmp .ne 18, 3) := by decide +kernel
theorem dX11_both_96 : decode cX11_both 96 = .ok (.iload_n 1, 1) := by decide +kernel
theorem dX11_both_97 : decode cX11_both 97 = .ok (.iload_n 2, 1) := by decide +kernel
theorem dX11_both_98 : decode cX11_both 98 = .ok (.iadd, 1) := by decide +kernel
theorem dX11_both_99 : decode cX11_both 99 = .ok (.iconst 2, 1) := by decide +kernel
theorem dX11_both_100 : decode cX11_both 100 = .ok (.if_icmp .ne 7, 3) := by decide +kernel
theorem dX11_both_103 : decode cX11_both 103 = .ok (.iconst 1, 1) := by decide +kernel
theorem dX11_both_104 : decode cX11_both 104 = .ok (.goto 18, 3) := by decide +kernel
theorem dX11_both_107 : decode cX11_both 107 = .ok (.iconst 0, 1) := by decide +kernel
theorem dX11_both_108 : decode cX11_both 108 = .ok (.goto 14, 3) := by decide +kernel
theorem dX11_both_111 : decode cX11_both 111 = .ok (.iload_n 1, 1) := by decide +kernel
theorem dX11_both_112 : decode cX11_both 112 = .ok (.iload_n 2, 1) := by decide +kernel
theorem dX11_both_113 : decode cX11_both 113 = .ok (.iadd, 1) := by decide +kernel
theorem dX11_both_114 : decode cX11_both 114 = .ok (.ifCond .le 7, 3) := by decide +kernel
theorem dX11_both_117 : decode cX11_both 117 = .ok (.iconst 1, 1) := by decide +kernel
theorem dX11_both_118 : decode cX11_both 118 = .ok (.goto 4, 3) := by decide +kernel
theorem dX11_both_121 : decode cX11_both 121 = .ok (.iconst 0, 1) := by decide +kernel
theorem dX11_both_122 : decode cX11_both 122 = .ok (.invokestatic 249, 3) := by decide +kernel
theorem dX11_both_125 : decode cX11_both 125 = .ok (.ireturn, 1) := by decide +kernel
theorem dX11_comesTo_0 : decode cX11_comesTo 0 = .ok (.iconst 0, 1) := by decide +kernel
theorem dX11_comesTo_1 : decode cX11_comesTo 1 = .ok (.istore_n 3, 1) := by decide +kernel
theorem dX11_comesTo_2 : decode cX11_comesTo 2 = .ok (.iload_n 1, 1) := by decide +kernel
theorem dX11_comesTo_3 : decode cX11_comesTo 3 = .ok (.istore 4, 2) := by decide +kernel
theorem dX11_comesTo_5 : decode cX11_comesTo 5 = .ok (.iload 4, 2) := by decide +kernel
theorem dX11_comesTo_7 : decode cX11_comesTo 7 = .ok (.iload_n 2, 1) := by decide +kernel
theorem dX11_comesTo_8 : decode cX11_comesTo 8 = .ok (.if_icmp .ge 156, 3) := by decide +kernel
theorem dX11_comesTo_11 : decode cX11_comesTo 11 = .ok (.aload_n 0, 1) := by decide +kernel
theorem dX11_comesTo_12 : decode cX11_comesTo 12 = .ok (.getfield 13, 3) := by decide +kernel
theorem dX11_comesTo_15 : decode cX11_comesTo 15 = .ok (.sipush 1025, 3) := by decide +kernel
theorem dX11_comesTo_18 : decode cX11_comesTo 18 = .ok (.iconst 2, 1) := by decide +kernel
theorem dX11_comesTo_19 : decode cX11_comesTo 19 = .ok (.iload 4, 2) := by decide +kernel
theorem dX11_comesTo_21 : decode cX11_comesTo 21 = .ok (.imul, 1) := by decide +kernel
theorem dX11_comesTo_22 : decode cX11_comesTo 22 = .ok (.iadd, 1) := by decide +kernel
theorem dX11_comesTo_23 : decode cX11_comesTo 23 = .ok (.iaload, 1) := by decide +kernel
theorem dX11_comesTo_24 : decode cX11_comesTo 24 = .ok (.istore 5, 2) := by decide +kernel
theorem dX11_comesTo_26 : decode cX11_comesTo 26 = .ok (.aload_n 0, 1) := by decide +kernel
theorem dX11_comesTo_27 : decode cX11_comesTo 27 = .ok (.getfield 13, 3) := by decide +kernel
theorem dX11_comesTo_30 : decode cX11_comesTo 30 = .ok (.sipush 1025, 3) := by decide +kernel
theorem dX11_comesTo_33 : decode cX11_comesTo 33 = .ok (.iconst 2, 1) := by decide +kernel
theorem dX11_comesTo_34 : decode cX11_comesTo 34 = .ok (.iload 4, 2) := by decide +kernel
theorem dX11_comesTo_36 : decode cX11_comesTo 36 = .ok (.imul, 1) := by decide +kernel
theorem dX11_comesTo_37 : decode cX11_comesTo 37 = .ok (.iadd, 1) := by decide +kernel
theorem dX11_comesTo_38 : decode cX11_comesTo 38 = .ok (.iconst 1, 1) := by decide +kernel
theorem dX11_comesTo_39 : decode cX11_comesTo 39 = .ok (.iadd, 1) := by decide +kernel
theorem dX11_comesTo_40 : decode cX11_comesTo 40 = .ok (.iaload, 1) := by decide +kernel
theorem dX11_comesTo_41 : decode cX11_comesTo 41 = .ok (.istore 6, 2) := by decide +kernel
theorem dX11_comesTo_43 : decode cX11_comesTo 43 = .ok (.iload 5, 2) := by decide +kernel
theorem dX11_comesTo_45 : decode cX11_comesTo 45 = .ok (.iconst 1, 1) := by decide +kernel
theorem dX11_comesTo_46 : decode cX11_comesTo 46 = .ok (.if_icmp .gt 32, 3) := by decide +kernel
theorem dX11_comesTo_49 : decode cX11_comesTo 49 = .ok (.aload_n 0, 1) := by decide +kernel
theorem dX11_comesTo_50 : decode cX11_comesTo 50 = .ok (.getfield 38, 3) := by decide +kernel
theorem dX11_comesTo_53 : decode cX11_comesTo 53 = .ok (.iload_n 3, 1) := by decide +kernel
theorem dX11_comesTo_54 : decode cX11_comesTo 54 = .ok (.iload 5, 2) := by decide +kernel
theorem dX11_comesTo_56 : decode cX11_comesTo 56 = .ok (.ifCond .ne 8, 3) := by decide +kernel
theorem dX11_comesTo_59 : decode cX11_comesTo 59 = .ok (.iload 6, 2) := by decide +kernel
theorem dX11_comesTo_61 : decode cX11_comesTo 61 = .ok (.goto 10, 3) := by decide +kernel
theorem dX11_comesTo_64 : decode cX11_comesTo 64 = .ok (.aload_n 0, 1) := by decide +kernel
theorem dX11_comesTo_65 : decode cX11_comesTo 65 = .ok (.getfield 35, 3) := by decide +kernel
theorem dX11_comesTo_68 : decode cX11_comesTo 68 = .ok (.iload 6, 2) := by decide +kernel
theorem dX11_comesTo_70 : decode cX11_comesTo 70 = .ok (.iaload, 1) := by decide +kernel
theorem dX11_comesTo_71 : decode cX11_comesTo 71 = .ok (.iastore, 1) := by decide +kernel
theorem dX11_comesTo_72 : decode cX11_comesTo 72 = .ok (.iinc 3 1, 3) := by decide +kernel
theorem dX11_comesTo_75 : decode cX11_comesTo 75 = .ok (.goto 83, 3) := by decide +kernel
theorem dX11_comesTo_78 : decode cX11_comesTo 78 = .ok (.iload 5, 2) := by decide +kernel
theorem dX11_comesTo_80 : decode cX11_comesTo 80 = .ok (.iconst 5, 1) := by decide +kernel
theorem dX11_comesTo_81 : decode cX11_comesTo 81 = .ok (.if_icmp .ne 19, 3) := by decide +kernel
theorem dX11_comesTo_84 : decode cX11_comesTo 84 = .ok (.aload_n 0, 1) := by decide +kernel
theorem dX11_comesTo_85 : decode cX11_comesTo 85 = .ok (.getfield 38, 3) := by decide +kernel
theorem dX11_comesTo_88 : decode cX11_comesTo 88 = .ok (.iload_n 3, 1) := by decide +kernel
theorem dX11_comesTo_89 : decode cX11_comesTo 89 = .ok (.iconst 1, 1) := by decide +kernel
theorem dX11_comesTo_90 : decode cX11_comesTo 90 = .ok (.isub, 1) := by decide +kernel
theorem dX11_comesTo_91 : decode cX11_comesTo 91 = .ok (.dup2, 1) := by decide +kernel
theorem dX11_comesTo_92 : decode cX11_comesTo 92 = .ok (.iaload, 1) := by decide +kernel
theorem dX11_comesTo_93 : decode cX11_comesTo 93 = .ok (.iload 6, 2) := by decide +kernel
theorem dX11_comesTo_95 : decode cX11_comesTo 95 = .ok (.idiv, 1) := by decide +kernel
theorem dX11_comesTo_96 : decode cX11_comesTo 96 = .ok (.iastore, 1) := by decide +kernel
theorem dX11_comesTo_97 : decode cX11_comesTo 97 = .ok (.goto 61, 3) := by decide +kernel
theorem dX11_comesTo_100 : decode cX11_comesTo 100 = .ok (.iload 5, 2) := by decide +kernel
theorem dX11_comesTo_102 : decode cX11_comesTo 102 = .ok (.bipush 9, 2) := by decide +kernel
theorem dX11_comesTo_104 : decode cX11_comesTo 104 = .ok (.if_icmp .ne 24, 3) := by decide +kernel
theorem dX11_comesTo_107 : decode cX11_comesTo 107 = .ok (.aload_n 0, 1) := by decide +kernel
theorem dX11_comesTo_108 : decode cX11_comesTo 108 = .ok (.getfield 38, 3) := by decide +kernel
theorem dX11_comesTo_111 : decode cX11_comesTo 111 = .ok (.iload_n 3, 1) := by decide +kernel
theorem dX11_comesTo_112 : decode cX11_comesTo 112 = .ok (.iconst 1, 1) := by decide +kernel
theorem dX11_comesTo_113 : decode cX11_comesTo 113 = .ok (.isub, 1) := by decide +kernel
theorem dX11_comesTo_114 : decode cX11_comesTo 114 = .ok (.iconst 1, 1) := by decide +kernel
theorem dX11_comesTo_115 : decode cX11_comesTo 115 = .ok (.aload_n 0, 1) := by decide +kernel
theorem dX11_comesTo_116 : decode cX11_comesTo 116 = .ok (.getfield 38, 3) := by decide +kernel
theorem dX11_comesTo_119 : decode cX11_comesTo 119 = .ok (.iload_n 3, 1) := by decide +kernel
theorem dX11_comesTo_120 : decode cX11_comesTo 120 = .ok (.iconst 1, 1) := by decide +kernel
theorem dX11_comesTo_121 : decode cX11_comesTo 121 = .ok (.isub, 1) := by decide +kernel
theorem dX11_comesTo_122 : decode cX11_comesTo 122 = .ok (.iaload, 1) := by decide +kernel
theorem dX11_comesTo_123 : decode cX11_comesTo 123 = .ok (.isub, 1) := by decide +kernel
theorem dX11_comesTo_124 : decode cX11_comesTo 124 = .ok (.iastore, 1) := by decide +kernel
theorem dX11_comesTo_125 : decode cX11_comesTo 125 = .ok (.goto 33, 3) := by decide +kernel
theorem dX11_comesTo_128 : decode cX11_comesTo 128 = .ok (.iinc 3 (-1), 3) := by decide +kernel
theorem dX11_comesTo_131 : decode cX11_comesTo 131 = .ok (.aload_n 0, 1) := by decide +kernel
theorem dX11_comesTo_132 : decode cX11_comesTo 132 = .ok (.getfield 38, 3) := by decide +kernel
theorem dX11_comesTo_135 : decode cX11_comesTo 135 = .ok (.iload_n 3, 1) := by decide +kernel
theorem dX11_comesTo_136 : decode cX11_comesTo 136 = .ok (.iconst 1, 1) := by decide +kernel
theorem dX11_comesTo_137 : decode cX11_comesTo 137 = .ok (.isub, 1) := by decide +kernel
theorem dX11_comesTo_138 : decode cX11_comesTo 138 = .ok (.iload 5, 2) := by decide +kernel
theorem dX11_comesTo_140 : decode cX11_comesTo 140 = .ok (.aload_n 0, 1) := by decide +kernel
theorem dX11_comesTo_141 : decode cX11_comesTo 141 = .ok (.getfield 38, 3) := by decide +kernel
theorem dX11_comesTo_144 : decode cX11_comesTo 144 = .ok (.iload_n 3, 1) := by decide +kernel
theorem dX11_comesTo_145 : decode cX11_comesTo 145 = .ok (.iconst 1, 1) := by decide +kernel
theorem dX11_comesTo_146 : decode cX11_comesTo 146 = .ok (.isub, 1) := by decide +kernel
theorem dX11_comesTo_147 : decode cX11_comesTo 147 = .ok (.iaload, 1) := by decide +kernel
theorem dX11_comesTo_148 : decode cX11_comesTo 148 = .ok (.aload_n 0, 1) := by decide +kernel
theorem dX11_comesTo_149 : decode cX11_comesTo 149 = .ok (.getfield 38, 3) := by decide +kernel
theorem dX11_comesTo_152 : decode cX11_comesTo 152 = .ok (.iload_n 3, 1) := by decide +kernel
theorem dX11_comesTo_153 : decode cX11_comesTo 153 = .ok (.iaload, 1) := by decide +kernel
theorem dX11_comesTo_154 : decode cX11_comesTo 154 = .ok (.invokestatic 253, 3) := by decide +kernel
theorem dX11_comesTo_157 : decode cX11_comesTo 157 = .ok (.iastore, 1) := by decide +kernel
theorem dX11_comesTo_158 : decode cX11_comesTo 158 = .ok (.iinc 4 1, 3) := by decide +kernel
theorem dX11_comesTo_161 : decode cX11_comesTo 161 = .ok (.goto (-156), 3) := by decide +kernel
theorem dX11_comesTo_164 : decode cX11_comesTo 164 = .ok (.aload_n 0, 1) := by decide +kernel
theorem dX11_comesTo_165 : decode cX11_comesTo 165 = .ok (.getfield 38, 3) := by decide +kernel
theorem dX11_comesTo_168 : decode cX11_comesTo 168 = .ok (.iconst 0, 1) := by decide +kernel
theorem dX11_comesTo_169 : decode cX11_comesTo 169 = .ok (.iaload, 1) := by decide +kernel
theorem dX11_comesTo_170 : decode cX11_comesTo 170 = .ok (.ireturn, 1) := by decide +kernel
theorem dX11_tells_0 : decode cX11_tells 0 = .ok (.aload_n 0, 1) := by decide +kernel
theorem dX11_tells_1 : decode cX11_tells 1 = .ok (.iload_n 2, 1) := by decide +kernel
theorem dX11_tells_2 : decode cX11_tells 2 = .ok (.invokevirtual 257, 3) := by decide +kernel
theorem dX11_tells_5 : decode cX11_tells 5 = .ok (.iload_n 1, 1) := by decide +kernel
theorem dX11_tells_6 : decode cX11_tells 6 = .ok (.ifCond .ne 27, 3) := by decide +kernel
theorem dX11_tells_9 : decode cX11_tells 9 = .ok (.sipush 300, 3) := by decide +kernel
theorem dX11_tells_12 : decode cX11_tells 12 = .ok (.aload_n 0, 1) := by decide +kernel
theorem dX11_tells_13 : decode cX11_tells 13 = .ok (.getfield 35, 3) := by decide +kernel
theorem dX11_tells_16 : decode cX11_tells 16 = .ok (.bipush 6, 2) := by decide +kernel
theorem dX11_tells_18 : decode cX11_tells 18 = .ok (.iaload, 1) := by decide +kernel
theorem dX11_tells_19 : decode cX11_tells 19 = .ok (.imul, 1) := by decide +kernel
theorem dX11_tells_20 : decode cX11_tells 20 = .ok (.bipush 20, 2) := by decide +kernel
theorem dX11_tells_22 : decode cX11_tells 22 = .ok (.aload_n 0, 1) := by decide +kernel
theorem dX11_tells_23 : decode cX11_tells 23 = .ok (.getfield 35, 3) := by decide +kernel
theorem dX11_tells_26 : decode cX11_tells 26 = .ok (.iconst 0, 1) := by decide +kernel
theorem dX11_tells_27 : decode cX11_tells 27 = .ok (.iaload, 1) := by decide +kernel
theorem dX11_tells_28 : decode cX11_tells 28 = .ok (.imul, 1) := by decide +kernel
theorem dX11_tells_29 : decode cX11_tells 29 = .ok (.iadd, 1) := by decide +kernel
theorem dX11_tells_30 : decode cX11_tells 30 = .ok (.goto 31, 3) := by decide +kernel
theorem dX11_tells_33 : decode cX11_tells 33 = .ok (.iload_n 1, 1) := by decide +kernel
theorem dX11_tells_34 : decode cX11_tells 34 = .ok (.iconst 1, 1) := by decide +kernel
theorem dX11_tells_35 : decode cX11_tells 35 = .ok (.if_icmp .ne 17, 3) := by decide +kernel
theorem dX11_tells_38 : decode cX11_tells 38 = .ok (.sipush 200, 3) := by decide +kernel
theorem dX11_tells_41 : decode cX11_tells 41 = .ok (.aload_n 0, 1) := by decide +kernel
theorem dX11_tells_42 : decode cX11_tells 42 = .ok (.getfield 35, 3) := by decide +kernel
theorem dX11_tells_45 : decode cX11_tells 45 = .ok (.bipush 8, 2) := by decide +kernel
theorem dX11_tells_47 : decode cX11_tells 47 = .ok (.iaload, 1) := by decide +kernel
theorem dX11_tells_48 : decode cX11_tells 48 = .ok (.imul, 1) := by decide +kernel
theorem dX11_tells_49 : decode cX11_tells 49 = .ok (.goto 12, 3) := by decide +kernel
theorem dX11_tells_52 : decode cX11_tells 52 = .ok (.bipush 10, 2) := by decide +kernel
theorem dX11_tells_54 : decode cX11_tells 54 = .ok (.aload_n 0, 1) := by decide +kernel
theorem dX11_tells_55 : decode cX11_tells 55 = .ok (.getfield 35, 3) := by decide +kernel
theorem dX11_tells_58 : decode cX11_tells 58 = .ok (.iconst 1, 1) := by decide +kernel
theorem dX11_tells_59 : decode cX11_tells 59 = .ok (.iaload, 1) := by decide +kernel
theorem dX11_tells_60 : decode cX11_tells 60 = .ok (.isub, 1) := by decide +kernel
theorem dX11_tells_61 : decode cX11_tells 61 = .ok (.istore_n 3, 1) := by decide +kernel
theorem dX11_tells_62 : decode cX11_tells 62 = .ok (.iconst 0, 1) := by decide +kernel
theorem dX11_tells_63 : decode cX11_tells 63 = .ok (.istore 4, 2) := by decide +kernel
theorem dX11_tells_65 : decode cX11_tells 65 = .ok (.iload 4, 2) := by decide +kernel
theorem dX11_tells_67 : decode cX11_tells 67 = .ok (.aload_n 0, 1) := by decide +kernel
theorem dX11_tells_68 : decode cX11_tells 68 = .ok (.getfield 13, 3) := by decide +kernel
theorem dX11_tells_71 : decode cX11_tells 71 = .ok (.sipush 941, 3) := by decide +kernel
theorem dX11_tells_74 : decode cX11_tells 74 = .ok (.iaload, 1) := by decide +kernel
theorem dX11_tells_75 : decode cX11_tells 75 = .ok (.if_icmp .ge 97, 3) := by decide +kernel
theorem dX11_tells_78 : decode cX11_tells 78 = .ok (.sipush 945, 3) := by decide +kernel
theorem dX11_tells_81 : decode cX11_tells 81 = .ok (.iconst 5, 1) := by decide +kernel
theorem dX11_tells_82 : decode cX11_tells 82 = .ok (.iload 4, 2) := by decide +kernel
theorem dX11_tells_84 : decode cX11_tells 84 = .ok (.imul, 1) := by decide +kernel
theorem dX11_tells_85 : decode cX11_tells 85 = .ok (.iadd, 1) := by decide +kernel
theorem dX11_tells_86 : decode cX11_tells 86 = .ok (.istore 5, 2) := by decide +kernel
theorem dX11_tells_88 : decode cX11_tells 88 = .ok (.aload_n 0, 1) := by decide +kernel
theorem dX11_tells_89 : decode cX11_tells 89 = .ok (.getfield 13, 3) := by decide +kernel
theorem dX11_tells_92 : decode cX11_tells 92 = .ok (.iload 5, 2) := by decide +kernel
theorem dX11_tells_94 : decode cX11_tells 94 = .ok (.iaload, 1) := by decide +kernel
theorem dX11_tells_95 : decode cX11_tells 95 = .ok (.iload_n 1, 1) := by decide +kernel
theorem dX11_tells_96 : decode cX11_tells 96 = .ok (.if_icmp .ne 70, 3) := by decide +kernel
theorem dX11_tells_99 : decode cX11_tells 99 = .ok (.aload_n 0, 1) := by decide +kernel
theorem dX11_tells_100 : decode cX11_tells 100 = .ok (.getfield 13, 3) := by decide +kernel
theorem dX11_tells_103 : decode cX11_tells 103 = .ok (.iload 5, 2) := by decide +kernel
theorem dX11_tells_105 : decode cX11_tells 105 = .ok (.iconst 4, 1) := by decide +kernel
theorem dX11_tells_106 : decode cX11_tells 106 = .ok (.iadd, 1) := by decide +kernel
theorem dX11_tells_107 : decode cX11_tells 107 = .ok (.iaload, 1) := by decide +kernel
theorem dX11_tells_108 : decode cX11_tells 108 = .ok (.iconst (-1), 1) := by decide +kernel
theorem dX11_tells_109 : decode cX11_tells 109 = .ok (.if_icmp .eq 31, 3) := by decide +kernel
theorem dX11_tells_112 : decode cX11_tells 112 = .ok (.aload_n 0, 1) := by decide +kernel
theorem dX11_tells_113 : decode cX11_tells 113 = .ok (.aload_n 0, 1) := by decide +kernel
theorem dX11_tells_114 : decode cX11_tells 114 = .ok (.getfield 13, 3) := by decide +kernel
theorem dX11_tells_117 : decode cX11_tells 117 = .ok (.iload 5, 2) := by decide +kernel
theorem dX11_tells_119 : decode cX11_tells 119 = .ok (.iconst 3, 1) := by decide +kernel
theorem dX11_tells_120 : decode cX11_tells 120 = .ok (.iadd, 1) := by decide +kernel
theorem dX11_tells_121 : decode cX11_tells 121 = .ok (.iaload, 1) := by decide +kernel
theorem dX11_tells_122 : decode cX11_tells 122 = .ok (.aload_n 0, 1) := by decide +kernel
theorem dX11_tells_123 : decode cX11_tells 123 = .ok (.getfield 13, 3) := by decide +kernel
theorem dX11_tells_126 : decode cX11_tells 126 = .ok (.iload 5, 2) := by decide +kernel
theorem dX11_tells_128 : decode cX11_tells 128 = .ok (.iconst 4, 1) := by decide +kernel
theorem dX11_tells_129 : decode cX11_tells 129 = .ok (.iadd, 1) := by decide +kernel
theorem dX11_tells_130 : decode cX11_tells 130 = .ok (.iaload, 1) := by decide +kernel
theorem dX11_tells_131 : decode cX11_tells 131 = .ok (.invokevirtual 260, 3) := by decide +kernel
theorem dX11_tells_134 : decode cX11_tells 134 = .ok (.ifCond .ne 6, 3) := by decide +kernel
theorem dX11_tells_137 : decode cX11_tells 137 = .ok (.goto 29, 3) := by decide +kernel
theorem dX11_tells_140 : decode cX11_tells 140 = .ok (.aload_n 0, 1) := by decide +kernel
theorem dX11_tells_141 : decode cX11_tells 141 = .ok (.aload_n 0, 1) := by decide +kernel
theorem dX11_tells_142 : decode cX11_tells 142 = .ok (.getfield 13, 3) := by decide +kernel
theorem dX11_tells_145 : decode cX11_tells 145 = .ok (.iload 5, 2) := by decide +kernel
theorem dX11_tells_147 : decode cX11_tells 147 = .ok (.iconst 1, 1) := by decide +kernel
theorem dX11_tells_148 : decode cX11_tells 148 = .ok (.iadd, 1) := by decide +kernel
theorem dX11_tells_149 : decode cX11_tells 149 = .ok (.iaload, 1) := by decide +kernel
theorem dX11_tells_150 : decode cX11_tells 150 = .ok (.aload_n 0, 1) := by decide +kernel
theorem dX11_tells_151 : decode cX11_tells 151 = .ok (.getfield 13, 3) := by decide +kernel
theorem dX11_tells_154 : decode cX11_tells 154 = .ok (.iload 5, 2) := by decide +kernel
theorem dX11_tells_156 : decode cX11_tells 156 = .ok (.iconst 2, 1) := by decide +kernel
theorem dX11_tells_157 : decode cX11_tells 157 = .ok (.iadd, 1) := by decide +kernel
theorem dX11_tells_158 : decode cX11_tells 158 = .ok (.iaload, 1) := by decide +kernel
theorem dX11_tells_159 : decode cX11_tells 159 = .ok (.invokevirtual 260, 3) := by decide +kernel
theorem dX11_tells_162 : decode cX11_tells 162 = .ok (.istore_n 3, 1) := by decide +kernel
theorem dX11_tells_163 : decode cX11_tells 163 = .ok (.goto 9, 3) := by decide +kernel
theorem dX11_tells_166 : decode cX11_tells 166 = .ok (.iinc 4 1, 3) := by decide +kernel
theorem dX11_tells_169 : decode cX11_tells 169 = .ok (.goto (-104), 3) := by decide +kernel
theorem dX11_tells_172 : decode cX11_tells 172 = .ok (.iload_n 1, 1) := by decide +kernel
theorem dX11_tells_173 : decode cX11_tells 173 = .ok (.iconst 2, 1) := by decide +kernel
theorem dX11_tells_174 : decode cX11_tells 174 = .ok (.if_icmp .ne 8, 3) := by decide +kernel
theorem dX11_tells_177 : decode cX11_tells 177 = .ok (.bipush 99, 2) := by decide +kernel
theorem dX11_tells_179 : decode cX11_tells 179 = .ok (.goto 6, 3) := by decide +kernel
theorem dX11_tells_182 : decode cX11_tells 182 = .ok (.sipush 1000, 3) := by decide +kernel
theorem dX11_tells_185 : decode cX11_tells 185 = .ok (.istore 4, 2) := by decide +kernel
theorem dX11_tells_187 : decode cX11_tells 187 = .ok (.iload_n 3, 1) := by decide +kernel
theorem dX11_tells_188 : decode cX11_tells 188 = .ok (.ifCond .ge 7, 3) := by decide +kernel
theorem dX11_tells_191 : decode cX11_tells 191 = .ok (.iconst 0, 1) := by decide +kernel
theorem dX11_tells_192 : decode cX11_tells 192 = .ok (.goto 15, 3) := by decide +kernel
theorem dX11_tells_195 : decode cX11_tells 195 = .ok (.iload_n 3, 1) := by decide +kernel
theorem dX11_tells_196 : decode cX11_tells 196 = .ok (.iload 4, 2) := by decide +kernel
theorem dX11_tells_198 : decode cX11_tells 198 = .ok (.if_icmp .le 8, 3) := by decide +kernel
theorem dX11_tells_201 : decode cX11_tells 201 = .ok (.iload 4, 2) := by decide +kernel
theorem dX11_tells_203 : decode cX11_tells 203 = .ok (.goto 4, 3) := by decide +kernel
theorem dX11_tells_206 : decode cX11_tells 206 = .ok (.iload_n 3, 1) := by decide +kernel
theorem dX11_tells_207 : decode cX11_tells 207 = .ok (.ireturn, 1) := by decide +kernel
theorem dX11_nextWord_0 : decode cX11_nextWord 0 = .ok (.sipush 1925, 3) := by decide +kernel
theorem dX11_nextWord_3 : decode cX11_nextWord 3 = .ok (.bipush 25, 2) := by decide +kernel
theorem dX11_nextWord_5 : decode cX11_nextWord 5 = .ok (.iload_n 1, 1) := by decide +kernel
theorem dX11_nextWord_6 : decode cX11_nextWord 6 = .ok (.imul, 1) := by decide +kernel
theorem dX11_nextWord_7 : decode cX11_nextWord 7 = .ok (.iadd, 1) := by decide +kernel
theorem dX11_nextWord_8 : decode cX11_nextWord 8 = .ok (.istore_n 2, 1) := by decide +kernel
theorem dX11_nextWord_9 : decode cX11_nextWord 9 = .ok (.aload_n 0, 1) := by decide +kernel
theorem dX11_nextWord_10 : decode cX11_nextWord 10 = .ok (.iload_n 1, 1) := by decide +kernel
theorem dX11_nextWord_11 : decode cX11_nextWord 11 = .ok (.bipush 8, 2) := by decide +kernel
theorem dX11_nextWord_13 : decode cX11_nextWord 13 = .ok (.invokevirtual 104, 3) := by decide +kernel
theorem dX11_nextWord_16 : decode cX11_nextWord 16 = .ok (.istore_n 3, 1) := by decide +kernel
theorem dX11_nextWord_17 : decode cX11_nextWord 17 = .ok (.iconst 0, 1) := by decide +kernel
theorem dX11_nextWord_18 : decode cX11_nextWord 18 = .ok (.istore 4, 2) := by decide +kernel
theorem dX11_nextWord_20 : decode cX11_nextWord 20 = .ok (.iload 4, 2) := by decide +kernel
theorem dX11_nextWord_22 : decode cX11_nextWord 22 = .ok (.aload_n 0, 1) := by decide +kernel
theorem dX11_nextWord_23 : decode cX11_nextWord 23 = .ok (.getfield 13, 3) := by decide +kernel
theorem dX11_nextWord_26 : decode cX11_nextWord 26 = .ok (.iload_n 2, 1) := by decide +kernel
theorem dX11_nextWord_27 : decode cX11_nextWord 27 = .ok (.iaload, 1) := by decide +kernel
theorem dX11_nextWord_28 : decode cX11_nextWord 28 = .ok (.if_icmp .ge 56, 3) := by decide +kernel
theorem dX11_nextWord_31 : decode cX11_nextWord 31 = .ok (.iload_n 3, 1) := by decide +kernel
theorem dX11_nextWord_32 : decode cX11_nextWord 32 = .ok (.aload_n 0, 1) := by decide +kernel
theorem dX11_nextWord_33 : decode cX11_nextWord 33 = .ok (.getfield 13, 3) := by decide +kernel
theorem dX11_nextWord_36 : decode cX11_nextWord 36 = .ok (.iload_n 2, 1) := by decide +kernel
theorem dX11_nextWord_37 : decode cX11_nextWord 37 = .ok (.iconst 2, 1) := by decide +kernel
theorem dX11_nextWord_38 : decode cX11_nextWord 38 = .ok (.iadd, 1) := by decide +kernel
theorem dX11_nextWord_39 : decode cX11_nextWord 39 = .ok (.iconst 2, 1) := by decide +kernel
theorem dX11_nextWord_40 : decode cX11_nextWord 40 = .ok (.iload 4, 2) := by decide +kernel
theorem dX11_nextWord_42 : decode cX11_nextWord 42 = .ok (.imul, 1) := by decide +kernel
theorem dX11_nextWord_43 : decode cX11_nextWord 43 = .ok (.iadd, 1) := by decide +kernel
theorem dX11_nextWord_44 : decode cX11_nextWord 44 = .ok (.iaload, 1) := by decide +kernel
theorem dX11_nextWord_45 : decode cX11_nextWord 45 = .ok (.if_icmp .ge 17, 3) := by decide +kernel
theorem dX11_nextWord_48 : decode cX11_nextWord 48 = .ok (.aload_n 0, 1) := by decide +kernel
theorem dX11_nextWord_49 : decode cX11_nextWord 49 = .ok (.getfield 13, 3) := by decide +kernel
theorem dX11_nextWord_52 : decode cX11_nextWord 52 = .ok (.iload_n 2, 1) := by decide +kernel
theorem dX11_nextWord_53 : decode cX11_nextWord 53 = .ok (.iconst 1, 1) := by decide +kernel
theorem dX11_nextWord_54 : decode cX11_nextWord 54 = .ok (.iadd, 1) := by decide +kernel
theorem dX11_nextWord_55 : decode cX11_nextWord 55 = .ok (.iconst 2, 1) := by decide +kernel
theorem dX11_nextWord_56 : decode cX11_nextWord 56 = .ok (.iload 4, 2) := by decide +kernel
theorem dX11_nextWord_58 : decode cX11_nextWord 58 = .ok (.imul, 1) := by decide +kernel
theorem dX11_nextWord_59 : decode cX11_nextWord 59 = .ok (.iadd, 1) := by decide +kernel
theorem dX11_nextWord_60 : decode cX11_nextWord 60 = .ok (.iaload, 1) := by decide +kernel
theorem dX11_nextWord_61 : decode cX11_nextWord 61 = .ok (.ireturn, 1) := by decide +kernel
theorem dX11_nextWord_62 : decode cX11_nextWord 62 = .ok (.iload_n 3, 1) := by decide +kernel
theorem dX11_nextWord_63 : decode cX11_nextWord 63 = .ok (.aload_n 0, 1) := by decide +kernel
theorem dX11_nextWord_64 : decode cX11_nextWord 64 = .ok (.getfield 13, 3) := by decide +kernel
theorem dX11_nextWord_67 : decode cX11_nextWord 67 = .ok (.iload_n 2, 1) := by decide +kernel
theorem dX11_nextWord_68 : decode cX11_nextWord 68 = .ok (.iconst 2, 1) := by decide +kernel
theorem dX11_nextWord_69 : decode cX11_nextWord 69 = .ok (.iadd, 1) := by decide +kernel
theorem dX11_nextWord_70 : decode cX11_nextWord 70 = .ok (.iconst 2, 1) := by decide +kernel
theorem dX11_nextWord_71 : decode cX11_nextWord 71 = .ok (.iload 4, 2) := by decide +kernel
theorem dX11_nextWord_73 : decode cX11_nextWord 73 = .ok (.imul, 1) := by decide +kernel
theorem dX11_nextWord_74 : decode cX11_nextWord 74 = .ok (.iadd, 1) := by decide +kernel
theorem dX11_nextWord_75 : decode cX11_nextWord 75 = .ok (.iaload, 1) := by decide +kernel
theorem dX11_nextWord_76 : decode cX11_nextWord 76 = .ok (.isub, 1) := by decide +kernel
theorem dX11_nextWord_77 : decode cX11_nextWord 77 = .ok (.istore_n 3, 1) := by decide +kernel
theorem dX11_nextWord_78 : decode cX11_nextWord 78 = .ok (.iinc 4 1, 3) := by decide +kernel
theorem dX11_nextWord_81 : decode cX11_nextWord 81 = .ok (.goto (-61), 3) := by decide +kernel
theorem dX11_nextWord_84 : decode cX11_nextWord 84 = .ok (.iconst 3, 1) := by decide +kernel
theorem dX11_nextWord_85 : decode cX11_nextWord 85 = .ok (.ireturn, 1) := by decide +kernel
theorem dX11_turned_0 : decode cX11_turned 0 = .ok (.iload_n 0, 1) := by decide +kernel
theorem dX11_turned_1 : decode cX11_turned 1 = .ok (.iload_n 1, 1) := by decide +kernel
theorem dX11_turned_2 : decode cX11_turned 2 = .ok (.ifCond .ne 7, 3) := by decide +kernel
theorem dX11_turned_5 : decode cX11_turned 5 = .ok (.iconst 3, 1) := by decide +kernel
theorem dX11_turned_6 : decode cX11_turned 6 = .ok (.goto 4, 3) := by decide +kernel
theorem dX11_turned_9 : decode cX11_turned 9 = .ok (.iload_n 1, 1) := by decide +kernel
theorem dX11_turned_10 : decode cX11_turned 10 = .ok (.iadd, 1) := by decide +kernel
theorem dX11_turned_11 : decode cX11_turned 11 = .ok (.iconst 4, 1) := by decide +kernel
theorem dX11_turned_12 : decode cX11_turned 12 = .ok (.irem, 1) := by decide +kernel
theorem dX11_turned_13 : decode cX11_turned 13 = .ok (.ireturn, 1) := by decide +kernel
theorem dX11_turnsRound_0 : decode cX11_turnsRound 0 = .ok (.iload_n 2, 1) := by decide +kernel
theorem dX11_turnsRound_1 : decode cX11_turnsRound 1 = .ok (.iconst 2, 1) := by decide +kernel
theorem dX11_turnsRound_2 : decode cX11_turnsRound 2 = .ok (.if_icmp .ne 7, 3) := by decide +kernel
theorem dX11_turnsRound_5 : decode cX11_turnsRound 5 = .ok (.iconst 2, 1) := by decide +kernel
theorem dX11_turnsRound_6 : decode cX11_turnsRound 6 = .ok (.goto 4, 3) := by decide +kernel
theorem dX11_turnsRound_9 : decode cX11_turnsRound 9 = .ok (.iconst 1, 1) := by decide +kernel
theorem dX11_turnsRound_10 : decode cX11_turnsRound 10 = .ok (.istore_n 3, 1) := by decide +kernel
theorem dX11_turnsRound_11 : decode cX11_turnsRound 11 = .ok (.aload_n 0, 1) := by decide +kernel
theorem dX11_turnsRound_12 : decode cX11_turnsRound 12 = .ok (.iload_n 1, 1) := by decide +kernel
theorem dX11_turnsRound_13 : decode cX11_turnsRound 13 = .ok (.iconst 4, 1) := by decide +kernel
theorem dX11_turnsRound_14 : decode cX11_turnsRound 14 = .ok (.aload_n 0, 1) := by decide +kernel
theorem dX11_turnsRound_15 : decode cX11_turnsRound 15 = .ok (.iload_n 1, 1) := by decide +kernel
theorem dX11_turnsRound_16 : decode cX11_turnsRound 16 = .ok (.iconst 4, 1) := by decide +kernel
theorem dX11_turnsRound_17 : decode cX11_turnsRound 17 = .ok (.invokevirtual 104, 3) := by decide +kernel
theorem dX11_turnsRound_20 : decode cX11_turnsRound 20 = .ok (.iload_n 2, 1) := by decide +kernel
theorem dX11_turnsRound_21 : decode cX11_turnsRound 21 = .ok (.invokestatic 263, 3) := by decide +kernel
theorem dX11_turnsRound_24 : decode cX11_turnsRound 24 = .ok (.invokevirtual 266, 3) := by decide +kernel
theorem dX11_turnsRound_27 : decode cX11_turnsRound 27 = .ok (.aload_n 0, 1) := by decide +kernel
theorem dX11_turnsRound_28 : decode cX11_turnsRound 28 = .ok (.iload_n 1, 1) := by decide +kernel
theorem dX11_turnsRound_29 : decode cX11_turnsRound 29 = .ok (.iconst 5, 1) := by decide +kernel
theorem dX11_turnsRound_30 : decode cX11_turnsRound 30 = .ok (.iload_n 3, 1) := by decide +kernel
theorem dX11_turnsRound_31 : decode cX11_turnsRound 31 = .ok (.invokevirtual 270, 3) := by decide +kernel
theorem dX11_turnsRound_34 : decode cX11_turnsRound 34 = .ok (.aload_n 0, 1) := by decide +kernel
theorem dX11_turnsRound_35 : decode cX11_turnsRound 35 = .ok (.getfield 13, 3) := by decide +kernel
theorem dX11_turnsRound_38 : decode cX11_turnsRound 38 = .ok (.aload_n 0, 1) := by decide +kernel
theorem dX11_turnsRound_39 : decode cX11_turnsRound 39 = .ok (.iload_n 1, 1) := by decide +kernel
theorem dX11_turnsRound_40 : decode cX11_turnsRound 40 = .ok (.invokevirtual 111, 3) := by decide +kernel
theorem dX11_turnsRound_43 : decode cX11_turnsRound 43 = .ok (.iaload, 1) := by decide +kernel
theorem dX11_turnsRound_44 : decode cX11_turnsRound 44 = .ok (.iconst 3, 1) := by decide +kernel
theorem dX11_turnsRound_45 : decode cX11_turnsRound 45 = .ok (.if_icmp .ne 11, 3) := by decide +kernel
theorem dX11_turnsRound_48 : decode cX11_turnsRound 48 = .ok (.aload_n 0, 1) := by decide +kernel
theorem dX11_turnsRound_49 : decode cX11_turnsRound 49 = .ok (.iload_n 1, 1) := by decide +kernel
theorem dX11_turnsRound_50 : decode cX11_turnsRound 50 = .ok (.bipush 6, 2) := by decide +kernel
theorem dX11_turnsRound_52 : decode cX11_turnsRound 52 = .ok (.iload_n 3, 1) := by decide +kernel
theorem dX11_turnsRound_53 : decode cX11_turnsRound 53 = .ok (.invokevirtual 270, 3) := by decide +kernel
theorem dX11_turnsRound_56 : decode cX11_turnsRound 56 = .ok (.aload_n 0, 1) := by decide +kernel
theorem dX11_turnsRound_57 : decode cX11_turnsRound 57 = .ok (.iconst 1, 1) := by decide +kernel
theorem dX11_turnsRound_58 : decode cX11_turnsRound 58 = .ok (.iload_n 1, 1) := by decide +kernel
theorem dX11_turnsRound_59 : decode cX11_turnsRound 59 = .ok (.aload_n 0, 1) := by decide +kernel
theorem dX11_turnsRound_60 : decode cX11_turnsRound 60 = .ok (.iload_n 1, 1) := by decide +kernel
theorem dX11_turnsRound_61 : decode cX11_turnsRound 61 = .ok (.invokevirtual 111, 3) := by decide +kernel
theorem dX11_turnsRound_64 : decode cX11_turnsRound 64 = .ok (.invokevirtual 273, 3) := by decide +kernel
theorem dX11_turnsRound_67 : decode cX11_turnsRound 67 = .ok (.return_, 1) := by decide +kernel
theorem dX11_comesOver_0 : decode cX11_comesOver 0 = .ok (.aload_n 0, 1) := by decide +kernel
theorem dX11_comesOver_1 : decode cX11_comesOver 1 = .ok (.iload_n 1, 1) := by decide +kernel
theorem dX11_comesOver_2 : decode cX11_comesOver 2 = .ok (.bipush 9, 2) := by decide +kernel
theorem dX11_comesOver_4 : decode cX11_comesOver 4 = .ok (.iconst 1, 1) := by decide +kernel
theorem dX11_comesOver_5 : decode cX11_comesOver 5 = .ok (.invokevirtual 270, 3) := by decide +kernel
theorem dX11_comesOver_8 : decode cX11_comesOver 8 = .ok (.aload_n 0, 1) := by decide +kernel
theorem dX11_comesOver_9 : decode cX11_comesOver 9 = .ok (.getfield 13, 3) := by decide +kernel
theorem dX11_comesOver_12 : decode cX11_comesOver 12 = .ok (.sipush 937, 3) := by decide +kernel
theorem dX11_comesOver_15 : decode cX11_comesOver 15 = .ok (.dup2, 1) := by decide +kernel
theorem dX11_comesOver_16 : decode cX11_comesOver 16 = .ok (.iaload, 1) := by decide +kernel
theorem dX11_comesOver_17 : decode cX11_comesOver 17 = .ok (.aload_n 0, 1) := by decide +kernel
theorem dX11_comesOver_18 : decode cX11_comesOver 18 = .ok (.iconst 2, 1) := by decide +kernel
theorem dX11_comesOver_19 : decode cX11_comesOver 19 = .ok (.iload_n 1, 1) := by decide +kernel
theorem dX11_comesOver_20 : decode cX11_comesOver 20 = .ok (.invokevirtual 276, 3) := by decide +kernel
theorem dX11_comesOver_23 : decode cX11_comesOver 23 = .ok (.iadd, 1) := by decide +kernel
theorem dX11_comesOver_24 : decode cX11_comesOver 24 = .ok (.iastore, 1) := by decide +kernel
theorem dX11_comesOver_25 : decode cX11_comesOver 25 = .ok (.aload_n 0, 1) := by decide +kernel
theorem dX11_comesOver_26 : decode cX11_comesOver 26 = .ok (.iconst 3, 1) := by decide +kernel
theorem dX11_comesOver_27 : decode cX11_comesOver 27 = .ok (.iload_n 1, 1) := by decide +kernel
theorem dX11_comesOver_28 : decode cX11_comesOver 28 = .ok (.aload_n 0, 1) := by decide +kernel
theorem dX11_comesOver_29 : decode cX11_comesOver 29 = .ok (.iload_n 1, 1) := by decide +kernel
theorem dX11_comesOver_30 : decode cX11_comesOver 30 = .ok (.iconst 5, 1) := by decide +kernel
theorem dX11_comesOver_31 : decode cX11_comesOver 31 = .ok (.invokevirtual 104, 3) := by decide +kernel
theorem dX11_comesOver_34 : decode cX11_comesOver 34 = .ok (.invokevirtual 273, 3) := by decide +kernel
theorem dX11_comesOver_37 : decode cX11_comesOver 37 = .ok (.aload_n 0, 1) := by decide +kernel
theorem dX11_comesOver_38 : decode cX11_comesOver 38 = .ok (.iload_n 1, 1) := by decide +kernel
theorem dX11_comesOver_39 : decode cX11_comesOver 39 = .ok (.iconst 5, 1) := by decide +kernel
theorem dX11_comesOver_40 : decode cX11_comesOver 40 = .ok (.invokevirtual 104, 3) := by decide +kernel
theorem dX11_comesOver_43 : decode cX11_comesOver 43 = .ok (.ifCond .ne 45, 3) := by decide +kernel
theorem dX11_comesOver_46 : decode cX11_comesOver 46 = .ok (.aload_n 0, 1) := by decide +kernel
theorem dX11_comesOver_47 : decode cX11_comesOver 47 = .ok (.aload_n 0, 1) := by decide +kernel
theorem dX11_comesOver_48 : decode cX11_comesOver 48 = .ok (.iconst 1, 1) := by decide +kernel
theorem dX11_comesOver_49 : decode cX11_comesOver 49 = .ok (.iload_n 1, 1) := by decide +kernel
theorem dX11_comesOver_50 : decode cX11_comesOver 50 = .ok (.invokevirtual 276, 3) := by decide +kernel
theorem dX11_comesOver_53 : decode cX11_comesOver 53 = .ok (.invokevirtual 279, 3) := by decide +kernel
theorem dX11_comesOver_56 : decode cX11_comesOver 56 = .ok (.ifCond .eq 32, 3) := by decide +kernel
theorem dX11_comesOver_59 : decode cX11_comesOver 59 = .ok (.aload_n 0, 1) := by decide +kernel
theorem dX11_comesOver_60 : decode cX11_comesOver 60 = .ok (.iload_n 1, 1) := by decide +kernel
theorem dX11_comesOver_61 : decode cX11_comesOver 61 = .ok (.bipush 10, 2) := by decide +kernel
theorem dX11_comesOver_63 : decode cX11_comesOver 63 = .ok (.iconst 1, 1) := by decide +kernel
theorem dX11_comesOver_64 : decode cX11_comesOver 64 = .ok (.invokevirtual 270, 3) := by decide +kernel
theorem dX11_comesOver_67 : decode cX11_comesOver 67 = .ok (.aload_n 0, 1) := by decide +kernel
theorem dX11_comesOver_68 : decode cX11_comesOver 68 = .ok (.getfield 13, 3) := by decide +kernel
theorem dX11_comesOver_71 : decode cX11_comesOver 71 = .ok (.sipush 937, 3) := by decide +kernel
theorem dX11_comesOver_74 : decode cX11_comesOver 74 = .ok (.dup2, 1) := by decide +kernel
theorem dX11_comesOver_75 : decode cX11_comesOver 75 = .ok (.iaload, 1) := by decide +kernel
theorem dX11_comesOver_76 : decode cX11_comesOver 76 = .ok (.bipush 50, 2) := by decide +kernel
theorem dX11_comesOver_78 : decode cX11_comesOver 78 = .ok (.iadd, 1) := by decide +kernel
theorem dX11_comesOver_79 : decode cX11_comesOver 79 = .ok (.iastore, 1) := by decide +kernel
theorem dX11_comesOver_80 : decode cX11_comesOver 80 = .ok (.aload_n 0, 1) := by decide +kernel
theorem dX11_comesOver_81 : decode cX11_comesOver 81 = .ok (.iconst 4, 1) := by decide +kernel
theorem dX11_comesOver_82 : decode cX11_comesOver 82 = .ok (.iload_n 1, 1) := by decide +kernel
theorem dX11_comesOver_83 : decode cX11_comesOver 83 = .ok (.bipush 50, 2) := by decide +kernel
theorem dX11_comesOver_85 : decode cX11_comesOver 85 = .ok (.invokevirtual 273, 3) := by decide +kernel
theorem dX11_comesOver_88 : decode cX11_comesOver 88 = .ok (.return_, 1) := by decide +kernel
theorem dX11_goesOut_0 : decode cX11_goesOut 0 = .ok (.aload_n 0, 1) := by decide +kernel
theorem dX11_goesOut_1 : decode cX11_goesOut 1 = .ok (.iload_n 1, 1) := by decide +kernel
theorem dX11_goesOut_2 : decode cX11_goesOut 2 = .ok (.iconst 4, 1) := by decide +kernel
theorem dX11_goesOut_3 : decode cX11_goesOut 3 = .ok (.invokevirtual 104, 3) := by decide +kernel
theorem dX11_goesOut_6 : decode cX11_goesOut 6 = .ok (.iconst 2, 1) := by decide +kernel
theorem dX11_goesOut_7 : decode cX11_goesOut 7 = .ok (.iadd, 1) := by decide +kernel
theorem dX11_goesOut_8 : decode cX11_goesOut 8 = .ok (.iconst 4, 1) := by decide +kernel
theorem dX11_goesOut_9 : decode cX11_goesOut 9 = .ok (.irem, 1) := by decide +kernel
theorem dX11_goesOut_10 : decode cX11_goesOut 10 = .ok (.aload_n 0, 1) := by decide +kernel
theorem dX11_goesOut_11 : decode cX11_goesOut 11 = .ok (.iload_n 1, 1) := by decide +kernel
theorem dX11_goesOut_12 : decode cX11_goesOut 12 = .ok (.bipush 7, 2) := by decide +kernel
theorem dX11_goesOut_14 : decode cX11_goesOut 14 = .ok (.invokevirtual 104, 3) := by decide +kernel
theorem dX11_goesOut_17 : decode cX11_goesOut 17 = .ok (.if_icmp .eq 8, 3) := by decide +kernel
theorem dX11_goesOut_20 : decode cX11_goesOut 20 = .ok (.aload_n 0, 1) := by decide +kernel
theorem dX11_goesOut_21 : decode cX11_goesOut 21 = .ok (.iload_n 1, 1) := by decide +kernel
theorem dX11_goesOut_22 : decode cX11_goesOut 22 = .ok (.invokevirtual 282, 3) := by decide +kernel
theorem dX11_goesOut_25 : decode cX11_goesOut 25 = .ok (.aload_n 0, 1) := by decide +kernel
theorem dX11_goesOut_26 : decode cX11_goesOut 26 = .ok (.iload_n 1, 1) := by decide +kernel
theorem dX11_goesOut_27 : decode cX11_goesOut 27 = .ok (.iconst 1, 1) := by decide +kernel
theorem dX11_goesOut_28 : decode cX11_goesOut 28 = .ok (.iconst 0, 1) := by decide +kernel
theorem dX11_goesOut_29 : decode cX11_goesOut 29 = .ok (.invokevirtual 266, 3) := by decide +kernel
theorem dX11_goesOut_32 : decode cX11_goesOut 32 = .ok (.return_, 1) := by decide +kernel
theorem dX11_goesOn_0 : decode cX11_goesOn 0 = .ok (.iconst 1, 1) := by decide +kernel
theorem dX11_goesOn_1 : decode cX11_goesOn 1 = .ok (.istore_n 2, 1) := by decide +kernel
theorem dX11_goesOn_2 : decode cX11_goesOn 2 = .ok (.iconst 0, 1) := by decide +kernel
theorem dX11_goesOn_3 : decode cX11_goesOn 3 = .ok (.istore_n 3, 1) := by decide +kernel
theorem dX11_goesOn_4 : decode cX11_goesOn 4 = .ok (.iload_n 3, 1) := by decide +kernel
theorem dX11_goesOn_5 : decode cX11_goesOn 5 = .ok (.iconst 2, 1) := by decide +kernel
theorem dX11_goesOn_6 : decode cX11_goesOn 6 = .ok (.if_icmp .ge 178, 3) := by decide +kernel
theorem dX11_goesOn_9 : decode cX11_goesOn 9 = .ok (.iload_n 2, 1) := by decide +kernel
theorem dX11_goesOn_10 : decode cX11_goesOn 10 = .ok (.ifCond .eq 174, 3) := by decide +kernel
theorem dX11_goesOn_13 : decode cX11_goesOn 13 = .ok (.iconst 0, 1) := by decide +kernel
theorem dX11_goesOn_14 : decode cX11_goesOn 14 = .ok (.istore_n 2, 1) := by decide +kernel
theorem dX11_goesOn_15 : decode cX11_goesOn 15 = .ok (.aload_n 0, 1) := by decide +kernel
theorem dX11_goesOn_16 : decode cX11_goesOn 16 = .ok (.iload_n 1, 1) := by decide +kernel
theorem dX11_goesOn_17 : decode cX11_goesOn 17 = .ok (.iconst 2, 1) := by decide +kernel
theorem dX11_goesOn_18 : decode cX11_goesOn 18 = .ok (.invokevirtual 104, 3) := by decide +kernel
theorem dX11_goesOn_21 : decode cX11_goesOn 21 = .ok (.aload_n 0, 1) := by decide +kernel
theorem dX11_goesOn_22 : decode cX11_goesOn 22 = .ok (.iload_n 1, 1) := by decide +kernel
theorem dX11_goesOn_23 : decode cX11_goesOn 23 = .ok (.iconst 4, 1) := by decide +kernel
theorem dX11_goesOn_24 : decode cX11_goesOn 24 = .ok (.invokevirtual 104, 3) := by decide +kernel
theorem dX11_goesOn_27 : decode cX11_goesOn 27 = .ok (.invokestatic 285, 3) := by decide +kernel
theorem dX11_goesOn_30 : decode cX11_goesOn 30 = .ok (.iadd, 1) := by decide +kernel
theorem dX11_goesOn_31 : decode cX11_goesOn 31 = .ok (.istore 4, 2) := by decide +kernel
theorem dX11_goesOn_33 : decode cX11_goesOn 33 = .ok (.aload_n 0, 1) := by decide +kernel
theorem dX11_goesOn_34 : decode cX11_goesOn 34 = .ok (.iload_n 1, 1) := by decide +kernel
theorem dX11_goesOn_35 : decode cX11_goesOn 35 = .ok (.iconst 3, 1) := by decide +kernel
theorem dX11_goesOn_36 : decode cX11_goesOn 36 = .ok (.invokevirtual 104, 3) := by decide +kernel
theorem dX11_goesOn_39 : decode cX11_goesOn 39 = .ok (.aload_n 0, 1) := by decide +kernel
theorem dX11_goesOn_40 : decode cX11_goesOn 40 = .ok (.iload_n 1, 1) := by decide +kernel
theorem dX11_goesOn_41 : decode cX11_goesOn 41 = .ok (.iconst 4, 1) := by decide +kernel
theorem dX11_goesOn_42 : decode cX11_goesOn 42 = .ok (.invokevirtual 104, 3) := by decide +kernel
theorem dX11_goesOn_45 : decode cX11_goesOn 45 = .ok (.invokestatic 288, 3) := by decide +kernel
theorem dX11_goesOn_48 : decode cX11_goesOn 48 = .ok (.iadd, 1) := by decide +kernel
theorem dX11_goesOn_49 : decode cX11_goesOn 49 = .ok (.istore 5, 2) := by decide +kernel
theorem dX11_goesOn_51 : decode cX11_goesOn 51 = .ok (.iload 4, 2) := by decide +kernel
theorem dX11_goesOn_53 : decode cX11_goesOn 53 = .ok (.iload 5, 2) := by decide +kernel
theorem dX11_goesOn_55 : decode cX11_goesOn 55 = .ok (.invokestatic 291, 3) := by decide +kernel
theorem dX11_goesOn_58 : decode cX11_goesOn 58 = .ok (.ifCond .ne 11, 3) := by decide +kernel
theorem dX11_goesOn_61 : decode cX11_goesOn 61 = .ok (.aload_n 0, 1) := by decide +kernel
theorem dX11_goesOn_62 : decode cX11_goesOn 62 = .ok (.iload_n 1, 1) := by decide +kernel
theorem dX11_goesOn_63 : decode cX11_goesOn 63 = .ok (.invokevirtual 295, 3) := by decide +kernel
theorem dX11_goesOn_66 : decode cX11_goesOn 66 = .ok (.goto 86, 3) := by decide +kernel
theorem dX11_goesOn_69 : decode cX11_goesOn 69 = .ok (.aload_n 0, 1) := by decide +kernel
theorem dX11_goesOn_70 : decode cX11_goesOn 70 = .ok (.iload 4, 2) := by decide +kernel
theorem dX11_goesOn_72 : decode cX11_goesOn 72 = .ok (.iload 5, 2) := by decide +kernel
theorem dX11_goesOn_74 : decode cX11_goesOn 74 = .ok (.invokestatic 108, 3) := by decide +kernel
theorem dX11_goesOn_77 : decode cX11_goesOn 77 = .ok (.invokevirtual 298, 3) := by decide +kernel
theorem dX11_goesOn_80 : decode cX11_goesOn 80 = .ok (.ifCond .ne 17, 3) := by decide +kernel
theorem dX11_goesOn_83 : decode cX11_goesOn 83 = .ok (.aload_n 0, 1) := by decide +kernel
theorem dX11_goesOn_84 : decode cX11_goesOn 84 = .ok (.iconst 5, 1) := by decide +kernel
theorem dX11_goesOn_85 : decode cX11_goesOn 85 = .ok (.iload_n 1, 1) := by decide +kernel
theorem dX11_goesOn_86 : decode cX11_goesOn 86 = .ok (.aload_n 0, 1) := by decide +kernel
theorem dX11_goesOn_87 : decode cX11_goesOn 87 = .ok (.iload_n 1, 1) := by decide +kernel
theorem dX11_goesOn_88 : decode cX11_goesOn 88 = .ok (.invokevirtual 111, 3) := by decide +kernel
theorem dX11_goesOn_91 : decode cX11_goesOn 91 = .ok (.invokevirtual 273, 3) := by decide +kernel
theorem dX11_goesOn_94 : decode cX11_goesOn 94 = .ok (.goto 58, 3) := by decide +kernel
theorem dX11_goesOn_97 : decode cX11_goesOn 97 = .ok (.aload_n 0, 1) := by decide +kernel
theorem dX11_goesOn_98 : decode cX11_goesOn 98 = .ok (.iload_n 1, 1) := by decide +kernel
theorem dX11_goesOn_99 : decode cX11_goesOn 99 = .ok (.iconst 2, 1) := by decide +kernel
theorem dX11_goesOn_100 : decode cX11_goesOn 100 = .ok (.iload 4, 2) := by decide +kernel
theorem dX11_goesOn_102 : decode cX11_goesOn 102 = .ok (.invokevirtual 266, 3) := by decide +kernel
theorem dX11_goesOn_105 : decode cX11_goesOn 105 = .ok (.aload_n 0, 1) := by decide +kernel
theorem dX11_goesOn_106 : decode cX11_goesOn 106 = .ok (.iload_n 1, 1) := by decide +kernel
theorem dX11_goesOn_107 : decode cX11_goesOn 107 = .ok (.iconst 3, 1) := by decide +kernel
theorem dX11_goesOn_108 : decode cX11_goesOn 108 = .ok (.iload 5, 2) := by decide +kernel
theorem dX11_goesOn_110 : decode cX11_goesOn 110 = .ok (.invokevirtual 266, 3) := by decide +kernel
theorem dX11_goesOn_113 : decode cX11_goesOn 113 = .ok (.iload_n 3, 1) := by decide +kernel
theorem dX11_goesOn_114 : decode cX11_goesOn 114 = .ok (.ifCond .ne 36, 3) := by decide +kernel
theorem dX11_goesOn_117 : decode cX11_goesOn 117 = .ok (.aload_n 0, 1) := by decide +kernel
theorem dX11_goesOn_118 : decode cX11_goesOn 118 = .ok (.getfield 13, 3) := by decide +kernel
theorem dX11_goesOn_121 : decode cX11_goesOn 121 = .ok (.iload 4, 2) := by decide +kernel
theorem dX11_goesOn_123 : decode cX11_goesOn 123 = .ok (.iload 5, 2) := by decide +kernel
theorem dX11_goesOn_125 : decode cX11_goesOn 125 = .ok (.invokestatic 108, 3) := by decide +kernel
theorem dX11_goesOn_128 : decode cX11_goesOn 128 = .ok (.iaload, 1) := by decide +kernel
theorem dX11_goesOn_129 : decode cX11_goesOn 129 = .ok (.iconst 2, 1) := by decide +kernel
theorem dX11_goesOn_130 : decode cX11_goesOn 130 = .ok (.if_icmp .ne 20, 3) := by decide +kernel
theorem dX11_goesOn_133 : decode cX11_goesOn 133 = .ok (.aload_n 0, 1) := by decide +kernel
theorem dX11_goesOn_134 : decode cX11_goesOn 134 = .ok (.aload_n 0, 1) := by decide +kernel
theorem dX11_goesOn_135 : decode cX11_goesOn 135 = .ok (.iconst 0, 1) := by decide +kernel
theorem dX11_goesOn_136 : decode cX11_goesOn 136 = .ok (.iload_n 1, 1) := by decide +kernel
theorem dX11_goesOn_137 : decode cX11_goesOn 137 = .ok (.invokevirtual 276, 3) := by decide +kernel
theorem dX11_goesOn_140 : decode cX11_goesOn 140 = .ok (.invokevirtual 279, 3) := by decide +kernel
theorem dX11_goesOn_143 : decode cX11_goesOn 143 = .ok (.ifCond .eq 7, 3) := by decide +kernel
theorem dX11_goesOn_146 : decode cX11_goesOn 146 = .ok (.iconst 1, 1) := by decide +kernel
theorem dX11_goesOn_147 : decode cX11_goesOn 147 = .ok (.goto 4, 3) := by decide +kernel
theorem dX11_goesOn_150 : decode cX11_goesOn 150 = .ok (.iconst 0, 1) := by decide +kernel
theorem dX11_goesOn_151 : decode cX11_goesOn 151 = .ok (.istore_n 2, 1) := by decide +kernel
theorem dX11_goesOn_152 : decode cX11_goesOn 152 = .ok (.iload_n 2, 1) := by decide +kernel
theorem dX11_goesOn_153 : decode cX11_goesOn 153 = .ok (.ifCond .ne 6, 3) := by decide +kernel
theorem dX11_goesOn_156 : decode cX11_goesOn 156 = .ok (.goto 22, 3) := by decide +kernel
theorem dX11_goesOn_159 : decode cX11_goesOn 159 = .ok (.aload_n 0, 1) := by decide +kernel
theorem dX11_goesOn_160 : decode cX11_goesOn 160 = .ok (.iload_n 1, 1) := by decide +kernel
theorem dX11_goesOn_161 : decode cX11_goesOn 161 = .ok (.bipush 11, 2) := by decide +kernel
theorem dX11_goesOn_163 : decode cX11_goesOn 163 = .ok (.iconst 1, 1) := by decide +kernel
theorem dX11_goesOn_164 : decode cX11_goesOn 164 = .ok (.invokevirtual 270, 3) := by decide +kernel
theorem dX11_goesOn_167 : decode cX11_goesOn 167 = .ok (.aload_n 0, 1) := by decide +kernel
theorem dX11_goesOn_168 : decode cX11_goesOn 168 = .ok (.iconst 2, 1) := by decide +kernel
theorem dX11_goesOn_169 : decode cX11_goesOn 169 = .ok (.iload_n 1, 1) := by decide +kernel
theorem dX11_goesOn_170 : decode cX11_goesOn 170 = .ok (.aload_n 0, 1) := by decide +kernel
theorem dX11_goesOn_171 : decode cX11_goesOn 171 = .ok (.iload_n 1, 1) := by decide +kernel
theorem dX11_goesOn_172 : decode cX11_goesOn 172 = .ok (.invokevirtual 111, 3) := by decide +kernel
theorem dX11_goesOn_175 : decode cX11_goesOn 175 = .ok (.invokevirtual 273, 3) := by decide +kernel
theorem dX11_goesOn_178 : decode cX11_goesOn 178 = .ok (.iinc 3 1, 3) := by decide +kernel
theorem dX11_goesOn_181 : decode cX11_goesOn 181 = .ok (.goto (-177), 3) := by decide +kernel
theorem dX11_goesOn_184 : decode cX11_goesOn 184 = .ok (.return_, 1) := by decide +kernel
theorem dX11_goesMinute_0 : decode cX11_goesMinute 0 = .ok (.iconst 0, 1) := by decide +kernel
theorem dX11_goesMinute_1 : decode cX11_goesMinute 1 = .ok (.istore_n 1, 1) := by decide +kernel
theorem dX11_goesMinute_2 : decode cX11_goesMinute 2 = .ok (.iload_n 1, 1) := by decide +kernel
theorem dX11_goesMinute_3 : decode cX11_goesMinute 3 = .ok (.aload_n 0, 1) := by decide +kernel
theorem dX11_goesMinute_4 : decode cX11_goesMinute 4 = .ok (.getfield 13, 3) := by decide +kernel
theorem dX11_goesMinute_7 : decode cX11_goesMinute 7 = .ok (.sipush 940, 3) := by decide +kernel
theorem dX11_goesMinute_10 : decode cX11_goesMinute 10 = .ok (.iaload, 1) := by decide +kernel
theorem dX11_goesMinute_11 : decode cX11_goesMinute 11 = .ok (.if_icmp .ge 59, 3) := by decide +kernel
theorem dX11_goesMinute_14 : decode cX11_goesMinute 14 = .ok (.aload_n 0, 1) := by decide +kernel
theorem dX11_goesMinute_15 : decode cX11_goesMinute 15 = .ok (.iload_n 1, 1) := by decide +kernel
theorem dX11_goesMinute_16 : decode cX11_goesMinute 16 = .ok (.iconst 1, 1) := by decide +kernel
theorem dX11_goesMinute_17 : decode cX11_goesMinute 17 = .ok (.invokevirtual 104, 3) := by decide +kernel
theorem dX11_goesMinute_20 : decode cX11_goesMinute 20 = .ok (.ifCond .ne 6, 3) := by decide +kernel
theorem dX11_goesMinute_23 : decode cX11_goesMinute 23 = .ok (.goto 41, 3) := by decide +kernel
theorem dX11_goesMinute_26 : decode cX11_goesMinute 26 = .ok (.aload_n 0, 1) := by decide +kernel
theorem dX11_goesMinute_27 : decode cX11_goesMinute 27 = .ok (.iload_n 1, 1) := by decide +kernel
theorem dX11_goesMinute_28 : decode cX11_goesMinute 28 = .ok (.invokevirtual 301, 3) := by decide +kernel
theorem dX11_goesMinute_31 : decode cX11_goesMinute 31 = .ok (.istore_n 2, 1) := by decide +kernel
theorem dX11_goesMinute_32 : decode cX11_goesMinute 32 = .ok (.aload_n 0, 1) := by decide +kernel
theorem dX11_goesMinute_33 : decode cX11_goesMinute 33 = .ok (.iload_n 1, 1) := by decide +kernel
theorem dX11_goesMinute_34 : decode cX11_goesMinute 34 = .ok (.bipush 8, 2) := by decide +kernel
theorem dX11_goesMinute_36 : decode cX11_goesMinute 36 = .ok (.iconst 1, 1) := by decide +kernel
theorem dX11_goesMinute_37 : decode cX11_goesMinute 37 = .ok (.invokevirtual 270, 3) := by decide +kernel
theorem dX11_goesMinute_40 : decode cX11_goesMinute 40 = .ok (.iload_n 2, 1) := by decide +kernel
theorem dX11_goesMinute_41 : decode cX11_goesMinute 41 = .ok (.iconst 3, 1) := by decide +kernel
theorem dX11_goesMinute_42 : decode cX11_goesMinute 42 = .ok (.if_icmp .ge 12, 3) := by decide +kernel
theorem dX11_goesMinute_45 : decode cX11_goesMinute 45 = .ok (.aload_n 0, 1) := by decide +kernel
theorem dX11_goesMinute_46 : decode cX11_goesMinute 46 = .ok (.iload_n 1, 1) := by decide +kernel
theorem dX11_goesMinute_47 : decode cX11_goesMinute 47 = .ok (.iload_n 2, 1) := by decide +kernel
theorem dX11_goesMinute_48 : decode cX11_goesMinute 48 = .ok (.invokevirtual 304, 3) := by decide +kernel
theorem dX11_goesMinute_51 : decode cX11_goesMinute 51 = .ok (.goto 13, 3) := by decide +kernel
theorem dX11_goesMinute_54 : decode cX11_goesMinute 54 = .ok (.iload_n 2, 1) := by decide +kernel
theorem dX11_goesMinute_55 : decode cX11_goesMinute 55 = .ok (.iconst 3, 1) := by decide +kernel
theorem dX11_goesMinute_56 : decode cX11_goesMinute 56 = .ok (.if_icmp .ne 8, 3) := by decide +kernel
theorem dX11_goesMinute_59 : decode cX11_goesMinute 59 = .ok (.aload_n 0, 1) := by decide +kernel
theorem dX11_goesMinute_60 : decode cX11_goesMinute 60 = .ok (.iload_n 1, 1) := by decide +kernel
theorem dX11_goesMinute_61 : decode cX11_goesMinute 61 = .ok (.invokevirtual 307, 3) := by decide +kernel
theorem dX11_goesMinute_64 : decode cX11_goesMinute 64 = .ok (.iinc 1 1, 3) := by decide +kernel
theorem dX11_goesMinute_67 : decode cX11_goesMinute 67 = .ok (.goto (-65), 3) := by decide +kernel
theorem dX11_goesMinute_70 : decode cX11_goesMinute 70 = .ok (.aload_n 0, 1) := by decide +kernel
theorem dX11_goesMinute_71 : decode cX11_goesMinute 71 = .ok (.getfield 13, 3) := by decide +kernel
theorem dX11_goesMinute_74 : decode cX11_goesMinute 74 = .ok (.sipush 936, 3) := by decide +kernel
theorem dX11_goesMinute_77 : decode cX11_goesMinute 77 = .ok (.dup2, 1) := by decide +kernel
theorem dX11_goesMinute_78 : decode cX11_goesMinute 78 = .ok (.iaload, 1) := by decide +kernel
theorem dX11_goesMinute_79 : decode cX11_goesMinute 79 = .ok (.iconst 1, 1) := by decide +kernel
theorem dX11_goesMinute_80 : decode cX11_goesMinute 80 = .ok (.iadd, 1) := by decide +kernel
theorem dX11_goesMinute_81 : decode cX11_goesMinute 81 = .ok (.iastore, 1) := by decide +kernel
theorem dX11_goesMinute_82 : decode cX11_goesMinute 82 = .ok (.return_, 1) := by decide +kernel
theorem dX11_sumOf_0 : decode cX11_sumOf 0 = .ok (.iconst 0, 1) := by decide +kernel
theorem dX11_sumOf_1 : decode cX11_sumOf 1 = .ok (.istore_n 2, 1) := by decide +kernel
theorem dX11_sumOf_2 : decode cX11_sumOf 2 = .ok (.iconst 0, 1) := by decide +kernel
theorem dX11_sumOf_3 : decode cX11_sumOf 3 = .ok (.istore_n 3, 1) := by decide +kernel
theorem dX11_sumOf_4 : decode cX11_sumOf 4 = .ok (.iload_n 3, 1) := by decide +kernel
theorem dX11_sumOf_5 : decode cX11_sumOf 5 = .ok (.aload_n 0, 1) := by decide +kernel
theorem dX11_sumOf_6 : decode cX11_sumOf 6 = .ok (.getfield 13, 3) := by decide +kernel
theorem dX11_sumOf_9 : decode cX11_sumOf 9 = .ok (.sipush 940, 3) := by decide +kernel
theorem dX11_sumOf_12 : decode cX11_sumOf 12 = .ok (.iaload, 1) := by decide +kernel
theorem dX11_sumOf_13 : decode cX11_sumOf 13 = .ok (.if_icmp .ge 18, 3) := by decide +kernel
theorem dX11_sumOf_16 : decode cX11_sumOf 16 = .ok (.iload_n 2, 1) := by decide +kernel
theorem dX11_sumOf_17 : decode cX11_sumOf 17 = .ok (.aload_n 0, 1) := by decide +kernel
theorem dX11_sumOf_18 : decode cX11_sumOf 18 = .ok (.iload_n 3, 1) := by decide +kernel
theorem dX11_sumOf_19 : decode cX11_sumOf 19 = .ok (.iload_n 1, 1) := by decide +kernel
theorem dX11_sumOf_20 : decode cX11_sumOf 20 = .ok (.invokevirtual 104, 3) := by decide +kernel
theorem dX11_sumOf_23 : decode cX11_sumOf 23 = .ok (.iadd, 1) := by decide +kernel
theorem dX11_sumOf_24 : decode cX11_sumOf 24 = .ok (.istore_n 2, 1) := by decide +kernel
theorem dX11_sumOf_25 : decode cX11_sumOf 25 = .ok (.iinc 3 1, 3) := by decide +kernel
theorem dX11_sumOf_28 : decode cX11_sumOf 28 = .ok (.goto (-24), 3) := by decide +kernel
theorem dX11_sumOf_31 : decode cX11_sumOf 31 = .ok (.iload_n 2, 1) := by decide +kernel
theorem dX11_sumOf_32 : decode cX11_sumOf 32 = .ok (.ireturn, 1) := by decide +kernel
theorem dX11_minutes_0 : decode cX11_minutes 0 = .ok (.iload_n 1, 1) := by decide +kernel
theorem dX11_minutes_1 : decode cX11_minutes 1 = .ok (.iconst 1, 1) := by decide +kernel
theorem dX11_minutes_2 : decode cX11_minutes 2 = .ok (.bipush 60, 2) := by decide +kernel
theorem dX11_minutes_4 : decode cX11_minutes 4 = .ok (.invokestatic 100, 3) := by decide +kernel
theorem dX11_minutes_7 : decode cX11_minutes 7 = .ok (.ifCond .eq 19, 3) := by decide +kernel
theorem dX11_minutes_10 : decode cX11_minutes 10 = .ok (.aload_n 0, 1) := by decide +kernel
theorem dX11_minutes_11 : decode cX11_minutes 11 = .ok (.getfield 9, 3) := by decide +kernel
theorem dX11_minutes_14 : decode cX11_minutes 14 = .ok (.sipush 936, 3) := by decide +kernel
theorem dX11_minutes_17 : decode cX11_minutes 17 = .ok (.iaload, 1) := by decide +kernel
theorem dX11_minutes_18 : decode cX11_minutes 18 = .ok (.iload_n 1, 1) := by decide +kernel
theorem dX11_minutes_19 : decode cX11_minutes 19 = .ok (.iadd, 1) := by decide +kernel
theorem dX11_minutes_20 : decode cX11_minutes 20 = .ok (.sipush 9999, 3) := by decide +kernel
theorem dX11_minutes_23 : decode cX11_minutes 23 = .ok (.if_icmp .le 5, 3) := by decide +kernel
theorem dX11_minutes_26 : decode cX11_minutes 26 = .ok (.iconst (-1), 1) := by decide +kernel
theorem dX11_minutes_27 : decode cX11_minutes 27 = .ok (.ireturn, 1) := by decide +kernel
theorem dX11_minutes_28 : decode cX11_minutes 28 = .ok (.iconst 0, 1) := by decide +kernel
theorem dX11_minutes_29 : decode cX11_minutes 29 = .ok (.istore_n 2, 1) := by decide +kernel
theorem dX11_minutes_30 : decode cX11_minutes 30 = .ok (.iconst 0, 1) := by decide +kernel
theorem dX11_minutes_31 : decode cX11_minutes 31 = .ok (.istore_n 3, 1) := by decide +kernel
theorem dX11_minutes_32 : decode cX11_minutes 32 = .ok (.iload_n 3, 1) := by decide +kernel
theorem dX11_minutes_33 : decode cX11_minutes 33 = .ok (.aload_n 0, 1) := by decide +kernel
theorem dX11_minutes_34 : decode cX11_minutes 34 = .ok (.getfield 9, 3) := by decide +kernel
theorem dX11_minutes_37 : decode cX11_minutes 37 = .ok (.sipush 940, 3) := by decide +kernel
theorem dX11_minutes_40 : decode cX11_minutes 40 = .ok (.iaload, 1) := by decide +kernel
theorem dX11_minutes_41 : decode cX11_minutes 41 = .ok (.if_icmp .ge 28, 3) := by decide +kernel
theorem dX11_minutes_44 : decode cX11_minutes 44 = .ok (.iload_n 2, 1) := by decide +kernel
theorem dX11_minutes_45 : decode cX11_minutes 45 = .ok (.aload_n 0, 1) := by decide +kernel
theorem dX11_minutes_46 : decode cX11_minutes 46 = .ok (.getfield 9, 3) := by decide +kernel
theorem dX11_minutes_49 : decode cX11_minutes 49 = .ok (.sipush 144, 3) := by decide +kernel
theorem dX11_minutes_52 : decode cX11_minutes 52 = .ok (.bipush 12, 2) := by decide +kernel
theorem dX11_minutes_54 : decode cX11_minutes 54 = .ok (.iload_n 3, 1) := by decide +kernel
theorem dX11_minutes_55 : decode cX11_minutes 55 = .ok (.imul, 1) := by decide +kernel
theorem dX11_minutes_56 : decode cX11_minutes 56 = .ok (.iadd, 1) := by decide +kernel
theorem dX11_minutes_57 : decode cX11_minutes 57 = .ok (.bipush 9, 2) := by decide +kernel
theorem dX11_minutes_59 : decode cX11_minutes 59 = .ok (.iadd, 1) := by decide +kernel
theorem dX11_minutes_60 : decode cX11_minutes 60 = .ok (.iaload, 1) := by decide +kernel
theorem dX11_minutes_61 : decode cX11_minutes 61 = .ok (.iadd, 1) := by decide +kernel
theorem dX11_minutes_62 : decode cX11_minutes 62 = .ok (.istore_n 2, 1) := by decide +kernel
theorem dX11_minutes_63 : decode cX11_minutes 63 = .ok (.iinc 3 1, 3) := by decide +kernel
theorem dX11_minutes_66 : decode cX11_minutes 66 = .ok (.goto (-34), 3) := by decide +kernel
theorem dX11_minutes_69 : decode cX11_minutes 69 = .ok (.iconst 0, 1) := by decide +kernel
theorem dX11_minutes_70 : decode cX11_minutes 70 = .ok (.istore_n 3, 1) := by decide +kernel
theorem dX11_minutes_71 : decode cX11_minutes 71 = .ok (.iload_n 3, 1) := by decide +kernel
theorem dX11_minutes_72 : decode cX11_minutes 72 = .ok (.iload_n 1, 1) := by decide +kernel
theorem dX11_minutes_73 : decode cX11_minutes 73 = .ok (.if_icmp .ge 21, 3) := by decide +kernel
theorem dX11_minutes_76 : decode cX11_minutes 76 = .ok (.aload_n 0, 1) := by decide +kernel
theorem dX11_minutes_77 : decode cX11_minutes 77 = .ok (.invokevirtual 310, 3) := by decide +kernel
theorem dX11_minutes_80 : decode cX11_minutes 80 = .ok (.aload_n 0, 1) := by decide +kernel
theorem dX11_minutes_81 : decode cX11_minutes 81 = .ok (.invokevirtual 313, 3) := by decide +kernel
theorem dX11_minutes_84 : decode cX11_minutes 84 = .ok (.aload_n 0, 1) := by decide +kernel
theorem dX11_minutes_85 : decode cX11_minutes 85 = .ok (.invokevirtual 316, 3) := by decide +kernel
theorem dX11_minutes_88 : decode cX11_minutes 88 = .ok (.iinc 3 1, 3) := by decide +kernel
theorem dX11_minutes_91 : decode cX11_minutes 91 = .ok (.goto (-20), 3) := by decide +kernel
theorem dX11_minutes_94 : decode cX11_minutes 94 = .ok (.aload_n 0, 1) := by decide +kernel
theorem dX11_minutes_95 : decode cX11_minutes 95 = .ok (.bipush 9, 2) := by decide +kernel
theorem dX11_minutes_97 : decode cX11_minutes 97 = .ok (.invokevirtual 319, 3) := by decide +kernel
theorem dX11_minutes_100 : decode cX11_minutes 100 = .ok (.iload_n 2, 1) := by decide +kernel
theorem dX11_minutes_101 : decode cX11_minutes 101 = .ok (.isub, 1) := by decide +kernel
theorem dX11_minutes_102 : decode cX11_minutes 102 = .ok (.ireturn, 1) := by decide +kernel
theorem dX11_state_0 : decode cX11_state 0 = .ok (.aload_n 0, 1) := by decide +kernel
theorem dX11_state_1 : decode cX11_state 1 = .ok (.getfield 9, 3) := by decide +kernel
theorem dX11_state_4 : decode cX11_state 4 = .ok (.sipush 938, 3) := by decide +kernel
theorem dX11_state_7 : decode cX11_state 7 = .ok (.iaload, 1) := by decide +kernel
theorem dX11_state_8 : decode cX11_state 8 = .ok (.istore_n 2, 1) := by decide +kernel
theorem dX11_state_9 : decode cX11_state 9 = .ok (.aload_n 0, 1) := by decide +kernel
theorem dX11_state_10 : decode cX11_state 10 = .ok (.getfield 9, 3) := by decide +kernel
theorem dX11_state_13 : decode cX11_state 13 = .ok (.sipush 938, 3) := by decide +kernel
theorem dX11_state_16 : decode cX11_state 16 = .ok (.iload_n 1, 1) := by decide +kernel
theorem dX11_state_17 : decode cX11_state 17 = .ok (.iastore, 1) := by decide +kernel
theorem dX11_state_18 : decode cX11_state 18 = .ok (.aload_n 0, 1) := by decide +kernel
theorem dX11_state_19 : decode cX11_state 19 = .ok (.iconst 0, 1) := by decide +kernel
theorem dX11_state_20 : decode cX11_state 20 = .ok (.putfield 94, 3) := by decide +kernel
theorem dX11_state_23 : decode cX11_state 23 = .ok (.iload_n 2, 1) := by decide +kernel
theorem dX11_state_24 : decode cX11_state 24 = .ok (.ireturn, 1) := by decide +kernel
theorem dX11_walker_0 : decode cX11_walker 0 = .ok (.iload_n 1, 1) := by decide +kernel
theorem dX11_walker_1 : decode cX11_walker 1 = .ok (.iconst 0, 1) := by decide +kernel
theorem dX11_walker_2 : decode cX11_walker 2 = .ok (.bipush 9, 2) := by decide +kernel
theorem dX11_walker_4 : decode cX11_walker 4 = .ok (.invokestatic 100, 3) := by decide +kernel
theorem dX11_walker_7 : decode cX11_walker 7 = .ok (.ifCond .eq 16, 3) := by decide +kernel
theorem dX11_walker_10 : decode cX11_walker 10 = .ok (.aload_n 0, 1) := by decide +kernel
theorem dX11_walker_11 : decode cX11_walker 11 = .ok (.getfield 9, 3) := by decide +kernel
theorem dX11_walker_14 : decode cX11_walker 14 = .ok (.sipush 940, 3) := by decide +kernel
theorem dX11_walker_17 : decode cX11_walker 17 = .ok (.iaload, 1) := by decide +kernel
theorem dX11_walker_18 : decode cX11_walker 18 = .ok (.bipush 16, 2) := by decide +kernel
theorem dX11_walker_20 : decode cX11_walker 20 = .ok (.if_icmp .ne 5, 3) := by decide +kernel
theorem dX11_walker_23 : decode cX11_walker 23 = .ok (.iconst (-1), 1) := by decide +kernel
theorem dX11_walker_24 : decode cX11_walker 24 = .ok (.ireturn, 1) := by decide +kernel
theorem dX11_walker_25 : decode cX11_walker 25 = .ok (.aload_n 0, 1) := by decide +kernel
theorem dX11_walker_26 : decode cX11_walker 26 = .ok (.getfield 9, 3) := by decide +kernel
theorem dX11_walker_29 : decode cX11_walker 29 = .ok (.sipush 144, 3) := by decide +kernel
theorem dX11_walker_32 : decode cX11_walker 32 = .ok (.bipush 12, 2) := by decide +kernel
theorem dX11_walker_34 : decode cX11_walker 34 = .ok (.aload_n 0, 1) := by decide +kernel
theorem dX11_walker_35 : decode cX11_walker 35 = .ok (.getfield 9, 3) := by decide +kernel
theorem dX11_walker_38 : decode cX11_walker 38 = .ok (.sipush 940, 3) := by decide +kernel
theorem dX11_walker_41 : decode cX11_walker 41 = .ok (.iaload, 1) := by decide +kernel
theorem dX11_walker_42 : decode cX11_walker 42 = .ok (.imul, 1) := by decide +kernel
theorem dX11_walker_43 : decode cX11_walker 43 = .ok (.iadd, 1) := by decide +kernel
theorem dX11_walker_44 : decode cX11_walker 44 = .ok (.iconst 0, 1) := by decide +kernel
theorem dX11_walker_45 : decode cX11_walker 45 = .ok (.iadd, 1) := by decide +kernel
theorem dX11_walker_46 : decode cX11_walker 46 = .ok (.iload_n 1, 1) := by decide +kernel
theorem dX11_walker_47 : decode cX11_walker 47 = .ok (.iastore, 1) := by decide +kernel
theorem dX11_walker_48 : decode cX11_walker 48 = .ok (.aload_n 0, 1) := by decide +kernel
theorem dX11_walker_49 : decode cX11_walker 49 = .ok (.getfield 9, 3) := by decide +kernel
theorem dX11_walker_52 : decode cX11_walker 52 = .ok (.sipush 940, 3) := by decide +kernel
theorem dX11_walker_55 : decode cX11_walker 55 = .ok (.dup2, 1) := by decide +kernel
theorem dX11_walker_56 : decode cX11_walker 56 = .ok (.iaload, 1) := by decide +kernel
theorem dX11_walker_57 : decode cX11_walker 57 = .ok (.iconst 1, 1) := by decide +kernel
theorem dX11_walker_58 : decode cX11_walker 58 = .ok (.iadd, 1) := by decide +kernel
theorem dX11_walker_59 : decode cX11_walker 59 = .ok (.iastore, 1) := by decide +kernel
theorem dX11_walker_60 : decode cX11_walker 60 = .ok (.aload_n 0, 1) := by decide +kernel
theorem dX11_walker_61 : decode cX11_walker 61 = .ok (.iconst 0, 1) := by decide +kernel
theorem dX11_walker_62 : decode cX11_walker 62 = .ok (.putfield 94, 3) := by decide +kernel
theorem dX11_walker_65 : decode cX11_walker 65 = .ok (.aload_n 0, 1) := by decide +kernel
theorem dX11_walker_66 : decode cX11_walker 66 = .ok (.getfield 9, 3) := by decide +kernel
theorem dX11_walker_69 : decode cX11_walker 69 = .ok (.sipush 940, 3) := by decide +kernel
theorem dX11_walker_72 : decode cX11_walker 72 = .ok (.iaload, 1) := by decide +kernel
theorem dX11_walker_73 : decode cX11_walker 73 = .ok (.iconst 1, 1) := by decide +kernel
theorem dX11_walker_74 : decode cX11_walker 74 = .ok (.isub, 1) := by decide +kernel
theorem dX11_walker_75 : decode cX11_walker 75 = .ok (.ireturn, 1) := by decide +kernel
theorem dX11_isWalker_0 : decode cX11_isWalker 0 = .ok (.iload_n 1, 1) := by decide +kernel
theorem dX11_isWalker_1 : decode cX11_isWalker 1 = .ok (.iconst 0, 1) := by decide +kernel
theorem dX11_isWalker_2 : decode cX11_isWalker 2 = .ok (.aload_n 0, 1) := by decide +kernel
theorem dX11_isWalker_3 : decode cX11_isWalker 3 = .ok (.getfield 9, 3) := by decide +kernel
theorem dX11_isWalker_6 : decode cX11_isWalker 6 = .ok (.sipush 940, 3) := by decide +kernel
theorem dX11_isWalker_9 : decode cX11_isWalker 9 = .ok (.iaload, 1) := by decide +kernel
theorem dX11_isWalker_10 : decode cX11_isWalker 10 = .ok (.iconst 1, 1) := by decide +kernel
theorem dX11_isWalker_11 : decode cX11_isWalker 11 = .ok (.isub, 1) := by decide +kernel
theorem dX11_isWalker_12 : decode cX11_isWalker 12 = .ok (.invokestatic 100, 3) := by decide +kernel
theorem dX11_isWalker_15 : decode cX11_isWalker 15 = .ok (.ireturn, 1) := by decide +kernel
theorem dX11_comes_0 : decode cX11_comes 0 = .ok (.aload_n 0, 1) := by decide +kernel
theorem dX11_comes_1 : decode cX11_comes 1 = .ok (.iload_n 1, 1) := by decide +kernel
theorem dX11_comes_2 : decode cX11_comes 2 = .ok (.invokevirtual 322, 3) := by decide +kernel
theorem dX11_comes_5 : decode cX11_comes 5 = .ok (.ifCond .eq 22, 3) := by decide +kernel
theorem dX11_comes_8 : decode cX11_comes 8 = .ok (.iload_n 2, 1) := by decide +kernel
theorem dX11_comes_9 : decode cX11_comes 9 = .ok (.iconst 0, 1) := by decide +kernel
theorem dX11_comes_10 : decode cX11_comes 10 = .ok (.iconst 3, 1) := by decide +kernel
theorem dX11_comes_11 : decode cX11_comes 11 = .ok (.invokestatic 100, 3) := by decide +kernel
theorem dX11_comes_14 : decode cX11_comes 14 = .ok (.ifCond .eq 13, 3) := by decide +kernel
theorem dX11_comes_17 : decode cX11_comes 17 = .ok (.iload_n 3, 1) := by decide +kernel
theorem dX11_comes_18 : decode cX11_comes 18 = .ok (.iconst 0, 1) := by decide +kernel
theorem dX11_comes_19 : decode cX11_comes 19 = .ok (.bipush 11, 2) := by decide +kernel
theorem dX11_comes_21 : decode cX11_comes 21 = .ok (.invokestatic 100, 3) := by decide +kernel
theorem dX11_comes_24 : decode cX11_comes 24 = .ok (.ifCond .ne 5, 3) := by decide +kernel
theorem dX11_comes_27 : decode cX11_comes 27 = .ok (.iconst 0, 1) := by decide +kernel
theorem dX11_comes_28 : decode cX11_comes 28 = .ok (.ireturn, 1) := by decide +kernel
theorem dX11_comes_29 : decode cX11_comes 29 = .ok (.aload_n 0, 1) := by decide +kernel
theorem dX11_comes_30 : decode cX11_comes 30 = .ok (.invokevirtual 310, 3) := by decide +kernel
theorem dX11_comes_33 : decode cX11_comes 33 = .ok (.iload_n 2, 1) := by decide +kernel
theorem dX11_comes_34 : decode cX11_comes 34 = .ok (.iconst 1, 1) := by decide +kernel
theorem dX11_comes_35 : decode cX11_comes 35 = .ok (.if_icmp .ne 7, 3) := by decide +kernel
theorem dX11_comes_38 : decode cX11_comes 38 = .ok (.iconst 0, 1) := by decide +kernel
theorem dX11_comes_39 : decode cX11_comes 39 = .ok (.goto 14, 3) := by decide +kernel
theorem dX11_comes_42 : decode cX11_comes 42 = .ok (.iload_n 2, 1) := by decide +kernel
theorem dX11_comes_43 : decode cX11_comes 43 = .ok (.iconst 3, 1) := by decide +kernel
theorem dX11_comes_44 : decode cX11_comes 44 = .ok (.if_icmp .ne 8, 3) := by decide +kernel
theorem dX11_comes_47 : decode cX11_comes 47 = .ok (.bipush 11, 2) := by decide +kernel
theorem dX11_comes_49 : decode cX11_comes 49 = .ok (.goto 4, 3) := by decide +kernel
theorem dX11_comes_52 : decode cX11_comes 52 = .ok (.iload_n 3, 1) := by decide +kernel
theorem dX11_comes_53 : decode cX11_comes 53 = .ok (.istore 4, 2) := by decide +kernel
theorem dX11_comes_55 : decode cX11_comes 55 = .ok (.iload_n 2, 1) := by decide +kernel
theorem dX11_comes_56 : decode cX11_comes 56 = .ok (.ifCond .ne 7, 3) := by decide +kernel
theorem dX11_comes_59 : decode cX11_comes 59 = .ok (.iconst 0, 1) := by decide +kernel
theorem dX11_comes_60 : decode cX11_comes 60 = .ok (.goto 14, 3) := by decide +kernel
theorem dX11_comes_63 : decode cX11_comes 63 = .ok (.iload_n 2, 1) := by decide +kernel
theorem dX11_comes_64 : decode cX11_comes 64 = .ok (.iconst 2, 1) := by decide +kernel
theorem dX11_comes_65 : decode cX11_comes 65 = .ok (.if_icmp .ne 8, 3) := by decide +kernel
theorem dX11_comes_68 : decode cX11_comes 68 = .ok (.bipush 11, 2) := by decide +kernel
theorem dX11_comes_70 : decode cX11_comes 70 = .ok (.goto 4, 3) := by decide +kernel
theorem dX11_comes_73 : decode cX11_comes 73 = .ok (.iload_n 3, 1) := by decide +kernel
theorem dX11_comes_74 : decode cX11_comes 74 = .ok (.istore 5, 2) := by decide +kernel
theorem dX11_comes_76 : decode cX11_comes 76 = .ok (.aload_n 0, 1) := by decide +kernel
theorem dX11_comes_77 : decode cX11_comes 77 = .ok (.iload_n 1, 1) := by decide +kernel
theorem dX11_comes_78 : decode cX11_comes 78 = .ok (.iconst 1, 1) := by decide +kernel
theorem dX11_comes_79 : decode cX11_comes 79 = .ok (.invokevirtual 104, 3) := by decide +kernel
theorem dX11_comes_82 : decode cX11_comes 82 = .ok (.iconst 1, 1) := by decide +kernel
theorem dX11_comes_83 : decode cX11_comes 83 = .ok (.if_icmp .eq 17, 3) := by decide +kernel
theorem dX11_comes_86 : decode cX11_comes 86 = .ok (.aload_n 0, 1) := by decide +kernel
theorem dX11_comes_87 : decode cX11_comes 87 = .ok (.iload 4, 2) := by decide +kernel
theorem dX11_comes_89 : decode cX11_comes 89 = .ok (.iload 5, 2) := by decide +kernel
theorem dX11_comes_91 : decode cX11_comes 91 = .ok (.invokestatic 108, 3) := by decide +kernel
theorem dX11_comes_94 : decode cX11_comes 94 = .ok (.invokevirtual 298, 3) := by decide +kernel
theorem dX11_comes_97 : decode cX11_comes 97 = .ok (.ifCond .ne 5, 3) := by decide +kernel
theorem dX11_comes_100 : decode cX11_comes 100 = .ok (.iconst 0, 1) := by decide +kernel
theorem dX11_comes_101 : decode cX11_comes 101 = .ok (.ireturn, 1) := by decide +kernel
theorem dX11_comes_102 : decode cX11_comes 102 = .ok (.aload_n 0, 1) := by decide +kernel
theorem dX11_comes_103 : decode cX11_comes 103 = .ok (.iload_n 1, 1) := by decide +kernel
theorem dX11_comes_104 : decode cX11_comes 104 = .ok (.iconst 1, 1) := by decide +kernel
theorem dX11_comes_105 : decode cX11_comes 105 = .ok (.iconst 1, 1) := by decide +kernel
theorem dX11_comes_106 : decode cX11_comes 106 = .ok (.invokevirtual 266, 3) := by decide +kernel
theorem dX11_comes_109 : decode cX11_comes 109 = .ok (.aload_n 0, 1) := by decide +kernel
theorem dX11_comes_110 : decode cX11_comes 110 = .ok (.iload_n 1, 1) := by decide +kernel
theorem dX11_comes_111 : decode cX11_comes 111 = .ok (.iconst 2, 1) := by decide +kernel
theorem dX11_comes_112 : decode cX11_comes 112 = .ok (.iload 4, 2) := by decide +kernel
theorem dX11_comes_114 : decode cX11_comes 114 = .ok (.invokevirtual 266, 3) := by decide +kernel
theorem dX11_comes_117 : decode cX11_comes 117 = .ok (.aload_n 0, 1) := by decide +kernel
theorem dX11_comes_118 : decode cX11_comes 118 = .ok (.iload_n 1, 1) := by decide +kernel
theorem dX11_comes_119 : decode cX11_comes 119 = .ok (.iconst 3, 1) := by decide +kernel
theorem dX11_comes_120 : decode cX11_comes 120 = .ok (.iload 5, 2) := by decide +kernel
theorem dX11_comes_122 : decode cX11_comes 122 = .ok (.invokevirtual 266, 3) := by decide +kernel
theorem dX11_comes_125 : decode cX11_comes 125 = .ok (.aload_n 0, 1) := by decide +kernel
theorem dX11_comes_126 : decode cX11_comes 126 = .ok (.iload_n 1, 1) := by decide +kernel
theorem dX11_comes_127 : decode cX11_comes 127 = .ok (.iconst 4, 1) := by decide +kernel
theorem dX11_comes_128 : decode cX11_comes 128 = .ok (.iload_n 2, 1) := by decide +kernel
theorem dX11_comes_129 : decode cX11_comes 129 = .ok (.invokevirtual 266, 3) := by decide +kernel
theorem dX11_comes_132 : decode cX11_comes 132 = .ok (.aload_n 0, 1) := by decide +kernel
theorem dX11_comes_133 : decode cX11_comes 133 = .ok (.iload_n 1, 1) := by decide +kernel
theorem dX11_comes_134 : decode cX11_comes 134 = .ok (.bipush 7, 2) := by decide +kernel
theorem dX11_comes_136 : decode cX11_comes 136 = .ok (.iload_n 2, 1) := by decide +kernel
theorem dX11_comes_137 : decode cX11_comes 137 = .ok (.invokevirtual 266, 3) := by decide +kernel
theorem dX11_comes_140 : decode cX11_comes 140 = .ok (.iconst 5, 1) := by decide +kernel
theorem dX11_comes_141 : decode cX11_comes 141 = .ok (.istore 6, 2) := by decide +kernel
theorem dX11_comes_143 : decode cX11_comes 143 = .ok (.iload 6, 2) := by decide +kernel
theorem dX11_comes_145 : decode cX11_comes 145 = .ok (.bipush 8, 2) := by decide +kernel
theorem dX11_comes_147 : decode cX11_comes 147 = .ok (.if_icmp .gt 24, 3) := by decide +kernel
theorem dX11_comes_150 : decode cX11_comes 150 = .ok (.iload 6, 2) := by decide +kernel
theorem dX11_comes_152 : decode cX11_comes 152 = .ok (.bipush 7, 2) := by decide +kernel
theorem dX11_comes_154 : decode cX11_comes 154 = .ok (.if_icmp .eq 11, 3) := by decide +kernel
theorem dX11_comes_157 : decode cX11_comes 157 = .ok (.aload_n 0, 1) := by decide +kernel
theorem dX11_comes_158 : decode cX11_comes 158 = .ok (.iload_n 1, 1) := by decide +kernel
theorem dX11_comes_159 : decode cX11_comes 159 = .ok (.iload 6, 2) := by decide +kernel
theorem dX11_comes_161 : decode cX11_comes 161 = .ok (.iconst 0, 1) := by decide +kernel
theorem dX11_comes_162 : decode cX11_comes 162 = .ok (.invokevirtual 266, 3) := by decide +kernel
theorem dX11_comes_165 : decode cX11_comes 165 = .ok (.iinc 6 1, 3) := by decide +kernel
theorem dX11_comes_168 : decode cX11_comes 168 = .ok (.goto (-25), 3) := by decide +kernel
theorem dX11_comes_171 : decode cX11_comes 171 = .ok (.aload_n 0, 1) := by decide +kernel
theorem dX11_comes_172 : decode cX11_comes 172 = .ok (.iconst 0, 1) := by decide +kernel
theorem dX11_comes_173 : decode cX11_comes 173 = .ok (.iload_n 1, 1) := by decide +kernel
theorem dX11_comes_174 : decode cX11_comes 174 = .ok (.aload_n 0, 1) := by decide +kernel
theorem dX11_comes_175 : decode cX11_comes 175 = .ok (.iload_n 1, 1) := by decide +kernel
theorem dX11_comes_176 : decode cX11_comes 176 = .ok (.invokevirtual 111, 3) := by decide +kernel
theorem dX11_comes_179 : decode cX11_comes 179 = .ok (.invokevirtual 273, 3) := by decide +kernel
theorem dX11_comes_182 : decode cX11_comes 182 = .ok (.aload_n 0, 1) := by decide +kernel
theorem dX11_comes_183 : decode cX11_comes 183 = .ok (.invokevirtual 316, 3) := by decide +kernel
theorem dX11_comes_186 : decode cX11_comes 186 = .ok (.iconst 1, 1) := by decide +kernel
theorem dX11_comes_187 : decode cX11_comes 187 = .ok (.ireturn, 1) := by decide +kernel
theorem dX11_turn_0 : decode cX11_turn 0 = .ok (.aload_n 0, 1) := by decide +kernel
theorem dX11_turn_1 : decode cX11_turn 1 = .ok (.iload_n 1, 1) := by decide +kernel
theorem dX11_turn_2 : decode cX11_turn 2 = .ok (.invokevirtual 322, 3) := by decide +kernel
theorem dX11_turn_5 : decode cX11_turn 5 = .ok (.ifCond .eq 12, 3) := by decide +kernel
theorem dX11_turn_8 : decode cX11_turn 8 = .ok (.iload_n 2, 1) := by decide +kernel
theorem dX11_turn_9 : decode cX11_turn 9 = .ok (.iconst 0, 1) := by decide +kernel
theorem dX11_turn_10 : decode cX11_turn 10 = .ok (.iconst 2, 1) := by decide +kernel
theorem dX11_turn_11 : decode cX11_turn 11 = .ok (.invokestatic 100, 3) := by decide +kernel
theorem dX11_turn_14 : decode cX11_turn 14 = .ok (.ifCond .ne 5, 3) := by decide +kernel
theorem dX11_turn_17 : decode cX11_turn 17 = .ok (.iconst 0, 1) := by decide +kernel
theorem dX11_turn_18 : decode cX11_turn 18 = .ok (.ireturn, 1) := by decide +kernel
theorem dX11_turn_19 : decode cX11_turn 19 = .ok (.aload_n 0, 1) := by decide +kernel
theorem dX11_turn_20 : decode cX11_turn 20 = .ok (.invokevirtual 310, 3) := by decide +kernel
theorem dX11_turn_23 : decode cX11_turn 23 = .ok (.aload_n 0, 1) := by decide +kernel
theorem dX11_turn_24 : decode cX11_turn 24 = .ok (.iload_n 1, 1) := by decide +kernel
theorem dX11_turn_25 : decode cX11_turn 25 = .ok (.iconst 1, 1) := by decide +kernel
theorem dX11_turn_26 : decode cX11_turn 26 = .ok (.invokevirtual 104, 3) := by decide +kernel
theorem dX11_turn_29 : decode cX11_turn 29 = .ok (.ifCond .ne 5, 3) := by decide +kernel
theorem dX11_turn_32 : decode cX11_turn 32 = .ok (.iconst 0, 1) := by decide +kernel
theorem dX11_turn_33 : decode cX11_turn 33 = .ok (.ireturn, 1) := by decide +kernel
theorem dX11_turn_34 : decode cX11_turn 34 = .ok (.aload_n 0, 1) := by decide +kernel
theorem dX11_turn_35 : decode cX11_turn 35 = .ok (.iload_n 1, 1) := by decide +kernel
theorem dX11_turn_36 : decode cX11_turn 36 = .ok (.iload_n 2, 1) := by decide +kernel
theorem dX11_turn_37 : decode cX11_turn 37 = .ok (.invokevirtual 304, 3) := by decide +kernel
theorem dX11_turn_40 : decode cX11_turn 40 = .ok (.aload_n 0, 1) := by decide +kernel
theorem dX11_turn_41 : decode cX11_turn 41 = .ok (.invokevirtual 316, 3) := by decide +kernel
theorem dX11_turn_44 : decode cX11_turn 44 = .ok (.iconst 1, 1) := by decide +kernel
theorem dX11_turn_45 : decode cX11_turn 45 = .ok (.ireturn, 1) := by decide +kernel
theorem dX11_lay_0 : decode cX11_lay 0 = .ok (.iload_n 1, 1) := by decide +kernel
theorem dX11_lay_1 : decode cX11_lay 1 = .ok (.iload_n 2, 1) := by decide +kernel
theorem dX11_lay_2 : decode cX11_lay 2 = .ok (.invokestatic 291, 3) := by decide +kernel
theorem dX11_lay_5 : decode cX11_lay 5 = .ok (.ifCond .eq 12, 3) := by decide +kernel
theorem dX11_lay_8 : decode cX11_lay 8 = .ok (.iload_n 3, 1) := by decide +kernel
theorem dX11_lay_9 : decode cX11_lay 9 = .ok (.iconst 0, 1) := by decide +kernel
theorem dX11_lay_10 : decode cX11_lay 10 = .ok (.iconst 3, 1) := by decide +kernel
theorem dX11_lay_11 : decode cX11_lay 11 = .ok (.invokestatic 100, 3) := by decide +kernel
theorem dX11_lay_14 : decode cX11_lay 14 = .ok (.ifCond .ne 5, 3) := by decide +kernel
theorem dX11_lay_17 : decode cX11_lay 17 = .ok (.iconst 0, 1) := by decide +kernel
theorem dX11_lay_18 : decode cX11_lay 18 = .ok (.ireturn, 1) := by decide +kernel
theorem dX11_lay_19 : decode cX11_lay 19 = .ok (.aload_n 0, 1) := by decide +kernel
theorem dX11_lay_20 : decode cX11_lay 20 = .ok (.invokevirtual 310, 3) := by decide +kernel
theorem dX11_lay_23 : decode cX11_lay 23 = .ok (.iload_n 1, 1) := by decide +kernel
theorem dX11_lay_24 : decode cX11_lay 24 = .ok (.iload_n 2, 1) := by decide +kernel
theorem dX11_lay_25 : decode cX11_lay 25 = .ok (.invokestatic 108, 3) := by decide +kernel
theorem dX11_lay_28 : decode cX11_lay 28 = .ok (.istore 4, 2) := by decide +kernel
theorem dX11_lay_30 : decode cX11_lay 30 = .ok (.aload_n 0, 1) := by decide +kernel
theorem dX11_lay_31 : decode cX11_lay 31 = .ok (.getfield 13, 3) := by decide +kernel
theorem dX11_lay_34 : decode cX11_lay 34 = .ok (.iload 4, 2) := by decide +kernel
theorem dX11_lay_36 : decode cX11_lay 36 = .ok (.iaload, 1) := by decide +kernel
theorem dX11_lay_37 : decode cX11_lay 37 = .ok (.iload_n 3, 1) := by decide +kernel
theorem dX11_lay_38 : decode cX11_lay 38 = .ok (.if_icmp .eq 18, 3) := by decide +kernel
theorem dX11_lay_41 : decode cX11_lay 41 = .ok (.iload_n 3, 1) := by decide +kernel
theorem dX11_lay_42 : decode cX11_lay 42 = .ok (.iconst 1, 1) := by decide +kernel
theorem dX11_lay_43 : decode cX11_lay 43 = .ok (.if_icmp .ne 15, 3) := by decide +kernel
theorem dX11_lay_46 : decode cX11_lay 46 = .ok (.aload_n 0, 1) := by decide +kernel
theorem dX11_lay_47 : decode cX11_lay 47 = .ok (.iload 4, 2) := by decide +kernel
theorem dX11_lay_49 : decode cX11_lay 49 = .ok (.invokevirtual 115, 3) := by decide +kernel
theorem dX11_lay_52 : decode cX11_lay 52 = .ok (.iconst (-1), 1) := by decide +kernel
theorem dX11_lay_53 : decode cX11_lay 53 = .ok (.if_icmp .eq 5, 3) := by decide +kernel
theorem dX11_lay_56 : decode cX11_lay 56 = .ok (.iconst 0, 1) := by decide +kernel
theorem dX11_lay_57 : decode cX11_lay 57 = .ok (.ireturn, 1) := by decide +kernel
theorem dX11_lay_58 : decode cX11_lay 58 = .ok (.aload_n 0, 1) := by decide +kernel
theorem dX11_lay_59 : decode cX11_lay 59 = .ok (.getfield 13, 3) := by decide +kernel
theorem dX11_lay_62 : decode cX11_lay 62 = .ok (.iload 4, 2) := by decide +kernel
theorem dX11_lay_64 : decode cX11_lay 64 = .ok (.iload_n 3, 1) := by decide +kernel
theorem dX11_lay_65 : decode cX11_lay 65 = .ok (.iastore, 1) := by decide +kernel
theorem dX11_lay_66 : decode cX11_lay 66 = .ok (.aload_n 0, 1) := by decide +kernel
theorem dX11_lay_67 : decode cX11_lay 67 = .ok (.invokevirtual 316, 3) := by decide +kernel
theorem dX11_lay_70 : decode cX11_lay 70 = .ok (.iconst 1, 1) := by decide +kernel
theorem dX11_lay_71 : decode cX11_lay 71 = .ok (.ireturn, 1) := by decide +kernel
theorem dX11_undo_0 : decode cX11_undo 0 = .ok (.aload_n 0, 1) := by decide +kernel
theorem dX11_undo_1 : decode cX11_undo 1 = .ok (.getfield 94, 3) := by decide +kernel
theorem dX11_undo_4 : decode cX11_undo 4 = .ok (.ifCond .ne 5, 3) := by decide +kernel
theorem dX11_undo_7 : decode cX11_undo 7 = .ok (.iconst 0, 1) := by decide +kernel
theorem dX11_undo_8 : decode cX11_undo 8 = .ok (.ireturn, 1) := by decide +kernel
theorem dX11_undo_9 : decode cX11_undo 9 = .ok (.aload_n 0, 1) := by decide +kernel
theorem dX11_undo_10 : decode cX11_undo 10 = .ok (.dup, 1) := by decide +kernel
theorem dX11_undo_11 : decode cX11_undo 11 = .ok (.getfield 94, 3) := by decide +kernel
theorem dX11_undo_14 : decode cX11_undo 14 = .ok (.iconst 1, 1) := by decide +kernel
theorem dX11_undo_15 : decode cX11_undo 15 = .ok (.isub, 1) := by decide +kernel
theorem dX11_undo_16 : decode cX11_undo 16 = .ok (.putfield 94, 3) := by decide +kernel
theorem dX11_undo_19 : decode cX11_undo 19 = .ok (.iconst 0, 1) := by decide +kernel
theorem dX11_undo_20 : decode cX11_undo 20 = .ok (.istore_n 1, 1) := by decide +kernel
theorem dX11_undo_21 : decode cX11_undo 21 = .ok (.iload_n 1, 1) := by decide +kernel
theorem dX11_undo_22 : decode cX11_undo 22 = .ok (.sipush 940, 3) := by decide +kernel
theorem dX11_undo_25 : decode cX11_undo 25 = .ok (.if_icmp .ge 30, 3) := by decide +kernel
theorem dX11_undo_28 : decode cX11_undo 28 = .ok (.aload_n 0, 1) := by decide +kernel
theorem dX11_undo_29 : decode cX11_undo 29 = .ok (.getfield 9, 3) := by decide +kernel
theorem dX11_undo_32 : decode cX11_undo 32 = .ok (.iload_n 1, 1) := by decide +kernel
theorem dX11_undo_33 : decode cX11_undo 33 = .ok (.aload_n 0, 1) := by decide +kernel
theorem dX11_undo_34 : decode cX11_undo 34 = .ok (.getfield 19, 3) := by decide +kernel
theorem dX11_undo_37 : decode cX11_undo 37 = .ok (.sipush 940, 3) := by decide +kernel
theorem dX11_undo_40 : decode cX11_undo 40 = .ok (.aload_n 0, 1) := by decide +kernel
theorem dX11_undo_41 : decode cX11_undo 41 = .ok (.getfield 94, 3) := by decide +kernel
theorem dX11_undo_44 : decode cX11_undo 44 = .ok (.imul, 1) := by decide +kernel
theorem dX11_undo_45 : decode cX11_undo 45 = .ok (.iload_n 1, 1) := by decide +kernel
theorem dX11_undo_46 : decode cX11_undo 46 = .ok (.iadd, 1) := by decide +kernel
theorem dX11_undo_47 : decode cX11_undo 47 = .ok (.iaload, 1) := by decide +kernel
theorem dX11_undo_48 : decode cX11_undo 48 = .ok (.iastore, 1) := by decide +kernel
theorem dX11_undo_49 : decode cX11_undo 49 = .ok (.iinc 1 1, 3) := by decide +kernel
theorem dX11_undo_52 : decode cX11_undo 52 = .ok (.goto (-31), 3) := by decide +kernel
theorem dX11_undo_55 : decode cX11_undo 55 = .ok (.iconst 1, 1) := by decide +kernel
theorem dX11_undo_56 : decode cX11_undo 56 = .ok (.ireturn, 1) := by decide +kernel
theorem dX11_image_0 : decode cX11_image 0 = .ok (.iload_n 1, 1) := by decide +kernel
theorem dX11_image_1 : decode cX11_image 1 = .ok (.ifCond .eq 25, 3) := by decide +kernel
theorem dX11_image_4 : decode cX11_image 4 = .ok (.aload_n 0, 1) := by decide +kernel
theorem dX11_image_5 : decode cX11_image 5 = .ok (.getfield 9, 3) := by decide +kernel
theorem dX11_image_8 : decode cX11_image 8 = .ok (.aload_n 0, 1) := by decide +kernel
theorem dX11_image_9 : decode cX11_image 9 = .ok (.getfield 16, 3) := by decide +kernel
theorem dX11_image_12 : decode cX11_image 12 = .ok (.sipush 2425, 3) := by decide +kernel
theorem dX11_image_15 : decode cX11_image 15 = .ok (.invokestatic 86, 3) := by decide +kernel
theorem dX11_image_18 : decode cX11_image 18 = .ok (.aload_n 0, 1) := by decide +kernel
theorem dX11_image_19 : decode cX11_image 19 = .ok (.iconst 1, 1) := by decide +kernel
theorem dX11_image_20 : decode cX11_image 20 = .ok (.putfield 325, 3) := by decide +kernel
theorem dX11_image_23 : decode cX11_image 23 = .ok (.goto 29, 3) := by decide +kernel
theorem dX11_image_26 : decode cX11_image 26 = .ok (.aload_n 0, 1) := by decide +kernel
theorem dX11_image_27 : decode cX11_image 27 = .ok (.getfield 325, 3) := by decide +kernel
theorem dX11_image_30 : decode cX11_image 30 = .ok (.ifCond .eq 22, 3) := by decide +kernel
theorem dX11_image_33 : decode cX11_image 33 = .ok (.aload_n 0, 1) := by decide +kernel
theorem dX11_image_34 : decode cX11_image 34 = .ok (.getfield 16, 3) := by decide +kernel
theorem dX11_image_37 : decode cX11_image 37 = .ok (.aload_n 0, 1) := by decide +kernel
theorem dX11_image_38 : decode cX11_image 38 = .ok (.getfield 9, 3) := by decide +kernel
theorem dX11_image_41 : decode cX11_image 41 = .ok (.sipush 2425, 3) := by decide +kernel
theorem dX11_image_44 : decode cX11_image 44 = .ok (.invokestatic 86, 3) := by decide +kernel
theorem dX11_image_47 : decode cX11_image 47 = .ok (.aload_n 0, 1) := by decide +kernel
theorem dX11_image_48 : decode cX11_image 48 = .ok (.iconst 0, 1) := by decide +kernel
theorem dX11_image_49 : decode cX11_image 49 = .ok (.putfield 94, 3) := by decide +kernel
theorem dX11_image_52 : decode cX11_image 52 = .ok (.aload_n 0, 1) := by decide +kernel
theorem dX11_image_53 : decode cX11_image 53 = .ok (.getfield 325, 3) := by decide +kernel
theorem dX11_image_56 : decode cX11_image 56 = .ok (.ireturn, 1) := by decide +kernel
theorem dX11_of_0 : decode cX11_of 0 = .ok (.aload_n 0, 1) := by decide +kernel
theorem dX11_of_1 : decode cX11_of 1 = .ok (.iload_n 1, 1) := by decide +kernel
theorem dX11_of_2 : decode cX11_of 2 = .ok (.invokevirtual 322, 3) := by decide +kernel
theorem dX11_of_5 : decode cX11_of 5 = .ok (.ifCond .eq 13, 3) := by decide +kernel
theorem dX11_of_8 : decode cX11_of 8 = .ok (.iload_n 2, 1) := by decide +kernel
theorem dX11_of_9 : decode cX11_of 9 = .ok (.iconst 0, 1) := by decide +kernel
theorem dX11_of_10 : decode cX11_of 10 = .ok (.bipush 13, 2) := by decide +kernel
theorem dX11_of_12 : decode cX11_of 12 = .ok (.invokestatic 100, 3) := by decide +kernel
theorem dX11_of_15 : decode cX11_of 15 = .ok (.ifCond .ne 6, 3) := by decide +kernel
theorem dX11_of_18 : decode cX11_of 18 = .ok (.bipush (-2), 2) := by decide +kernel
theorem dX11_of_20 : decode cX11_of 20 = .ok (.ireturn, 1) := by decide +kernel
theorem dX11_of_21 : decode cX11_of 21 = .ok (.aload_n 0, 1) := by decide +kernel
theorem dX11_of_22 : decode cX11_of 22 = .ok (.invokevirtual 328, 3) := by decide +kernel
theorem dX11_of_25 : decode cX11_of 25 = .ok (.iload_n 2, 1) := by decide +kernel
theorem dX11_of_26 : decode cX11_of 26 = .ok (.bipush 10, 2) := by decide +kernel
theorem dX11_of_28 : decode cX11_of 28 = .ok (.if_icmp .le 13, 3) := by decide +kernel
theorem dX11_of_31 : decode cX11_of 31 = .ok (.aload_n 0, 1) := by decide +kernel
theorem dX11_of_32 : decode cX11_of 32 = .ok (.iload_n 2, 1) := by decide +kernel
theorem dX11_of_33 : decode cX11_of 33 = .ok (.bipush 11, 2) := by decide +kernel
theorem dX11_of_35 : decode cX11_of 35 = .ok (.isub, 1) := by decide +kernel
theorem dX11_of_36 : decode cX11_of 36 = .ok (.iload_n 1, 1) := by decide +kernel
theorem dX11_of_37 : decode cX11_of 37 = .ok (.invokevirtual 276, 3) := by decide +kernel
theorem dX11_of_40 : decode cX11_of 40 = .ok (.ireturn, 1) := by decide +kernel
theorem dX11_of_41 : decode cX11_of 41 = .ok (.iload_n 2, 1) := by decide +kernel
theorem dX11_of_42 : decode cX11_of 42 = .ok (.bipush 7, 2) := by decide +kernel
theorem dX11_of_44 : decode cX11_of 44 = .ok (.if_icmp .le 16, 3) := by decide +kernel
theorem dX11_of_47 : decode cX11_of 47 = .ok (.aload_n 0, 1) := by decide +kernel
theorem dX11_of_48 : decode cX11_of 48 = .ok (.iload_n 1, 1) := by decide +kernel
theorem dX11_of_49 : decode cX11_of 49 = .ok (.bipush 9, 2) := by decide +kernel
theorem dX11_of_51 : decode cX11_of 51 = .ok (.iload_n 2, 1) := by decide +kernel
theorem dX11_of_52 : decode cX11_of 52 = .ok (.iadd, 1) := by decide +kernel
theorem dX11_of_53 : decode cX11_of 53 = .ok (.bipush 8, 2) := by decide +kernel
theorem dX11_of_55 : decode cX11_of 55 = .ok (.isub, 1) := by decide +kernel
theorem dX11_of_56 : decode cX11_of 56 = .ok (.invokevirtual 104, 3) := by decide +kernel
theorem dX11_of_59 : decode cX11_of 59 = .ok (.ireturn, 1) := by decide +kernel
theorem dX11_of_60 : decode cX11_of 60 = .ok (.iload_n 2, 1) := by decide +kernel
theorem dX11_of_61 : decode cX11_of 61 = .ok (.iconst 1, 1) := by decide +kernel
theorem dX11_of_62 : decode cX11_of 62 = .ok (.if_icmp .le 16, 3) := by decide +kernel
theorem dX11_of_65 : decode cX11_of 65 = .ok (.aload_n 0, 1) := by decide +kernel
theorem dX11_of_66 : decode cX11_of 66 = .ok (.iload_n 1, 1) := by decide +kernel
theorem dX11_of_67 : decode cX11_of 67 = .ok (.iconst 1, 1) := by decide +kernel
theorem dX11_of_68 : decode cX11_of 68 = .ok (.invokevirtual 104, 3) := by decide +kernel
theorem dX11_of_71 : decode cX11_of 71 = .ok (.ifCond .ne 7, 3) := by decide +kernel
theorem dX11_of_74 : decode cX11_of 74 = .ok (.iconst (-1), 1) := by decide +kernel
theorem dX11_of_75 : decode cX11_of 75 = .ok (.goto 9, 3) := by decide +kernel
theorem dX11_of_78 : decode cX11_of 78 = .ok (.aload_n 0, 1) := by decide +kernel
theorem dX11_of_79 : decode cX11_of 79 = .ok (.iload_n 1, 1) := by decide +kernel
theorem dX11_of_80 : decode cX11_of 80 = .ok (.iload_n 2, 1) := by decide +kernel
theorem dX11_of_81 : decode cX11_of 81 = .ok (.invokevirtual 104, 3) := by decide +kernel
theorem dX11_of_84 : decode cX11_of 84 = .ok (.ireturn, 1) := by decide +kernel
theorem dX11_cell_0 : decode cX11_cell 0 = .ok (.iload_n 1, 1) := by decide +kernel
theorem dX11_cell_1 : decode cX11_cell 1 = .ok (.iload_n 2, 1) := by decide +kernel
theorem dX11_cell_2 : decode cX11_cell 2 = .ok (.invokestatic 291, 3) := by decide +kernel
theorem dX11_cell_5 : decode cX11_cell 5 = .ok (.ifCond .eq 12, 3) := by decide +kernel
theorem dX11_cell_8 : decode cX11_cell 8 = .ok (.iload_n 3, 1) := by decide +kernel
theorem dX11_cell_9 : decode cX11_cell 9 = .ok (.iconst 0, 1) := by decide +kernel
theorem dX11_cell_10 : decode cX11_cell 10 = .ok (.iconst 1, 1) := by decide +kernel
theorem dX11_cell_11 : decode cX11_cell 11 = .ok (.invokestatic 100, 3) := by decide +kernel
theorem dX11_cell_14 : decode cX11_cell 14 = .ok (.ifCond .ne 6, 3) := by decide +kernel
theorem dX11_cell_17 : decode cX11_cell 17 = .ok (.bipush (-2), 2) := by decide +kernel
theorem dX11_cell_19 : decode cX11_cell 19 = .ok (.ireturn, 1) := by decide +kernel
theorem dX11_cell_20 : decode cX11_cell 20 = .ok (.aload_n 0, 1) := by decide +kernel
theorem dX11_cell_21 : decode cX11_cell 21 = .ok (.invokevirtual 328, 3) := by decide +kernel
theorem dX11_cell_24 : decode cX11_cell 24 = .ok (.iload_n 3, 1) := by decide +kernel
theorem dX11_cell_25 : decode cX11_cell 25 = .ok (.ifCond .ne 16, 3) := by decide +kernel
theorem dX11_cell_28 : decode cX11_cell 28 = .ok (.aload_n 0, 1) := by decide +kernel
theorem dX11_cell_29 : decode cX11_cell 29 = .ok (.getfield 13, 3) := by decide +kernel
theorem dX11_cell_32 : decode cX11_cell 32 = .ok (.iload_n 1, 1) := by decide +kernel
theorem dX11_cell_33 : decode cX11_cell 33 = .ok (.iload_n 2, 1) := by decide +kernel
theorem dX11_cell_34 : decode cX11_cell 34 = .ok (.invokestatic 108, 3) := by decide +kernel
theorem dX11_cell_37 : decode cX11_cell 37 = .ok (.iaload, 1) := by decide +kernel
theorem dX11_cell_38 : decode cX11_cell 38 = .ok (.goto 12, 3) := by decide +kernel
theorem dX11_cell_41 : decode cX11_cell 41 = .ok (.aload_n 0, 1) := by decide +kernel
theorem dX11_cell_42 : decode cX11_cell 42 = .ok (.iload_n 1, 1) := by decide +kernel
theorem dX11_cell_43 : decode cX11_cell 43 = .ok (.iload_n 2, 1) := by decide +kernel
theorem dX11_cell_44 : decode cX11_cell 44 = .ok (.invokestatic 108, 3) := by decide +kernel
theorem dX11_cell_47 : decode cX11_cell 47 = .ok (.invokevirtual 115, 3) := by decide +kernel
theorem dX11_cell_50 : decode cX11_cell 50 = .ok (.ireturn, 1) := by decide +kernel
theorem dX11_book_0 : decode cX11_book 0 = .ok (.iload_n 1, 1) := by decide +kernel
theorem dX11_book_1 : decode cX11_book 1 = .ok (.iconst 0, 1) := by decide +kernel
theorem dX11_book_2 : decode cX11_book 2 = .ok (.aload_n 0, 1) := by decide +kernel
theorem dX11_book_3 : decode cX11_book 3 = .ok (.getfield 9, 3) := by decide +kernel
theorem dX11_book_6 : decode cX11_book 6 = .ok (.sipush 939, 3) := by decide +kernel
theorem dX11_book_9 : decode cX11_book 9 = .ok (.iaload, 1) := by decide +kernel
theorem dX11_book_10 : decode cX11_book 10 = .ok (.iconst 1, 1) := by decide +kernel
theorem dX11_book_11 : decode cX11_book 11 = .ok (.isub, 1) := by decide +kernel
theorem dX11_book_12 : decode cX11_book 12 = .ok (.invokestatic 100, 3) := by decide +kernel
theorem dX11_book_15 : decode cX11_book 15 = .ok (.ifCond .eq 29, 3) := by decide +kernel
theorem dX11_book_18 : decode cX11_book 18 = .ok (.iload_n 2, 1) := by decide +kernel
theorem dX11_book_19 : decode cX11_book 19 = .ok (.iconst 0, 1) := by decide +kernel
theorem dX11_book_20 : decode cX11_book 20 = .ok (.iconst 3, 1) := by decide +kernel
theorem dX11_book_21 : decode cX11_book 21 = .ok (.invokestatic 100, 3) := by decide +kernel
theorem dX11_book_24 : decode cX11_book 24 = .ok (.ifCond .eq 20, 3) := by decide +kernel
theorem dX11_book_27 : decode cX11_book 27 = .ok (.aload_n 0, 1) := by decide +kernel
theorem dX11_book_28 : decode cX11_book 28 = .ok (.getfield 9, 3) := by decide +kernel
theorem dX11_book_31 : decode cX11_book 31 = .ok (.sipush 336, 3) := by decide +kernel
theorem dX11_book_34 : decode cX11_book 34 = .ok (.iconst 4, 1) := by decide +kernel
theorem dX11_book_35 : decode cX11_book 35 = .ok (.iload_n 1, 1) := by decide +kernel
theorem dX11_book_36 : decode cX11_book 36 = .ok (.imul, 1) := by decide +kernel
theorem dX11_book_37 : decode cX11_book 37 = .ok (.iadd, 1) := by decide +kernel
theorem dX11_book_38 : decode cX11_book 38 = .ok (.iload_n 2, 1) := by decide +kernel
theorem dX11_book_39 : decode cX11_book 39 = .ok (.iadd, 1) := by decide +kernel
theorem dX11_book_40 : decode cX11_book 40 = .ok (.iaload, 1) := by decide +kernel
theorem dX11_book_41 : decode cX11_book 41 = .ok (.goto 4, 3) := by decide +kernel
theorem dX11_book_44 : decode cX11_book 44 = .ok (.iconst (-1), 1) := by decide +kernel
theorem dX11_book_45 : decode cX11_book 45 = .ok (.ireturn, 1) := by decide +kernel
theorem dX11_look_0 : decode cX11_look 0 = .ok (.iload_n 1, 1) := by decide +kernel
theorem dX11_look_1 : decode cX11_look 1 = .ok (.iconst 0, 1) := by decide +kernel
theorem dX11_look_2 : decode cX11_look 2 = .ok (.bipush 11, 2) := by decide +kernel
theorem dX11_look_4 : decode cX11_look 4 = .ok (.invokestatic 100, 3) := by decide +kernel
theorem dX11_look_7 : decode cX11_look 7 = .ok (.ifCond .ne 5, 3) := by decide +kernel
theorem dX11_look_10 : decode cX11_look 10 = .ok (.iconst (-1), 1) := by decide +kernel
theorem dX11_look_11 : decode cX11_look 11 = .ok (.ireturn, 1) := by decide +kernel
theorem dX11_look_12 : decode cX11_look 12 = .ok (.aload_n 0, 1) := by decide +kernel
theorem dX11_look_13 : decode cX11_look 13 = .ok (.invokevirtual 328, 3) := by decide +kernel
theorem dX11_look_16 : decode cX11_look 16 = .ok (.iload_n 1, 1) := by decide +kernel
theorem dX11_look_17 : decode cX11_look 17 = .ok (.iconst 1, 1) := by decide +kernel
theorem dX11_look_18 : decode cX11_look 18 = .ok (.if_icmp .ne 38, 3) := by decide +kernel
theorem dX11_look_21 : decode cX11_look 21 = .ok (.iconst 0, 1) := by decide +kernel
theorem dX11_look_22 : decode cX11_look 22 = .ok (.istore_n 2, 1) := by decide +kernel
theorem dX11_look_23 : decode cX11_look 23 = .ok (.iconst 0, 1) := by decide +kernel
theorem dX11_look_24 : decode cX11_look 24 = .ok (.istore_n 3, 1) := by decide +kernel
theorem dX11_look_25 : decode cX11_look 25 = .ok (.iload_n 3, 1) := by decide +kernel
theorem dX11_look_26 : decode cX11_look 26 = .ok (.aload_n 0, 1) := by decide +kernel
theorem dX11_look_27 : decode cX11_look 27 = .ok (.getfield 13, 3) := by decide +kernel
theorem dX11_look_30 : decode cX11_look 30 = .ok (.sipush 940, 3) := by decide +kernel
theorem dX11_look_33 : decode cX11_look 33 = .ok (.iaload, 1) := by decide +kernel
theorem dX11_look_34 : decode cX11_look 34 = .ok (.if_icmp .ge 20, 3) := by decide +kernel
theorem dX11_look_37 : decode cX11_look 37 = .ok (.iload_n 2, 1) := by decide +kernel
theorem dX11_look_38 : decode cX11_look 38 = .ok (.aload_n 0, 1) := by decide +kernel
theorem dX11_look_39 : decode cX11_look 39 = .ok (.iload_n 3, 1) := by decide +kernel
theorem dX11_look_40 : decode cX11_look 40 = .ok (.iconst 1, 1) := by decide +kernel
theorem dX11_look_41 : decode cX11_look 41 = .ok (.invokevirtual 104, 3) := by decide +kernel
theorem dX11_look_44 : decode cX11_look 44 = .ok (.iload_n 3, 1) := by decide +kernel
theorem dX11_look_45 : decode cX11_look 45 = .ok (.ishl, 1) := by decide +kernel
theorem dX11_look_46 : decode cX11_look 46 = .ok (.ior, 1) := by decide +kernel
theorem dX11_look_47 : decode cX11_look 47 = .ok (.istore_n 2, 1) := by decide +kernel
theorem dX11_look_48 : decode cX11_look 48 = .ok (.iinc 3 1, 3) := by decide +kernel
theorem dX11_look_51 : decode cX11_look 51 = .ok (.goto (-26), 3) := by decide +kernel
theorem dX11_look_54 : decode cX11_look 54 = .ok (.iload_n 2, 1) := by decide +kernel
theorem dX11_look_55 : decode cX11_look 55 = .ok (.ireturn, 1) := by decide +kernel
theorem dX11_look_56 : decode cX11_look 56 = .ok (.iload_n 1, 1) := by decide +kernel
theorem dX11_look_57 : decode cX11_look 57 = .ok (.iconst 4, 1) := by decide +kernel
theorem dX11_look_58 : decode cX11_look 58 = .ok (.if_icmp .ne 40, 3) := by decide +kernel
theorem dX11_look_61 : decode cX11_look 61 = .ok (.iconst 0, 1) := by decide +kernel
theorem dX11_look_62 : decode cX11_look 62 = .ok (.istore_n 2, 1) := by decide +kernel
theorem dX11_look_63 : decode cX11_look 63 = .ok (.iconst 0, 1) := by decide +kernel
theorem dX11_look_64 : decode cX11_look 64 = .ok (.istore_n 3, 1) := by decide +kernel
theorem dX11_look_65 : decode cX11_look 65 = .ok (.iload_n 3, 1) := by decide +kernel
theorem dX11_look_66 : decode cX11_look 66 = .ok (.sipush 144, 3) := by decide +kernel
theorem dX11_look_69 : decode cX11_look 69 = .ok (.if_icmp .ge 27, 3) := by decide +kernel
theorem dX11_look_72 : decode cX11_look 72 = .ok (.iload_n 2, 1) := by decide +kernel
theorem dX11_look_73 : decode cX11_look 73 = .ok (.aload_n 0, 1) := by decide +kernel
theorem dX11_look_74 : decode cX11_look 74 = .ok (.getfield 13, 3) := by decide +kernel
theorem dX11_look_77 : decode cX11_look 77 = .ok (.iload_n 3, 1) := by decide +kernel
theorem dX11_look_78 : decode cX11_look 78 = .ok (.iaload, 1) := by decide +kernel
theorem dX11_look_79 : decode cX11_look 79 = .ok (.iconst 1, 1) := by decide +kernel
theorem dX11_look_80 : decode cX11_look 80 = .ok (.if_icmp .ne 7, 3) := by decide +kernel
theorem dX11_look_83 : decode cX11_look 83 = .ok (.iconst 1, 1) := by decide +kernel
theorem dX11_look_84 : decode cX11_look 84 = .ok (.goto 4, 3) := by decide +kernel
theorem dX11_look_87 : decode cX11_look 87 = .ok (.iconst 0, 1) := by decide +kernel
theorem dX11_look_88 : decode cX11_look 88 = .ok (.iadd, 1) := by decide +kernel
theorem dX11_look_89 : decode cX11_look 89 = .ok (.istore_n 2, 1) := by decide +kernel
theorem dX11_look_90 : decode cX11_look 90 = .ok (.iinc 3 1, 3) := by decide +kernel
theorem dX11_look_93 : decode cX11_look 93 = .ok (.goto (-28), 3) := by decide +kernel
theorem dX11_look_96 : decode cX11_look 96 = .ok (.iload_n 2, 1) := by decide +kernel
theorem dX11_look_97 : decode cX11_look 97 = .ok (.ireturn, 1) := by decide +kernel
theorem dX11_look_98 : decode cX11_look 98 = .ok (.iload_n 1, 1) := by decide +kernel
theorem dX11_look_99 : decode cX11_look 99 = .ok (.bipush 6, 2) := by decide +kernel
theorem dX11_look_101 : decode cX11_look 101 = .ok (.if_icmp .le 30, 3) := by decide +kernel
theorem dX11_look_104 : decode cX11_look 104 = .ok (.iload_n 1, 1) := by decide +kernel
theorem dX11_look_105 : decode cX11_look 105 = .ok (.bipush 11, 2) := by decide +kernel
theorem dX11_look_107 : decode cX11_look 107 = .ok (.if_icmp .ne 10, 3) := by decide +kernel
theorem dX11_look_110 : decode cX11_look 110 = .ok (.aload_n 0, 1) := by decide +kernel
theorem dX11_look_111 : decode cX11_look 111 = .ok (.getfield 94, 3) := by decide +kernel
theorem dX11_look_114 : decode cX11_look 114 = .ok (.goto 16, 3) := by decide +kernel
theorem dX11_look_117 : decode cX11_look 117 = .ok (.aload_n 0, 1) := by decide +kernel
theorem dX11_look_118 : decode cX11_look 118 = .ok (.getfield 13, 3) := by decide +kernel
theorem dX11_look_121 : decode cX11_look 121 = .ok (.sipush 941, 3) := by decide +kernel
theorem dX11_look_124 : decode cX11_look 124 = .ok (.iload_n 1, 1) := by decide +kernel
theorem dX11_look_125 : decode cX11_look 125 = .ok (.iadd, 1) := by decide +kernel
theorem dX11_look_126 : decode cX11_look 126 = .ok (.bipush 7, 2) := by decide +kernel
theorem dX11_look_128 : decode cX11_look 128 = .ok (.isub, 1) := by decide +kernel
theorem dX11_look_129 : decode cX11_look 129 = .ok (.iaload, 1) := by decide +kernel
theorem dX11_look_130 : decode cX11_look 130 = .ok (.ireturn, 1) := by decide +kernel
theorem dX11_look_131 : decode cX11_look 131 = .ok (.aload_n 0, 1) := by decide +kernel
theorem dX11_look_132 : decode cX11_look 132 = .ok (.getfield 13, 3) := by decide +kernel
theorem dX11_look_135 : decode cX11_look 135 = .ok (.iload_n 1, 1) := by decide +kernel
theorem dX11_look_136 : decode cX11_look 136 = .ok (.ifCond .ne 9, 3) := by decide +kernel
theorem dX11_look_139 : decode cX11_look 139 = .ok (.sipush 940, 3) := by decide +kernel
theorem dX11_look_142 : decode cX11_look 142 = .ok (.goto 39, 3) := by decide +kernel
theorem dX11_look_145 : decode cX11_look 145 = .ok (.iload_n 1, 1) := by decide +kernel
theorem dX11_look_146 : decode cX11_look 146 = .ok (.iconst 2, 1) := by decide +kernel
theorem dX11_look_147 : decode cX11_look 147 = .ok (.if_icmp .ne 9, 3) := by decide +kernel
theorem dX11_look_150 : decode cX11_look 150 = .ok (.sipush 936, 3) := by decide +kernel
theorem dX11_look_153 : decode cX11_look 153 = .ok (.goto 28, 3) := by decide +kernel
theorem dX11_look_156 : decode cX11_look 156 = .ok (.iload_n 1, 1) := by decide +kernel
theorem dX11_look_157 : decode cX11_look 157 = .ok (.iconst 3, 1) := by decide +kernel
theorem dX11_look_158 : decode cX11_look 158 = .ok (.if_icmp .ne 9, 3) := by decide +kernel
theorem dX11_look_161 : decode cX11_look 161 = .ok (.sipush 937, 3) := by decide +kernel
theorem dX11_look_164 : decode cX11_look 164 = .ok (.goto 17, 3) := by decide +kernel
theorem dX11_look_167 : decode cX11_look 167 = .ok (.iload_n 1, 1) := by decide +kernel
theorem dX11_look_168 : decode cX11_look 168 = .ok (.iconst 5, 1) := by decide +kernel
theorem dX11_look_169 : decode cX11_look 169 = .ok (.if_icmp .ne 9, 3) := by decide +kernel
theorem dX11_look_172 : decode cX11_look 172 = .ok (.sipush 939, 3) := by decide +kernel
theorem dX11_look_175 : decode cX11_look 175 = .ok (.goto 6, 3) := by decide +kernel
theorem dX11_look_178 : decode cX11_look 178 = .ok (.sipush 938, 3) := by decide +kernel
theorem dX11_look_181 : decode cX11_look 181 = .ok (.iaload, 1) := by decide +kernel
theorem dX11_look_182 : decode cX11_look 182 = .ok (.ireturn, 1) := by decide +kernel
theorem dX11_goes_0 : decode cX11_goes 0 = .ok (.iload_n 1, 1) := by decide +kernel
theorem dX11_goes_1 : decode cX11_goes 1 = .ok (.iconst 1, 1) := by decide +kernel
theorem dX11_goes_2 : decode cX11_goes 2 = .ok (.bipush 60, 2) := by decide +kernel
theorem dX11_goes_4 : decode cX11_goes 4 = .ok (.invokestatic 100, 3) := by decide +kernel
theorem dX11_goes_7 : decode cX11_goes 7 = .ok (.ifCond .eq 12, 3) := by decide +kernel
theorem dX11_goes_10 : decode cX11_goes 10 = .ok (.iload_n 2, 1) := by decide +kernel
theorem dX11_goes_11 : decode cX11_goes 11 = .ok (.iconst 0, 1) := by decide +kernel
theorem dX11_goes_12 : decode cX11_goes 12 = .ok (.iconst 3, 1) := by decide +kernel
theorem dX11_goes_13 : decode cX11_goes 13 = .ok (.invokestatic 100, 3) := by decide +kernel
theorem dX11_goes_16 : decode cX11_goes 16 = .ok (.ifCond .ne 5, 3) := by decide +kernel
theorem dX11_goes_19 : decode cX11_goes 19 = .ok (.iconst (-1), 1) := by decide +kernel
theorem dX11_goes_20 : decode cX11_goes 20 = .ok (.ireturn, 1) := by decide +kernel
theorem dX11_goes_21 : decode cX11_goes 21 = .ok (.aload_n 0, 1) := by decide +kernel
theorem dX11_goes_22 : decode cX11_goes 22 = .ok (.invokevirtual 328, 3) := by decide +kernel
theorem dX11_goes_25 : decode cX11_goes 25 = .ok (.iconst 0, 1) := by decide +kernel
theorem dX11_goes_26 : decode cX11_goes 26 = .ok (.istore_n 3, 1) := by decide +kernel
theorem dX11_goes_27 : decode cX11_goes 27 = .ok (.iload_n 3, 1) := by decide +kernel
theorem dX11_goes_28 : decode cX11_goes 28 = .ok (.iload_n 1, 1) := by decide +kernel
theorem dX11_goes_29 : decode cX11_goes 29 = .ok (.if_icmp .ge 13, 3) := by decide +kernel
theorem dX11_goes_32 : decode cX11_goes 32 = .ok (.aload_n 0, 1) := by decide +kernel
theorem dX11_goes_33 : decode cX11_goes 33 = .ok (.invokevirtual 313, 3) := by decide +kernel
theorem dX11_goes_36 : decode cX11_goes 36 = .ok (.iinc 3 1, 3) := by decide +kernel
theorem dX11_goes_39 : decode cX11_goes 39 = .ok (.goto (-12), 3) := by decide +kernel
theorem dX11_goes_42 : decode cX11_goes 42 = .ok (.iload_n 2, 1) := by decide +kernel
theorem dX11_goes_43 : decode cX11_goes 43 = .ok (.ifCond .ne 10, 3) := by decide +kernel
theorem dX11_goes_46 : decode cX11_goes 46 = .ok (.aload_n 0, 1) := by decide +kernel
theorem dX11_goes_47 : decode cX11_goes 47 = .ok (.invokevirtual 243, 3) := by decide +kernel
theorem dX11_goes_50 : decode cX11_goes 50 = .ok (.goto 39, 3) := by decide +kernel
theorem dX11_goes_53 : decode cX11_goes 53 = .ok (.iload_n 2, 1) := by decide +kernel
theorem dX11_goes_54 : decode cX11_goes 54 = .ok (.iconst 1, 1) := by decide +kernel
theorem dX11_goes_55 : decode cX11_goes 55 = .ok (.if_icmp .ne 12, 3) := by decide +kernel
theorem dX11_goes_58 : decode cX11_goes 58 = .ok (.aload_n 0, 1) := by decide +kernel
theorem dX11_goes_59 : decode cX11_goes 59 = .ok (.bipush 9, 2) := by decide +kernel
theorem dX11_goes_61 : decode cX11_goes 61 = .ok (.invokevirtual 319, 3) := by decide +kernel
theorem dX11_goes_64 : decode cX11_goes 64 = .ok (.goto 25, 3) := by decide +kernel
theorem dX11_goes_67 : decode cX11_goes 67 = .ok (.iload_n 2, 1) := by decide +kernel
theorem dX11_goes_68 : decode cX11_goes 68 = .ok (.iconst 2, 1) := by decide +kernel
theorem dX11_goes_69 : decode cX11_goes 69 = .ok (.if_icmp .ne 12, 3) := by decide +kernel
theorem dX11_goes_72 : decode cX11_goes 72 = .ok (.aload_n 0, 1) := by decide +kernel
theorem dX11_goes_73 : decode cX11_goes 73 = .ok (.bipush 10, 2) := by decide +kernel
theorem dX11_goes_75 : decode cX11_goes 75 = .ok (.invokevirtual 319, 3) := by decide +kernel
theorem dX11_goes_78 : decode cX11_goes 78 = .ok (.goto 11, 3) := by decide +kernel
theorem dX11_goes_81 : decode cX11_goes 81 = .ok (.aload_n 0, 1) := by decide +kernel
theorem dX11_goes_82 : decode cX11_goes 82 = .ok (.getfield 13, 3) := by decide +kernel
theorem dX11_goes_85 : decode cX11_goes 85 = .ok (.sipush 937, 3) := by decide +kernel
theorem dX11_goes_88 : decode cX11_goes 88 = .ok (.iaload, 1) := by decide +kernel
theorem dX11_goes_89 : decode cX11_goes 89 = .ok (.ireturn, 1) := by decide +kernel
theorem dX11_over_0 : decode cX11_over 0 = .ok (.aload_n 0, 1) := by decide +kernel
theorem dX11_over_1 : decode cX11_over 1 = .ok (.iload_n 1, 1) := by decide +kernel
theorem dX11_over_2 : decode cX11_over 2 = .ok (.invokevirtual 322, 3) := by decide +kernel
theorem dX11_over_5 : decode cX11_over 5 = .ok (.ifCond .ne 5, 3) := by decide +kernel
theorem dX11_over_8 : decode cX11_over 8 = .ok (.iconst (-1), 1) := by decide +kernel
theorem dX11_over_9 : decode cX11_over 9 = .ok (.ireturn, 1) := by decide +kernel
theorem dX11_over_10 : decode cX11_over 10 = .ok (.aload_n 0, 1) := by decide +kernel
theorem dX11_over_11 : decode cX11_over 11 = .ok (.invokevirtual 328, 3) := by decide +kernel
theorem dX11_over_14 : decode cX11_over 14 = .ok (.aload_n 0, 1) := by decide +kernel
theorem dX11_over_15 : decode cX11_over 15 = .ok (.iload_n 1, 1) := by decide +kernel
theorem dX11_over_16 : decode cX11_over 16 = .ok (.iconst 1, 1) := by decide +kernel
theorem dX11_over_17 : decode cX11_over 17 = .ok (.invokevirtual 104, 3) := by decide +kernel
theorem dX11_over_20 : decode cX11_over 20 = .ok (.ifCond .ne 5, 3) := by decide +kernel
theorem dX11_over_23 : decode cX11_over 23 = .ok (.iconst (-1), 1) := by decide +kernel
theorem dX11_over_24 : decode cX11_over 24 = .ok (.ireturn, 1) := by decide +kernel
theorem dX11_over_25 : decode cX11_over 25 = .ok (.iconst 1, 1) := by decide +kernel
theorem dX11_over_26 : decode cX11_over 26 = .ok (.istore_n 2, 1) := by decide +kernel
theorem dX11_over_27 : decode cX11_over 27 = .ok (.iload_n 2, 1) := by decide +kernel
theorem dX11_over_28 : decode cX11_over 28 = .ok (.bipush 60, 2) := by decide +kernel
theorem dX11_over_30 : decode cX11_over 30 = .ok (.if_icmp .gt 24, 3) := by decide +kernel
theorem dX11_over_33 : decode cX11_over 33 = .ok (.aload_n 0, 1) := by decide +kernel
theorem dX11_over_34 : decode cX11_over 34 = .ok (.invokevirtual 313, 3) := by decide +kernel
theorem dX11_over_37 : decode cX11_over 37 = .ok (.aload_n 0, 1) := by decide +kernel
theorem dX11_over_38 : decode cX11_over 38 = .ok (.iload_n 1, 1) := by decide +kernel
theorem dX11_over_39 : decode cX11_over 39 = .ok (.iconst 1, 1) := by decide +kernel
theorem dX11_over_40 : decode cX11_over 40 = .ok (.invokevirtual 104, 3) := by decide +kernel
theorem dX11_over_43 : decode cX11_over 43 = .ok (.ifCond .ne 5, 3) := by decide +kernel
theorem dX11_over_46 : decode cX11_over 46 = .ok (.iload_n 2, 1) := by decide +kernel
theorem dX11_over_47 : decode cX11_over 47 = .ok (.ireturn, 1) := by decide +kernel
theorem dX11_over_48 : decode cX11_over 48 = .ok (.iinc 2 1, 3) := by decide +kernel
theorem dX11_over_51 : decode cX11_over 51 = .ok (.goto (-24), 3) := by decide +kernel
theorem dX11_over_54 : decode cX11_over 54 = .ok (.iconst (-1), 1) := by decide +kernel
theorem dX11_over_55 : decode cX11_over 55 = .ok (.ireturn, 1) := by decide +kernel
theorem dX11_goesAlone_0 : decode cX11_goesAlone 0 = .ok (.aload_n 0, 1) := by decide +kernel
theorem dX11_goesAlone_1 : decode cX11_goesAlone 1 = .ok (.iload_n 1, 1) := by decide +kernel
theorem dX11_goesAlone_2 : decode cX11_goesAlone 2 = .ok (.invokevirtual 301, 3) := by decide +kernel
theorem dX11_goesAlone_5 : decode cX11_goesAlone 5 = .ok (.istore_n 2, 1) := by decide +kernel
theorem dX11_goesAlone_6 : decode cX11_goesAlone 6 = .ok (.aload_n 0, 1) := by decide +kernel
theorem dX11_goesAlone_7 : decode cX11_goesAlone 7 = .ok (.iload_n 1, 1) := by decide +kernel
theorem dX11_goesAlone_8 : decode cX11_goesAlone 8 = .ok (.bipush 8, 2) := by decide +kernel
theorem dX11_goesAlone_10 : decode cX11_goesAlone 10 = .ok (.iconst 1, 1) := by decide +kernel
theorem dX11_goesAlone_11 : decode cX11_goesAlone 11 = .ok (.invokevirtual 270, 3) := by decide +kernel
theorem dX11_goesAlone_14 : decode cX11_goesAlone 14 = .ok (.iload_n 2, 1) := by decide +kernel
theorem dX11_goesAlone_15 : decode cX11_goesAlone 15 = .ok (.iconst 3, 1) := by decide +kernel
theorem dX11_goesAlone_16 : decode cX11_goesAlone 16 = .ok (.if_icmp .ge 19, 3) := by decide +kernel
theorem dX11_goesAlone_19 : decode cX11_goesAlone 19 = .ok (.aload_n 0, 1) := by decide +kernel
theorem dX11_goesAlone_20 : decode cX11_goesAlone 20 = .ok (.iload_n 1, 1) := by decide +kernel
theorem dX11_goesAlone_21 : decode cX11_goesAlone 21 = .ok (.iconst 4, 1) := by decide +kernel
theorem dX11_goesAlone_22 : decode cX11_goesAlone 22 = .ok (.aload_n 0, 1) := by decide +kernel
theorem dX11_goesAlone_23 : decode cX11_goesAlone 23 = .ok (.iload_n 1, 1) := by decide +kernel
theorem dX11_goesAlone_24 : decode cX11_goesAlone 24 = .ok (.iconst 4, 1) := by decide +kernel
theorem dX11_goesAlone_25 : decode cX11_goesAlone 25 = .ok (.invokevirtual 104, 3) := by decide +kernel
theorem dX11_goesAlone_28 : decode cX11_goesAlone 28 = .ok (.iload_n 2, 1) := by decide +kernel
theorem dX11_goesAlone_29 : decode cX11_goesAlone 29 = .ok (.invokestatic 263, 3) := by decide +kernel
theorem dX11_goesAlone_32 : decode cX11_goesAlone 32 = .ok (.invokevirtual 266, 3) := by decide +kernel
theorem dX11_goesAlone_35 : decode cX11_goesAlone 35 = .ok (.iload_n 2, 1) := by decide +kernel
theorem dX11_goesAlone_36 : decode cX11_goesAlone 36 = .ok (.iconst 3, 1) := by decide +kernel
theorem dX11_goesAlone_37 : decode cX11_goesAlone 37 = .ok (.if_icmp .eq 4, 3) := by decide +kernel
theorem dX11_goesAlone_40 : decode cX11_goesAlone 40 = .ok (.return_, 1) := by decide +kernel
theorem dX11_goesAlone_41 : decode cX11_goesAlone 41 = .ok (.aload_n 0, 1) := by decide +kernel
theorem dX11_goesAlone_42 : decode cX11_goesAlone 42 = .ok (.iload_n 1, 1) := by decide +kernel
theorem dX11_goesAlone_43 : decode cX11_goesAlone 43 = .ok (.iconst 2, 1) := by decide +kernel
theorem dX11_goesAlone_44 : decode cX11_goesAlone 44 = .ok (.invokevirtual 104, 3) := by decide +kernel
theorem dX11_goesAlone_47 : decode cX11_goesAlone 47 = .ok (.aload_n 0, 1) := by decide +kernel
theorem dX11_goesAlone_48 : decode cX11_goesAlone 48 = .ok (.iload_n 1, 1) := by decide +kernel
theorem dX11_goesAlone_49 : decode cX11_goesAlone 49 = .ok (.iconst 4, 1) := by decide +kernel
theorem dX11_goesAlone_50 : decode cX11_goesAlone 50 = .ok (.invokevirtual 104, 3) := by decide +kernel
theorem dX11_goesAlone_53 : decode cX11_goesAlone 53 = .ok (.invokestatic 285, 3) := by decide +kernel
theorem dX11_goesAlone_56 : decode cX11_goesAlone 56 = .ok (.iadd, 1) := by decide +kernel
theorem dX11_goesAlone_57 : decode cX11_goesAlone 57 = .ok (.istore_n 3, 1) := by decide +kernel
theorem dX11_goesAlone_58 : decode cX11_goesAlone 58 = .ok (.aload_n 0, 1) := by decide +kernel
theorem dX11_goesAlone_59 : decode cX11_goesAlone 59 = .ok (.iload_n 1, 1) := by decide +kernel
theorem dX11_goesAlone_60 : decode cX11_goesAlone 60 = .ok (.iconst 3, 1) := by decide +kernel
theorem dX11_goesAlone_61 : decode cX11_goesAlone 61 = .ok (.invokevirtual 104, 3) := by decide +kernel
theorem dX11_goesAlone_64 : decode cX11_goesAlone 64 = .ok (.aload_n 0, 1) := by decide +kernel
theorem dX11_goesAlone_65 : decode cX11_goesAlone 65 = .ok (.iload_n 1, 1) := by decide +kernel
theorem dX11_goesAlone_66 : decode cX11_goesAlone 66 = .ok (.iconst 4, 1) := by decide +kernel
theorem dX11_goesAlone_67 : decode cX11_goesAlone 67 = .ok (.invokevirtual 104, 3) := by decide +kernel
theorem dX11_goesAlone_70 : decode cX11_goesAlone 70 = .ok (.invokestatic 288, 3) := by decide +kernel
theorem dX11_goesAlone_73 : decode cX11_goesAlone 73 = .ok (.iadd, 1) := by decide +kernel
theorem dX11_goesAlone_74 : decode cX11_goesAlone 74 = .ok (.istore 4, 2) := by decide +kernel
theorem dX11_goesAlone_76 : decode cX11_goesAlone 76 = .ok (.iload_n 3, 1) := by decide +kernel
theorem dX11_goesAlone_77 : decode cX11_goesAlone 77 = .ok (.iload 4, 2) := by decide +kernel
theorem dX11_goesAlone_79 : decode cX11_goesAlone 79 = .ok (.invokestatic 291, 3) := by decide +kernel
theorem dX11_goesAlone_82 : decode cX11_goesAlone 82 = .ok (.ifCond .ne 13, 3) := by decide +kernel
theorem dX11_goesAlone_85 : decode cX11_goesAlone 85 = .ok (.aload_n 0, 1) := by decide +kernel
theorem dX11_goesAlone_86 : decode cX11_goesAlone 86 = .ok (.iload_n 1, 1) := by decide +kernel
theorem dX11_goesAlone_87 : decode cX11_goesAlone 87 = .ok (.iconst 1, 1) := by decide +kernel
theorem dX11_goesAlone_88 : decode cX11_goesAlone 88 = .ok (.iconst 0, 1) := by decide +kernel
theorem dX11_goesAlone_89 : decode cX11_goesAlone 89 = .ok (.invokevirtual 266, 3) := by decide +kernel
theorem dX11_goesAlone_92 : decode cX11_goesAlone 92 = .ok (.goto 33, 3) := by decide +kernel
theorem dX11_goesAlone_95 : decode cX11_goesAlone 95 = .ok (.aload_n 0, 1) := by decide +kernel
theorem dX11_goesAlone_96 : decode cX11_goesAlone 96 = .ok (.getfield 13, 3) := by decide +kernel
theorem dX11_goesAlone_99 : decode cX11_goesAlone 99 = .ok (.iload_n 3, 1) := by decide +kernel
theorem dX11_goesAlone_100 : decode cX11_goesAlone 100 = .ok (.iload 4, 2) := by decide +kernel
theorem dX11_goesAlone_102 : decode cX11_goesAlone 102 = .ok (.invokestatic 108, 3) := by decide +kernel
theorem dX11_goesAlone_105 : decode cX11_goesAlone 105 = .ok (.iaload, 1) := by decide +kernel
theorem dX11_goesAlone_106 : decode cX11_goesAlone 106 = .ok (.iconst 1, 1) := by decide +kernel
theorem dX11_goesAlone_107 : decode cX11_goesAlone 107 = .ok (.if_icmp .eq 18, 3) := by decide +kernel
theorem dX11_goesAlone_110 : decode cX11_goesAlone 110 = .ok (.aload_n 0, 1) := by decide +kernel
theorem dX11_goesAlone_111 : decode cX11_goesAlone 111 = .ok (.iload_n 1, 1) := by decide +kernel
theorem dX11_goesAlone_112 : decode cX11_goesAlone 112 = .ok (.iconst 2, 1) := by decide +kernel
theorem dX11_goesAlone_113 : decode cX11_goesAlone 113 = .ok (.iload_n 3, 1) := by decide +kernel
theorem dX11_goesAlone_114 : decode cX11_goesAlone 114 = .ok (.invokevirtual 266, 3) := by decide +kernel
theorem dX11_goesAlone_117 : decode cX11_goesAlone 117 = .ok (.aload_n 0, 1) := by decide +kernel
theorem dX11_goesAlone_118 : decode cX11_goesAlone 118 = .ok (.iload_n 1, 1) := by decide +kernel
theorem dX11_goesAlone_119 : decode cX11_goesAlone 119 = .ok (.iconst 3, 1) := by decide +kernel
theorem dX11_goesAlone_120 : decode cX11_goesAlone 120 = .ok (.iload 4, 2) := by decide +kernel
theorem dX11_goesAlone_122 : decode cX11_goesAlone 122 = .ok (.invokevirtual 266, 3) := by decide +kernel
theorem dX11_goesAlone_125 : decode cX11_goesAlone 125 = .ok (.return_, 1) := by decide +kernel
theorem dX11_meets_0 : decode cX11_meets 0 = .ok (.aload_n 0, 1) := by decide +kernel
theorem dX11_meets_1 : decode cX11_meets 1 = .ok (.iload_n 1, 1) := by decide +kernel
theorem dX11_meets_2 : decode cX11_meets 2 = .ok (.invokevirtual 322, 3) := by decide +kernel
theorem dX11_meets_5 : decode cX11_meets 5 = .ok (.ifCond .eq 11, 3) := by decide +kernel
theorem dX11_meets_8 : decode cX11_meets 8 = .ok (.aload_n 0, 1) := by decide +kernel
theorem dX11_meets_9 : decode cX11_meets 9 = .ok (.iload_n 2, 1) := by decide +kernel
theorem dX11_meets_10 : decode cX11_meets 10 = .ok (.invokevirtual 322, 3) := by decide +kernel
theorem dX11_meets_13 : decode cX11_meets 13 = .ok (.ifCond .ne 5, 3) := by decide +kernel
theorem dX11_meets_16 : decode cX11_meets 16 = .ok (.iconst (-1), 1) := by decide +kernel
theorem dX11_meets_17 : decode cX11_meets 17 = .ok (.ireturn, 1) := by decide +kernel
theorem dX11_meets_18 : decode cX11_meets 18 = .ok (.aload_n 0, 1) := by decide +kernel
theorem dX11_meets_19 : decode cX11_meets 19 = .ok (.invokevirtual 328, 3) := by decide +kernel
theorem dX11_meets_22 : decode cX11_meets 22 = .ok (.iconst 0, 1) := by decide +kernel
theorem dX11_meets_23 : decode cX11_meets 23 = .ok (.istore_n 3, 1) := by decide +kernel
theorem dX11_meets_24 : decode cX11_meets 24 = .ok (.iload_n 3, 1) := by decide +kernel
theorem dX11_meets_25 : decode cX11_meets 25 = .ok (.bipush 60, 2) := by decide +kernel
theorem dX11_meets_27 : decode cX11_meets 27 = .ok (.if_icmp .gt 54, 3) := by decide +kernel
theorem dX11_meets_30 : decode cX11_meets 30 = .ok (.aload_n 0, 1) := by decide +kernel
theorem dX11_meets_31 : decode cX11_meets 31 = .ok (.iload_n 1, 1) := by decide +kernel
theorem dX11_meets_32 : decode cX11_meets 32 = .ok (.iconst 1, 1) := by decide +kernel
theorem dX11_meets_33 : decode cX11_meets 33 = .ok (.invokevirtual 104, 3) := by decide +kernel
theorem dX11_meets_36 : decode cX11_meets 36 = .ok (.ifCond .eq 12, 3) := by decide +kernel
theorem dX11_meets_39 : decode cX11_meets 39 = .ok (.aload_n 0, 1) := by decide +kernel
theorem dX11_meets_40 : decode cX11_meets 40 = .ok (.iload_n 2, 1) := by decide +kernel
theorem dX11_meets_41 : decode cX11_meets 41 = .ok (.iconst 1, 1) := by decide +kernel
theorem dX11_meets_42 : decode cX11_meets 42 = .ok (.invokevirtual 104, 3) := by decide +kernel
theorem dX11_meets_45 : decode cX11_meets 45 = .ok (.ifCond .ne 5, 3) := by decide +kernel
theorem dX11_meets_48 : decode cX11_meets 48 = .ok (.iconst (-1), 1) := by decide +kernel
theorem dX11_meets_49 : decode cX11_meets 49 = .ok (.ireturn, 1) := by decide +kernel
theorem dX11_meets_50 : decode cX11_meets 50 = .ok (.aload_n 0, 1) := by decide +kernel
theorem dX11_meets_51 : decode cX11_meets 51 = .ok (.iload_n 1, 1) := by decide +kernel
theorem dX11_meets_52 : decode cX11_meets 52 = .ok (.invokevirtual 111, 3) := by decide +kernel
theorem dX11_meets_55 : decode cX11_meets 55 = .ok (.aload_n 0, 1) := by decide +kernel
theorem dX11_meets_56 : decode cX11_meets 56 = .ok (.iload_n 2, 1) := by decide +kernel
theorem dX11_meets_57 : decode cX11_meets 57 = .ok (.invokevirtual 111, 3) := by decide +kernel
theorem dX11_meets_60 : decode cX11_meets 60 = .ok (.if_icmp .ne 5, 3) := by decide +kernel
theorem dX11_meets_63 : decode cX11_meets 63 = .ok (.iload_n 3, 1) := by decide +kernel
theorem dX11_meets_64 : decode cX11_meets 64 = .ok (.ireturn, 1) := by decide +kernel
theorem dX11_meets_65 : decode cX11_meets 65 = .ok (.aload_n 0, 1) := by decide +kernel
theorem dX11_meets_66 : decode cX11_meets 66 = .ok (.iload_n 1, 1) := by decide +kernel
theorem dX11_meets_67 : decode cX11_meets 67 = .ok (.invokevirtual 331, 3) := by decide +kernel
theorem dX11_meets_70 : decode cX11_meets 70 = .ok (.aload_n 0, 1) := by decide +kernel
theorem dX11_meets_71 : decode cX11_meets 71 = .ok (.iload_n 2, 1) := by decide +kernel
theorem dX11_meets_72 : decode cX11_meets 72 = .ok (.invokevirtual 331, 3) := by decide +kernel
theorem dX11_meets_75 : decode cX11_meets 75 = .ok (.iinc 3 1, 3) := by decide +kernel
theorem dX11_meets_78 : decode cX11_meets 78 = .ok (.goto (-54), 3) := by decide +kernel
theorem dX11_meets_81 : decode cX11_meets 81 = .ok (.iconst (-1), 1) := by decide +kernel
theorem dX11_meets_82 : decode cX11_meets 82 = .ok (.ireturn, 1) := by decide +kernel
theorem dX11_isGround_0 : decode cX11_isGround 0 = .ok (.iload_n 1, 1) := by decide +kernel
theorem dX11_isGround_1 : decode cX11_isGround 1 = .ok (.iconst 0, 1) := by decide +kernel
theorem dX11_isGround_2 : decode cX11_isGround 2 = .ok (.sipush 143, 3) := by decide +kernel
theorem dX11_isGround_5 : decode cX11_isGround 5 = .ok (.invokestatic 100, 3) := by decide +kernel
theorem dX11_isGround_8 : decode cX11_isGround 8 = .ok (.ifCond .eq 17, 3) := by decide +kernel
theorem dX11_isGround_11 : decode cX11_isGround 11 = .ok (.aload_n 0, 1) := by decide +kernel
theorem dX11_isGround_12 : decode cX11_isGround 12 = .ok (.getfield 9, 3) := by decide +kernel
theorem dX11_isGround_15 : decode cX11_isGround 15 = .ok (.iload_n 1, 1) := by decide +kernel
theorem dX11_isGround_16 : decode cX11_isGround 16 = .ok (.iaload, 1) := by decide +kernel
theorem dX11_isGround_17 : decode cX11_isGround 17 = .ok (.iconst 1, 1) := by decide +kernel
theorem dX11_isGround_18 : decode cX11_isGround 18 = .ok (.if_icmp .eq 7, 3) := by decide +kernel
theorem dX11_isGround_21 : decode cX11_isGround 21 = .ok (.iconst 1, 1) := by decide +kernel
theorem dX11_isGround_22 : decode cX11_isGround 22 = .ok (.goto 4, 3) := by decide +kernel
theorem dX11_isGround_25 : decode cX11_isGround 25 = .ok (.iconst 0, 1) := by decide +kernel
theorem dX11_isGround_26 : decode cX11_isGround 26 = .ok (.ireturn, 1) := by decide +kernel
theorem dX11_onBy_0 : decode cX11_onBy 0 = .ok (.iload_n 1, 1) := by decide +kernel
theorem dX11_onBy_1 : decode cX11_onBy 1 = .ok (.bipush 12, 2) := by decide +kernel
theorem dX11_onBy_3 : decode cX11_onBy 3 = .ok (.irem, 1) := by decide +kernel
theorem dX11_onBy_4 : decode cX11_onBy 4 = .ok (.iload_n 3, 1) := by decide +kernel
theorem dX11_onBy_5 : decode cX11_onBy 5 = .ok (.iload_n 2, 1) := by decide +kernel
theorem dX11_onBy_6 : decode cX11_onBy 6 = .ok (.invokestatic 285, 3) := by decide +kernel
theorem dX11_onBy_9 : decode cX11_onBy 9 = .ok (.imul, 1) := by decide +kernel
theorem dX11_onBy_10 : decode cX11_onBy 10 = .ok (.iadd, 1) := by decide +kernel
theorem dX11_onBy_11 : decode cX11_onBy 11 = .ok (.istore 4, 2) := by decide +kernel
theorem dX11_onBy_13 : decode cX11_onBy 13 = .ok (.iload_n 1, 1) := by decide +kernel
theorem dX11_onBy_14 : decode cX11_onBy 14 = .ok (.bipush 12, 2) := by decide +kernel
theorem dX11_onBy_16 : decode cX11_onBy 16 = .ok (.idiv, 1) := by decide +kernel
theorem dX11_onBy_17 : decode cX11_onBy 17 = .ok (.iload_n 3, 1) := by decide +kernel
theorem dX11_onBy_18 : decode cX11_onBy 18 = .ok (.iload_n 2, 1) := by decide +kernel
theorem dX11_onBy_19 : decode cX11_onBy 19 = .ok (.invokestatic 288, 3) := by decide +kernel
theorem dX11_onBy_22 : decode cX11_onBy 22 = .ok (.imul, 1) := by decide +kernel
theorem dX11_onBy_23 : decode cX11_onBy 23 = .ok (.iadd, 1) := by decide +kernel
theorem dX11_onBy_24 : decode cX11_onBy 24 = .ok (.istore 5, 2) := by decide +kernel
theorem dX11_onBy_26 : decode cX11_onBy 26 = .ok (.iload 4, 2) := by decide +kernel
theorem dX11_onBy_28 : decode cX11_onBy 28 = .ok (.iload 5, 2) := by decide +kernel
theorem dX11_onBy_30 : decode cX11_onBy 30 = .ok (.invokestatic 291, 3) := by decide +kernel
theorem dX11_onBy_33 : decode cX11_onBy 33 = .ok (.ifCond .eq 29, 3) := by decide +kernel
theorem dX11_onBy_36 : decode cX11_onBy 36 = .ok (.aload_n 0, 1) := by decide +kernel
theorem dX11_onBy_37 : decode cX11_onBy 37 = .ok (.getfield 9, 3) := by decide +kernel
theorem dX11_onBy_40 : decode cX11_onBy 40 = .ok (.iload 4, 2) := by decide +kernel
theorem dX11_onBy_42 : decode cX11_onBy 42 = .ok (.iload 5, 2) := by decide +kernel
theorem dX11_onBy_44 : decode cX11_onBy 44 = .ok (.invokestatic 108, 3) := by decide +kernel
theorem dX11_onBy_47 : decode cX11_onBy 47 = .ok (.iaload, 1) := by decide +kernel
theorem dX11_onBy_48 : decode cX11_onBy 48 = .ok (.iconst 1, 1) := by decide +kernel
theorem dX11_onBy_49 : decode cX11_onBy 49 = .ok (.if_icmp .eq 13, 3) := by decide +kernel
theorem dX11_onBy_52 : decode cX11_onBy 52 = .ok (.iload 4, 2) := by decide +kernel
theorem dX11_onBy_54 : decode cX11_onBy 54 = .ok (.iload 5, 2) := by decide +kernel
theorem dX11_onBy_56 : decode cX11_onBy 56 = .ok (.invokestatic 108, 3) := by decide +kernel
theorem dX11_onBy_59 : decode cX11_onBy 59 = .ok (.goto 4, 3) := by decide +kernel
theorem dX11_onBy_62 : decode cX11_onBy 62 = .ok (.iconst (-1), 1) := by decide +kernel
theorem dX11_onBy_63 : decode cX11_onBy 63 = .ok (.ireturn, 1) := by decide +kernel
theorem dX11_straightOn_0 : decode cX11_straightOn 0 = .ok (.iconst 1, 1) := by decide +kernel
theorem dX11_straightOn_1 : decode cX11_straightOn 1 = .ok (.istore_n 2, 1) := by decide +kernel
theorem dX11_straightOn_2 : decode cX11_straightOn 2 = .ok (.iload_n 2, 1) := by decide +kernel
theorem dX11_straightOn_3 : decode cX11_straightOn 3 = .ok (.bipush 12, 2) := by decide +kernel
theorem dX11_straightOn_5 : decode cX11_straightOn 5 = .ok (.if_icmp .ge 116, 3) := by decide +kernel
theorem dX11_straightOn_8 : decode cX11_straightOn 8 = .ok (.iconst 0, 1) := by decide +kernel
theorem dX11_straightOn_9 : decode cX11_straightOn 9 = .ok (.istore_n 3, 1) := by decide +kernel
theorem dX11_straightOn_10 : decode cX11_straightOn 10 = .ok (.iload_n 3, 1) := by decide +kernel
theorem dX11_straightOn_11 : decode cX11_straightOn 11 = .ok (.sipush 576, 3) := by decide +kernel
theorem dX11_straightOn_14 : decode cX11_straightOn 14 = .ok (.if_icmp .ge 101, 3) := by decide +kernel
theorem dX11_straightOn_17 : decode cX11_straightOn 17 = .ok (.aload_n 0, 1) := by decide +kernel
theorem dX11_straightOn_18 : decode cX11_straightOn 18 = .ok (.getfield 9, 3) := by decide +kernel
theorem dX11_straightOn_21 : decode cX11_straightOn 21 = .ok (.iload_n 3, 1) := by decide +kernel
theorem dX11_straightOn_22 : decode cX11_straightOn 22 = .ok (.iconst 4, 1) := by decide +kernel
theorem dX11_straightOn_23 : decode cX11_straightOn 23 = .ok (.idiv, 1) := by decide +kernel
theorem dX11_straightOn_24 : decode cX11_straightOn 24 = .ok (.iaload, 1) := by decide +kernel
theorem dX11_straightOn_25 : decode cX11_straightOn 25 = .ok (.iconst 1, 1) := by decide +kernel
theorem dX11_straightOn_26 : decode cX11_straightOn 26 = .ok (.if_icmp .ne 7, 3) := by decide +kernel
theorem dX11_straightOn_29 : decode cX11_straightOn 29 = .ok (.iconst (-1), 1) := by decide +kernel
theorem dX11_straightOn_30 : decode cX11_straightOn 30 = .ok (.goto 14, 3) := by decide +kernel
theorem dX11_straightOn_33 : decode cX11_straightOn 33 = .ok (.aload_n 0, 1) := by decide +kernel
theorem dX11_straightOn_34 : decode cX11_straightOn 34 = .ok (.iload_n 3, 1) := by decide +kernel
theorem dX11_straightOn_35 : decode cX11_straightOn 35 = .ok (.iconst 4, 1) := by decide +kernel
theorem dX11_straightOn_36 : decode cX11_straightOn 36 = .ok (.idiv, 1) := by decide +kernel
theorem dX11_straightOn_37 : decode cX11_straightOn 37 = .ok (.iload_n 3, 1) := by decide +kernel
theorem dX11_straightOn_38 : decode cX11_straightOn 38 = .ok (.iconst 4, 1) := by decide +kernel
theorem dX11_straightOn_39 : decode cX11_straightOn 39 = .ok (.irem, 1) := by decide +kernel
theorem dX11_straightOn_40 : decode cX11_straightOn 40 = .ok (.iconst (-1), 1) := by decide +kernel
theorem dX11_straightOn_41 : decode cX11_straightOn 41 = .ok (.invokevirtual 334, 3) := by decide +kernel
theorem dX11_straightOn_44 : decode cX11_straightOn 44 = .ok (.istore 4, 2) := by decide +kernel
theorem dX11_straightOn_46 : decode cX11_straightOn 46 = .ok (.iload 4, 2) := by decide +kernel
theorem dX11_straightOn_48 : decode cX11_straightOn 48 = .ok (.iconst (-1), 1) := by decide +kernel
theorem dX11_straightOn_49 : decode cX11_straightOn 49 = .ok (.if_icmp .ne 6, 3) := by decide +kernel
theorem dX11_straightOn_52 : decode cX11_straightOn 52 = .ok (.goto 57, 3) := by decide +kernel
theorem dX11_straightOn_55 : decode cX11_straightOn 55 = .ok (.aload_n 0, 1) := by decide +kernel
theorem dX11_straightOn_56 : decode cX11_straightOn 56 = .ok (.getfield 41, 3) := by decide +kernel
theorem dX11_straightOn_59 : decode cX11_straightOn 59 = .ok (.iload_n 1, 1) := by decide +kernel
theorem dX11_straightOn_60 : decode cX11_straightOn 60 = .ok (.sipush 576, 3) := by decide +kernel
theorem dX11_straightOn_63 : decode cX11_straightOn 63 = .ok (.imul, 1) := by decide +kernel
theorem dX11_straightOn_64 : decode cX11_straightOn 64 = .ok (.iconst 4, 1) := by decide +kernel
theorem dX11_straightOn_65 : decode cX11_straightOn 65 = .ok (.iload 4, 2) := by decide +kernel
theorem dX11_straightOn_67 : decode cX11_straightOn 67 = .ok (.imul, 1) := by decide +kernel
theorem dX11_straightOn_68 : decode cX11_straightOn 68 = .ok (.iadd, 1) := by decide +kernel
theorem dX11_straightOn_69 : decode cX11_straightOn 69 = .ok (.iload_n 3, 1) := by decide +kernel
theorem dX11_straightOn_70 : decode cX11_straightOn 70 = .ok (.iconst 4, 1) := by decide +kernel
theorem dX11_straightOn_71 : decode cX11_straightOn 71 = .ok (.irem, 1) := by decide +kernel
theorem dX11_straightOn_72 : decode cX11_straightOn 72 = .ok (.iadd, 1) := by decide +kernel
theorem dX11_straightOn_73 : decode cX11_straightOn 73 = .ok (.iaload, 1) := by decide +kernel
theorem dX11_straightOn_74 : decode cX11_straightOn 74 = .ok (.iconst 1, 1) := by decide +kernel
theorem dX11_straightOn_75 : decode cX11_straightOn 75 = .ok (.iadd, 1) := by decide +kernel
theorem dX11_straightOn_76 : decode cX11_straightOn 76 = .ok (.istore 5, 2) := by decide +kernel
theorem dX11_straightOn_78 : decode cX11_straightOn 78 = .ok (.iload 5, 2) := by decide +kernel
theorem dX11_straightOn_80 : decode cX11_straightOn 80 = .ok (.aload_n 0, 1) := by decide +kernel
theorem dX11_straightOn_81 : decode cX11_straightOn 81 = .ok (.getfield 41, 3) := by decide +kernel
theorem dX11_straightOn_84 : decode cX11_straightOn 84 = .ok (.iload_n 1, 1) := by decide +kernel
theorem dX11_straightOn_85 : decode cX11_straightOn 85 = .ok (.sipush 576, 3) := by decide +kernel
theorem dX11_straightOn_88 : decode cX11_straightOn 88 = .ok (.imul, 1) := by decide +kernel
theorem dX11_straightOn_89 : decode cX11_straightOn 89 = .ok (.iload_n 3, 1) := by decide +kernel
theorem dX11_straightOn_90 : decode cX11_straightOn 90 = .ok (.iadd, 1) := by decide +kernel
theorem dX11_straightOn_91 : decode cX11_straightOn 91 = .ok (.iaload, 1) := by decide +kernel
theorem dX11_straightOn_92 : decode cX11_straightOn 92 = .ok (.if_icmp .ge 17, 3) := by decide +kernel
theorem dX11_straightOn_95 : decode cX11_straightOn 95 = .ok (.aload_n 0, 1) := by decide +kernel
theorem dX11_straightOn_96 : decode cX11_straightOn 96 = .ok (.getfield 41, 3) := by decide +kernel
theorem dX11_straightOn_99 : decode cX11_straightOn 99 = .ok (.iload_n 1, 1) := by decide +kernel
theorem dX11_straightOn_100 : decode cX11_straightOn 100 = .ok (.sipush 576, 3) := by decide +kernel
theorem dX11_straightOn_103 : decode cX11_straightOn 103 = .ok (.imul, 1) := by decide +kernel
theorem dX11_straightOn_104 : decode cX11_straightOn 104 = .ok (.iload_n 3, 1) := by decide +kernel
theorem dX11_straightOn_105 : decode cX11_straightOn 105 = .ok (.iadd, 1) := by decide +kernel
theorem dX11_straightOn_106 : decode cX11_straightOn 106 = .ok (.iload 5, 2) := by decide +kernel
theorem dX11_straightOn_108 : decode cX11_straightOn 108 = .ok (.iastore, 1) := by decide +kernel
theorem dX11_straightOn_109 : decode cX11_straightOn 109 = .ok (.iinc 3 1, 3) := by decide +kernel
theorem dX11_straightOn_112 : decode cX11_straightOn 112 = .ok (.goto (-102), 3) := by decide +kernel
theorem dX11_straightOn_115 : decode cX11_straightOn 115 = .ok (.iinc 2 1, 3) := by decide +kernel
theorem dX11_straightOn_118 : decode cX11_straightOn 118 = .ok (.goto (-116), 3) := by decide +kernel
theorem dX11_straightOn_121 : decode cX11_straightOn 121 = .ok (.return_, 1) := by decide +kernel
theorem dX11_laySteps_0 : decode cX11_laySteps 0 = .ok (.iconst 0, 1) := by decide +kernel
theorem dX11_laySteps_1 : decode cX11_laySteps 1 = .ok (.istore_n 3, 1) := by decide +kernel
theorem dX11_laySteps_2 : decode cX11_laySteps 2 = .ok (.iload_n 3, 1) := by decide +kernel
theorem dX11_laySteps_3 : decode cX11_laySteps 3 = .ok (.bipush 7, 2) := by decide +kernel
theorem dX11_laySteps_5 : decode cX11_laySteps 5 = .ok (.if_icmp .ge 145, 3) := by decide +kernel
theorem dX11_laySteps_8 : decode cX11_laySteps 8 = .ok (.iconst 0, 1) := by decide +kernel
theorem dX11_laySteps_9 : decode cX11_laySteps 9 = .ok (.istore 4, 2) := by decide +kernel
theorem dX11_laySteps_11 : decode cX11_laySteps 11 = .ok (.iload 4, 2) := by decide +kernel
theorem dX11_laySteps_13 : decode cX11_laySteps 13 = .ok (.sipush 576, 3) := by decide +kernel
theorem dX11_laySteps_16 : decode cX11_laySteps 16 = .ok (.if_icmp .ge 123, 3) := by decide +kernel
theorem dX11_laySteps_19 : decode cX11_laySteps 19 = .ok (.iload_n 3, 1) := by decide +kernel
theorem dX11_laySteps_20 : decode cX11_laySteps 20 = .ok (.ifCond .ne 17, 3) := by decide +kernel
theorem dX11_laySteps_23 : decode cX11_laySteps 23 = .ok (.iload 4, 2) := by decide +kernel
theorem dX11_laySteps_25 : decode cX11_laySteps 25 = .ok (.iconst 4, 1) := by decide +kernel
theorem dX11_laySteps_26 : decode cX11_laySteps 26 = .ok (.iload_n 1, 1) := by decide +kernel
theorem dX11_laySteps_27 : decode cX11_laySteps 27 = .ok (.imul, 1) := by decide +kernel
theorem dX11_laySteps_28 : decode cX11_laySteps 28 = .ok (.iload_n 2, 1) := by decide +kernel
theorem dX11_laySteps_29 : decode cX11_laySteps 29 = .ok (.iadd, 1) := by decide +kernel
theorem dX11_laySteps_30 : decode cX11_laySteps 30 = .ok (.if_icmp .ne 7, 3) := by decide +kernel
theorem dX11_laySteps_33 : decode cX11_laySteps 33 = .ok (.iconst 0, 1) := by decide +kernel
theorem dX11_laySteps_34 : decode cX11_laySteps 34 = .ok (.goto 6, 3) := by decide +kernel
theorem dX11_laySteps_37 : decode cX11_laySteps 37 = .ok (.sipush 9999, 3) := by decide +kernel
theorem dX11_laySteps_40 : decode cX11_laySteps 40 = .ok (.istore 5, 2) := by decide +kernel
theorem dX11_laySteps_42 : decode cX11_laySteps 42 = .ok (.iload_n 3, 1) := by decide +kernel
theorem dX11_laySteps_43 : decode cX11_laySteps 43 = .ok (.ifCond .le 75, 3) := by decide +kernel
theorem dX11_laySteps_46 : decode cX11_laySteps 46 = .ok (.aload_n 0, 1) := by decide +kernel
theorem dX11_laySteps_47 : decode cX11_laySteps 47 = .ok (.getfield 41, 3) := by decide +kernel
theorem dX11_laySteps_50 : decode cX11_laySteps 50 = .ok (.iload_n 3, 1) := by decide +kernel
theorem dX11_laySteps_51 : decode cX11_laySteps 51 = .ok (.iconst 1, 1) := by decide +kernel
theorem dX11_laySteps_52 : decode cX11_laySteps 52 = .ok (.isub, 1) := by decide +kernel
theorem dX11_laySteps_53 : decode cX11_laySteps 53 = .ok (.sipush 576, 3) := by decide +kernel
theorem dX11_laySteps_56 : decode cX11_laySteps 56 = .ok (.imul, 1) := by decide +kernel
theorem dX11_laySteps_57 : decode cX11_laySteps 57 = .ok (.iload 4, 2) := by decide +kernel
theorem dX11_laySteps_59 : decode cX11_laySteps 59 = .ok (.iconst 4, 1) := by decide +kernel
theorem dX11_laySteps_60 : decode cX11_laySteps 60 = .ok (.idiv, 1) := by decide +kernel
theorem dX11_laySteps_61 : decode cX11_laySteps 61 = .ok (.iconst 4, 1) := by decide +kernel
theorem dX11_laySteps_62 : decode cX11_laySteps 62 = .ok (.imul, 1) := by decide +kernel
theorem dX11_laySteps_63 : decode cX11_laySteps 63 = .ok (.iadd, 1) := by decide +kernel
theorem dX11_laySteps_64 : decode cX11_laySteps 64 = .ok (.iload 4, 2) := by decide +kernel
theorem dX11_laySteps_66 : decode cX11_laySteps 66 = .ok (.iconst 1, 1) := by decide +kernel
theorem dX11_laySteps_67 : decode cX11_laySteps 67 = .ok (.iadd, 1) := by decide +kernel
theorem dX11_laySteps_68 : decode cX11_laySteps 68 = .ok (.iconst 4, 1) := by decide +kernel
theorem dX11_laySteps_69 : decode cX11_laySteps 69 = .ok (.irem, 1) := by decide +kernel
theorem dX11_laySteps_70 : decode cX11_laySteps 70 = .ok (.iadd, 1) := by decide +kernel
theorem dX11_laySteps_71 : decode cX11_laySteps 71 = .ok (.iaload, 1) := by decide +kernel
theorem dX11_laySteps_72 : decode cX11_laySteps 72 = .ok (.istore 6, 2) := by decide +kernel
theorem dX11_laySteps_74 : decode cX11_laySteps 74 = .ok (.aload_n 0, 1) := by decide +kernel
theorem dX11_laySteps_75 : decode cX11_laySteps 75 = .ok (.getfield 41, 3) := by decide +kernel
theorem dX11_laySteps_78 : decode cX11_laySteps 78 = .ok (.iload_n 3, 1) := by decide +kernel
theorem dX11_laySteps_79 : decode cX11_laySteps 79 = .ok (.iconst 1, 1) := by decide +kernel
theorem dX11_laySteps_80 : decode cX11_laySteps 80 = .ok (.isub, 1) := by decide +kernel
theorem dX11_laySteps_81 : decode cX11_laySteps 81 = .ok (.sipush 576, 3) := by decide +kernel
theorem dX11_laySteps_84 : decode cX11_laySteps 84 = .ok (.imul, 1) := by decide +kernel
theorem dX11_laySteps_85 : decode cX11_laySteps 85 = .ok (.iload 4, 2) := by decide +kernel
theorem dX11_laySteps_87 : decode cX11_laySteps 87 = .ok (.iconst 4, 1) := by decide +kernel
theorem dX11_laySteps_88 : decode cX11_laySteps 88 = .ok (.idiv, 1) := by decide +kernel
theorem dX11_laySteps_89 : decode cX11_laySteps 89 = .ok (.iconst 4, 1) := by decide +kernel
theorem dX11_laySteps_90 : decode cX11_laySteps 90 = .ok (.imul, 1) := by decide +kernel
theorem dX11_laySteps_91 : decode cX11_laySteps 91 = .ok (.iadd, 1) := by decide +kernel
theorem dX11_laySteps_92 : decode cX11_laySteps 92 = .ok (.iload 4, 2) := by decide +kernel
theorem dX11_laySteps_94 : decode cX11_laySteps 94 = .ok (.iconst 3, 1) := by decide +kernel
theorem dX11_laySteps_95 : decode cX11_laySteps 95 = .ok (.iadd, 1) := by decide +kernel
theorem dX11_laySteps_96 : decode cX11_laySteps 96 = .ok (.iconst 4, 1) := by decide +kernel
theorem dX11_laySteps_97 : decode cX11_laySteps 97 = .ok (.irem, 1) := by decide +kernel
theorem dX11_laySteps_98 : decode cX11_laySteps 98 = .ok (.iadd, 1) := by decide +kernel
theorem dX11_laySteps_99 : decode cX11_laySteps 99 = .ok (.iaload, 1) := by decide +kernel
theorem dX11_laySteps_100 : decode cX11_laySteps 100 = .ok (.istore 7, 2) := by decide +kernel
theorem dX11_laySteps_102 : decode cX11_laySteps 102 = .ok (.iload 6, 2) := by decide +kernel
theorem dX11_laySteps_104 : decode cX11_laySteps 104 = .ok (.iload 7, 2) := by decide +kernel
theorem dX11_laySteps_106 : decode cX11_laySteps 106 = .ok (.if_icmp .ge 8, 3) := by decide +kernel
theorem dX11_laySteps_109 : decode cX11_laySteps 109 = .ok (.iload 6, 2) := by decide +kernel
theorem dX11_laySteps_111 : decode cX11_laySteps 111 = .ok (.goto 5, 3) := by decide +kernel
theorem dX11_laySteps_114 : decode cX11_laySteps 114 = .ok (.iload 7, 2) := by decide +kernel
theorem dX11_laySteps_116 : decode cX11_laySteps 116 = .ok (.istore 5, 2) := by decide +kernel
theorem dX11_laySteps_118 : decode cX11_laySteps 118 = .ok (.aload_n 0, 1) := by decide +kernel
theorem dX11_laySteps_119 : decode cX11_laySteps 119 = .ok (.getfield 41, 3) := by decide +kernel
theorem dX11_laySteps_122 : decode cX11_laySteps 122 = .ok (.iload_n 3, 1) := by decide +kernel
theorem dX11_laySteps_123 : decode cX11_laySteps 123 = .ok (.sipush 576, 3) := by decide +kernel
theorem dX11_laySteps_126 : decode cX11_laySteps 126 = .ok (.imul, 1) := by decide +kernel
theorem dX11_laySteps_127 : decode cX11_laySteps 127 = .ok (.iload 4, 2) := by decide +kernel
theorem dX11_laySteps_129 : decode cX11_laySteps 129 = .ok (.iadd, 1) := by decide +kernel
theorem dX11_laySteps_130 : decode cX11_laySteps 130 = .ok (.iload 5, 2) := by decide +kernel
theorem dX11_laySteps_132 : decode cX11_laySteps 132 = .ok (.iastore, 1) := by decide +kernel
theorem dX11_laySteps_133 : decode cX11_laySteps 133 = .ok (.iinc 4 1, 3) := by decide +kernel
theorem dX11_laySteps_136 : decode cX11_laySteps 136 = .ok (.goto (-125), 3) := by decide +kernel
theorem dX11_laySteps_139 : decode cX11_laySteps 139 = .ok (.aload_n 0, 1) := by decide +kernel
theorem dX11_laySteps_140 : decode cX11_laySteps 140 = .ok (.iload_n 3, 1) := by decide +kernel
theorem dX11_laySteps_141 : decode cX11_laySteps 141 = .ok (.invokevirtual 337, 3) := by decide +kernel
theorem dX11_laySteps_144 : decode cX11_laySteps 144 = .ok (.iinc 3 1, 3) := by decide +kernel
theorem dX11_laySteps_147 : decode cX11_laySteps 147 = .ok (.goto (-145), 3) := by decide +kernel
theorem dX11_laySteps_150 : decode cX11_laySteps 150 = .ok (.return_, 1) := by decide +kernel
theorem dX11_layFar_0 : decode cX11_layFar 0 = .ok (.iconst 0, 1) := by decide +kernel
theorem dX11_layFar_1 : decode cX11_layFar 1 = .ok (.istore_n 3, 1) := by decide +kernel
theorem dX11_layFar_2 : decode cX11_layFar 2 = .ok (.iload_n 3, 1) := by decide +kernel
theorem dX11_layFar_3 : decode cX11_layFar 3 = .ok (.sipush 576, 3) := by decide +kernel
theorem dX11_layFar_6 : decode cX11_layFar 6 = .ok (.if_icmp .ge 31, 3) := by decide +kernel
theorem dX11_layFar_9 : decode cX11_layFar 9 = .ok (.aload_n 0, 1) := by decide +kernel
theorem dX11_layFar_10 : decode cX11_layFar 10 = .ok (.getfield 44, 3) := by decide +kernel
theorem dX11_layFar_13 : decode cX11_layFar 13 = .ok (.iload_n 3, 1) := by decide +kernel
theorem dX11_layFar_14 : decode cX11_layFar 14 = .ok (.iload_n 3, 1) := by decide +kernel
theorem dX11_layFar_15 : decode cX11_layFar 15 = .ok (.iconst 4, 1) := by decide +kernel
theorem dX11_layFar_16 : decode cX11_layFar 16 = .ok (.iload_n 1, 1) := by decide +kernel
theorem dX11_layFar_17 : decode cX11_layFar 17 = .ok (.imul, 1) := by decide +kernel
theorem dX11_layFar_18 : decode cX11_layFar 18 = .ok (.iload_n 2, 1) := by decide +kernel
theorem dX11_layFar_19 : decode cX11_layFar 19 = .ok (.iadd, 1) := by decide +kernel
theorem dX11_layFar_20 : decode cX11_layFar 20 = .ok (.if_icmp .ne 7, 3) := by decide +kernel
theorem dX11_layFar_23 : decode cX11_layFar 23 = .ok (.iconst 0, 1) := by decide +kernel
theorem dX11_layFar_24 : decode cX11_layFar 24 = .ok (.goto 6, 3) := by decide +kernel
theorem dX11_layFar_27 : decode cX11_layFar 27 = .ok (.sipush 9999, 3) := by decide +kernel
theorem dX11_layFar_30 : decode cX11_layFar 30 = .ok (.iastore, 1) := by decide +kernel
theorem dX11_layFar_31 : decode cX11_layFar 31 = .ok (.iinc 3 1, 3) := by decide +kernel
theorem dX11_layFar_34 : decode cX11_layFar 34 = .ok (.goto (-32), 3) := by decide +kernel
theorem dX11_layFar_37 : decode cX11_layFar 37 = .ok (.iconst 1, 1) := by decide +kernel
theorem dX11_layFar_38 : decode cX11_layFar 38 = .ok (.istore_n 3, 1) := by decide +kernel
theorem dX11_layFar_39 : decode cX11_layFar 39 = .ok (.iconst 0, 1) := by decide +kernel
theorem dX11_layFar_40 : decode cX11_layFar 40 = .ok (.istore 4, 2) := by decide +kernel
theorem dX11_layFar_42 : decode cX11_layFar 42 = .ok (.iload_n 3, 1) := by decide +kernel
theorem dX11_layFar_43 : decode cX11_layFar 43 = .ok (.ifCond .eq 171, 3) := by decide +kernel
theorem dX11_layFar_46 : decode cX11_layFar 46 = .ok (.iconst 0, 1) := by decide +kernel
theorem dX11_layFar_47 : decode cX11_layFar 47 = .ok (.istore_n 3, 1) := by decide +kernel
theorem dX11_layFar_48 : decode cX11_layFar 48 = .ok (.iconst 0, 1) := by decide +kernel
theorem dX11_layFar_49 : decode cX11_layFar 49 = .ok (.istore 5, 2) := by decide +kernel
theorem dX11_layFar_51 : decode cX11_layFar 51 = .ok (.iload 5, 2) := by decide +kernel
theorem dX11_layFar_53 : decode cX11_layFar 53 = .ok (.sipush 576, 3) := by decide +kernel
theorem dX11_layFar_56 : decode cX11_layFar 56 = .ok (.if_icmp .ge 152, 3) := by decide +kernel
theorem dX11_layFar_59 : decode cX11_layFar 59 = .ok (.aload_n 0, 1) := by decide +kernel
theorem dX11_layFar_60 : decode cX11_layFar 60 = .ok (.getfield 44, 3) := by decide +kernel
theorem dX11_layFar_63 : decode cX11_layFar 63 = .ok (.iload 5, 2) := by decide +kernel
theorem dX11_layFar_65 : decode cX11_layFar 65 = .ok (.iaload, 1) := by decide +kernel
theorem dX11_layFar_66 : decode cX11_layFar 66 = .ok (.iload 4, 2) := by decide +kernel
theorem dX11_layFar_68 : decode cX11_layFar 68 = .ok (.if_icmp .eq 6, 3) := by decide +kernel
theorem dX11_layFar_71 : decode cX11_layFar 71 = .ok (.goto 131, 3) := by decide +kernel
theorem dX11_layFar_74 : decode cX11_layFar 74 = .ok (.iconst 1, 1) := by decide +kernel
theorem dX11_layFar_75 : decode cX11_layFar 75 = .ok (.istore_n 3, 1) := by decide +kernel
theorem dX11_layFar_76 : decode cX11_layFar 76 = .ok (.aload_n 0, 1) := by decide +kernel
theorem dX11_layFar_77 : decode cX11_layFar 77 = .ok (.iload 5, 2) := by decide +kernel
theorem dX11_layFar_79 : decode cX11_layFar 79 = .ok (.iconst 4, 1) := by decide +kernel
theorem dX11_layFar_80 : decode cX11_layFar 80 = .ok (.idiv, 1) := by decide +kernel
theorem dX11_layFar_81 : decode cX11_layFar 81 = .ok (.iload 5, 2) := by decide +kernel
theorem dX11_layFar_83 : decode cX11_layFar 83 = .ok (.iconst 4, 1) := by decide +kernel
theorem dX11_layFar_84 : decode cX11_layFar 84 = .ok (.irem, 1) := by decide +kernel
theorem dX11_layFar_85 : decode cX11_layFar 85 = .ok (.iconst 1, 1) := by decide +kernel
theorem dX11_layFar_86 : decode cX11_layFar 86 = .ok (.invokevirtual 334, 3) := by decide +kernel
theorem dX11_layFar_89 : decode cX11_layFar 89 = .ok (.istore 6, 2) := by decide +kernel
theorem dX11_layFar_91 : decode cX11_layFar 91 = .ok (.iload 6, 2) := by decide +kernel
theorem dX11_layFar_93 : decode cX11_layFar 93 = .ok (.iconst (-1), 1) := by decide +kernel
theorem dX11_layFar_94 : decode cX11_layFar 94 = .ok (.if_icmp .eq 41, 3) := by decide +kernel
theorem dX11_layFar_97 : decode cX11_layFar 97 = .ok (.aload_n 0, 1) := by decide +kernel
theorem dX11_layFar_98 : decode cX11_layFar 98 = .ok (.getfield 44, 3) := by decide +kernel
theorem dX11_layFar_101 : decode cX11_layFar 101 = .ok (.iconst 4, 1) := by decide +kernel
theorem dX11_layFar_102 : decode cX11_layFar 102 = .ok (.iload 6, 2) := by decide +kernel
theorem dX11_layFar_104 : decode cX11_layFar 104 = .ok (.imul, 1) := by decide +kernel
theorem dX11_layFar_105 : decode cX11_layFar 105 = .ok (.iload 5, 2) := by decide +kernel
theorem dX11_layFar_107 : decode cX11_layFar 107 = .ok (.iconst 4, 1) := by decide +kernel
theorem dX11_layFar_108 : decode cX11_layFar 108 = .ok (.irem, 1) := by decide +kernel
theorem dX11_layFar_109 : decode cX11_layFar 109 = .ok (.iadd, 1) := by decide +kernel
theorem dX11_layFar_110 : decode cX11_layFar 110 = .ok (.iaload, 1) := by decide +kernel
theorem dX11_layFar_111 : decode cX11_layFar 111 = .ok (.sipush 9999, 3) := by decide +kernel
theorem dX11_layFar_114 : decode cX11_layFar 114 = .ok (.if_icmp .ne 21, 3) := by decide +kernel
theorem dX11_layFar_117 : decode cX11_layFar 117 = .ok (.aload_n 0, 1) := by decide +kernel
theorem dX11_layFar_118 : decode cX11_layFar 118 = .ok (.getfield 44, 3) := by decide +kernel
theorem dX11_layFar_121 : decode cX11_layFar 121 = .ok (.iconst 4, 1) := by decide +kernel
theorem dX11_layFar_122 : decode cX11_layFar 122 = .ok (.iload 6, 2) := by decide +kernel
theorem dX11_layFar_124 : decode cX11_layFar 124 = .ok (.imul, 1) := by decide +kernel
theorem dX11_layFar_125 : decode cX11_layFar 125 = .ok (.iload 5, 2) := by decide +kernel
theorem dX11_layFar_127 : decode cX11_layFar 127 = .ok (.iconst 4, 1) := by decide +kernel
theorem dX11_layFar_128 : decode cX11_layFar 128 = .ok (.irem, 1) := by decide +kernel
theorem dX11_layFar_129 : decode cX11_layFar 129 = .ok (.iadd, 1) := by decide +kernel
theorem dX11_layFar_130 : decode cX11_layFar 130 = .ok (.iload 4, 2) := by decide +kernel
theorem dX11_layFar_132 : decode cX11_layFar 132 = .ok (.iconst 1, 1) := by decide +kernel
theorem dX11_layFar_133 : decode cX11_layFar 133 = .ok (.iadd, 1) := by decide +kernel
theorem dX11_layFar_134 : decode cX11_layFar 134 = .ok (.iastore, 1) := by decide +kernel
theorem dX11_layFar_135 : decode cX11_layFar 135 = .ok (.iconst 0, 1) := by decide +kernel
theorem dX11_layFar_136 : decode cX11_layFar 136 = .ok (.istore 7, 2) := by decide +kernel
theorem dX11_layFar_138 : decode cX11_layFar 138 = .ok (.iload 7, 2) := by decide +kernel
theorem dX11_layFar_140 : decode cX11_layFar 140 = .ok (.iconst 2, 1) := by decide +kernel
theorem dX11_layFar_141 : decode cX11_layFar 141 = .ok (.if_icmp .ge 61, 3) := by decide +kernel
theorem dX11_layFar_144 : decode cX11_layFar 144 = .ok (.iload 5, 2) := by decide +kernel
theorem dX11_layFar_146 : decode cX11_layFar 146 = .ok (.iconst 4, 1) := by decide +kernel
theorem dX11_layFar_147 : decode cX11_layFar 147 = .ok (.idiv, 1) := by decide +kernel
theorem dX11_layFar_148 : decode cX11_layFar 148 = .ok (.iconst 4, 1) := by decide +kernel
theorem dX11_layFar_149 : decode cX11_layFar 149 = .ok (.imul, 1) := by decide +kernel
theorem dX11_layFar_150 : decode cX11_layFar 150 = .ok (.iload 5, 2) := by decide +kernel
theorem dX11_layFar_152 : decode cX11_layFar 152 = .ok (.iconst 4, 1) := by decide +kernel
theorem dX11_layFar_153 : decode cX11_layFar 153 = .ok (.irem, 1) := by decide +kernel
theorem dX11_layFar_154 : decode cX11_layFar 154 = .ok (.iload 7, 2) := by decide +kernel
theorem dX11_layFar_156 : decode cX11_layFar 156 = .ok (.invokestatic 263, 3) := by decide +kernel
theorem dX11_layFar_159 : decode cX11_layFar 159 = .ok (.iadd, 1) := by decide +kernel
theorem dX11_layFar_160 : decode cX11_layFar 160 = .ok (.istore 8, 2) := by decide +kernel
theorem dX11_layFar_162 : decode cX11_layFar 162 = .ok (.aload_n 0, 1) := by decide +kernel
theorem dX11_layFar_163 : decode cX11_layFar 163 = .ok (.getfield 44, 3) := by decide +kernel
theorem dX11_layFar_166 : decode cX11_layFar 166 = .ok (.iload 8, 2) := by decide +kernel
theorem dX11_layFar_168 : decode cX11_layFar 168 = .ok (.aload_n 0, 1) := by decide +kernel
theorem dX11_layFar_169 : decode cX11_layFar 169 = .ok (.getfield 44, 3) := by decide +kernel
theorem dX11_layFar_172 : decode cX11_layFar 172 = .ok (.iload 8, 2) := by decide +kernel
theorem dX11_layFar_174 : decode cX11_layFar 174 = .ok (.iaload, 1) := by decide +kernel
theorem dX11_layFar_175 : decode cX11_layFar 175 = .ok (.sipush 9999, 3) := by decide +kernel
theorem dX11_layFar_178 : decode cX11_layFar 178 = .ok (.if_icmp .ne 10, 3) := by decide +kernel
theorem dX11_layFar_181 : decode cX11_layFar 181 = .ok (.iload 4, 2) := by decide +kernel
theorem dX11_layFar_183 : decode cX11_layFar 183 = .ok (.iconst 1, 1) := by decide +kernel
theorem dX11_layFar_184 : decode cX11_layFar 184 = .ok (.iadd, 1) := by decide +kernel
theorem dX11_layFar_185 : decode cX11_layFar 185 = .ok (.goto 10, 3) := by decide +kernel
theorem dX11_layFar_188 : decode cX11_layFar 188 = .ok (.aload_n 0, 1) := by decide +kernel
theorem dX11_layFar_189 : decode cX11_layFar 189 = .ok (.getfield 44, 3) := by decide +kernel
theorem dX11_layFar_192 : decode cX11_layFar 192 = .ok (.iload 8, 2) := by decide +kernel
theorem dX11_layFar_194 : decode cX11_layFar 194 = .ok (.iaload, 1) := by decide +kernel
theorem dX11_layFar_195 : decode cX11_layFar 195 = .ok (.iastore, 1) := by decide +kernel
theorem dX11_layFar_196 : decode cX11_layFar 196 = .ok (.iinc 7 1, 3) := by decide +kernel
theorem dX11_layFar_199 : decode cX11_layFar 199 = .ok (.goto (-61), 3) := by decide +kernel
theorem dX11_layFar_202 : decode cX11_layFar 202 = .ok (.iinc 5 1, 3) := by decide +kernel
theorem dX11_layFar_205 : decode cX11_layFar 205 = .ok (.goto (-154), 3) := by decide +kernel
theorem dX11_layFar_208 : decode cX11_layFar 208 = .ok (.iinc 4 1, 3) := by decide +kernel
theorem dX11_layFar_211 : decode cX11_layFar 211 = .ok (.goto (-169), 3) := by decide +kernel
theorem dX11_layFar_214 : decode cX11_layFar 214 = .ok (.return_, 1) := by decide +kernel
theorem dX11_far_0 : decode cX11_far 0 = .ok (.aload_n 0, 1) := by decide +kernel
theorem dX11_far_1 : decode cX11_far 1 = .ok (.iload_n 1, 1) := by decide +kernel
theorem dX11_far_2 : decode cX11_far 2 = .ok (.invokevirtual 340, 3) := by decide +kernel
theorem dX11_far_5 : decode cX11_far 5 = .ok (.ifCond .eq 31, 3) := by decide +kernel
theorem dX11_far_8 : decode cX11_far 8 = .ok (.aload_n 0, 1) := by decide +kernel
theorem dX11_far_9 : decode cX11_far 9 = .ok (.iload_n 3, 1) := by decide +kernel
theorem dX11_far_10 : decode cX11_far 10 = .ok (.invokevirtual 340, 3) := by decide +kernel
theorem dX11_far_13 : decode cX11_far 13 = .ok (.ifCond .eq 23, 3) := by decide +kernel
theorem dX11_far_16 : decode cX11_far 16 = .ok (.iload_n 2, 1) := by decide +kernel
theorem dX11_far_17 : decode cX11_far 17 = .ok (.iconst 0, 1) := by decide +kernel
theorem dX11_far_18 : decode cX11_far 18 = .ok (.iconst 3, 1) := by decide +kernel
theorem dX11_far_19 : decode cX11_far 19 = .ok (.invokestatic 100, 3) := by decide +kernel
theorem dX11_far_22 : decode cX11_far 22 = .ok (.ifCond .eq 14, 3) := by decide +kernel
theorem dX11_far_25 : decode cX11_far 25 = .ok (.iload 4, 2) := by decide +kernel
theorem dX11_far_27 : decode cX11_far 27 = .ok (.iconst (-1), 1) := by decide +kernel
theorem dX11_far_28 : decode cX11_far 28 = .ok (.bipush 6, 2) := by decide +kernel
theorem dX11_far_30 : decode cX11_far 30 = .ok (.invokestatic 100, 3) := by decide +kernel
theorem dX11_far_33 : decode cX11_far 33 = .ok (.ifCond .ne 5, 3) := by decide +kernel
theorem dX11_far_36 : decode cX11_far 36 = .ok (.iconst (-1), 1) := by decide +kernel
theorem dX11_far_37 : decode cX11_far 37 = .ok (.ireturn, 1) := by decide +kernel
theorem dX11_far_38 : decode cX11_far 38 = .ok (.iload 4, 2) := by decide +kernel
theorem dX11_far_40 : decode cX11_far 40 = .ok (.iconst (-1), 1) := by decide +kernel
theorem dX11_far_41 : decode cX11_far 41 = .ok (.if_icmp .ne 12, 3) := by decide +kernel
theorem dX11_far_44 : decode cX11_far 44 = .ok (.aload_n 0, 1) := by decide +kernel
theorem dX11_far_45 : decode cX11_far 45 = .ok (.iload_n 1, 1) := by decide +kernel
theorem dX11_far_46 : decode cX11_far 46 = .ok (.iload_n 2, 1) := by decide +kernel
theorem dX11_far_47 : decode cX11_far 47 = .ok (.invokevirtual 343, 3) := by decide +kernel
theorem dX11_far_50 : decode cX11_far 50 = .ok (.goto 9, 3) := by decide +kernel
theorem dX11_far_53 : decode cX11_far 53 = .ok (.aload_n 0, 1) := by decide +kernel
theorem dX11_far_54 : decode cX11_far 54 = .ok (.iload_n 1, 1) := by decide +kernel
theorem dX11_far_55 : decode cX11_far 55 = .ok (.iload_n 2, 1) := by decide +kernel
theorem dX11_far_56 : decode cX11_far 56 = .ok (.invokevirtual 346, 3) := by decide +kernel
theorem dX11_far_59 : decode cX11_far 59 = .ok (.sipush 9999, 3) := by decide +kernel
theorem dX11_far_62 : decode cX11_far 62 = .ok (.istore 5, 2) := by decide +kernel
theorem dX11_far_64 : decode cX11_far 64 = .ok (.iconst 0, 1) := by decide +kernel
theorem dX11_far_65 : decode cX11_far 65 = .ok (.istore 6, 2) := by decide +kernel
theorem dX11_far_67 : decode cX11_far 67 = .ok (.iload 6, 2) := by decide +kernel
theorem dX11_far_69 : decode cX11_far 69 = .ok (.iconst 4, 1) := by decide +kernel
theorem dX11_far_70 : decode cX11_far 70 = .ok (.if_icmp .ge 65, 3) := by decide +kernel
theorem dX11_far_73 : decode cX11_far 73 = .ok (.iload 4, 2) := by decide +kernel
theorem dX11_far_75 : decode cX11_far 75 = .ok (.iconst (-1), 1) := by decide +kernel
theorem dX11_far_76 : decode cX11_far 76 = .ok (.if_icmp .ne 17, 3) := by decide +kernel
theorem dX11_far_79 : decode cX11_far 79 = .ok (.aload_n 0, 1) := by decide +kernel
theorem dX11_far_80 : decode cX11_far 80 = .ok (.getfield 44, 3) := by decide +kernel
theorem dX11_far_83 : decode cX11_far 83 = .ok (.iconst 4, 1) := by decide +kernel
theorem dX11_far_84 : decode cX11_far 84 = .ok (.iload_n 3, 1) := by decide +kernel
theorem dX11_far_85 : decode cX11_far 85 = .ok (.imul, 1) := by decide +kernel
theorem dX11_far_86 : decode cX11_far 86 = .ok (.iload 6, 2) := by decide +kernel
theorem dX11_far_88 : decode cX11_far 88 = .ok (.iadd, 1) := by decide +kernel
theorem dX11_far_89 : decode cX11_far 89 = .ok (.iaload, 1) := by decide +kernel
theorem dX11_far_90 : decode cX11_far 90 = .ok (.goto 21, 3) := by decide +kernel
theorem dX11_far_93 : decode cX11_far 93 = .ok (.aload_n 0, 1) := by decide +kernel
theorem dX11_far_94 : decode cX11_far 94 = .ok (.getfield 41, 3) := by decide +kernel
theorem dX11_far_97 : decode cX11_far 97 = .ok (.iload 4, 2) := by decide +kernel
theorem dX11_far_99 : decode cX11_far 99 = .ok (.sipush 576, 3) := by decide +kernel
theorem dX11_far_102 : decode cX11_far 102 = .ok (.imul, 1) := by decide +kernel
theorem dX11_far_103 : decode cX11_far 103 = .ok (.iconst 4, 1) := by decide +kernel
theorem dX11_far_104 : decode cX11_far 104 = .ok (.iload_n 3, 1) := by decide +kernel
theorem dX11_far_105 : decode cX11_far 105 = .ok (.imul, 1) := by decide +kernel
theorem dX11_far_106 : decode cX11_far 106 = .ok (.iadd, 1) := by decide +kernel
theorem dX11_far_107 : decode cX11_far 107 = .ok (.iload 6, 2) := by decide +kernel
theorem dX11_far_109 : decode cX11_far 109 = .ok (.iadd, 1) := by decide +kernel
theorem dX11_far_110 : decode cX11_far 110 = .ok (.iaload, 1) := by decide +kernel
theorem dX11_far_111 : decode cX11_far 111 = .ok (.istore 7, 2) := by decide +kernel
theorem dX11_far_113 : decode cX11_far 113 = .ok (.iload 7, 2) := by decide +kernel
theorem dX11_far_115 : decode cX11_far 115 = .ok (.iload 5, 2) := by decide +kernel
theorem dX11_far_117 : decode cX11_far 117 = .ok (.if_icmp .ge 8, 3) := by decide +kernel
theorem dX11_far_120 : decode cX11_far 120 = .ok (.iload 7, 2) := by decide +kernel
theorem dX11_far_122 : decode cX11_far 122 = .ok (.goto 5, 3) := by decide +kernel
theorem dX11_far_125 : decode cX11_far 125 = .ok (.iload 5, 2) := by decide +kernel
theorem dX11_far_127 : decode cX11_far 127 = .ok (.istore 5, 2) := by decide +kernel
theorem dX11_far_129 : decode cX11_far 129 = .ok (.iinc 6 1, 3) := by decide +kernel
theorem dX11_far_132 : decode cX11_far 132 = .ok (.goto (-65), 3) := by decide +kernel
theorem dX11_far_135 : decode cX11_far 135 = .ok (.iload 5, 2) := by decide +kernel
theorem dX11_far_137 : decode cX11_far 137 = .ok (.sipush 9999, 3) := by decide +kernel
theorem dX11_far_140 : decode cX11_far 140 = .ok (.if_icmp .ne 7, 3) := by decide +kernel
theorem dX11_far_143 : decode cX11_far 143 = .ok (.iconst (-1), 1) := by decide +kernel
theorem dX11_far_144 : decode cX11_far 144 = .ok (.goto 5, 3) := by decide +kernel
theorem dX11_far_147 : decode cX11_far 147 = .ok (.iload 5, 2) := by decide +kernel
theorem dX11_far_149 : decode cX11_far 149 = .ok (.ireturn, 1) := by decide +kernel
theorem dX11_plus_0 : decode cX11_plus 0 = .ok (.iload_n 0, 1) := by decide +kernel
theorem dX11_plus_1 : decode cX11_plus 1 = .ok (.ldc_w 349, 3) := by decide +kernel
theorem dX11_plus_4 : decode cX11_plus 4 = .ok (.iload_n 1, 1) := by decide +kernel
theorem dX11_plus_5 : decode cX11_plus 5 = .ok (.isub, 1) := by decide +kernel
theorem dX11_plus_6 : decode cX11_plus 6 = .ok (.if_icmp .lt 13, 3) := by decide +kernel
theorem dX11_plus_9 : decode cX11_plus 9 = .ok (.iload_n 0, 1) := by decide +kernel
theorem dX11_plus_10 : decode cX11_plus 10 = .ok (.ldc_w 349, 3) := by decide +kernel
theorem dX11_plus_13 : decode cX11_plus 13 = .ok (.iload_n 1, 1) := by decide +kernel
theorem dX11_plus_14 : decode cX11_plus 14 = .ok (.isub, 1) := by decide +kernel
theorem dX11_plus_15 : decode cX11_plus 15 = .ok (.isub, 1) := by decide +kernel
theorem dX11_plus_16 : decode cX11_plus 16 = .ok (.goto 6, 3) := by decide +kernel
theorem dX11_plus_19 : decode cX11_plus 19 = .ok (.iload_n 0, 1) := by decide +kernel
theorem dX11_plus_20 : decode cX11_plus 20 = .ok (.iload_n 1, 1) := by decide +kernel
theorem dX11_plus_21 : decode cX11_plus 21 = .ok (.iadd, 1) := by decide +kernel
theorem dX11_plus_22 : decode cX11_plus 22 = .ok (.ireturn, 1) := by decide +kernel
theorem dX11_turnRows_0 : decode cX11_turnRows 0 = .ok (.iconst 1, 1) := by decide +kernel
theorem dX11_turnRows_1 : decode cX11_turnRows 1 = .ok (.istore_n 2, 1) := by decide +kernel
theorem dX11_turnRows_2 : decode cX11_turnRows 2 = .ok (.iload_n 2, 1) := by decide +kernel
theorem dX11_turnRows_3 : decode cX11_turnRows 3 = .ok (.iload_n 1, 1) := by decide +kernel
theorem dX11_turnRows_4 : decode cX11_turnRows 4 = .ok (.if_icmp .gt 112, 3) := by decide +kernel
theorem dX11_turnRows_7 : decode cX11_turnRows 7 = .ok (.iconst 0, 1) := by decide +kernel
theorem dX11_turnRows_8 : decode cX11_turnRows 8 = .ok (.istore_n 3, 1) := by decide +kernel
theorem dX11_turnRows_9 : decode cX11_turnRows 9 = .ok (.iload_n 3, 1) := by decide +kernel
theorem dX11_turnRows_10 : decode cX11_turnRows 10 = .ok (.sipush 576, 3) := by decide +kernel
theorem dX11_turnRows_13 : decode cX11_turnRows 13 = .ok (.if_icmp .ge 97, 3) := by decide +kernel
theorem dX11_turnRows_16 : decode cX11_turnRows 16 = .ok (.iconst 0, 1) := by decide +kernel
theorem dX11_turnRows_17 : decode cX11_turnRows 17 = .ok (.istore 4, 2) := by decide +kernel
theorem dX11_turnRows_19 : decode cX11_turnRows 19 = .ok (.iload 4, 2) := by decide +kernel
theorem dX11_turnRows_21 : decode cX11_turnRows 21 = .ok (.iconst 2, 1) := by decide +kernel
theorem dX11_turnRows_22 : decode cX11_turnRows 22 = .ok (.if_icmp .ge 82, 3) := by decide +kernel
theorem dX11_turnRows_25 : decode cX11_turnRows 25 = .ok (.iload_n 3, 1) := by decide +kernel
theorem dX11_turnRows_26 : decode cX11_turnRows 26 = .ok (.iconst 4, 1) := by decide +kernel
theorem dX11_turnRows_27 : decode cX11_turnRows 27 = .ok (.idiv, 1) := by decide +kernel
theorem dX11_turnRows_28 : decode cX11_turnRows 28 = .ok (.iconst 4, 1) := by decide +kernel
theorem dX11_turnRows_29 : decode cX11_turnRows 29 = .ok (.imul, 1) := by decide +kernel
theorem dX11_turnRows_30 : decode cX11_turnRows 30 = .ok (.iload_n 3, 1) := by decide +kernel
theorem dX11_turnRows_31 : decode cX11_turnRows 31 = .ok (.iconst 4, 1) := by decide +kernel
theorem dX11_turnRows_32 : decode cX11_turnRows 32 = .ok (.irem, 1) := by decide +kernel
theorem dX11_turnRows_33 : decode cX11_turnRows 33 = .ok (.iconst 1, 1) := by decide +kernel
theorem dX11_turnRows_34 : decode cX11_turnRows 34 = .ok (.iload 4, 2) := by decide +kernel
theorem dX11_turnRows_36 : decode cX11_turnRows 36 = .ok (.isub, 1) := by decide +kernel
theorem dX11_turnRows_37 : decode cX11_turnRows 37 = .ok (.invokestatic 263, 3) := by decide +kernel
theorem dX11_turnRows_40 : decode cX11_turnRows 40 = .ok (.iadd, 1) := by decide +kernel
theorem dX11_turnRows_41 : decode cX11_turnRows 41 = .ok (.istore 5, 2) := by decide +kernel
theorem dX11_turnRows_43 : decode cX11_turnRows 43 = .ok (.iload_n 2, 1) := by decide +kernel
theorem dX11_turnRows_44 : decode cX11_turnRows 44 = .ok (.iconst 1, 1) := by decide +kernel
theorem dX11_turnRows_45 : decode cX11_turnRows 45 = .ok (.isub, 1) := by decide +kernel
theorem dX11_turnRows_46 : decode cX11_turnRows 46 = .ok (.sipush 1728, 3) := by decide +kernel
theorem dX11_turnRows_49 : decode cX11_turnRows 49 = .ok (.imul, 1) := by decide +kernel
theorem dX11_turnRows_50 : decode cX11_turnRows 50 = .ok (.iconst 3, 1) := by decide +kernel
theorem dX11_turnRows_51 : decode cX11_turnRows 51 = .ok (.iload 5, 2) := by decide +kernel
theorem dX11_turnRows_53 : decode cX11_turnRows 53 = .ok (.imul, 1) := by decide +kernel
theorem dX11_turnRows_54 : decode cX11_turnRows 54 = .ok (.iadd, 1) := by decide +kernel
theorem dX11_turnRows_55 : decode cX11_turnRows 55 = .ok (.istore 6, 2) := by decide +kernel
theorem dX11_turnRows_57 : decode cX11_turnRows 57 = .ok (.aload_n 0, 1) := by decide +kernel
theorem dX11_turnRows_58 : decode cX11_turnRows 58 = .ok (.getfield 47, 3) := by decide +kernel
theorem dX11_turnRows_61 : decode cX11_turnRows 61 = .ok (.iload_n 2, 1) := by decide +kernel
theorem dX11_turnRows_62 : decode cX11_turnRows 62 = .ok (.sipush 1728, 3) := by decide +kernel
theorem dX11_turnRows_65 : decode cX11_turnRows 65 = .ok (.imul, 1) := by decide +kernel
theorem dX11_turnRows_66 : decode cX11_turnRows 66 = .ok (.iconst 3, 1) := by decide +kernel
theorem dX11_turnRows_67 : decode cX11_turnRows 67 = .ok (.iload_n 3, 1) := by decide +kernel
theorem dX11_turnRows_68 : decode cX11_turnRows 68 = .ok (.imul, 1) := by decide +kernel
theorem dX11_turnRows_69 : decode cX11_turnRows 69 = .ok (.iadd, 1) := by decide +kernel
theorem dX11_turnRows_70 : decode cX11_turnRows 70 = .ok (.iconst 1, 1) := by decide +kernel
theorem dX11_turnRows_71 : decode cX11_turnRows 71 = .ok (.iadd, 1) := by decide +kernel
theorem dX11_turnRows_72 : decode cX11_turnRows 72 = .ok (.iload 4, 2) := by decide +kernel
theorem dX11_turnRows_74 : decode cX11_turnRows 74 = .ok (.iadd, 1) := by decide +kernel
theorem dX11_turnRows_75 : decode cX11_turnRows 75 = .ok (.aload_n 0, 1) := by decide +kernel
theorem dX11_turnRows_76 : decode cX11_turnRows 76 = .ok (.getfield 47, 3) := by decide +kernel
theorem dX11_turnRows_79 : decode cX11_turnRows 79 = .ok (.iload 6, 2) := by decide +kernel
theorem dX11_turnRows_81 : decode cX11_turnRows 81 = .ok (.iaload, 1) := by decide +kernel
theorem dX11_turnRows_82 : decode cX11_turnRows 82 = .ok (.aload_n 0, 1) := by decide +kernel
theorem dX11_turnRows_83 : decode cX11_turnRows 83 = .ok (.getfield 47, 3) := by decide +kernel
theorem dX11_turnRows_86 : decode cX11_turnRows 86 = .ok (.iload 6, 2) := by decide +kernel
theorem dX11_turnRows_88 : decode cX11_turnRows 88 = .ok (.iconst 1, 1) := by decide +kernel
theorem dX11_turnRows_89 : decode cX11_turnRows 89 = .ok (.iadd, 1) := by decide +kernel
theorem dX11_turnRows_90 : decode cX11_turnRows 90 = .ok (.iload 4, 2) := by decide +kernel
theorem dX11_turnRows_92 : decode cX11_turnRows 92 = .ok (.iadd, 1) := by decide +kernel
theorem dX11_turnRows_93 : decode cX11_turnRows 93 = .ok (.iaload, 1) := by decide +kernel
theorem dX11_turnRows_94 : decode cX11_turnRows 94 = .ok (.invokestatic 350, 3) := by decide +kernel
theorem dX11_turnRows_97 : decode cX11_turnRows 97 = .ok (.iastore, 1) := by decide +kernel
theorem dX11_turnRows_98 : decode cX11_turnRows 98 = .ok (.iinc 4 1, 3) := by decide +kernel
theorem dX11_turnRows_101 : decode cX11_turnRows 101 = .ok (.goto (-82), 3) := by decide +kernel
theorem dX11_turnRows_104 : decode cX11_turnRows 104 = .ok (.iinc 3 1, 3) := by decide +kernel
theorem dX11_turnRows_107 : decode cX11_turnRows 107 = .ok (.goto (-98), 3) := by decide +kernel
theorem dX11_turnRows_110 : decode cX11_turnRows 110 = .ok (.iinc 2 1, 3) := by decide +kernel
theorem dX11_turnRows_113 : decode cX11_turnRows 113 = .ok (.goto (-111), 3) := by decide +kernel
theorem dX11_turnRows_116 : decode cX11_turnRows 116 = .ok (.return_, 1) := by decide +kernel
theorem dX11_stepRows_0 : decode cX11_stepRows 0 = .ok (.iconst 0, 1) := by decide +kernel
theorem dX11_stepRows_1 : decode cX11_stepRows 1 = .ok (.istore_n 2, 1) := by decide +kernel
theorem dX11_stepRows_2 : decode cX11_stepRows 2 = .ok (.iload_n 2, 1) := by decide +kernel
theorem dX11_stepRows_3 : decode cX11_stepRows 3 = .ok (.iload_n 1, 1) := by decide +kernel
theorem dX11_stepRows_4 : decode cX11_stepRows 4 = .ok (.if_icmp .gt 164, 3) := by decide +kernel
theorem dX11_stepRows_7 : decode cX11_stepRows 7 = .ok (.iconst 0, 1) := by decide +kernel
theorem dX11_stepRows_8 : decode cX11_stepRows 8 = .ok (.istore_n 3, 1) := by decide +kernel
theorem dX11_stepRows_9 : decode cX11_stepRows 9 = .ok (.iload_n 3, 1) := by decide +kernel
theorem dX11_stepRows_10 : decode cX11_stepRows 10 = .ok (.sipush 576, 3) := by decide +kernel
theorem dX11_stepRows_13 : decode cX11_stepRows 13 = .ok (.if_icmp .ge 149, 3) := by decide +kernel
theorem dX11_stepRows_16 : decode cX11_stepRows 16 = .ok (.aload_n 0, 1) := by decide +kernel
theorem dX11_stepRows_17 : decode cX11_stepRows 17 = .ok (.getfield 9, 3) := by decide +kernel
theorem dX11_stepRows_20 : decode cX11_stepRows 20 = .ok (.iload_n 3, 1) := by decide +kernel
theorem dX11_stepRows_21 : decode cX11_stepRows 21 = .ok (.iconst 4, 1) := by decide +kernel
theorem dX11_stepRows_22 : decode cX11_stepRows 22 = .ok (.idiv, 1) := by decide +kernel
theorem dX11_stepRows_23 : decode cX11_stepRows 23 = .ok (.iaload, 1) := by decide +kernel
theorem dX11_stepRows_24 : decode cX11_stepRows 24 = .ok (.iconst 1, 1) := by decide +kernel
theorem dX11_stepRows_25 : decode cX11_stepRows 25 = .ok (.if_icmp .ne 7, 3) := by decide +kernel
theorem dX11_stepRows_28 : decode cX11_stepRows 28 = .ok (.iconst (-1), 1) := by decide +kernel
theorem dX11_stepRows_29 : decode cX11_stepRows 29 = .ok (.goto 14, 3) := by decide +kernel
theorem dX11_stepRows_32 : decode cX11_stepRows 32 = .ok (.aload_n 0, 1) := by decide +kernel
theorem dX11_stepRows_33 : decode cX11_stepRows 33 = .ok (.iload_n 3, 1) := by decide +kernel
theorem dX11_stepRows_34 : decode cX11_stepRows 34 = .ok (.iconst 4, 1) := by decide +kernel
theorem dX11_stepRows_35 : decode cX11_stepRows 35 = .ok (.idiv, 1) := by decide +kernel
theorem dX11_stepRows_36 : decode cX11_stepRows 36 = .ok (.iload_n 3, 1) := by decide +kernel
theorem dX11_stepRows_37 : decode cX11_stepRows 37 = .ok (.iconst 4, 1) := by decide +kernel
theorem dX11_stepRows_38 : decode cX11_stepRows 38 = .ok (.irem, 1) := by decide +kernel
theorem dX11_stepRows_39 : decode cX11_stepRows 39 = .ok (.iconst (-1), 1) := by decide +kernel
theorem dX11_stepRows_40 : decode cX11_stepRows 40 = .ok (.invokevirtual 334, 3) := by decide +kernel
theorem dX11_stepRows_43 : decode cX11_stepRows 43 = .ok (.istore 4, 2) := by decide +kernel
theorem dX11_stepRows_45 : decode cX11_stepRows 45 = .ok (.iload_n 2, 1) := by decide +kernel
theorem dX11_stepRows_46 : decode cX11_stepRows 46 = .ok (.sipush 1728, 3) := by decide +kernel
theorem dX11_stepRows_49 : decode cX11_stepRows 49 = .ok (.imul, 1) := by decide +kernel
theorem dX11_stepRows_50 : decode cX11_stepRows 50 = .ok (.iconst 3, 1) := by decide +kernel
theorem dX11_stepRows_51 : decode cX11_stepRows 51 = .ok (.iconst 4, 1) := by decide +kernel
theorem dX11_stepRows_52 : decode cX11_stepRows 52 = .ok (.iload 4, 2) := by decide +kernel
theorem dX11_stepRows_54 : decode cX11_stepRows 54 = .ok (.imul, 1) := by decide +kernel
theorem dX11_stepRows_55 : decode cX11_stepRows 55 = .ok (.iload_n 3, 1) := by decide +kernel
theorem dX11_stepRows_56 : decode cX11_stepRows 56 = .ok (.iconst 4, 1) := by decide +kernel
theorem dX11_stepRows_57 : decode cX11_stepRows 57 = .ok (.irem, 1) := by decide +kernel
theorem dX11_stepRows_58 : decode cX11_stepRows 58 = .ok (.iadd, 1) := by decide +kernel
theorem dX11_stepRows_59 : decode cX11_stepRows 59 = .ok (.imul, 1) := by decide +kernel
theorem dX11_stepRows_60 : decode cX11_stepRows 60 = .ok (.iadd, 1) := by decide +kernel
theorem dX11_stepRows_61 : decode cX11_stepRows 61 = .ok (.istore 5, 2) := by decide +kernel
theorem dX11_stepRows_63 : decode cX11_stepRows 63 = .ok (.iload 4, 2) := by decide +kernel
theorem dX11_stepRows_65 : decode cX11_stepRows 65 = .ok (.iconst (-1), 1) := by decide +kernel
theorem dX11_stepRows_66 : decode cX11_stepRows 66 = .ok (.if_icmp .ne 7, 3) := by decide +kernel
theorem dX11_stepRows_69 : decode cX11_stepRows 69 = .ok (.iconst 0, 1) := by decide +kernel
theorem dX11_stepRows_70 : decode cX11_stepRows 70 = .ok (.goto 34, 3) := by decide +kernel
theorem dX11_stepRows_73 : decode cX11_stepRows 73 = .ok (.aload_n 0, 1) := by decide +kernel
theorem dX11_stepRows_74 : decode cX11_stepRows 74 = .ok (.getfield 47, 3) := by decide +kernel
theorem dX11_stepRows_77 : decode cX11_stepRows 77 = .ok (.iload 5, 2) := by decide +kernel
theorem dX11_stepRows_79 : decode cX11_stepRows 79 = .ok (.iaload, 1) := by decide +kernel
theorem dX11_stepRows_80 : decode cX11_stepRows 80 = .ok (.aload_n 0, 1) := by decide +kernel
theorem dX11_stepRows_81 : decode cX11_stepRows 81 = .ok (.getfield 47, 3) := by decide +kernel
theorem dX11_stepRows_84 : decode cX11_stepRows 84 = .ok (.iload 5, 2) := by decide +kernel
theorem dX11_stepRows_86 : decode cX11_stepRows 86 = .ok (.iconst 1, 1) := by decide +kernel
theorem dX11_stepRows_87 : decode cX11_stepRows 87 = .ok (.iadd, 1) := by decide +kernel
theorem dX11_stepRows_88 : decode cX11_stepRows 88 = .ok (.iaload, 1) := by decide +kernel
theorem dX11_stepRows_89 : decode cX11_stepRows 89 = .ok (.invokestatic 350, 3) := by decide +kernel
theorem dX11_stepRows_92 : decode cX11_stepRows 92 = .ok (.aload_n 0, 1) := by decide +kernel
theorem dX11_stepRows_93 : decode cX11_stepRows 93 = .ok (.getfield 47, 3) := by decide +kernel
theorem dX11_stepRows_96 : decode cX11_stepRows 96 = .ok (.iload 5, 2) := by decide +kernel
theorem dX11_stepRows_98 : decode cX11_stepRows 98 = .ok (.iconst 2, 1) := by decide +kernel
theorem dX11_stepRows_99 : decode cX11_stepRows 99 = .ok (.iadd, 1) := by decide +kernel
theorem dX11_stepRows_100 : decode cX11_stepRows 100 = .ok (.iaload, 1) := by decide +kernel
theorem dX11_stepRows_101 : decode cX11_stepRows 101 = .ok (.invokestatic 350, 3) := by decide +kernel
theorem dX11_stepRows_104 : decode cX11_stepRows 104 = .ok (.istore 6, 2) := by decide +kernel
theorem dX11_stepRows_106 : decode cX11_stepRows 106 = .ok (.aload_n 0, 1) := by decide +kernel
theorem dX11_stepRows_107 : decode cX11_stepRows 107 = .ok (.getfield 50, 3) := by decide +kernel
theorem dX11_stepRows_110 : decode cX11_stepRows 110 = .ok (.iload_n 2, 1) := by decide +kernel
theorem dX11_stepRows_111 : decode cX11_stepRows 111 = .ok (.sipush 1728, 3) := by decide +kernel
theorem dX11_stepRows_114 : decode cX11_stepRows 114 = .ok (.imul, 1) := by decide +kernel
theorem dX11_stepRows_115 : decode cX11_stepRows 115 = .ok (.iconst 3, 1) := by decide +kernel
theorem dX11_stepRows_116 : decode cX11_stepRows 116 = .ok (.iload_n 3, 1) := by decide +kernel
theorem dX11_stepRows_117 : decode cX11_stepRows 117 = .ok (.imul, 1) := by decide +kernel
theorem dX11_stepRows_118 : decode cX11_stepRows 118 = .ok (.iadd, 1) := by decide +kernel
theorem dX11_stepRows_119 : decode cX11_stepRows 119 = .ok (.iload 6, 2) := by decide +kernel
theorem dX11_stepRows_121 : decode cX11_stepRows 121 = .ok (.iastore, 1) := by decide +kernel
theorem dX11_stepRows_122 : decode cX11_stepRows 122 = .ok (.aload_n 0, 1) := by decide +kernel
theorem dX11_stepRows_123 : decode cX11_stepRows 123 = .ok (.getfield 50, 3) := by decide +kernel
theorem dX11_stepRows_126 : decode cX11_stepRows 126 = .ok (.iload_n 2, 1) := by decide +kernel
theorem dX11_stepRows_127 : decode cX11_stepRows 127 = .ok (.sipush 1728, 3) := by decide +kernel
theorem dX11_stepRows_130 : decode cX11_stepRows 130 = .ok (.imul, 1) := by decide +kernel
theorem dX11_stepRows_131 : decode cX11_stepRows 131 = .ok (.iconst 3, 1) := by decide +kernel
theorem dX11_stepRows_132 : decode cX11_stepRows 132 = .ok (.iload_n 3, 1) := by decide +kernel
theorem dX11_stepRows_133 : decode cX11_stepRows 133 = .ok (.imul, 1) := by decide +kernel
theorem dX11_stepRows_134 : decode cX11_stepRows 134 = .ok (.iadd, 1) := by decide +kernel
theorem dX11_stepRows_135 : decode cX11_stepRows 135 = .ok (.iconst 1, 1) := by decide +kernel
theorem dX11_stepRows_136 : decode cX11_stepRows 136 = .ok (.iadd, 1) := by decide +kernel
theorem dX11_stepRows_137 : decode cX11_stepRows 137 = .ok (.iconst 0, 1) := by decide +kernel
theorem dX11_stepRows_138 : decode cX11_stepRows 138 = .ok (.iastore, 1) := by decide +kernel
theorem dX11_stepRows_139 : decode cX11_stepRows 139 = .ok (.aload_n 0, 1) := by decide +kernel
theorem dX11_stepRows_140 : decode cX11_stepRows 140 = .ok (.getfield 50, 3) := by decide +kernel
theorem dX11_stepRows_143 : decode cX11_stepRows 143 = .ok (.iload_n 2, 1) := by decide +kernel
theorem dX11_stepRows_144 : decode cX11_stepRows 144 = .ok (.sipush 1728, 3) := by decide +kernel
theorem dX11_stepRows_147 : decode cX11_stepRows 147 = .ok (.imul, 1) := by decide +kernel
theorem dX11_stepRows_148 : decode cX11_stepRows 148 = .ok (.iconst 3, 1) := by decide +kernel
theorem dX11_stepRows_149 : decode cX11_stepRows 149 = .ok (.iload_n 3, 1) := by decide +kernel
theorem dX11_stepRows_150 : decode cX11_stepRows 150 = .ok (.imul, 1) := by decide +kernel
theorem dX11_stepRows_151 : decode cX11_stepRows 151 = .ok (.iadd, 1) := by decide +kernel
theorem dX11_stepRows_152 : decode cX11_stepRows 152 = .ok (.iconst 2, 1) := by decide +kernel
theorem dX11_stepRows_153 : decode cX11_stepRows 153 = .ok (.iadd, 1) := by decide +kernel
theorem dX11_stepRows_154 : decode cX11_stepRows 154 = .ok (.iconst 0, 1) := by decide +kernel
theorem dX11_stepRows_155 : decode cX11_stepRows 155 = .ok (.iastore, 1) := by decide +kernel
theorem dX11_stepRows_156 : decode cX11_stepRows 156 = .ok (.iinc 3 1, 3) := by decide +kernel
theorem dX11_stepRows_159 : decode cX11_stepRows 159 = .ok (.goto (-150), 3) := by decide +kernel
theorem dX11_stepRows_162 : decode cX11_stepRows 162 = .ok (.iinc 2 1, 3) := by decide +kernel
theorem dX11_stepRows_165 : decode cX11_stepRows 165 = .ok (.goto (-163), 3) := by decide +kernel
theorem dX11_stepRows_168 : decode cX11_stepRows 168 = .ok (.aload_n 0, 1) := by decide +kernel
theorem dX11_stepRows_169 : decode cX11_stepRows 169 = .ok (.getfield 50, 3) := by decide +kernel
theorem dX11_stepRows_172 : decode cX11_stepRows 172 = .ok (.aload_n 0, 1) := by decide +kernel
theorem dX11_stepRows_173 : decode cX11_stepRows 173 = .ok (.getfield 47, 3) := by decide +kernel
theorem dX11_stepRows_176 : decode cX11_stepRows 176 = .ok (.iload_n 1, 1) := by decide +kernel
theorem dX11_stepRows_177 : decode cX11_stepRows 177 = .ok (.iconst 1, 1) := by decide +kernel
theorem dX11_stepRows_178 : decode cX11_stepRows 178 = .ok (.iadd, 1) := by decide +kernel
theorem dX11_stepRows_179 : decode cX11_stepRows 179 = .ok (.sipush 1728, 3) := by decide +kernel
theorem dX11_stepRows_182 : decode cX11_stepRows 182 = .ok (.imul, 1) := by decide +kernel
theorem dX11_stepRows_183 : decode cX11_stepRows 183 = .ok (.invokestatic 86, 3) := by decide +kernel
theorem dX11_stepRows_186 : decode cX11_stepRows 186 = .ok (.return_, 1) := by decide +kernel
theorem dX11_with_0 : decode cX11_with 0 = .ok (.aload_n 0, 1) := by decide +kernel
theorem dX11_with_1 : decode cX11_with 1 = .ok (.iload_n 1, 1) := by decide +kernel
theorem dX11_with_2 : decode cX11_with 2 = .ok (.invokevirtual 340, 3) := by decide +kernel
theorem dX11_with_5 : decode cX11_with 5 = .ok (.ifCond .eq 42, 3) := by decide +kernel
theorem dX11_with_8 : decode cX11_with 8 = .ok (.aload_n 0, 1) := by decide +kernel
theorem dX11_with_9 : decode cX11_with 9 = .ok (.iload_n 3, 1) := by decide +kernel
theorem dX11_with_10 : decode cX11_with 10 = .ok (.invokevirtual 340, 3) := by decide +kernel
theorem dX11_with_13 : decode cX11_with 13 = .ok (.ifCond .eq 34, 3) := by decide +kernel
theorem dX11_with_16 : decode cX11_with 16 = .ok (.iload_n 2, 1) := by decide +kernel
theorem dX11_with_17 : decode cX11_with 17 = .ok (.iconst 0, 1) := by decide +kernel
theorem dX11_with_18 : decode cX11_with 18 = .ok (.iconst 3, 1) := by decide +kernel
theorem dX11_with_19 : decode cX11_with 19 = .ok (.invokestatic 100, 3) := by decide +kernel
theorem dX11_with_22 : decode cX11_with 22 = .ok (.ifCond .eq 25, 3) := by decide +kernel
theorem dX11_with_25 : decode cX11_with 25 = .ok (.iload 4, 2) := by decide +kernel
theorem dX11_with_27 : decode cX11_with 27 = .ok (.iconst 0, 1) := by decide +kernel
theorem dX11_with_28 : decode cX11_with 28 = .ok (.sipush 209, 3) := by decide +kernel
theorem dX11_with_31 : decode cX11_with 31 = .ok (.invokestatic 100, 3) := by decide +kernel
theorem dX11_with_34 : decode cX11_with 34 = .ok (.ifCond .eq 13, 3) := by decide +kernel
theorem dX11_with_37 : decode cX11_with 37 = .ok (.iload 4, 2) := by decide +kernel
theorem dX11_with_39 : decode cX11_with 39 = .ok (.bipush 10, 2) := by decide +kernel
theorem dX11_with_41 : decode cX11_with 41 = .ok (.irem, 1) := by decide +kernel
theorem dX11_with_42 : decode cX11_with 42 = .ok (.bipush 6, 2) := by decide +kernel
theorem dX11_with_44 : decode cX11_with 44 = .ok (.if_icmp .le 5, 3) := by decide +kernel
theorem dX11_with_47 : decode cX11_with 47 = .ok (.iconst (-1), 1) := by decide +kernel
theorem dX11_with_48 : decode cX11_with 48 = .ok (.ireturn, 1) := by decide +kernel
theorem dX11_with_49 : decode cX11_with 49 = .ok (.iload 4, 2) := by decide +kernel
theorem dX11_with_51 : decode cX11_with 51 = .ok (.bipush 10, 2) := by decide +kernel
theorem dX11_with_53 : decode cX11_with 53 = .ok (.irem, 1) := by decide +kernel
theorem dX11_with_54 : decode cX11_with 54 = .ok (.istore 5, 2) := by decide +kernel
theorem dX11_with_56 : decode cX11_with 56 = .ok (.iconst 0, 1) := by decide +kernel
theorem dX11_with_57 : decode cX11_with 57 = .ok (.istore 6, 2) := by decide +kernel
theorem dX11_with_59 : decode cX11_with 59 = .ok (.iload 6, 2) := by decide +kernel
theorem dX11_with_61 : decode cX11_with 61 = .ok (.sipush 12096, 3) := by decide +kernel
theorem dX11_with_64 : decode cX11_with 64 = .ok (.if_icmp .ge 33, 3) := by decide +kernel
theorem dX11_with_67 : decode cX11_with 67 = .ok (.aload_n 0, 1) := by decide +kernel
theorem dX11_with_68 : decode cX11_with 68 = .ok (.getfield 47, 3) := by decide +kernel
theorem dX11_with_71 : decode cX11_with 71 = .ok (.iload 6, 2) := by decide +kernel
