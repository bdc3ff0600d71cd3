theorem ug_7 : ∀ w ∈ u_ws RX7 TX7 7, w ∈ lw_g := fun w hw => g_in (inX7 w hw) (u_good w hw)
theorem wd_236 : Cond.fieldLink RX0 13 (TX7 6).1 (TX7 6).2.1 (TX7 6).2.2.1 ∈ lw_g := g_in (t_in 236 (by decide +kernel)) rfl
theorem kf_X0_13 : lkF RX0 13 7 6 false .int := lkF.of RX7 TX7 7 tyX7 rfl ug_7 tyX7_ok nmX7 rfl (by decide) wd_236 rfl rfl
theorem kh_150 : (Int16.ofInt 150).toInt32 = (150 : Int32) := by decide +kernel
theorem ki_4 : Int32.ofInt 4 = (4 : Int32) := by decide +kernel
theorem ug_0 : ∀ w ∈ u_ws RX0 TX0 1, w ∈ lw_g := fun w hw => g_in (inX0 w hw) (u_good w hw)
theorem wd_324 : Cond.fieldLink RX0 9 (TX0 0).1 (TX0 0).2.1 (TX0 0).2.2.1 ∈ lw_g := g_in (t_in 324 (by decide +kernel)) rfl
theorem kf_X0_9 : lkF RX0 9 0 0 true (tyX0 0) := lkF.of RX0 TX0 1 tyX0 rfl ug_0 tyX0_ok nmX0 rfl (by decide) wd_324 rfl rfl
theorem wd_227 : Cond.fieldLink RX0 19 (TX7 3).1 (TX7 3).2.1 (TX7 3).2.2.1 ∈ lw_g := g_in (t_in 227 (by decide +kernel)) rfl
theorem kf_X0_19 : lkF RX0 19 7 3 false .int := lkF.of RX7 TX7 7 tyX7 rfl ug_7 tyX7_ok nmX7 rfl (by decide) wd_227 rfl rfl
theorem ki_1 : Int32.ofInt 1 = (1 : Int32) := by decide +kernel
theorem ki_2 : Int32.ofInt 2 = (2 : Int32) := by decide +kernel
theorem ki_3 : Int32.ofInt 3 = (3 : Int32) := by decide +kernel
theorem wd_1093 : Cond.constant RX2 113 (1000000007 : Int32) ∈ lw_g := g_in (t_in 1093 (by decide +kernel)) rfl
theorem ug_3 : ∀ w ∈ u_ws RX3 TX3 7, w ∈ lw_g := fun w hw => g_in (inX3 w hw) (u_good w hw)
theorem wd_272 : Cond.fieldLink RX3 27 (TX3 5).1 (TX3 5).2.1 (TX3 5).2.2.1 ∈ lw_g := g_in (t_in 272 (by decide +kernel)) rfl
theorem kf_X3_27 : lkF RX3 27 3 5 false .int := lkF.of RX3 TX3 7 tyX3 rfl ug_3 tyX3_ok nmX3 rfl (by decide) wd_272 rfl rfl
theorem kh_400 : (Int16.ofInt 400).toInt32 = (400 : Int32) := by decide +kernel
theorem wd_271 : Cond.fieldLink RX3 21 (TX3 4).1 (TX3 4).2.1 (TX3 4).2.2.1 ∈ lw_g := g_in (t_in 271 (by decide +kernel)) rfl
theorem kf_X3_21 : lkF RX3 21 3 4 true (tyX3 4) := lkF.of RX3 TX3 7 tyX3 rfl ug_3 tyX3_ok nmX3 rfl (by decide) wd_271 rfl rfl
theorem kh_300 : (Int16.ofInt 300).toInt32 = (300 : Int32) := by decide +kernel
theorem kb_6 : (Int8.ofInt 6).toInt32 = (6 : Int32) := by decide +kernel
theorem ib_6_10 : inb (6 : Int32) 10 := by decide
theorem kb_20 : (Int8.ofInt 20).toInt32 = (20 : Int32) := by decide +kernel
theorem ki_0 : Int32.ofInt 0 = (0 : Int32) := by decide +kernel
theorem ib_0_10 : inb (0 : Int32) 10 := by decide
theorem kh_200 : (Int16.ofInt 200).toInt32 = (200 : Int32) := by decide +kernel
theorem kb_8 : (Int8.ofInt 8).toInt32 = (8 : Int32) := by decide +kernel
theorem ib_8_10 : inb (8 : Int32) 10 := by decide
theorem kb_10 : (Int8.ofInt 10).toInt32 = (10 : Int32) := by decide +kernel
theorem ib_1_10 : inb (1 : Int32) 10 := by decide
theorem th_95 : tO true 4 95 := ⟨by decide +kernel, by decide +kernel⟩
theorem nz_2 : ¬ (2 : Int32) = 0 := by decide
theorem nz_4 : ¬ (4 : Int32) = 0 := by decide
theorem ug_4 : ∀ w ∈ u_ws RX4 TX4 5, w ∈ lw_g := fun w hw => g_in (inX4 w hw) (u_good w hw)
theorem wd_479 : Cond.fieldLink RX4 18 (TX4 2).1 (TX4 2).2.1 (TX4 2).2.2.1 ∈ lw_g := g_in (t_in 479 (by decide +kernel)) rfl
theorem kf_X4_18 : lkF RX4 18 4 2 true (tyX4 2) := lkF.of RX4 TX4 5 tyX4 rfl ug_4 tyX4_ok nmX4 rfl (by decide) wd_479 rfl rfl
theorem rf_95_2 : RF0 95 2 = some 98 := by decide +kernel
theorem th_98 : tA true 41 98 := ⟨by decide +kernel, by decide +kernel⟩
theorem ib_0_41 : inb (0 : Int32) 41 := by decide
theorem ib_1_41 : inb (1 : Int32) 41 := by decide
theorem ib_2_41 : inb (2 : Int32) 41 := by decide
theorem wd_1237 : Cond.constantLong RX4 49 (2 : Int64) ∈ lw_g := g_in (t_in 1237 (by decide +kernel)) rfl
theorem wd_1238 : Cond.constantLong RX4 51 (1000000007 : Int64) ∈ lw_g := g_in (t_in 1238 (by decide +kernel)) rfl
theorem nz_3 : ¬ (3 : Int32) = 0 := by decide
theorem ng_X4_64 : Cond.fieldLink RX4 64 (zsC 2) (zsN 2) "[I" ∈ lw_g := g_in (t_in 1322 (by decide +kernel)) rfl
theorem ng_X4_67 : Cond.fieldLink RX4 67 (zsC 3) (zsN 3) "[I" ∈ lw_g := g_in (t_in 1324 (by decide +kernel)) rfl
theorem ki_m1 : Int32.ofInt (-1) = (-1 : Int32) := by decide +kernel
theorem kb_61 : (Int8.ofInt 61).toInt32 = (61 : Int32) := by decide +kernel
theorem th_78 : tO true 5 78 := ⟨by decide +kernel, by decide +kernel⟩
theorem kb_24 : (Int8.ofInt 24).toInt32 = (24 : Int32) := by decide +kernel
theorem ug_5 : ∀ w ∈ u_ws RX5 TX5 8, w ∈ lw_g := fun w hw => g_in (inX5 w hw) (u_good w hw)
theorem wd_377 : Cond.fieldLink RX5 28 (TX5 0).1 (TX5 0).2.1 (TX5 0).2.2.1 ∈ lw_g := g_in (t_in 377 (by decide +kernel)) rfl
theorem kf_X5_28 : lkF RX5 28 5 0 false .int := lkF.of RX5 TX5 8 tyX5 rfl ug_5 tyX5_ok nmX5 rfl (by decide) wd_377 rfl rfl
theorem wd_383 : Cond.fieldLink RX5 15 (TX5 3).1 (TX5 3).2.1 (TX5 3).2.2.1 ∈ lw_g := g_in (t_in 383 (by decide +kernel)) rfl
theorem kf_X5_15 : lkF RX5 15 5 3 true (tyX5 3) := lkF.of RX5 TX5 8 tyX5 rfl ug_5 tyX5_ok nmX5 rfl (by decide) wd_383 rfl rfl
theorem rf_78_3 : RF0 78 3 = some 79 := by decide +kernel
theorem th_79 : tA true 400 79 := ⟨by decide +kernel, by decide +kernel⟩
theorem kh_255 : (Int16.ofInt 255).toInt32 = (255 : Int32) := by decide +kernel
theorem ki_m8 : Int32.ofInt (-8) = (-8 : Int32) := by decide +kernel
theorem wd_384 : Cond.fieldLink RX5 19 (TX5 4).1 (TX5 4).2.1 (TX5 4).2.2.1 ∈ lw_g := g_in (t_in 384 (by decide +kernel)) rfl
theorem kf_X5_19 : lkF RX5 19 5 4 true (tyX5 4) := lkF.of RX5 TX5 8 tyX5 rfl ug_5 tyX5_ok nmX5 rfl (by decide) wd_384 rfl rfl
theorem rf_78_4 : RF0 78 4 = some 80 := by decide +kernel
theorem th_80 : tA true 401 80 := ⟨by decide +kernel, by decide +kernel⟩
theorem wd_387 : Cond.fieldLink RX5 34 (TX5 7).1 (TX5 7).2.1 (TX5 7).2.2.1 ∈ lw_g := g_in (t_in 387 (by decide +kernel)) rfl
theorem kf_X5_34 : lkF RX5 34 5 7 false .int := lkF.of RX5 TX5 8 tyX5 rfl ug_5 tyX5_ok nmX5 rfl (by decide) wd_387 rfl rfl
theorem wd_379 : Cond.fieldLink RX5 31 (TX5 1).1 (TX5 1).2.1 (TX5 1).2.2.1 ∈ lw_g := g_in (t_in 379 (by decide +kernel)) rfl
theorem kf_X5_31 : lkF RX5 31 5 1 false .int := lkF.of RX5 TX5 8 tyX5 rfl ug_5 tyX5_ok nmX5 rfl (by decide) wd_379 rfl rfl
theorem wd_386 : Cond.fieldLink RX5 25 (TX5 6).1 (TX5 6).2.1 (TX5 6).2.2.1 ∈ lw_g := g_in (t_in 386 (by decide +kernel)) rfl
theorem kf_X5_25 : lkF RX5 25 5 6 true (tyX5 6) := lkF.of RX5 TX5 8 tyX5 rfl ug_5 tyX5_ok nmX5 rfl (by decide) wd_386 rfl rfl
theorem rf_78_6 : RF0 78 6 = some 82 := by decide +kernel
theorem th_82 : tA true 401 82 := ⟨by decide +kernel, by decide +kernel⟩
theorem wd_381 : Cond.fieldLink RX5 9 (TX5 2).1 (TX5 2).2.1 (TX5 2).2.2.1 ∈ lw_g := g_in (t_in 381 (by decide +kernel)) rfl
theorem kf_X5_9 : lkF RX5 9 5 2 false .int := lkF.of RX5 TX5 8 tyX5 rfl ug_5 tyX5_ok nmX5 rfl (by decide) wd_381 rfl rfl
theorem kb_97 : (Int8.ofInt 97).toInt32 = (97 : Int32) := by decide +kernel
theorem kb_65 : (Int8.ofInt 65).toInt32 = (65 : Int32) := by decide +kernel
theorem kb_90 : (Int8.ofInt 90).toInt32 = (90 : Int32) := by decide +kernel
theorem kb_122 : (Int8.ofInt 122).toInt32 = (122 : Int32) := by decide +kernel
theorem kb_48 : (Int8.ofInt 48).toInt32 = (48 : Int32) := by decide +kernel
theorem kb_57 : (Int8.ofInt 57).toInt32 = (57 : Int32) := by decide +kernel
theorem ug_6 : ∀ w ∈ u_ws RX6 TX6 12, w ∈ lw_g := fun w hw => g_in (inX6 w hw) (u_good w hw)
theorem wd_335 : Cond.fieldLink RX6 15 (TX6 1).1 (TX6 1).2.1 (TX6 1).2.2.1 ∈ lw_g := g_in (t_in 335 (by decide +kernel)) rfl
theorem kf_X6_15 : lkF RX6 15 6 1 true (tyX6 1) := lkF.of RX6 TX6 12 tyX6 rfl ug_6 tyX6_ok nmX6 rfl (by decide) wd_335 rfl rfl
theorem kb_12 : (Int8.ofInt 12).toInt32 = (12 : Int32) := by decide +kernel
theorem wd_334 : Cond.fieldLink RX6 11 (TX6 0).1 (TX6 0).2.1 (TX6 0).2.2.1 ∈ lw_g := g_in (t_in 334 (by decide +kernel)) rfl
theorem kf_X6_11 : lkF RX6 11 6 0 true (tyX6 0) := lkF.of RX6 TX6 12 tyX6 rfl ug_6 tyX6_ok nmX6 rfl (by decide) wd_334 rfl rfl
theorem wd_337 : Cond.fieldLink RX6 33 (TX6 3).1 (TX6 3).2.1 (TX6 3).2.2.1 ∈ lw_g := g_in (t_in 337 (by decide +kernel)) rfl
theorem kf_X6_33 : lkF RX6 33 6 3 false .int := lkF.of RX6 TX6 12 tyX6 rfl ug_6 tyX6_ok nmX6 rfl (by decide) wd_337 rfl rfl
theorem wd_336 : Cond.fieldLink RX6 18 (TX6 2).1 (TX6 2).2.1 (TX6 2).2.2.1 ∈ lw_g := g_in (t_in 336 (by decide +kernel)) rfl
theorem kf_X6_18 : lkF RX6 18 6 2 true (tyX6 2) := lkF.of RX6 TX6 12 tyX6 rfl ug_6 tyX6_ok nmX6 rfl (by decide) wd_336 rfl rfl
theorem wd_340 : Cond.fieldLink RX6 37 (TX6 6).1 (TX6 6).2.1 (TX6 6).2.2.1 ∈ lw_g := g_in (t_in 340 (by decide +kernel)) rfl
theorem kf_X6_37 : lkF RX6 37 6 6 false .int := lkF.of RX6 TX6 12 tyX6 rfl ug_6 tyX6_ok nmX6 rfl (by decide) wd_340 rfl rfl
theorem wd_338 : Cond.fieldLink RX6 21 (TX6 4).1 (TX6 4).2.1 (TX6 4).2.2.1 ∈ lw_g := g_in (t_in 338 (by decide +kernel)) rfl
theorem kf_X6_21 : lkF RX6 21 6 4 true (tyX6 4) := lkF.of RX6 TX6 12 tyX6 rfl ug_6 tyX6_ok nmX6 rfl (by decide) wd_338 rfl rfl
theorem wd_339 : Cond.fieldLink RX6 24 (TX6 5).1 (TX6 5).2.1 (TX6 5).2.2.1 ∈ lw_g := g_in (t_in 339 (by decide +kernel)) rfl
theorem kf_X6_24 : lkF RX6 24 6 5 true (tyX6 5) := lkF.of RX6 TX6 12 tyX6 rfl ug_6 tyX6_ok nmX6 rfl (by decide) wd_339 rfl rfl
theorem ib_0_2 : inb (0 : Int32) 2 := by decide
theorem wd_343 : Cond.fieldLink RX6 52 (TX6 9).1 (TX6 9).2.1 (TX6 9).2.2.1 ∈ lw_g := g_in (t_in 343 (by decide +kernel)) rfl
theorem kf_X6_52 : lkF RX6 52 6 9 false .int := lkF.of RX6 TX6 12 tyX6 rfl ug_6 tyX6_ok nmX6 rfl (by decide) wd_343 rfl rfl
theorem wd_344 : Cond.fieldLink RX6 61 (TX6 10).1 (TX6 10).2.1 (TX6 10).2.2.1 ∈ lw_g := g_in (t_in 344 (by decide +kernel)) rfl
theorem kf_X6_61 : lkF RX6 61 6 10 false .int := lkF.of RX6 TX6 12 tyX6 rfl ug_6 tyX6_ok nmX6 rfl (by decide) wd_344 rfl rfl
theorem wd_345 : Cond.fieldLink RX6 72 (TX6 11).1 (TX6 11).2.1 (TX6 11).2.2.1 ∈ lw_g := g_in (t_in 345 (by decide +kernel)) rfl
theorem kf_X6_72 : lkF RX6 72 6 11 false .int := lkF.of RX6 TX6 12 tyX6 rfl ug_6 tyX6_ok nmX6 rfl (by decide) wd_345 rfl rfl
theorem wd_342 : Cond.fieldLink RX6 30 (TX6 8).1 (TX6 8).2.1 (TX6 8).2.2.1 ∈ lw_g := g_in (t_in 342 (by decide +kernel)) rfl
theorem kf_X6_30 : lkF RX6 30 6 8 true (tyX6 8) := lkF.of RX6 TX6 12 tyX6 rfl ug_6 tyX6_ok nmX6 rfl (by decide) wd_342 rfl rfl
theorem ib_0_25 : inb (0 : Int32) 25 := by decide
theorem ng_X6_85 : Cond.fieldLinkNest RX6 85 (zsC 1) (zsN 1) "[I" "WindingSquare" ∈ lw_nest := n_in (t_in 1169 (by decide +kernel)) rfl
theorem ng_X6_88 : Cond.fieldLinkNest RX6 88 (zsC 0) (zsN 0) "[I" "WindingSquare" ∈ lw_nest := n_in (t_in 1170 (by decide +kernel)) rfl
theorem kb_49 : (Int8.ofInt 49).toInt32 = (49 : Int32) := by decide +kernel
theorem wd_225 : Cond.fieldLink RX7 28 (TX7 2).1 (TX7 2).2.1 (TX7 2).2.2.1 ∈ lw_g := g_in (t_in 225 (by decide +kernel)) rfl
theorem kf_X7_28 : lkF RX7 28 7 2 false .int := lkF.of RX7 TX7 7 tyX7 rfl ug_7 tyX7_ok nmX7 rfl (by decide) wd_225 rfl rfl
theorem wd_218 : Cond.fieldLink RX7 11 (TX7 0).1 (TX7 0).2.1 (TX7 0).2.2.1 ∈ lw_g := g_in (t_in 218 (by decide +kernel)) rfl
theorem kf_X7_11 : lkF RX7 11 7 0 true (tyX7 0) := lkF.of RX7 TX7 7 tyX7 rfl ug_7 tyX7_ok nmX7 rfl (by decide) wd_218 rfl rfl
theorem ug_9 : ∀ w ∈ u_ws RX9 TX9 13, w ∈ lw_g := fun w hw => g_in (inX9 w hw) (u_good w hw)
theorem wd_155 : Cond.fieldLink RX7 52 (TX9 1).1 (TX9 1).2.1 (TX9 1).2.2.1 ∈ lw_g := g_in (t_in 155 (by decide +kernel)) rfl
theorem kf_X7_52 : lkF RX7 52 9 1 false .boolean := lkF.of RX9 TX9 13 tyX9 rfl ug_9 tyX9_ok nmX9 rfl (by decide) wd_155 rfl rfl
theorem kh_144 : (Int16.ofInt 144).toInt32 = (144 : Int32) := by decide +kernel
theorem wd_221 : Cond.fieldLink RX7 17 (TX7 1).1 (TX7 1).2.1 (TX7 1).2.2.1 ∈ lw_g := g_in (t_in 221 (by decide +kernel)) rfl
theorem kf_X7_17 : lkF RX7 17 7 1 true (tyX7 1) := lkF.of RX7 TX7 7 tyX7 rfl ug_7 tyX7_ok nmX7 rfl (by decide) wd_221 rfl rfl
theorem wd_724 : Cond.constant RX7 78 (1664525 : Int32) ∈ lw_g := g_in (t_in 724 (by decide +kernel)) rfl
theorem wd_235 : Cond.fieldLink RX7 42 (TX7 5).1 (TX7 5).2.1 (TX7 5).2.2.1 ∈ lw_g := g_in (t_in 235 (by decide +kernel)) rfl
theorem kf_X7_42 : lkF RX7 42 7 5 false .int := lkF.of RX7 TX7 7 tyX7 rfl ug_7 tyX7_ok nmX7 rfl (by decide) wd_235 rfl rfl
theorem wd_725 : Cond.constant RX7 79 (1013904223 : Int32) ∈ lw_g := g_in (t_in 725 (by decide +kernel)) rfl
theorem kh_1000 : (Int16.ofInt 1000).toInt32 = (1000 : Int32) := by decide +kernel
theorem nz_1000 : ¬ (1000 : Int32) = 0 := by decide
theorem ug_8 : ∀ w ∈ u_ws RX8 TX8 8, w ∈ lw_g := fun w hw => g_in (inX8 w hw) (u_good w hw)
theorem wd_292 : Cond.fieldLink RX8 18 (TX8 1).1 (TX8 1).2.1 (TX8 1).2.2.1 ∈ lw_g := g_in (t_in 292 (by decide +kernel)) rfl
theorem kf_X8_18 : lkF RX8 18 8 1 true (tyX8 1) := lkF.of RX8 TX8 8 tyX8 rfl ug_8 tyX8_ok nmX8 rfl (by decide) wd_292 rfl rfl
theorem ib_3_4 : inb (3 : Int32) 4 := by decide
theorem wd_299 : Cond.fieldLink RX8 34 (TX8 6).1 (TX8 6).2.1 (TX8 6).2.2.1 ∈ lw_g := g_in (t_in 299 (by decide +kernel)) rfl
theorem kf_X8_34 : lkF RX8 34 8 6 true (tyX8 6) := lkF.of RX8 TX8 8 tyX8 rfl ug_8 tyX8_ok nmX8 rfl (by decide) wd_299 rfl rfl
theorem wd_300 : Cond.fieldLink RX8 37 (TX8 7).1 (TX8 7).2.1 (TX8 7).2.2.1 ∈ lw_g := g_in (t_in 300 (by decide +kernel)) rfl
theorem kf_X8_37 : lkF RX8 37 8 7 true (tyX8 7) := lkF.of RX8 TX8 8 tyX8 rfl ug_8 tyX8_ok nmX8 rfl (by decide) wd_300 rfl rfl
theorem wd_176 : Cond.fieldLink RX8 82 (TX9 8).1 (TX9 8).2.1 (TX9 8).2.2.1 ∈ lw_g := g_in (t_in 176 (by decide +kernel)) rfl
theorem kf_X8_82 : lkF RX8 82 9 8 false .int := lkF.of RX9 TX9 13 tyX9 rfl ug_9 tyX9_ok nmX9 rfl (by decide) wd_176 rfl rfl
theorem wd_296 : Cond.fieldLink RX8 25 (TX8 3).1 (TX8 3).2.1 (TX8 3).2.2.1 ∈ lw_g := g_in (t_in 296 (by decide +kernel)) rfl
theorem kf_X8_25 : lkF RX8 25 8 3 true (tyX8 3) := lkF.of RX8 TX8 8 tyX8 rfl ug_8 tyX8_ok nmX8 rfl (by decide) wd_296 rfl rfl
theorem wd_178 : Cond.fieldLink RX8 88 (TX9 9).1 (TX9 9).2.1 (TX9 9).2.2.1 ∈ lw_g := g_in (t_in 178 (by decide +kernel)) rfl
theorem kf_X8_88 : lkF RX8 88 9 9 false .int := lkF.of RX9 TX9 13 tyX9 rfl ug_9 tyX9_ok nmX9 rfl (by decide) wd_178 rfl rfl
theorem wd_298 : Cond.fieldLink RX8 31 (TX8 5).1 (TX8 5).2.1 (TX8 5).2.2.1 ∈ lw_g := g_in (t_in 298 (by decide +kernel)) rfl
theorem kf_X8_31 : lkF RX8 31 8 5 true (tyX8 5) := lkF.of RX8 TX8 8 tyX8 rfl ug_8 tyX8_ok nmX8 rfl (by decide) wd_298 rfl rfl
theorem wd_297 : Cond.fieldLink RX8 28 (TX8 4).1 (TX8 4).2.1 (TX8 4).2.2.1 ∈ lw_g := g_in (t_in 297 (by decide +kernel)) rfl
theorem kf_X8_28 : lkF RX8 28 8 4 true (tyX8 4) := lkF.of RX8 TX8 8 tyX8 rfl ug_8 tyX8_ok nmX8 rfl (by decide) wd_297 rfl rfl
theorem wd_175 : Cond.fieldLink RX9 31 (TX9 8).1 (TX9 8).2.1 (TX9 8).2.2.1 ∈ lw_g := g_in (t_in 175 (by decide +kernel)) rfl
theorem kf_X9_31 : lkF RX9 31 9 8 false .int := lkF.of RX9 TX9 13 tyX9 rfl ug_9 tyX9_ok nmX9 rfl (by decide) wd_175 rfl rfl
theorem wd_177 : Cond.fieldLink RX9 34 (TX9 9).1 (TX9 9).2.1 (TX9 9).2.2.1 ∈ lw_g := g_in (t_in 177 (by decide +kernel)) rfl
theorem kf_X9_34 : lkF RX9 34 9 9 false .int := lkF.of RX9 TX9 13 tyX9 rfl ug_9 tyX9_ok nmX9 rfl (by decide) wd_177 rfl rfl
theorem wd_160 : Cond.fieldLink RX9 40 (TX9 3).1 (TX9 3).2.1 (TX9 3).2.2.1 ∈ lw_g := g_in (t_in 160 (by decide +kernel)) rfl
theorem kf_X9_40 : lkF RX9 40 9 3 false .int := lkF.of RX9 TX9 13 tyX9 rfl ug_9 tyX9_ok nmX9 rfl (by decide) wd_160 rfl rfl
theorem wd_157 : Cond.fieldLink RX9 37 (TX9 2).1 (TX9 2).2.1 (TX9 2).2.2.1 ∈ lw_g := g_in (t_in 157 (by decide +kernel)) rfl
theorem kf_X9_37 : lkF RX9 37 9 2 false .int := lkF.of RX9 TX9 13 tyX9 rfl ug_9 tyX9_ok nmX9 rfl (by decide) wd_157 rfl rfl
theorem nz_12 : ¬ (12 : Int32) = 0 := by decide
theorem wd_163 : Cond.fieldLink RX9 43 (TX9 4).1 (TX9 4).2.1 (TX9 4).2.2.1 ∈ lw_g := g_in (t_in 163 (by decide +kernel)) rfl
theorem kf_X9_43 : lkF RX9 43 9 4 false .int := lkF.of RX9 TX9 13 tyX9 rfl ug_9 tyX9_ok nmX9 rfl (by decide) wd_163 rfl rfl
theorem wd_150 : Cond.fieldLink RX9 9 (TX9 0).1 (TX9 0).2.1 (TX9 0).2.2.1 ∈ lw_g := g_in (t_in 150 (by decide +kernel)) rfl
theorem kf_X9_9 : lkF RX9 9 9 0 false .int := lkF.of RX9 TX9 13 tyX9 rfl ug_9 tyX9_ok nmX9 rfl (by decide) wd_150 rfl rfl
theorem wd_153 : Cond.fieldLink RX9 15 (TX9 1).1 (TX9 1).2.1 (TX9 1).2.2.1 ∈ lw_g := g_in (t_in 153 (by decide +kernel)) rfl
theorem kf_X9_15 : lkF RX9 15 9 1 false .boolean := lkF.of RX9 TX9 13 tyX9 rfl ug_9 tyX9_ok nmX9 rfl (by decide) wd_153 rfl rfl
theorem wd_167 : Cond.fieldLink RX9 49 (TX9 5).1 (TX9 5).2.1 (TX9 5).2.2.1 ∈ lw_g := g_in (t_in 167 (by decide +kernel)) rfl
theorem kf_X9_49 : lkF RX9 49 9 5 false .int := lkF.of RX9 TX9 13 tyX9 rfl ug_9 tyX9_ok nmX9 rfl (by decide) wd_167 rfl rfl
theorem wd_170 : Cond.fieldLink RX9 52 (TX9 6).1 (TX9 6).2.1 (TX9 6).2.2.1 ∈ lw_g := g_in (t_in 170 (by decide +kernel)) rfl
theorem kf_X9_52 : lkF RX9 52 9 6 false .int := lkF.of RX9 TX9 13 tyX9 rfl ug_9 tyX9_ok nmX9 rfl (by decide) wd_170 rfl rfl
theorem wd_172 : Cond.fieldLink RX9 46 (TX9 7).1 (TX9 7).2.1 (TX9 7).2.2.1 ∈ lw_g := g_in (t_in 172 (by decide +kernel)) rfl
theorem kf_X9_46 : lkF RX9 46 9 7 false .int := lkF.of RX9 TX9 13 tyX9 rfl ug_9 tyX9_ok nmX9 rfl (by decide) wd_172 rfl rfl
theorem wd_179 : Cond.fieldLink RX9 19 (TX9 10).1 (TX9 10).2.1 (TX9 10).2.2.1 ∈ lw_g := g_in (t_in 179 (by decide +kernel)) rfl
theorem kf_X9_19 : lkF RX9 19 9 10 false .int := lkF.of RX9 TX9 13 tyX9 rfl ug_9 tyX9_ok nmX9 rfl (by decide) wd_179 rfl rfl
theorem wd_183 : Cond.fieldLink RX9 22 (TX9 11).1 (TX9 11).2.1 (TX9 11).2.2.1 ∈ lw_g := g_in (t_in 183 (by decide +kernel)) rfl
theorem kf_X9_22 : lkF RX9 22 9 11 false .int := lkF.of RX9 TX9 13 tyX9 rfl ug_9 tyX9_ok nmX9 rfl (by decide) wd_183 rfl rfl
theorem wd_187 : Cond.fieldLink RX9 25 (TX9 12).1 (TX9 12).2.1 (TX9 12).2.2.1 ∈ lw_g := g_in (t_in 187 (by decide +kernel)) rfl
theorem kf_X9_25 : lkF RX9 25 9 12 false .int := lkF.of RX9 TX9 13 tyX9 rfl ug_9 tyX9_ok nmX9 rfl (by decide) wd_187 rfl rfl
theorem th_0 : tO true 10 0 := ⟨by decide +kernel, by decide +kernel⟩
theorem ug_10 : ∀ w ∈ u_ws RX10 TX10 18, w ∈ lw_g := fun w hw => g_in (inX10 w hw) (u_good w hw)
theorem wd_502 : Cond.fieldLink RX10 50 (TX10 9).1 (TX10 9).2.1 (TX10 9).2.2.1 ∈ lw_g := g_in (t_in 502 (by decide +kernel)) rfl
theorem kf_X10_50 : lkF RX10 50 10 9 true (tyX10 9) := lkF.of RX10 TX10 18 tyX10 rfl ug_10 tyX10_ok nmX10 rfl (by decide) wd_502 rfl rfl
theorem rf_0_9 : RF0 0 9 = some 78 := by decide +kernel
theorem wd_378 : Cond.fieldLink RX10 160 (TX5 0).1 (TX5 0).2.1 (TX5 0).2.2.1 ∈ lw_g := g_in (t_in 378 (by decide +kernel)) rfl
theorem kf_X10_160 : lkF RX10 160 5 0 false .int := lkF.of RX5 TX5 8 tyX5 rfl ug_5 tyX5_ok nmX5 rfl (by decide) wd_378 rfl rfl
theorem wd_380 : Cond.fieldLink RX10 192 (TX5 1).1 (TX5 1).2.1 (TX5 1).2.2.1 ∈ lw_g := g_in (t_in 380 (by decide +kernel)) rfl
theorem kf_X10_192 : lkF RX10 192 5 1 false .int := lkF.of RX5 TX5 8 tyX5 rfl ug_5 tyX5_ok nmX5 rfl (by decide) wd_380 rfl rfl
theorem wd_382 : Cond.fieldLink RX10 195 (TX5 2).1 (TX5 2).2.1 (TX5 2).2.2.1 ∈ lw_g := g_in (t_in 382 (by decide +kernel)) rfl
theorem kf_X10_195 : lkF RX10 195 5 2 false .int := lkF.of RX5 TX5 8 tyX5 rfl ug_5 tyX5_ok nmX5 rfl (by decide) wd_382 rfl rfl
theorem wd_159 : Cond.fieldLink RX10 379 (TX9 2).1 (TX9 2).2.1 (TX9 2).2.2.1 ∈ lw_g := g_in (t_in 159 (by decide +kernel)) rfl
theorem kf_X10_379 : lkF RX10 379 9 2 false .int := lkF.of RX9 TX9 13 tyX9 rfl ug_9 tyX9_ok nmX9 rfl (by decide) wd_159 rfl rfl
theorem wd_162 : Cond.fieldLink RX10 382 (TX9 3).1 (TX9 3).2.1 (TX9 3).2.2.1 ∈ lw_g := g_in (t_in 162 (by decide +kernel)) rfl
theorem kf_X10_382 : lkF RX10 382 9 3 false .int := lkF.of RX9 TX9 13 tyX9 rfl ug_9 tyX9_ok nmX9 rfl (by decide) wd_162 rfl rfl
theorem wd_165 : Cond.fieldLink RX10 385 (TX9 4).1 (TX9 4).2.1 (TX9 4).2.2.1 ∈ lw_g := g_in (t_in 165 (by decide +kernel)) rfl
theorem kf_X10_385 : lkF RX10 385 9 4 false .int := lkF.of RX9 TX9 13 tyX9 rfl ug_9 tyX9_ok nmX9 rfl (by decide) wd_165 rfl rfl
theorem wd_168 : Cond.fieldLink RX10 388 (TX9 5).1 (TX9 5).2.1 (TX9 5).2.2.1 ∈ lw_g := g_in (t_in 168 (by decide +kernel)) rfl
theorem kf_X10_388 : lkF RX10 388 9 5 false .int := lkF.of RX9 TX9 13 tyX9 rfl ug_9 tyX9_ok nmX9 rfl (by decide) wd_168 rfl rfl
theorem wd_171 : Cond.fieldLink RX10 391 (TX9 6).1 (TX9 6).2.1 (TX9 6).2.2.1 ∈ lw_g := g_in (t_in 171 (by decide +kernel)) rfl
theorem kf_X10_391 : lkF RX10 391 9 6 false .int := lkF.of RX9 TX9 13 tyX9 rfl ug_9 tyX9_ok nmX9 rfl (by decide) wd_171 rfl rfl
theorem wd_174 : Cond.fieldLink RX10 394 (TX9 7).1 (TX9 7).2.1 (TX9 7).2.2.1 ∈ lw_g := g_in (t_in 174 (by decide +kernel)) rfl
theorem kf_X10_394 : lkF RX10 394 9 7 false .int := lkF.of RX9 TX9 13 tyX9 rfl ug_9 tyX9_ok nmX9 rfl (by decide) wd_174 rfl rfl
theorem kh_132 : (Int16.ofInt 132).toInt32 = (132 : Int32) := by decide +kernel
theorem wd_497 : Cond.fieldLink RX10 333 (TX10 4).1 (TX10 4).2.1 (TX10 4).2.2.1 ∈ lw_g := g_in (t_in 497 (by decide +kernel)) rfl
theorem kf_X10_333 : lkF RX10 333 10 4 false .int := lkF.of RX10 TX10 18 tyX10 rfl ug_10 tyX10_ok nmX10 rfl (by decide) wd_497 rfl rfl
theorem th_257 : tO false 11 257 := ⟨by decide +kernel, by decide +kernel⟩
theorem ug_11 : ∀ w ∈ u_ws RX11 TX11 40, w ∈ lw_g := fun w hw => g_in (inX11 w hw) (u_good w hw)
theorem wd_1375 : Cond.fieldLink RX11 94 (TX11 4).1 (TX11 4).2.1 (TX11 4).2.2.1 ∈ lw_g := g_in (t_in 1375 (by decide +kernel)) rfl
theorem kf_X11_94 : lkF RX11 94 11 4 false .int := lkF.of RX11 TX11 40 tyX11 rfl ug_11 tyX11_ok nmX11 rfl (by decide) wd_1375 rfl rfl
theorem kh_4700 : (Int16.ofInt 4700).toInt32 = (4700 : Int32) := by decide +kernel
theorem wd_1374 : Cond.fieldLink RX11 19 (TX11 3).1 (TX11 3).2.1 (TX11 3).2.2.1 ∈ lw_g := g_in (t_in 1374 (by decide +kernel)) rfl
theorem kf_X11_19 : lkF RX11 19 11 3 true (tyX11 3) := lkF.of RX11 TX11 40 tyX11 rfl ug_11 tyX11_ok nmX11 rfl (by decide) wd_1374 rfl rfl
theorem rf_257_3 : RF0 257 3 = some 261 := by decide +kernel
theorem th_261 : tA false 5640 261 := ⟨by decide +kernel, by decide +kernel⟩
theorem kh_940 : (Int16.ofInt 940).toInt32 = (940 : Int32) := by decide +kernel
theorem ki_5 : Int32.ofInt 5 = (5 : Int32) := by decide +kernel
theorem wd_1371 : Cond.fieldLink RX11 9 (TX11 0).1 (TX11 0).2.1 (TX11 0).2.2.1 ∈ lw_g := g_in (t_in 1371 (by decide +kernel)) rfl
theorem kf_X11_9 : lkF RX11 9 11 0 true (tyX11 0) := lkF.of RX11 TX11 40 tyX11 rfl ug_11 tyX11_ok nmX11 rfl (by decide) wd_1371 rfl rfl
theorem rf_257_0 : RF0 257 0 = some 258 := by decide +kernel
theorem th_258 : tA false 2425 258 := ⟨by decide +kernel, by decide +kernel⟩
theorem wd_1372 : Cond.fieldLink RX11 13 (TX11 1).1 (TX11 1).2.1 (TX11 1).2.2.1 ∈ lw_g := g_in (t_in 1372 (by decide +kernel)) rfl
theorem kf_X11_13 : lkF RX11 13 11 1 true (tyX11 1) := lkF.of RX11 TX11 40 tyX11 rfl ug_11 tyX11_ok nmX11 rfl (by decide) wd_1372 rfl rfl
theorem rf_257_1 : RF0 257 1 = some 259 := by decide +kernel
theorem th_259 : tA false 2425 259 := ⟨by decide +kernel, by decide +kernel⟩
theorem kh_939 : (Int16.ofInt 939).toInt32 = (939 : Int32) := by decide +kernel
theorem ib_939_2425 : inb (939 : Int32) 2425 := by decide
theorem kh_336 : (Int16.ofInt 336).toInt32 = (336 : Int32) := by decide +kernel
theorem kh_936 : (Int16.ofInt 936).toInt32 = (936 : Int32) := by decide +kernel
theorem ib_936_2425 : inb (936 : Int32) 2425 := by decide
theorem kh_938 : (Int16.ofInt 938).toInt32 = (938 : Int32) := by decide +kernel
theorem wd_1725 : Cond.constant RX11 118 (1664525 : Int32) ∈ lw_g := g_in (t_in 1725 (by decide +kernel)) rfl
theorem ib_938_2425 : inb (938 : Int32) 2425 := by decide
theorem wd_1726 : Cond.constant RX11 119 (1013904223 : Int32) ∈ lw_g := g_in (t_in 1726 (by decide +kernel)) rfl
theorem wd_1378 : Cond.fieldLink RX11 123 (TX11 7).1 (TX11 7).2.1 (TX11 7).2.2.1 ∈ lw_g := g_in (t_in 1378 (by decide +kernel)) rfl
theorem kf_X11_123 : lkF RX11 123 11 7 false .int := lkF.of RX11 TX11 40 tyX11 rfl ug_11 tyX11_ok nmX11 rfl (by decide) wd_1378 rfl rfl
theorem kb_16 : (Int8.ofInt 16).toInt32 = (16 : Int32) := by decide +kernel
theorem wd_1386 : Cond.fieldLink RX11 26 (TX11 15).1 (TX11 15).2.1 (TX11 15).2.2.1 ∈ lw_g := g_in (t_in 1386 (by decide +kernel)) rfl
theorem kf_X11_26 : lkF RX11 26 11 15 true (tyX11 15) := lkF.of RX11 TX11 40 tyX11 rfl ug_11 tyX11_ok nmX11 rfl (by decide) wd_1386 rfl rfl
theorem rf_257_15 : RF0 257 15 = some 262 := by decide +kernel
theorem th_262 : tA false 400 262 := ⟨by decide +kernel, by decide +kernel⟩
theorem wd_1381 : Cond.fieldLink RX11 126 (TX11 10).1 (TX11 10).2.1 (TX11 10).2.2.1 ∈ lw_g := g_in (t_in 1381 (by decide +kernel)) rfl
theorem kf_X11_126 : lkF RX11 126 11 10 false .int := lkF.of RX11 TX11 40 tyX11 rfl ug_11 tyX11_ok nmX11 rfl (by decide) wd_1381 rfl rfl
theorem wd_1382 : Cond.fieldLink RX11 129 (TX11 11).1 (TX11 11).2.1 (TX11 11).2.2.1 ∈ lw_g := g_in (t_in 1382 (by decide +kernel)) rfl
theorem kf_X11_129 : lkF RX11 129 11 11 false .int := lkF.of RX11 TX11 40 tyX11 rfl ug_11 tyX11_ok nmX11 rfl (by decide) wd_1382 rfl rfl
theorem wd_1380 : Cond.fieldLink RX11 132 (TX11 9).1 (TX11 9).2.1 (TX11 9).2.2.1 ∈ lw_g := g_in (t_in 1380 (by decide +kernel)) rfl
theorem kf_X11_132 : lkF RX11 132 11 9 false .int := lkF.of RX11 TX11 40 tyX11 rfl ug_11 tyX11_ok nmX11 rfl (by decide) wd_1380 rfl rfl
theorem wd_1379 : Cond.fieldLink RX11 135 (TX11 8).1 (TX11 8).2.1 (TX11 8).2.2.1 ∈ lw_g := g_in (t_in 1379 (by decide +kernel)) rfl
theorem kf_X11_135 : lkF RX11 135 11 8 false .int := lkF.of RX11 TX11 40 tyX11 rfl ug_11 tyX11_ok nmX11 rfl (by decide) wd_1379 rfl rfl
theorem kb_32 : (Int8.ofInt 32).toInt32 = (32 : Int32) := by decide +kernel
theorem kb_96 : (Int8.ofInt 96).toInt32 = (96 : Int32) := by decide +kernel
theorem wd_1384 : Cond.fieldLink RX11 169 (TX11 13).1 (TX11 13).2.1 (TX11 13).2.2.1 ∈ lw_g := g_in (t_in 1384 (by decide +kernel)) rfl
theorem kf_X11_169 : lkF RX11 169 11 13 false .int := lkF.of RX11 TX11 40 tyX11 rfl ug_11 tyX11_ok nmX11 rfl (by decide) wd_1384 rfl rfl
theorem wd_1385 : Cond.fieldLink RX11 22 (TX11 14).1 (TX11 14).2.1 (TX11 14).2.2.1 ∈ lw_g := g_in (t_in 1385 (by decide +kernel)) rfl
theorem kf_X11_22 : lkF RX11 22 11 14 false .int := lkF.of RX11 TX11 40 tyX11 rfl ug_11 tyX11_ok nmX11 rfl (by decide) wd_1385 rfl rfl
theorem kh_944 : (Int16.ofInt 944).toInt32 = (944 : Int32) := by decide +kernel
theorem ib_944_2425 : inb (944 : Int32) 2425 := by decide
theorem kh_2325 : (Int16.ofInt 2325).toInt32 = (2325 : Int32) := by decide +kernel
theorem wd_1850 : Cond.constant RX11 349 (1000000007 : Int32) ∈ lw_g := g_in (t_in 1850 (by decide +kernel)) rfl
theorem kh_2357 : (Int16.ofInt 2357).toInt32 = (2357 : Int32) := by decide +kernel
theorem ib_2357_2425 : inb (2357 : Int32) 2425 := by decide
theorem kh_2358 : (Int16.ofInt 2358).toInt32 = (2358 : Int32) := by decide +kernel
theorem wd_1399 : Cond.fieldLink RX11 374 (TX11 28).1 (TX11 28).2.1 (TX11 28).2.2.1 ∈ lw_g := g_in (t_in 1399 (by decide +kernel)) rfl
theorem kf_X11_374 : lkF RX11 374 11 28 false .int := lkF.of RX11 TX11 40 tyX11 rfl ug_11 tyX11_ok nmX11 rfl (by decide) wd_1399 rfl rfl
theorem wd_1397 : Cond.fieldLink RX11 53 (TX11 26).1 (TX11 26).2.1 (TX11 26).2.2.1 ∈ lw_g := g_in (t_in 1397 (by decide +kernel)) rfl
theorem kf_X11_53 : lkF RX11 53 11 26 true (tyX11 26) := lkF.of RX11 TX11 40 tyX11 rfl ug_11 tyX11_ok nmX11 rfl (by decide) wd_1397 rfl rfl
theorem rf_257_26 : RF0 257 26 = some 271 := by decide +kernel
theorem th_271 : tA false 25 271 := ⟨by decide +kernel, by decide +kernel⟩
theorem wd_1398 : Cond.fieldLink RX11 56 (TX11 27).1 (TX11 27).2.1 (TX11 27).2.2.1 ∈ lw_g := g_in (t_in 1398 (by decide +kernel)) rfl
theorem kf_X11_56 : lkF RX11 56 11 27 true (tyX11 27) := lkF.of RX11 TX11 40 tyX11 rfl ug_11 tyX11_ok nmX11 rfl (by decide) wd_1398 rfl rfl
theorem rf_257_27 : RF0 257 27 = some 272 := by decide +kernel
theorem th_272 : tA false 25 272 := ⟨by decide +kernel, by decide +kernel⟩
theorem kb_121 : (Int8.ofInt 121).toInt32 = (121 : Int32) := by decide +kernel
theorem wd_1404 : Cond.fieldLink RX11 65 (TX11 33).1 (TX11 33).2.1 (TX11 33).2.2.1 ∈ lw_g := g_in (t_in 1404 (by decide +kernel)) rfl
theorem kf_X11_65 : lkF RX11 65 11 33 true (tyX11 33) := lkF.of RX11 TX11 40 tyX11 rfl ug_11 tyX11_ok nmX11 rfl (by decide) wd_1404 rfl rfl
theorem rf_257_33 : RF0 257 33 = some 275 := by decide +kernel
theorem th_275 : tA false 14641 275 := ⟨by decide +kernel, by decide +kernel⟩
theorem kh_9999 : (Int16.ofInt 9999).toInt32 = (9999 : Int32) := by decide +kernel
theorem wd_689 : Cond.constant RJ6 265 (1431655765 : Int32) ∈ lw_g := g_in (t_in 689 (by decide +kernel)) rfl
theorem wd_690 : Cond.constant RJ6 266 (858993459 : Int32) ∈ lw_g := g_in (t_in 690 (by decide +kernel)) rfl
theorem wd_691 : Cond.constant RJ6 267 (252645135 : Int32) ∈ lw_g := g_in (t_in 691 (by decide +kernel)) rfl
theorem kb_63 : (Int8.ofInt 63).toInt32 = (63 : Int32) := by decide +kernel
theorem th_83 : tO true 1 83 := ⟨by decide +kernel, by decide +kernel⟩
theorem ug_1 : ∀ w ∈ u_ws RX1 TX1 8, w ∈ lw_g := fun w hw => g_in (inX1 w hw) (u_good w hw)
theorem wd_417 : Cond.fieldLink RX1 25 (TX1 2).1 (TX1 2).2.1 (TX1 2).2.2.1 ∈ lw_g := g_in (t_in 417 (by decide +kernel)) rfl
theorem kf_X1_25 : lkF RX1 25 1 2 true (tyX1 2) := lkF.of RX1 TX1 8 tyX1 rfl ug_1 tyX1_ok nmX1 rfl (by decide) wd_417 rfl rfl
theorem rf_83_2 : RF0 83 2 = some 1 := by decide +kernel
theorem th_1 : tO true 7 1 := ⟨by decide +kernel, by decide +kernel⟩
theorem wd_219 : Cond.fieldLink RX1 43 (TX7 0).1 (TX7 0).2.1 (TX7 0).2.2.1 ∈ lw_g := g_in (t_in 219 (by decide +kernel)) rfl
theorem kf_X1_43 : lkF RX1 43 7 0 true (tyX7 0) := lkF.of RX7 TX7 7 tyX7 rfl ug_7 tyX7_ok nmX7 rfl (by decide) wd_219 rfl rfl
theorem rf_1_0 : RF0 1 0 = some 2 := by decide +kernel
theorem th_2 : tW 2 := ⟨by decide +kernel, by decide +kernel⟩
theorem wd_626 : Cond.methodLink RX1 58 yX9_face ∈ lw_g := g_in (t_in 626 (by decide +kernel)) rfl
theorem wd_627 : Cond.instanceMethod yX9_face ∈ lw_g := g_in (t_in 627 (by decide +kernel)) rfl
theorem wd_628 : Cond.selects "WindingSquare$Walker" yX9_face yX9_face ∈ lw_g := g_in (t_in 628 (by decide +kernel)) rfl
theorem wd_110 : Cond.initialized "WindingSquare$Walker" ∈ lw_g := g_in (t_in 110 (by decide +kernel)) rfl
theorem wd_629 : Cond.code yX9_face cX9_face 2 none ∈ lw_g := g_in (t_in 629 (by decide +kernel)) rfl
theorem kv_X1_58 : lkV RX1 58 yX9_face cX9_face 2 none 1 9 := lkV.of5 wd_626 wd_627 wd_628 wd_110 wd_629 (by decide +kernel) (by decide) ⟨_, _, rfl⟩
theorem wd_166 : Cond.fieldLink RX1 61 (TX9 5).1 (TX9 5).2.1 (TX9 5).2.2.1 ∈ lw_g := g_in (t_in 166 (by decide +kernel)) rfl
theorem kf_X1_61 : lkF RX1 61 9 5 false .int := lkF.of RX9 TX9 13 tyX9 rfl ug_9 tyX9_ok nmX9 rfl (by decide) wd_166 rfl rfl
theorem wd_223 : Cond.fieldLink RX1 64 (TX7 1).1 (TX7 1).2.1 (TX7 1).2.2.1 ∈ lw_g := g_in (t_in 223 (by decide +kernel)) rfl
theorem kf_X1_64 : lkF RX1 64 7 1 true (tyX7 1) := lkF.of RX7 TX7 7 tyX7 rfl ug_7 tyX7_ok nmX7 rfl (by decide) wd_223 rfl rfl
theorem rf_1_1 : RF0 1 1 = some 3 := by decide +kernel
theorem th_3 : tA true 144 3 := ⟨by decide +kernel, by decide +kernel⟩
theorem wd_630 : Cond.methodLink RX1 67 yX9_at ∈ lw_g := g_in (t_in 630 (by decide +kernel)) rfl
theorem wd_587 : Cond.instanceMethod yX9_at ∈ lw_g := g_in (t_in 587 (by decide +kernel)) rfl
theorem wd_588 : Cond.selects "WindingSquare$Walker" yX9_at yX9_at ∈ lw_g := g_in (t_in 588 (by decide +kernel)) rfl
theorem wd_589 : Cond.code yX9_at cX9_at 1 (some .int) ∈ lw_g := g_in (t_in 589 (by decide +kernel)) rfl
theorem kv_X1_67 : lkV RX1 67 yX9_at cX9_at 1 (some .int) 0 9 := lkV.of5 wd_630 wd_587 wd_588 wd_110 wd_589 (by decide +kernel) (by decide) ⟨_, _, rfl⟩
theorem wd_169 : Cond.fieldLink RX1 71 (TX9 6).1 (TX9 6).2.1 (TX9 6).2.2.1 ∈ lw_g := g_in (t_in 169 (by decide +kernel)) rfl
theorem kf_X1_71 : lkF RX1 71 9 6 false .int := lkF.of RX9 TX9 13 tyX9 rfl ug_9 tyX9_ok nmX9 rfl (by decide) wd_169 rfl rfl
theorem wd_419 : Cond.fieldLink RX1 33 (TX1 4).1 (TX1 4).2.1 (TX1 4).2.2.1 ∈ lw_g := g_in (t_in 419 (by decide +kernel)) rfl
theorem kf_X1_33 : lkF RX1 33 1 4 true (tyX1 4) := lkF.of RX1 TX1 8 tyX1 rfl ug_1 tyX1_ok nmX1 rfl (by decide) wd_419 rfl rfl
theorem rf_83_4 : RF0 83 4 = some 68 := by decide +kernel
theorem th_68 : tO true 0 68 := ⟨by decide +kernel, by decide +kernel⟩
theorem wd_631 : Cond.methodLink RX1 76 yX0_write ∈ lw_g := g_in (t_in 631 (by decide +kernel)) rfl
theorem wd_610 : Cond.instanceMethod yX0_write ∈ lw_g := g_in (t_in 610 (by decide +kernel)) rfl
theorem wd_611 : Cond.selects "WindingSquare$Book" yX0_write yX0_write ∈ lw_g := g_in (t_in 611 (by decide +kernel)) rfl
theorem wd_113 : Cond.initialized "WindingSquare$Book" ∈ lw_g := g_in (t_in 113 (by decide +kernel)) rfl
theorem wd_612 : Cond.code yX0_write cX0_write 6 none ∈ lw_g := g_in (t_in 612 (by decide +kernel)) rfl
theorem kv_X1_76 : lkV RX1 76 yX0_write cX0_write 6 none 4 0 := lkV.of5 wd_631 wd_610 wd_611 wd_113 wd_612 (by decide +kernel) (by decide) ⟨_, _, rfl⟩
theorem wd_413 : Cond.fieldLink RX1 175 (TX1 0).1 (TX1 0).2.1 (TX1 0).2.2.1 ∈ lw_g := g_in (t_in 413 (by decide +kernel)) rfl
theorem kf_X1_175 : lkF RX1 175 1 0 false .boolean := lkF.of RX1 TX1 8 tyX1 rfl ug_1 tyX1_ok nmX1 rfl (by decide) wd_413 rfl rfl
theorem wd_720 : Cond.methodLink RX1 178 yX7_drawOf1000 ∈ lw_g := g_in (t_in 720 (by decide +kernel)) rfl
theorem wd_721 : Cond.instanceMethod yX7_drawOf1000 ∈ lw_g := g_in (t_in 721 (by decide +kernel)) rfl
theorem wd_722 : Cond.selects "WindingSquare$Square" yX7_drawOf1000 yX7_drawOf1000 ∈ lw_g := g_in (t_in 722 (by decide +kernel)) rfl
theorem wd_109 : Cond.initialized "WindingSquare$Square" ∈ lw_g := g_in (t_in 109 (by decide +kernel)) rfl
theorem wd_723 : Cond.code yX7_drawOf1000 cX7_drawOf1000 1 (some .int) ∈ lw_g := g_in (t_in 723 (by decide +kernel)) rfl
theorem kv_X1_178 : lkV RX1 178 yX7_drawOf1000 cX7_drawOf1000 1 (some .int) 0 7 := lkV.of5 wd_720 wd_721 wd_722 wd_109 wd_723 (by decide +kernel) (by decide) ⟨_, _, rfl⟩
theorem kh_500 : (Int16.ofInt 500).toInt32 = (500 : Int32) := by decide +kernel
theorem th_87 : tO true 2 87 := ⟨by decide +kernel, by decide +kernel⟩
theorem wd_1042 : Cond.code yX10_isCell cX10_isCell 1 (some .boolean) ∈ lw_g := g_in (t_in 1042 (by decide +kernel)) rfl
theorem wd_1040 : Cond.methodLinkNest RX2 36 yX10_isCell "WindingSquare" ∈ lw_nest := n_in (t_in 1040 (by decide +kernel)) rfl
theorem wd_108 : Cond.initialized "WindingSquare" ∈ lw_g := g_in (t_in 108 (by decide +kernel)) rfl
theorem wd_1041 : Cond.static yX10_isCell ∈ lw_g := g_in (t_in 1041 (by decide +kernel)) rfl
theorem kn_X2_36 : lkN RX2 36 yX10_isCell "WindingSquare" cX10_isCell 1 (some .boolean) 1 := ⟨fun w hw => (List.mem_cons.mp hw).elim (fun e => by rw [e]; exact wd_1042) id, by decide +kernel, by decide, wd_1040, wd_108, wd_1041⟩
theorem ug_2 : ∀ w ∈ u_ws RX2 TX2 8, w ∈ lw_g := fun w hw => g_in (inX2 w hw) (u_good w hw)
theorem wd_446 : Cond.fieldLink RX2 33 (TX2 0).1 (TX2 0).2.1 (TX2 0).2.2.1 ∈ lw_g := g_in (t_in 446 (by decide +kernel)) rfl
theorem kf_X2_33 : lkF RX2 33 2 0 true (tyX2 0) := lkF.of RX2 TX2 8 tyX2 rfl ug_2 tyX2_ok nmX2 rfl (by decide) wd_446 rfl rfl
theorem rf_87_0 : RF0 87 0 = some 3 := by decide +kernel
theorem ng_X2_94 : Cond.fieldLinkNest RX2 94 (zsC 0) (zsN 0) "[I" "WindingSquare" ∈ lw_nest := n_in (t_in 1056 (by decide +kernel)) rfl
theorem ng_X2_97 : Cond.fieldLinkNest RX2 97 (zsC 1) (zsN 1) "[I" "WindingSquare" ∈ lw_nest := n_in (t_in 1057 (by decide +kernel)) rfl
theorem wd_578 : Cond.code yX10_inRow cX10_inRow 1 (some .boolean) ∈ lw_g := g_in (t_in 578 (by decide +kernel)) rfl
theorem wd_1058 : Cond.methodLinkNest RX2 100 yX10_inRow "WindingSquare" ∈ lw_nest := n_in (t_in 1058 (by decide +kernel)) rfl
theorem wd_577 : Cond.static yX10_inRow ∈ lw_g := g_in (t_in 577 (by decide +kernel)) rfl
theorem kn_X2_100 : lkN RX2 100 yX10_inRow "WindingSquare" cX10_inRow 1 (some .boolean) 1 := ⟨fun w hw => (List.mem_cons.mp hw).elim (fun e => by rw [e]; exact wd_578) id, by decide +kernel, by decide, wd_1058, wd_108, wd_577⟩
theorem wd_452 : Cond.fieldLink RX2 27 (TX2 6).1 (TX2 6).2.1 (TX2 6).2.2.1 ∈ lw_g := g_in (t_in 452 (by decide +kernel)) rfl
theorem kf_X2_27 : lkF RX2 27 2 6 true (tyX2 6) := lkF.of RX2 TX2 8 tyX2 rfl ug_2 tyX2_ok nmX2 rfl (by decide) wd_452 rfl rfl
theorem rf_87_6 : RF0 87 6 = some 93 := by decide +kernel
theorem th_93 : tA true 4 93 := ⟨by decide +kernel, by decide +kernel⟩
theorem wd_1047 : Cond.methodLink RX2 40 yJ7_fill_53178 ∈ lw_g := g_in (t_in 1047 (by decide +kernel)) rfl
theorem wd_676 : Cond.static yJ7_fill_53178 ∈ lw_g := g_in (t_in 676 (by decide +kernel)) rfl
theorem wd_121 : Cond.initialized "java/util/Arrays" ∈ lw_g := g_in (t_in 121 (by decide +kernel)) rfl
theorem wd_677 : Cond.code yJ7_fill_53178 cJ7_fill_53178 4 none ∈ lw_g := g_in (t_in 677 (by decide +kernel)) rfl
theorem ks_X2_40 : lkS RX2 40 yJ7_fill_53178 cJ7_fill_53178 4 none 2 := lkS.of4 wd_1047 wd_676 wd_121 wd_677 (by decide +kernel) (by decide)
theorem wd_453 : Cond.fieldLink RX2 30 (TX2 7).1 (TX2 7).2.1 (TX2 7).2.2.1 ∈ lw_g := g_in (t_in 453 (by decide +kernel)) rfl
theorem kf_X2_30 : lkF RX2 30 2 7 true (tyX2 7) := lkF.of RX2 TX2 8 tyX2 rfl ug_2 tyX2_ok nmX2 rfl (by decide) wd_453 rfl rfl
theorem rf_87_7 : RF0 87 7 = some 94 := by decide +kernel
theorem th_94 : tA true 4 94 := ⟨by decide +kernel, by decide +kernel⟩
theorem wd_451 : Cond.fieldLink RX2 24 (TX2 5).1 (TX2 5).2.1 (TX2 5).2.2.1 ∈ lw_g := g_in (t_in 451 (by decide +kernel)) rfl
theorem kf_X2_24 : lkF RX2 24 2 5 true (tyX2 5) := lkF.of RX2 TX2 8 tyX2 rfl ug_2 tyX2_ok nmX2 rfl (by decide) wd_451 rfl rfl
theorem rf_87_5 : RF0 87 5 = some 92 := by decide +kernel
theorem th_92 : tA true 4032 92 := ⟨by decide +kernel, by decide +kernel⟩
theorem wd_450 : Cond.fieldLink RX2 21 (TX2 4).1 (TX2 4).2.1 (TX2 4).2.2.1 ∈ lw_g := g_in (t_in 450 (by decide +kernel)) rfl
theorem kf_X2_21 : lkF RX2 21 2 4 true (tyX2 4) := lkF.of RX2 TX2 8 tyX2 rfl ug_2 tyX2_ok nmX2 rfl (by decide) wd_450 rfl rfl
theorem rf_87_4 : RF0 87 4 = some 91 := by decide +kernel
theorem th_91 : tA true 4032 91 := ⟨by decide +kernel, by decide +kernel⟩
theorem wd_1090 : Cond.methodLink RX2 69 yX2_plus ∈ lw_g := g_in (t_in 1090 (by decide +kernel)) rfl
theorem wd_1091 : Cond.static yX2_plus ∈ lw_g := g_in (t_in 1091 (by decide +kernel)) rfl
theorem wd_117 : Cond.initialized "WindingSquare$Grid" ∈ lw_g := g_in (t_in 117 (by decide +kernel)) rfl
theorem wd_1092 : Cond.code yX2_plus cX2_plus 3 (some .int) ∈ lw_g := g_in (t_in 1092 (by decide +kernel)) rfl
theorem ks_X2_69 : lkS RX2 69 yX2_plus cX2_plus 3 (some .int) 2 := lkS.of4 wd_1090 wd_1091 wd_117 wd_1092 (by decide +kernel) (by decide)
theorem wd_1114 : Cond.methodLink RX2 114 yJ9_floorDiv_7cf53 ∈ lw_g := g_in (t_in 1114 (by decide +kernel)) rfl
theorem wd_1115 : Cond.static yJ9_floorDiv_7cf53 ∈ lw_g := g_in (t_in 1115 (by decide +kernel)) rfl
theorem wd_123 : Cond.initialized "java/lang/Math" ∈ lw_g := g_in (t_in 123 (by decide +kernel)) rfl
theorem wd_1116 : Cond.code yJ9_floorDiv_7cf53 cJ9_floorDiv_7cf53 3 (some .int) ∈ lw_g := g_in (t_in 1116 (by decide +kernel)) rfl
theorem ks_X2_114 : lkS RX2 114 yJ9_floorDiv_7cf53 cJ9_floorDiv_7cf53 3 (some .int) 2 := lkS.of4 wd_1114 wd_1115 wd_123 wd_1116 (by decide +kernel) (by decide)
theorem wd_1063 : Cond.constant RX2 50 (1000000 : Int32) ∈ lw_g := g_in (t_in 1063 (by decide +kernel)) rfl
theorem wd_1110 : Cond.methodLink RX2 76 yJ9_max_7cf53 ∈ lw_g := g_in (t_in 1110 (by decide +kernel)) rfl
theorem wd_714 : Cond.static yJ9_max_7cf53 ∈ lw_g := g_in (t_in 714 (by decide +kernel)) rfl
theorem wd_715 : Cond.code yJ9_max_7cf53 cJ9_max_7cf53 2 (some .int) ∈ lw_g := g_in (t_in 715 (by decide +kernel)) rfl
theorem ks_X2_76 : lkS RX2 76 yJ9_max_7cf53 cJ9_max_7cf53 2 (some .int) 2 := lkS.of4 wd_1110 wd_714 wd_123 wd_715 (by decide +kernel) (by decide)
theorem kb_11 : (Int8.ofInt 11).toInt32 = (11 : Int32) := by decide +kernel
theorem wd_1068 : Cond.methodLink RX2 57 yJ9_min_7cf53 ∈ lw_g := g_in (t_in 1068 (by decide +kernel)) rfl
theorem wd_711 : Cond.static yJ9_min_7cf53 ∈ lw_g := g_in (t_in 711 (by decide +kernel)) rfl
theorem wd_712 : Cond.code yJ9_min_7cf53 cJ9_min_7cf53 2 (some .int) ∈ lw_g := g_in (t_in 712 (by decide +kernel)) rfl
theorem ks_X2_57 : lkS RX2 57 yJ9_min_7cf53 cJ9_min_7cf53 2 (some .int) 2 := lkS.of4 wd_1068 wd_711 wd_123 wd_712 (by decide +kernel) (by decide)
theorem wd_447 : Cond.fieldLink RX2 11 (TX2 1).1 (TX2 1).2.1 (TX2 1).2.2.1 ∈ lw_g := g_in (t_in 447 (by decide +kernel)) rfl
theorem kf_X2_11 : lkF RX2 11 2 1 true (tyX2 1) := lkF.of RX2 TX2 8 tyX2 rfl ug_2 tyX2_ok nmX2 rfl (by decide) wd_447 rfl rfl
theorem rf_87_1 : RF0 87 1 = some 88 := by decide +kernel
theorem th_88 : tA true 576 88 := ⟨by decide +kernel, by decide +kernel⟩
theorem kb_64 : (Int8.ofInt 64).toInt32 = (64 : Int32) := by decide +kernel
theorem kh_10000 : (Int16.ofInt 10000).toInt32 = (10000 : Int32) := by decide +kernel
theorem kh_135 : (Int16.ofInt 135).toInt32 = (135 : Int32) := by decide +kernel
theorem kh_134 : (Int16.ofInt 134).toInt32 = (134 : Int32) := by decide +kernel
theorem wd_273 : Cond.fieldLink RX3 24 (TX3 6).1 (TX3 6).2.1 (TX3 6).2.2.1 ∈ lw_g := g_in (t_in 273 (by decide +kernel)) rfl
theorem kf_X3_24 : lkF RX3 24 3 6 true (tyX3 6) := lkF.of RX3 TX3 7 tyX3 rfl ug_3 tyX3_ok nmX3 rfl (by decide) wd_273 rfl rfl
theorem wd_707 : Cond.methodLink RX3 99 yX3_join ∈ lw_g := g_in (t_in 707 (by decide +kernel)) rfl
theorem wd_708 : Cond.static yX3_join ∈ lw_g := g_in (t_in 708 (by decide +kernel)) rfl
theorem wd_112 : Cond.initialized "WindingSquare$Law" ∈ lw_g := g_in (t_in 112 (by decide +kernel)) rfl
theorem wd_709 : Cond.code yX3_join cX3_join 3 (some .int) ∈ lw_g := g_in (t_in 709 (by decide +kernel)) rfl
theorem ks_X3_99 : lkS RX3 99 yX3_join cX3_join 3 (some .int) 3 := lkS.of4 wd_707 wd_708 wd_112 wd_709 (by decide +kernel) (by decide)
theorem ib_0_64 : inb (0 : Int32) 64 := by decide
theorem wd_1214 : Cond.methodLink RX4 60 yJ9_abs_0f7a4 ∈ lw_g := g_in (t_in 1214 (by decide +kernel)) rfl
theorem wd_1108 : Cond.static yJ9_abs_0f7a4 ∈ lw_g := g_in (t_in 1108 (by decide +kernel)) rfl
theorem wd_1109 : Cond.code yJ9_abs_0f7a4 cJ9_abs_0f7a4 1 (some .int) ∈ lw_g := g_in (t_in 1109 (by decide +kernel)) rfl
theorem ks_X4_60 : lkS RX4 60 yJ9_abs_0f7a4 cJ9_abs_0f7a4 1 (some .int) 1 := lkS.of4 wd_1214 wd_1108 wd_123 wd_1109 (by decide +kernel) (by decide)
theorem kb_40 : (Int8.ofInt 40).toInt32 = (40 : Int32) := by decide +kernel
theorem kb_81 : (Int8.ofInt 81).toInt32 = (81 : Int32) := by decide +kernel
theorem wd_481 : Cond.fieldLink RX4 70 (TX4 4).1 (TX4 4).2.1 (TX4 4).2.2.1 ∈ lw_g := g_in (t_in 481 (by decide +kernel)) rfl
theorem kf_X4_70 : lkF RX4 70 4 4 false .boolean := lkF.of RX4 TX4 5 tyX4 rfl ug_4 tyX4_ok nmX4 rfl (by decide) wd_481 rfl rfl
theorem wd_1319 : Cond.methodLink RX4 56 yX4_gone ∈ lw_g := g_in (t_in 1319 (by decide +kernel)) rfl
theorem wd_1320 : Cond.static yX4_gone ∈ lw_g := g_in (t_in 1320 (by decide +kernel)) rfl
theorem wd_118 : Cond.initialized "WindingSquare$Plane" ∈ lw_g := g_in (t_in 118 (by decide +kernel)) rfl
theorem wd_1321 : Cond.code yX4_gone cX4_gone 5 (some .int) ∈ lw_g := g_in (t_in 1321 (by decide +kernel)) rfl
theorem ks_X4_56 : lkS RX4 56 yX4_gone cX4_gone 5 (some .int) 3 := lkS.of4 wd_1319 wd_1320 wd_118 wd_1321 (by decide +kernel) (by decide)
theorem wd_480 : Cond.fieldLink RX4 21 (TX4 3).1 (TX4 3).2.1 (TX4 3).2.2.1 ∈ lw_g := g_in (t_in 480 (by decide +kernel)) rfl
theorem kf_X4_21 : lkF RX4 21 4 3 true (tyX4 3) := lkF.of RX4 TX4 5 tyX4 rfl ug_4 tyX4_ok nmX4 rfl (by decide) wd_480 rfl rfl
theorem rf_95_3 : RF0 95 3 = some 99 := by decide +kernel
theorem th_99 : tA true 3721 99 := ⟨by decide +kernel, by decide +kernel⟩
theorem wd_1326 : Cond.methodLink RX4 74 yX4_leastMissing ∈ lw_g := g_in (t_in 1326 (by decide +kernel)) rfl
theorem wd_1327 : Cond.static yX4_leastMissing ∈ lw_g := g_in (t_in 1327 (by decide +kernel)) rfl
theorem wd_1328 : Cond.code yX4_leastMissing cX4_leastMissing 2 (some .int) ∈ lw_g := g_in (t_in 1328 (by decide +kernel)) rfl
theorem ks_X4_74 : lkS RX4 74 yX4_leastMissing cX4_leastMissing 2 (some .int) 1 := lkS.of4 wd_1326 wd_1327 wd_118 wd_1328 (by decide +kernel) (by decide)
theorem wd_914 : Cond.methodLink RX5 73 yX5_next ∈ lw_g := g_in (t_in 914 (by decide +kernel)) rfl
theorem wd_895 : Cond.instanceMethod yX5_next ∈ lw_g := g_in (t_in 895 (by decide +kernel)) rfl
theorem wd_896 : Cond.selects "WindingSquare$Reader" yX5_next yX5_next ∈ lw_g := g_in (t_in 896 (by decide +kernel)) rfl
theorem wd_115 : Cond.initialized "WindingSquare$Reader" ∈ lw_g := g_in (t_in 115 (by decide +kernel)) rfl
theorem wd_897 : Cond.code yX5_next cX5_next 1 none ∈ lw_g := g_in (t_in 897 (by decide +kernel)) rfl
theorem kv_X5_73 : lkV RX5 73 yX5_next cX5_next 1 none 0 5 := lkV.of5 wd_914 wd_895 wd_896 wd_115 wd_897 (by decide +kernel) (by decide) ⟨_, _, rfl⟩
theorem wd_890 : Cond.methodLink RX5 70 yX5_fail ∈ lw_g := g_in (t_in 890 (by decide +kernel)) rfl
theorem wd_891 : Cond.instanceMethod yX5_fail ∈ lw_g := g_in (t_in 891 (by decide +kernel)) rfl
theorem wd_892 : Cond.selects "WindingSquare$Reader" yX5_fail yX5_fail ∈ lw_g := g_in (t_in 892 (by decide +kernel)) rfl
theorem wd_893 : Cond.code yX5_fail cX5_fail 2 (some .boolean) ∈ lw_g := g_in (t_in 893 (by decide +kernel)) rfl
theorem kv_X5_70 : lkV RX5 70 yX5_fail cX5_fail 2 (some .boolean) 1 5 := lkV.of5 wd_890 wd_891 wd_892 wd_115 wd_893 (by decide +kernel) (by decide) ⟨_, _, rfl⟩
theorem wd_385 : Cond.fieldLink RX5 22 (TX5 5).1 (TX5 5).2.1 (TX5 5).2.2.1 ∈ lw_g := g_in (t_in 385 (by decide +kernel)) rfl
theorem kf_X5_22 : lkF RX5 22 5 5 true (tyX5 5) := lkF.of RX5 TX5 8 tyX5 rfl ug_5 tyX5_ok nmX5 rfl (by decide) wd_385 rfl rfl
theorem rf_78_5 : RF0 78 5 = some 81 := by decide +kernel
theorem th_81 : tA true 401 81 := ⟨by decide +kernel, by decide +kernel⟩
theorem wd_750 : Cond.methodLink RX5 37 yX5_isLetter ∈ lw_g := g_in (t_in 750 (by decide +kernel)) rfl
theorem wd_751 : Cond.static yX5_isLetter ∈ lw_g := g_in (t_in 751 (by decide +kernel)) rfl
theorem wd_752 : Cond.code yX5_isLetter cX5_isLetter 1 (some .boolean) ∈ lw_g := g_in (t_in 752 (by decide +kernel)) rfl
theorem ks_X5_37 : lkS RX5 37 yX5_isLetter cX5_isLetter 1 (some .boolean) 1 := lkS.of4 wd_750 wd_751 wd_115 wd_752 (by decide +kernel) (by decide)
theorem wd_811 : Cond.methodLink RX5 54 yX5_isDigit ∈ lw_g := g_in (t_in 811 (by decide +kernel)) rfl
theorem wd_812 : Cond.static yX5_isDigit ∈ lw_g := g_in (t_in 812 (by decide +kernel)) rfl
theorem wd_813 : Cond.code yX5_isDigit cX5_isDigit 1 (some .boolean) ∈ lw_g := g_in (t_in 813 (by decide +kernel)) rfl
theorem ks_X5_54 : lkS RX5 54 yX5_isDigit cX5_isDigit 1 (some .boolean) 1 := lkS.of4 wd_811 wd_812 wd_115 wd_813 (by decide +kernel) (by decide)
theorem wd_1165 : Cond.methodLink RX6 48 yX6_walk ∈ lw_g := g_in (t_in 1165 (by decide +kernel)) rfl
theorem wd_1167 : Cond.instanceMethod yX6_walk ∈ lw_g := g_in (t_in 1167 (by decide +kernel)) rfl
theorem wd_32 : Cond.selects "WindingSquare$Rows" yX6_walk yX6_walk ∈ lw_g := g_in (t_in 32 (by decide +kernel)) rfl
theorem wd_114 : Cond.initialized "WindingSquare$Rows" ∈ lw_g := g_in (t_in 114 (by decide +kernel)) rfl
theorem wd_1168 : Cond.code yX6_walk cX6_walk 4 (some .int) ∈ lw_g := g_in (t_in 1168 (by decide +kernel)) rfl
theorem kv_X6_48 : lkV RX6 48 yX6_walk cX6_walk 4 (some .int) 0 6 := lkV.of5 wd_1165 wd_1167 wd_32 wd_114 wd_1168 (by decide +kernel) (by decide) ⟨_, _, rfl⟩
theorem wd_1171 : Cond.methodLink RX6 55 yJ9_abs_0f7a4 ∈ lw_g := g_in (t_in 1171 (by decide +kernel)) rfl
theorem ks_X6_55 : lkS RX6 55 yJ9_abs_0f7a4 cJ9_abs_0f7a4 1 (some .int) 1 := lkS.of4 wd_1171 wd_1108 wd_123 wd_1109 (by decide +kernel) (by decide)
theorem wd_1176 : Cond.methodLink RX6 64 yX6_firstTime ∈ lw_g := g_in (t_in 1176 (by decide +kernel)) rfl
theorem wd_1178 : Cond.instanceMethod yX6_firstTime ∈ lw_g := g_in (t_in 1178 (by decide +kernel)) rfl
theorem wd_33 : Cond.selects "WindingSquare$Rows" yX6_firstTime yX6_firstTime ∈ lw_g := g_in (t_in 33 (by decide +kernel)) rfl
theorem wd_1179 : Cond.code yX6_firstTime cX6_firstTime 3 (some .boolean) ∈ lw_g := g_in (t_in 1179 (by decide +kernel)) rfl
theorem kv_X6_64 : lkV RX6 64 yX6_firstTime cX6_firstTime 3 (some .boolean) 1 6 := lkV.of5 wd_1176 wd_1178 wd_33 wd_114 wd_1179 (by decide +kernel) (by decide) ⟨_, _, rfl⟩
theorem wd_1180 : Cond.methodLink RX6 68 yX6_comesBack ∈ lw_g := g_in (t_in 1180 (by decide +kernel)) rfl
theorem wd_1182 : Cond.instanceMethod yX6_comesBack ∈ lw_g := g_in (t_in 1182 (by decide +kernel)) rfl
theorem wd_34 : Cond.selects "WindingSquare$Rows" yX6_comesBack yX6_comesBack ∈ lw_g := g_in (t_in 34 (by decide +kernel)) rfl
theorem wd_1183 : Cond.code yX6_comesBack cX6_comesBack 4 (some .boolean) ∈ lw_g := g_in (t_in 1183 (by decide +kernel)) rfl
theorem kv_X6_68 : lkV RX6 68 yX6_comesBack cX6_comesBack 4 (some .boolean) 2 6 := lkV.of5 wd_1180 wd_1182 wd_34 wd_114 wd_1183 (by decide +kernel) (by decide) ⟨_, _, rfl⟩
theorem wd_1137 : Cond.methodLink RX6 44 yX6_isRotation ∈ lw_g := g_in (t_in 1137 (by decide +kernel)) rfl
theorem wd_1139 : Cond.instanceMethod yX6_isRotation ∈ lw_g := g_in (t_in 1139 (by decide +kernel)) rfl
theorem wd_31 : Cond.selects "WindingSquare$Rows" yX6_isRotation yX6_isRotation ∈ lw_g := g_in (t_in 31 (by decide +kernel)) rfl
theorem wd_1140 : Cond.code yX6_isRotation cX6_isRotation 7 (some .boolean) ∈ lw_g := g_in (t_in 1140 (by decide +kernel)) rfl
theorem kv_X6_44 : lkV RX6 44 yX6_isRotation cX6_isRotation 7 (some .boolean) 3 6 := lkV.of5 wd_1137 wd_1139 wd_31 wd_114 wd_1140 (by decide +kernel) (by decide) ⟨_, _, rfl⟩
theorem wd_1275 : Cond.constant RX6 91 (1000000 : Int32) ∈ lw_g := g_in (t_in 1275 (by decide +kernel)) rfl
theorem wd_341 : Cond.fieldLink RX6 27 (TX6 7).1 (TX6 7).2.1 (TX6 7).2.2.1 ∈ lw_g := g_in (t_in 341 (by decide +kernel)) rfl
theorem kf_X6_27 : lkF RX6 27 6 7 true (tyX6 7) := lkF.of RX6 TX6 12 tyX6 rfl ug_6 tyX6_ok nmX6 rfl (by decide) wd_341 rfl rfl
theorem wd_1276 : Cond.methodLink RX6 92 yJ9_min_7cf53 ∈ lw_g := g_in (t_in 1276 (by decide +kernel)) rfl
theorem ks_X6_92 : lkS RX6 92 yJ9_min_7cf53 cJ9_min_7cf53 2 (some .int) 2 := lkS.of4 wd_1276 wd_711 wd_123 wd_712 (by decide +kernel) (by decide)
theorem wd_621 : Cond.methodLink RX7 48 yX7_has ∈ lw_g := g_in (t_in 621 (by decide +kernel)) rfl
theorem wd_573 : Cond.instanceMethod yX7_has ∈ lw_g := g_in (t_in 573 (by decide +kernel)) rfl
theorem wd_574 : Cond.selects "WindingSquare$Square" yX7_has yX7_has ∈ lw_g := g_in (t_in 574 (by decide +kernel)) rfl
theorem wd_575 : Cond.code yX7_has cX7_has 2 (some .boolean) ∈ lw_g := g_in (t_in 575 (by decide +kernel)) rfl
theorem kv_X7_48 : lkV RX7 48 yX7_has cX7_has 2 (some .boolean) 1 7 := lkV.of5 wd_621 wd_573 wd_574 wd_109 wd_575 (by decide +kernel) (by decide) ⟨_, _, rfl⟩
theorem wd_586 : Cond.methodLink RX7 56 yX9_at ∈ lw_g := g_in (t_in 586 (by decide +kernel)) rfl
theorem kv_X7_56 : lkV RX7 56 yX9_at cX9_at 1 (some .int) 0 9 := lkV.of5 wd_586 wd_587 wd_588 wd_110 wd_589 (by decide +kernel) (by decide) ⟨_, _, rfl⟩
theorem wd_682 : Cond.methodLink RX7 60 yX7_insideSet ∈ lw_g := g_in (t_in 682 (by decide +kernel)) rfl
theorem wd_683 : Cond.instanceMethod yX7_insideSet ∈ lw_g := g_in (t_in 683 (by decide +kernel)) rfl
theorem wd_684 : Cond.selects "WindingSquare$Square" yX7_insideSet yX7_insideSet ∈ lw_g := g_in (t_in 684 (by decide +kernel)) rfl
theorem wd_685 : Cond.code yX7_insideSet cX7_insideSet 3 (some .int) ∈ lw_g := g_in (t_in 685 (by decide +kernel)) rfl
theorem kv_X7_60 : lkV RX7 60 yX7_insideSet cX7_insideSet 3 (some .int) 0 7 := lkV.of5 wd_682 wd_683 wd_684 wd_109 wd_685 (by decide +kernel) (by decide) ⟨_, _, rfl⟩
theorem wd_686 : Cond.methodLink RX7 63 yJ6_bitCount_0f7a4 ∈ lw_g := g_in (t_in 686 (by decide +kernel)) rfl
theorem wd_687 : Cond.static yJ6_bitCount_0f7a4 ∈ lw_g := g_in (t_in 687 (by decide +kernel)) rfl
theorem wd_122 : Cond.initialized "java/lang/Integer" ∈ lw_g := g_in (t_in 122 (by decide +kernel)) rfl
theorem wd_688 : Cond.code yJ6_bitCount_0f7a4 cJ6_bitCount_0f7a4 1 (some .int) ∈ lw_g := g_in (t_in 688 (by decide +kernel)) rfl
theorem ks_X7_63 : lkS RX7 63 yJ6_bitCount_0f7a4 cJ6_bitCount_0f7a4 1 (some .int) 1 := lkS.of4 wd_686 wd_687 wd_122 wd_688 (by decide +kernel) (by decide)
theorem wd_231 : Cond.fieldLink RX7 39 (TX7 4).1 (TX7 4).2.1 (TX7 4).2.2.1 ∈ lw_g := g_in (t_in 231 (by decide +kernel)) rfl
theorem kf_X7_39 : lkF RX7 39 7 4 false .int := lkF.of RX7 TX7 7 tyX7 rfl ug_7 tyX7_ok nmX7 rfl (by decide) wd_231 rfl rfl
theorem wd_180 : Cond.fieldLink RX7 69 (TX9 10).1 (TX9 10).2.1 (TX9 10).2.2.1 ∈ lw_g := g_in (t_in 180 (by decide +kernel)) rfl
theorem kf_X7_69 : lkF RX7 69 9 10 false .int := lkF.of RX9 TX9 13 tyX9 rfl ug_9 tyX9_ok nmX9 rfl (by decide) wd_180 rfl rfl
theorem wd_184 : Cond.fieldLink RX7 72 (TX9 11).1 (TX9 11).2.1 (TX9 11).2.2.1 ∈ lw_g := g_in (t_in 184 (by decide +kernel)) rfl
theorem kf_X7_72 : lkF RX7 72 9 11 false .int := lkF.of RX9 TX9 13 tyX9 rfl ug_9 tyX9_ok nmX9 rfl (by decide) wd_184 rfl rfl
theorem wd_950 : Cond.methodLink RX7 75 yX9_beginWay ∈ lw_g := g_in (t_in 950 (by decide +kernel)) rfl
theorem wd_565 : Cond.instanceMethod yX9_beginWay ∈ lw_g := g_in (t_in 565 (by decide +kernel)) rfl
theorem wd_566 : Cond.selects "WindingSquare$Walker" yX9_beginWay yX9_beginWay ∈ lw_g := g_in (t_in 566 (by decide +kernel)) rfl
theorem wd_567 : Cond.code yX9_beginWay cX9_beginWay 1 none ∈ lw_g := g_in (t_in 567 (by decide +kernel)) rfl
theorem kv_X7_75 : lkV RX7 75 yX9_beginWay cX9_beginWay 1 none 0 9 := lkV.of5 wd_950 wd_565 wd_566 wd_110 wd_567 (by decide +kernel) (by decide) ⟨_, _, rfl⟩
theorem wd_564 : Cond.methodLink RX9 28 yX9_beginWay ∈ lw_g := g_in (t_in 564 (by decide +kernel)) rfl
theorem kv_X9_28 : lkV RX9 28 yX9_beginWay cX9_beginWay 1 none 0 9 := lkV.of5 wd_564 wd_565 wd_566 wd_110 wd_567 (by decide +kernel) (by decide) ⟨_, _, rfl⟩
theorem ng_X9_55 : Cond.fieldLinkNest RX9 55 (zsC 0) (zsN 0) "[I" "WindingSquare" ∈ lw_nest := n_in (t_in 661 (by decide +kernel)) rfl
theorem ng_X9_59 : Cond.fieldLinkNest RX9 59 (zsC 1) (zsN 1) "[I" "WindingSquare" ∈ lw_nest := n_in (t_in 663 (by decide +kernel)) rfl
theorem wd_665 : Cond.methodLinkNest RX9 62 yX10_inRow "WindingSquare" ∈ lw_nest := n_in (t_in 665 (by decide +kernel)) rfl
theorem kn_X9_62 : lkN RX9 62 yX10_inRow "WindingSquare" cX10_inRow 1 (some .boolean) 1 := ⟨fun w hw => (List.mem_cons.mp hw).elim (fun e => by rw [e]; exact wd_578) id, by decide +kernel, by decide, wd_665, wd_108, wd_577⟩
theorem wd_493 : Cond.fieldLink RX10 10 (TX10 0).1 (TX10 0).2.1 (TX10 0).2.2.1 ∈ lw_g := g_in (t_in 493 (by decide +kernel)) rfl
theorem kf_X10_10 : lkF RX10 10 10 0 true (tyX10 0) := lkF.of RX10 TX10 18 tyX10 rfl ug_10 tyX10_ok nmX10 rfl (by decide) wd_493 rfl rfl
theorem rf_0_0 : RF0 0 0 = some 1 := by decide +kernel
theorem wd_234 : Cond.fieldLink RX10 95 (TX7 5).1 (TX7 5).2.1 (TX7 5).2.2.1 ∈ lw_g := g_in (t_in 234 (by decide +kernel)) rfl
theorem kf_X10_95 : lkF RX10 95 7 5 false .int := lkF.of RX7 TX7 7 tyX7 rfl ug_7 tyX7_ok nmX7 rfl (by decide) wd_234 rfl rfl
theorem wd_552 : Cond.methodLink RX10 99 yX10_forget ∈ lw_g := g_in (t_in 552 (by decide +kernel)) rfl
theorem wd_554 : Cond.instanceMethod yX10_forget ∈ lw_g := g_in (t_in 554 (by decide +kernel)) rfl
theorem wd_0 : Cond.selects "WindingSquare" yX10_forget yX10_forget ∈ lw_g := g_in (t_in 0 (by decide +kernel)) rfl
theorem wd_555 : Cond.code yX10_forget cX10_forget 1 none ∈ lw_g := g_in (t_in 555 (by decide +kernel)) rfl
theorem kv_X10_99 : lkV RX10 99 yX10_forget cX10_forget 1 none 0 10 := lkV.of5 wd_552 wd_554 wd_0 wd_108 wd_555 (by decide +kernel) (by decide) ⟨_, _, rfl⟩
theorem wd_734 : Cond.methodLink RX10 163 yX5_put ∈ lw_g := g_in (t_in 734 (by decide +kernel)) rfl
theorem wd_735 : Cond.instanceMethod yX5_put ∈ lw_g := g_in (t_in 735 (by decide +kernel)) rfl
theorem wd_736 : Cond.selects "WindingSquare$Reader" yX5_put yX5_put ∈ lw_g := g_in (t_in 736 (by decide +kernel)) rfl
theorem wd_737 : Cond.code yX5_put cX5_put 3 none ∈ lw_g := g_in (t_in 737 (by decide +kernel)) rfl
theorem kv_X10_163 : lkV RX10 163 yX5_put cX5_put 3 none 1 5 := lkV.of5 wd_734 wd_735 wd_736 wd_115 wd_737 (by decide +kernel) (by decide) ⟨_, _, rfl⟩
theorem wd_238 : Cond.fieldLink RX10 218 (TX7 6).1 (TX7 6).2.1 (TX7 6).2.2.1 ∈ lw_g := g_in (t_in 238 (by decide +kernel)) rfl
theorem kf_X10_218 : lkF RX10 218 7 6 false .int := lkF.of RX7 TX7 7 tyX7 rfl ug_7 tyX7_ok nmX7 rfl (by decide) wd_238 rfl rfl
theorem wd_500 : Cond.fieldLink RX10 36 (TX10 7).1 (TX10 7).2.1 (TX10 7).2.2.1 ∈ lw_g := g_in (t_in 500 (by decide +kernel)) rfl
theorem kf_X10_36 : lkF RX10 36 10 7 true (tyX10 7) := lkF.of RX10 TX10 18 tyX10 rfl ug_10 tyX10_ok nmX10 rfl (by decide) wd_500 rfl rfl
theorem rf_0_7 : RF0 0 7 = some 68 := by decide +kernel
theorem wd_1011 : Cond.methodLink RX10 221 yX0_part ∈ lw_g := g_in (t_in 1011 (by decide +kernel)) rfl
theorem wd_1012 : Cond.instanceMethod yX0_part ∈ lw_g := g_in (t_in 1012 (by decide +kernel)) rfl
theorem wd_1013 : Cond.selects "WindingSquare$Book" yX0_part yX0_part ∈ lw_g := g_in (t_in 1013 (by decide +kernel)) rfl
theorem wd_1014 : Cond.code yX0_part cX0_part 3 (some .int) ∈ lw_g := g_in (t_in 1014 (by decide +kernel)) rfl
theorem kv_X10_221 : lkV RX10 221 yX0_part cX0_part 3 (some .int) 2 0 := lkV.of5 wd_1011 wd_1012 wd_1013 wd_113 wd_1014 (by decide +kernel) (by decide) ⟨_, _, rfl⟩
theorem wd_501 : Cond.fieldLink RX10 43 (TX10 8).1 (TX10 8).2.1 (TX10 8).2.2.1 ∈ lw_g := g_in (t_in 501 (by decide +kernel)) rfl
theorem kf_X10_43 : lkF RX10 43 10 8 true (tyX10 8) := lkF.of RX10 TX10 18 tyX10 rfl ug_10 tyX10_ok nmX10 rfl (by decide) wd_501 rfl rfl
theorem rf_0_8 : RF0 0 8 = some 70 := by decide +kernel
theorem th_70 : tO true 6 70 := ⟨by decide +kernel, by decide +kernel⟩
theorem wd_1121 : Cond.methodLink RX10 255 yX6_tellTurn ∈ lw_g := g_in (t_in 1121 (by decide +kernel)) rfl
theorem wd_1122 : Cond.instanceMethod yX6_tellTurn ∈ lw_g := g_in (t_in 1122 (by decide +kernel)) rfl
theorem wd_1123 : Cond.selects "WindingSquare$Rows" yX6_tellTurn yX6_tellTurn ∈ lw_g := g_in (t_in 1123 (by decide +kernel)) rfl
theorem wd_1124 : Cond.code yX6_tellTurn cX6_tellTurn 3 (some .int) ∈ lw_g := g_in (t_in 1124 (by decide +kernel)) rfl
theorem kv_X10_255 : lkV RX10 255 yX6_tellTurn cX6_tellTurn 3 (some .int) 2 6 := lkV.of5 wd_1121 wd_1122 wd_1123 wd_114 wd_1124 (by decide +kernel) (by decide) ⟨_, _, rfl⟩
theorem wd_1149 : Cond.methodLink RX10 266 yX6_tellMove ∈ lw_g := g_in (t_in 1149 (by decide +kernel)) rfl
theorem wd_1150 : Cond.instanceMethod yX6_tellMove ∈ lw_g := g_in (t_in 1150 (by decide +kernel)) rfl
theorem wd_1151 : Cond.selects "WindingSquare$Rows" yX6_tellMove yX6_tellMove ∈ lw_g := g_in (t_in 1151 (by decide +kernel)) rfl
theorem wd_1152 : Cond.code yX6_tellMove cX6_tellMove 2 (some .int) ∈ lw_g := g_in (t_in 1152 (by decide +kernel)) rfl
theorem kv_X10_266 : lkV RX10 266 yX6_tellMove cX6_tellMove 2 (some .int) 1 6 := lkV.of5 wd_1149 wd_1150 wd_1151 wd_114 wd_1152 (by decide +kernel) (by decide) ⟨_, _, rfl⟩
theorem kh_m1000 : (Int16.ofInt (-1000)).toInt32 = (-1000 : Int32) := by decide +kernel
theorem kb_15 : (Int8.ofInt 15).toInt32 = (15 : Int32) := by decide +kernel
theorem wd_505 : Cond.fieldLink RX10 79 (TX10 12).1 (TX10 12).2.1 (TX10 12).2.2.1 ∈ lw_g := g_in (t_in 505 (by decide +kernel)) rfl
theorem kf_X10_79 : lkF RX10 79 10 12 true (tyX10 12) := lkF.of RX10 TX10 18 tyX10 rfl ug_10 tyX10_ok nmX10 rfl (by decide) wd_505 rfl rfl
theorem rf_0_12 : RF0 0 12 = some 95 := by decide +kernel
theorem wd_1192 : Cond.methodLink RX10 281 yX4_foldTurn ∈ lw_g := g_in (t_in 1192 (by decide +kernel)) rfl
theorem wd_1193 : Cond.instanceMethod yX4_foldTurn ∈ lw_g := g_in (t_in 1193 (by decide +kernel)) rfl
theorem wd_1194 : Cond.selects "WindingSquare$Plane" yX4_foldTurn yX4_foldTurn ∈ lw_g := g_in (t_in 1194 (by decide +kernel)) rfl
theorem wd_1195 : Cond.code yX4_foldTurn cX4_foldTurn 3 (some .int) ∈ lw_g := g_in (t_in 1195 (by decide +kernel)) rfl
theorem kv_X10_281 : lkV RX10 281 yX4_foldTurn cX4_foldTurn 3 (some .int) 1 4 := lkV.of5 wd_1192 wd_1193 wd_1194 wd_118 wd_1195 (by decide +kernel) (by decide) ⟨_, _, rfl⟩
theorem wd_1196 : Cond.methodLink RX10 284 yX4_foldEnd ∈ lw_g := g_in (t_in 1196 (by decide +kernel)) rfl
theorem wd_1197 : Cond.instanceMethod yX4_foldEnd ∈ lw_g := g_in (t_in 1197 (by decide +kernel)) rfl
theorem wd_1198 : Cond.selects "WindingSquare$Plane" yX4_foldEnd yX4_foldEnd ∈ lw_g := g_in (t_in 1198 (by decide +kernel)) rfl
theorem wd_1199 : Cond.code yX4_foldEnd cX4_foldEnd 7 (some .int) ∈ lw_g := g_in (t_in 1199 (by decide +kernel)) rfl
theorem kv_X10_284 : lkV RX10 284 yX4_foldEnd cX4_foldEnd 7 (some .int) 2 4 := lkV.of5 wd_1196 wd_1197 wd_1198 wd_118 wd_1199 (by decide +kernel) (by decide) ⟨_, _, rfl⟩
theorem wd_1233 : Cond.methodLink RX10 302 yX4_hooksAndSlabs ∈ lw_g := g_in (t_in 1233 (by decide +kernel)) rfl
theorem wd_1234 : Cond.instanceMethod yX4_hooksAndSlabs ∈ lw_g := g_in (t_in 1234 (by decide +kernel)) rfl
theorem wd_1235 : Cond.selects "WindingSquare$Plane" yX4_hooksAndSlabs yX4_hooksAndSlabs ∈ lw_g := g_in (t_in 1235 (by decide +kernel)) rfl
theorem wd_1236 : Cond.code yX4_hooksAndSlabs cX4_hooksAndSlabs 3 (some .int) ∈ lw_g := g_in (t_in 1236 (by decide +kernel)) rfl
theorem kv_X10_302 : lkV RX10 302 yX4_hooksAndSlabs cX4_hooksAndSlabs 3 (some .int) 1 4 := lkV.of5 wd_1233 wd_1234 wd_1235 wd_118 wd_1236 (by decide +kernel) (by decide) ⟨_, _, rfl⟩
theorem wd_1239 : Cond.methodLink RX10 305 yX4_hooksAlone ∈ lw_g := g_in (t_in 1239 (by decide +kernel)) rfl
theorem wd_1240 : Cond.instanceMethod yX4_hooksAlone ∈ lw_g := g_in (t_in 1240 (by decide +kernel)) rfl
theorem wd_1241 : Cond.selects "WindingSquare$Plane" yX4_hooksAlone yX4_hooksAlone ∈ lw_g := g_in (t_in 1241 (by decide +kernel)) rfl
theorem wd_1242 : Cond.code yX4_hooksAlone cX4_hooksAlone 2 (some .int) ∈ lw_g := g_in (t_in 1242 (by decide +kernel)) rfl
theorem kv_X10_305 : lkV RX10 305 yX4_hooksAlone cX4_hooksAlone 2 (some .int) 1 4 := lkV.of5 wd_1239 wd_1240 wd_1241 wd_118 wd_1242 (by decide +kernel) (by decide) ⟨_, _, rfl⟩
theorem wd_1259 : Cond.methodLink RX10 311 yX6_tellGap ∈ lw_g := g_in (t_in 1259 (by decide +kernel)) rfl
theorem wd_1260 : Cond.instanceMethod yX6_tellGap ∈ lw_g := g_in (t_in 1260 (by decide +kernel)) rfl
theorem wd_1261 : Cond.selects "WindingSquare$Rows" yX6_tellGap yX6_tellGap ∈ lw_g := g_in (t_in 1261 (by decide +kernel)) rfl
theorem wd_1262 : Cond.code yX6_tellGap cX6_tellGap 3 (some .int) ∈ lw_g := g_in (t_in 1262 (by decide +kernel)) rfl
theorem kv_X10_311 : lkV RX10 311 yX6_tellGap cX6_tellGap 3 (some .int) 2 6 := lkV.of5 wd_1259 wd_1260 wd_1261 wd_114 wd_1262 (by decide +kernel) (by decide) ⟨_, _, rfl⟩
theorem kb_7 : (Int8.ofInt 7).toInt32 = (7 : Int32) := by decide +kernel
theorem kb_30 : (Int8.ofInt 30).toInt32 = (30 : Int32) := by decide +kernel
theorem wd_226 : Cond.fieldLink RX10 102 (TX7 2).1 (TX7 2).2.1 (TX7 2).2.2.1 ∈ lw_g := g_in (t_in 226 (by decide +kernel)) rfl
theorem kf_X10_102 : lkF RX10 102 7 2 false .int := lkF.of RX7 TX7 7 tyX7 rfl ug_7 tyX7_ok nmX7 rfl (by decide) wd_226 rfl rfl
theorem wd_1360 : Cond.methodLink RX10 355 yX7_insideSet ∈ lw_g := g_in (t_in 1360 (by decide +kernel)) rfl
theorem kv_X10_355 : lkV RX10 355 yX7_insideSet cX7_insideSet 3 (some .int) 0 7 := lkV.of5 wd_1360 wd_683 wd_684 wd_109 wd_685 (by decide +kernel) (by decide) ⟨_, _, rfl⟩
theorem wd_230 : Cond.fieldLink RX10 151 (TX7 3).1 (TX7 3).2.1 (TX7 3).2.2.1 ∈ lw_g := g_in (t_in 230 (by decide +kernel)) rfl
theorem kf_X10_151 : lkF RX10 151 7 3 false .int := lkF.of RX7 TX7 7 tyX7 rfl ug_7 tyX7_ok nmX7 rfl (by decide) wd_230 rfl rfl
theorem wd_233 : Cond.fieldLink RX10 358 (TX7 4).1 (TX7 4).2.1 (TX7 4).2.2.1 ∈ lw_g := g_in (t_in 233 (by decide +kernel)) rfl
theorem kf_X10_358 : lkF RX10 358 7 4 false .int := lkF.of RX7 TX7 7 tyX7 rfl ug_7 tyX7_ok nmX7 rfl (by decide) wd_233 rfl rfl
theorem wd_1361 : Cond.methodLink RX10 361 yX7_stones ∈ lw_g := g_in (t_in 1361 (by decide +kernel)) rfl
theorem wd_1362 : Cond.instanceMethod yX7_stones ∈ lw_g := g_in (t_in 1362 (by decide +kernel)) rfl
theorem wd_1363 : Cond.selects "WindingSquare$Square" yX7_stones yX7_stones ∈ lw_g := g_in (t_in 1363 (by decide +kernel)) rfl
theorem wd_1364 : Cond.code yX7_stones cX7_stones 3 (some .int) ∈ lw_g := g_in (t_in 1364 (by decide +kernel)) rfl
theorem kv_X10_361 : lkV RX10 361 yX7_stones cX7_stones 3 (some .int) 0 7 := lkV.of5 wd_1361 wd_1362 wd_1363 wd_109 wd_1364 (by decide +kernel) (by decide) ⟨_, _, rfl⟩
theorem wd_498 : Cond.fieldLink RX10 26 (TX10 5).1 (TX10 5).2.1 (TX10 5).2.2.1 ∈ lw_g := g_in (t_in 498 (by decide +kernel)) rfl
theorem kf_X10_26 : lkF RX10 26 10 5 true (tyX10 5) := lkF.of RX10 TX10 18 tyX10 rfl ug_10 tyX10_ok nmX10 rfl (by decide) wd_498 rfl rfl
theorem rf_0_5 : RF0 0 5 = some 40 := by decide +kernel
theorem th_40 : tO true 8 40 := ⟨by decide +kernel, by decide +kernel⟩
theorem wd_293 : Cond.fieldLink RX10 364 (TX8 1).1 (TX8 1).2.1 (TX8 1).2.2.1 ∈ lw_g := g_in (t_in 293 (by decide +kernel)) rfl
theorem kf_X10_364 : lkF RX10 364 8 1 true (tyX8 1) := lkF.of RX8 TX8 8 tyX8 rfl ug_8 tyX8_ok nmX8 rfl (by decide) wd_293 rfl rfl
theorem rf_40_1 : RF0 40 1 = some 47 := by decide +kernel
theorem th_47 : tA true 4 47 := ⟨by decide +kernel, by decide +kernel⟩
theorem ib_0_4 : inb (0 : Int32) 4 := by decide
theorem ib_1_4 : inb (1 : Int32) 4 := by decide
theorem ib_2_4 : inb (2 : Int32) 4 := by decide
theorem kh_2425 : (Int16.ofInt 2425).toInt32 = (2425 : Int32) := by decide +kernel
theorem wd_1507 : Cond.methodLink RX11 86 yX11_copies ∈ lw_g := g_in (t_in 1507 (by decide +kernel)) rfl
theorem wd_1508 : Cond.static yX11_copies ∈ lw_g := g_in (t_in 1508 (by decide +kernel)) rfl
theorem wd_119 : Cond.initialized "WindingSquareModel" ∈ lw_g := g_in (t_in 119 (by decide +kernel)) rfl
theorem wd_1509 : Cond.code yX11_copies cX11_copies 4 none ∈ lw_g := g_in (t_in 1509 (by decide +kernel)) rfl
theorem ks_X11_86 : lkS RX11 86 yX11_copies cX11_copies 4 none 3 := lkS.of4 wd_1507 wd_1508 wd_119 wd_1509 (by decide +kernel) (by decide)
theorem wd_1377 : Cond.fieldLink RX11 90 (TX11 6).1 (TX11 6).2.1 (TX11 6).2.2.1 ∈ lw_g := g_in (t_in 1377 (by decide +kernel)) rfl
theorem kf_X11_90 : lkF RX11 90 11 6 false .boolean := lkF.of RX11 TX11 40 tyX11 rfl ug_11 tyX11_ok nmX11 rfl (by decide) wd_1377 rfl rfl
theorem wd_1739 : Cond.methodLink RX11 97 yX11_keepsPast ∈ lw_g := g_in (t_in 1739 (by decide +kernel)) rfl
theorem wd_1741 : Cond.instanceMethod yX11_keepsPast ∈ lw_g := g_in (t_in 1741 (by decide +kernel)) rfl
theorem wd_85 : Cond.selects "WindingSquareModel" yX11_keepsPast yX11_keepsPast ∈ lw_g := g_in (t_in 85 (by decide +kernel)) rfl
theorem wd_1742 : Cond.code yX11_keepsPast cX11_keepsPast 2 none ∈ lw_g := g_in (t_in 1742 (by decide +kernel)) rfl
theorem kv_X11_97 : lkV RX11 97 yX11_keepsPast cX11_keepsPast 2 none 0 11 := lkV.of5 wd_1739 wd_1741 wd_85 wd_119 wd_1742 (by decide +kernel) (by decide) ⟨_, _, rfl⟩
theorem wd_1500 : Cond.methodLink RX11 100 yX11_within ∈ lw_g := g_in (t_in 1500 (by decide +kernel)) rfl
theorem wd_1501 : Cond.static yX11_within ∈ lw_g := g_in (t_in 1501 (by decide +kernel)) rfl
theorem wd_1502 : Cond.code yX11_within cX11_within 3 (some .boolean) ∈ lw_g := g_in (t_in 1502 (by decide +kernel)) rfl
theorem ks_X11_100 : lkS RX11 100 yX11_within cX11_within 3 (some .boolean) 3 := lkS.of4 wd_1500 wd_1501 wd_119 wd_1502 (by decide +kernel) (by decide)
theorem wd_1639 : Cond.methodLink RX11 104 yX11_has ∈ lw_g := g_in (t_in 1639 (by decide +kernel)) rfl
theorem wd_1641 : Cond.instanceMethod yX11_has ∈ lw_g := g_in (t_in 1641 (by decide +kernel)) rfl
theorem wd_65 : Cond.selects "WindingSquareModel" yX11_has yX11_has ∈ lw_g := g_in (t_in 65 (by decide +kernel)) rfl
theorem wd_1642 : Cond.code yX11_has cX11_has 3 (some .int) ∈ lw_g := g_in (t_in 1642 (by decide +kernel)) rfl
theorem kv_X11_104 : lkV RX11 104 yX11_has cX11_has 3 (some .int) 2 11 := lkV.of5 wd_1639 wd_1641 wd_65 wd_119 wd_1642 (by decide +kernel) (by decide) ⟨_, _, rfl⟩
theorem wd_1620 : Cond.methodLink RX11 108 yX11_place ∈ lw_g := g_in (t_in 1620 (by decide +kernel)) rfl
theorem wd_1621 : Cond.static yX11_place ∈ lw_g := g_in (t_in 1621 (by decide +kernel)) rfl
theorem wd_1622 : Cond.code yX11_place cX11_place 2 (some .int) ∈ lw_g := g_in (t_in 1622 (by decide +kernel)) rfl
theorem ks_X11_108 : lkS RX11 108 yX11_place cX11_place 2 (some .int) 2 := lkS.of4 wd_1620 wd_1621 wd_119 wd_1622 (by decide +kernel) (by decide)
theorem wd_1721 : Cond.methodLink RX11 120 yX11_draws ∈ lw_g := g_in (t_in 1721 (by decide +kernel)) rfl
theorem wd_1723 : Cond.instanceMethod yX11_draws ∈ lw_g := g_in (t_in 1723 (by decide +kernel)) rfl
theorem wd_81 : Cond.selects "WindingSquareModel" yX11_draws yX11_draws ∈ lw_g := g_in (t_in 81 (by decide +kernel)) rfl
theorem wd_1724 : Cond.code yX11_draws cX11_draws 2 (some .int) ∈ lw_g := g_in (t_in 1724 (by decide +kernel)) rfl
theorem kv_X11_120 : lkV RX11 120 yX11_draws cX11_draws 2 (some .int) 1 11 := lkV.of5 wd_1721 wd_1723 wd_81 wd_119 wd_1724 (by decide +kernel) (by decide) ⟨_, _, rfl⟩
theorem wd_1514 : Cond.methodLink RX11 138 yX11_here ∈ lw_g := g_in (t_in 1514 (by decide +kernel)) rfl
theorem wd_1516 : Cond.instanceMethod yX11_here ∈ lw_g := g_in (t_in 1516 (by decide +kernel)) rfl
theorem wd_41 : Cond.selects "WindingSquareModel" yX11_here yX11_here ∈ lw_g := g_in (t_in 41 (by decide +kernel)) rfl
theorem wd_1517 : Cond.code yX11_here cX11_here 1 (some .int) ∈ lw_g := g_in (t_in 1517 (by decide +kernel)) rfl
theorem kv_X11_138 : lkV RX11 138 yX11_here cX11_here 1 (some .int) 0 11 := lkV.of5 wd_1514 wd_1516 wd_41 wd_119 wd_1517 (by decide +kernel) (by decide) ⟨_, _, rfl⟩
theorem wd_1526 : Cond.methodLink RX11 142 yX11_isLetter ∈ lw_g := g_in (t_in 1526 (by decide +kernel)) rfl
theorem wd_1527 : Cond.static yX11_isLetter ∈ lw_g := g_in (t_in 1527 (by decide +kernel)) rfl
theorem wd_1528 : Cond.code yX11_isLetter cX11_isLetter 1 (some .boolean) ∈ lw_g := g_in (t_in 1528 (by decide +kernel)) rfl
theorem ks_X11_142 : lkS RX11 142 yX11_isLetter cX11_isLetter 1 (some .boolean) 1 := lkS.of4 wd_1526 wd_1527 wd_119 wd_1528 (by decide +kernel) (by decide)
theorem wd_1529 : Cond.methodLink RX11 146 yX11_packed ∈ lw_g := g_in (t_in 1529 (by decide +kernel)) rfl
theorem wd_1530 : Cond.static yX11_packed ∈ lw_g := g_in (t_in 1530 (by decide +kernel)) rfl
theorem wd_1531 : Cond.code yX11_packed cX11_packed 2 (some .int) ∈ lw_g := g_in (t_in 1531 (by decide +kernel)) rfl
theorem ks_X11_146 : lkS RX11 146 yX11_packed cX11_packed 2 (some .int) 2 := lkS.of4 wd_1529 wd_1530 wd_119 wd_1531 (by decide +kernel) (by decide)
theorem wd_1510 : Cond.methodLink RX11 149 yX11_fine ∈ lw_g := g_in (t_in 1510 (by decide +kernel)) rfl
theorem wd_1512 : Cond.instanceMethod yX11_fine ∈ lw_g := g_in (t_in 1512 (by decide +kernel)) rfl
theorem wd_40 : Cond.selects "WindingSquareModel" yX11_fine yX11_fine ∈ lw_g := g_in (t_in 40 (by decide +kernel)) rfl
theorem wd_1513 : Cond.code yX11_fine cX11_fine 1 (some .boolean) ∈ lw_g := g_in (t_in 1513 (by decide +kernel)) rfl
theorem kv_X11_149 : lkV RX11 149 yX11_fine cX11_fine 1 (some .boolean) 0 11 := lkV.of5 wd_1510 wd_1512 wd_40 wd_119 wd_1513 (by decide +kernel) (by decide) ⟨_, _, rfl⟩
theorem wd_1559 : Cond.methodLink RX11 153 yX11_isDigit ∈ lw_g := g_in (t_in 1559 (by decide +kernel)) rfl
theorem wd_1560 : Cond.static yX11_isDigit ∈ lw_g := g_in (t_in 1560 (by decide +kernel)) rfl
theorem wd_1561 : Cond.code yX11_isDigit cX11_isDigit 1 (some .boolean) ∈ lw_g := g_in (t_in 1561 (by decide +kernel)) rfl
theorem ks_X11_153 : lkS RX11 153 yX11_isDigit cX11_isDigit 1 (some .boolean) 1 := lkS.of4 wd_1559 wd_1560 wd_119 wd_1561 (by decide +kernel) (by decide)
theorem wd_1539 : Cond.methodLink RX11 156 yX11_wrong ∈ lw_g := g_in (t_in 1539 (by decide +kernel)) rfl
theorem wd_1541 : Cond.instanceMethod yX11_wrong ∈ lw_g := g_in (t_in 1541 (by decide +kernel)) rfl
theorem wd_45 : Cond.selects "WindingSquareModel" yX11_wrong yX11_wrong ∈ lw_g := g_in (t_in 45 (by decide +kernel)) rfl
theorem wd_1542 : Cond.code yX11_wrong cX11_wrong 3 none ∈ lw_g := g_in (t_in 1542 (by decide +kernel)) rfl
theorem kv_X11_156 : lkV RX11 156 yX11_wrong cX11_wrong 3 none 2 11 := lkV.of5 wd_1539 wd_1541 wd_45 wd_119 wd_1542 (by decide +kernel) (by decide) ⟨_, _, rfl⟩
theorem ib_940_2425 : inb (940 : Int32) 2425 := by decide
theorem wd_1387 : Cond.fieldLink RX11 29 (TX11 16).1 (TX11 16).2.1 (TX11 16).2.2.1 ∈ lw_g := g_in (t_in 1387 (by decide +kernel)) rfl
theorem kf_X11_29 : lkF RX11 29 11 16 true (tyX11 16) := lkF.of RX11 TX11 40 tyX11 rfl ug_11 tyX11_ok nmX11 rfl (by decide) wd_1387 rfl rfl
theorem rf_257_16 : RF0 257 16 = some 263 := by decide +kernel
theorem th_263 : tA false 2425 263 := ⟨by decide +kernel, by decide +kernel⟩
theorem kh_1025 : (Int16.ofInt 1025).toInt32 = (1025 : Int32) := by decide +kernel
theorem wd_1388 : Cond.fieldLink RX11 172 (TX11 17).1 (TX11 17).2.1 (TX11 17).2.2.1 ∈ lw_g := g_in (t_in 1388 (by decide +kernel)) rfl
theorem kf_X11_172 : lkF RX11 172 11 17 false .int := lkF.of RX11 TX11 40 tyX11 rfl ug_11 tyX11_ok nmX11 rfl (by decide) wd_1388 rfl rfl
theorem wd_1383 : Cond.fieldLink RX11 166 (TX11 12).1 (TX11 12).2.1 (TX11 12).2.2.1 ∈ lw_g := g_in (t_in 1383 (by decide +kernel)) rfl
theorem kf_X11_166 : lkF RX11 166 11 12 false .int := lkF.of RX11 TX11 40 tyX11 rfl ug_11 tyX11_ok nmX11 rfl (by decide) wd_1383 rfl rfl
theorem wd_1389 : Cond.fieldLink RX11 32 (TX11 18).1 (TX11 18).2.1 (TX11 18).2.2.1 ∈ lw_g := g_in (t_in 1389 (by decide +kernel)) rfl
theorem kf_X11_32 : lkF RX11 32 11 18 true (tyX11 18) := lkF.of RX11 TX11 40 tyX11 rfl ug_11 tyX11_ok nmX11 rfl (by decide) wd_1389 rfl rfl
theorem rf_257_18 : RF0 257 18 = some 264 := by decide +kernel
theorem th_264 : tA false 420 264 := ⟨by decide +kernel, by decide +kernel⟩
theorem wd_1390 : Cond.fieldLink RX11 214 (TX11 19).1 (TX11 19).2.1 (TX11 19).2.2.1 ∈ lw_g := g_in (t_in 1390 (by decide +kernel)) rfl
theorem kf_X11_214 : lkF RX11 214 11 19 false .int := lkF.of RX11 TX11 40 tyX11 rfl ug_11 tyX11_ok nmX11 rfl (by decide) wd_1390 rfl rfl
theorem kb_9 : (Int8.ofInt 9).toInt32 = (9 : Int32) := by decide +kernel
theorem wd_1714 : Cond.methodLink RX11 249 yX11_asInt ∈ lw_g := g_in (t_in 1714 (by decide +kernel)) rfl
theorem wd_1715 : Cond.static yX11_asInt ∈ lw_g := g_in (t_in 1715 (by decide +kernel)) rfl
theorem wd_1716 : Cond.code yX11_asInt cX11_asInt 1 (some .int) ∈ lw_g := g_in (t_in 1716 (by decide +kernel)) rfl
theorem ks_X11_249 : lkS RX11 249 yX11_asInt cX11_asInt 1 (some .int) 1 := lkS.of4 wd_1714 wd_1715 wd_119 wd_1716 (by decide +kernel) (by decide)
theorem kh_1925 : (Int16.ofInt 1925).toInt32 = (1925 : Int32) := by decide +kernel
theorem kb_25 : (Int8.ofInt 25).toInt32 = (25 : Int32) := by decide +kernel
theorem wd_1376 : Cond.fieldLink RX11 325 (TX11 5).1 (TX11 5).2.1 (TX11 5).2.2.1 ∈ lw_g := g_in (t_in 1376 (by decide +kernel)) rfl
theorem kf_X11_325 : lkF RX11 325 11 5 false .boolean := lkF.of RX11 TX11 40 tyX11 rfl ug_11 tyX11_ok nmX11 rfl (by decide) wd_1376 rfl rfl
theorem wd_1373 : Cond.fieldLink RX11 16 (TX11 2).1 (TX11 2).2.1 (TX11 2).2.2.1 ∈ lw_g := g_in (t_in 1373 (by decide +kernel)) rfl
theorem kf_X11_16 : lkF RX11 16 11 2 true (tyX11 2) := lkF.of RX11 TX11 40 tyX11 rfl ug_11 tyX11_ok nmX11 rfl (by decide) wd_1373 rfl rfl
theorem rf_257_2 : RF0 257 2 = some 260 := by decide +kernel
theorem th_260 : tA false 2425 260 := ⟨by decide +kernel, by decide +kernel⟩
theorem kh_143 : (Int16.ofInt 143).toInt32 = (143 : Int32) := by decide +kernel
theorem kh_576 : (Int16.ofInt 576).toInt32 = (576 : Int32) := by decide +kernel
theorem wd_1655 : Cond.methodLink RX11 263 yX11_turned ∈ lw_g := g_in (t_in 1655 (by decide +kernel)) rfl
theorem wd_1656 : Cond.static yX11_turned ∈ lw_g := g_in (t_in 1656 (by decide +kernel)) rfl
theorem wd_1657 : Cond.code yX11_turned cX11_turned 2 (some .int) ∈ lw_g := g_in (t_in 1657 (by decide +kernel)) rfl
theorem ks_X11_263 : lkS RX11 263 yX11_turned cX11_turned 2 (some .int) 2 := lkS.of4 wd_1655 wd_1656 wd_119 wd_1657 (by decide +kernel) (by decide)
theorem kh_1728 : (Int16.ofInt 1728).toInt32 = (1728 : Int32) := by decide +kernel
theorem wd_1395 : Cond.fieldLink RX11 47 (TX11 24).1 (TX11 24).2.1 (TX11 24).2.2.1 ∈ lw_g := g_in (t_in 1395 (by decide +kernel)) rfl
theorem kf_X11_47 : lkF RX11 47 11 24 true (tyX11 24) := lkF.of RX11 TX11 40 tyX11 rfl ug_11 tyX11_ok nmX11 rfl (by decide) wd_1395 rfl rfl
theorem rf_257_24 : RF0 257 24 = some 269 := by decide +kernel
theorem th_269 : tA false 12096 269 := ⟨by decide +kernel, by decide +kernel⟩
theorem wd_1847 : Cond.methodLink RX11 350 yX11_plus ∈ lw_g := g_in (t_in 1847 (by decide +kernel)) rfl
theorem wd_1848 : Cond.static yX11_plus ∈ lw_g := g_in (t_in 1848 (by decide +kernel)) rfl
theorem wd_1849 : Cond.code yX11_plus cX11_plus 2 (some .int) ∈ lw_g := g_in (t_in 1849 (by decide +kernel)) rfl
theorem ks_X11_350 : lkS RX11 350 yX11_plus cX11_plus 2 (some .int) 2 := lkS.of4 wd_1847 wd_1848 wd_119 wd_1849 (by decide +kernel) (by decide)
theorem wd_1863 : Cond.methodLink RX11 359 yX11_abs ∈ lw_g := g_in (t_in 1863 (by decide +kernel)) rfl
theorem wd_1864 : Cond.static yX11_abs ∈ lw_g := g_in (t_in 1864 (by decide +kernel)) rfl
theorem wd_1865 : Cond.code yX11_abs cX11_abs 1 (some .int) ∈ lw_g := g_in (t_in 1865 (by decide +kernel)) rfl
theorem ks_X11_359 : lkS RX11 359 yX11_abs cX11_abs 1 (some .int) 1 := lkS.of4 wd_1863 wd_1864 wd_119 wd_1865 (by decide +kernel) (by decide)
theorem wd_1866 : Cond.methodLink RX11 362 yX11_downBy ∈ lw_g := g_in (t_in 1866 (by decide +kernel)) rfl
theorem wd_1867 : Cond.static yX11_downBy ∈ lw_g := g_in (t_in 1867 (by decide +kernel)) rfl
theorem wd_1868 : Cond.code yX11_downBy cX11_downBy 2 (some .int) ∈ lw_g := g_in (t_in 1868 (by decide +kernel)) rfl
theorem ks_X11_362 : lkS RX11 362 yX11_downBy cX11_downBy 2 (some .int) 2 := lkS.of4 wd_1866 wd_1867 wd_119 wd_1868 (by decide +kernel) (by decide)
theorem kb_13 : (Int8.ofInt 13).toInt32 = (13 : Int32) := by decide +kernel
theorem wd_1881 : Cond.methodLink RX11 368 yX11_otherwise ∈ lw_g := g_in (t_in 1881 (by decide +kernel)) rfl
theorem wd_1883 : Cond.instanceMethod yX11_otherwise ∈ lw_g := g_in (t_in 1883 (by decide +kernel)) rfl
theorem wd_99 : Cond.selects "WindingSquareModel" yX11_otherwise yX11_otherwise ∈ lw_g := g_in (t_in 99 (by decide +kernel)) rfl
theorem wd_1884 : Cond.code yX11_otherwise cX11_otherwise 5 (some .int) ∈ lw_g := g_in (t_in 1884 (by decide +kernel)) rfl
theorem kv_X11_368 : lkV RX11 368 yX11_otherwise cX11_otherwise 5 (some .int) 2 11 := lkV.of5 wd_1881 wd_1883 wd_99 wd_119 wd_1884 (by decide +kernel) (by decide) ⟨_, _, rfl⟩
theorem kh_2371 : (Int16.ofInt 2371).toInt32 = (2371 : Int32) := by decide +kernel
theorem kh_2383 : (Int16.ofInt 2383).toInt32 = (2383 : Int32) := by decide +kernel
theorem ib_2383_2425 : inb (2383 : Int32) 2425 := by decide
theorem kh_2384 : (Int16.ofInt 2384).toInt32 = (2384 : Int32) := by decide +kernel
theorem wd_1400 : Cond.fieldLink RX11 377 (TX11 29).1 (TX11 29).2.1 (TX11 29).2.2.1 ∈ lw_g := g_in (t_in 1400 (by decide +kernel)) rfl
theorem kf_X11_377 : lkF RX11 377 11 29 false .int := lkF.of RX11 TX11 40 tyX11 rfl ug_11 tyX11_ok nmX11 rfl (by decide) wd_1400 rfl rfl
theorem wd_1401 : Cond.fieldLink RX11 380 (TX11 30).1 (TX11 30).2.1 (TX11 30).2.2.1 ∈ lw_g := g_in (t_in 1401 (by decide +kernel)) rfl
theorem kf_X11_380 : lkF RX11 380 11 30 false .int := lkF.of RX11 TX11 40 tyX11 rfl ug_11 tyX11_ok nmX11 rfl (by decide) wd_1401 rfl rfl
theorem wd_1674 : Cond.methodLink RX11 285 yX11_goesX ∈ lw_g := g_in (t_in 1674 (by decide +kernel)) rfl
theorem wd_1675 : Cond.static yX11_goesX ∈ lw_g := g_in (t_in 1675 (by decide +kernel)) rfl
theorem wd_1676 : Cond.code yX11_goesX cX11_goesX 1 (some .int) ∈ lw_g := g_in (t_in 1676 (by decide +kernel)) rfl
theorem ks_X11_285 : lkS RX11 285 yX11_goesX cX11_goesX 1 (some .int) 1 := lkS.of4 wd_1674 wd_1675 wd_119 wd_1676 (by decide +kernel) (by decide)
theorem wd_1677 : Cond.methodLink RX11 288 yX11_goesY ∈ lw_g := g_in (t_in 1677 (by decide +kernel)) rfl
theorem wd_1678 : Cond.static yX11_goesY ∈ lw_g := g_in (t_in 1678 (by decide +kernel)) rfl
theorem wd_1679 : Cond.code yX11_goesY cX11_goesY 1 (some .int) ∈ lw_g := g_in (t_in 1679 (by decide +kernel)) rfl
theorem ks_X11_288 : lkS RX11 288 yX11_goesY cX11_goesY 1 (some .int) 1 := lkS.of4 wd_1677 wd_1678 wd_119 wd_1679 (by decide +kernel) (by decide)
theorem kh_2408 : (Int16.ofInt 2408).toInt32 = (2408 : Int32) := by decide +kernel
theorem ib_2408_2425 : inb (2408 : Int32) 2425 := by decide
theorem kh_2409 : (Int16.ofInt 2409).toInt32 = (2409 : Int32) := by decide +kernel
theorem kh_2410 : (Int16.ofInt 2410).toInt32 = (2410 : Int32) := by decide +kernel
theorem kb_31 : (Int8.ofInt 31).toInt32 = (31 : Int32) := by decide +kernel
theorem wd_1402 : Cond.fieldLink RX11 59 (TX11 31).1 (TX11 31).2.1 (TX11 31).2.2.1 ∈ lw_g := g_in (t_in 1402 (by decide +kernel)) rfl
theorem kf_X11_59 : lkF RX11 59 11 31 true (tyX11 31) := lkF.of RX11 TX11 40 tyX11 rfl ug_11 tyX11_ok nmX11 rfl (by decide) wd_1402 rfl rfl
theorem rf_257_31 : RF0 257 31 = some 273 := by decide +kernel
theorem th_273 : tA false 31 273 := ⟨by decide +kernel, by decide +kernel⟩
theorem wd_1403 : Cond.fieldLink RX11 62 (TX11 32).1 (TX11 32).2.1 (TX11 32).2.2.1 ∈ lw_g := g_in (t_in 1403 (by decide +kernel)) rfl
theorem kf_X11_62 : lkF RX11 62 11 32 true (tyX11 32) := lkF.of RX11 TX11 40 tyX11 rfl ug_11 tyX11_ok nmX11 rfl (by decide) wd_1403 rfl rfl
theorem rf_257_32 : RF0 257 32 = some 274 := by decide +kernel
theorem th_274 : tA false 31 274 := ⟨by decide +kernel, by decide +kernel⟩
theorem wd_1913 : Cond.methodLink RX11 389 yX11_fold ∈ lw_g := g_in (t_in 1913 (by decide +kernel)) rfl
theorem wd_1914 : Cond.static yX11_fold ∈ lw_g := g_in (t_in 1914 (by decide +kernel)) rfl
theorem wd_1915 : Cond.code yX11_fold cX11_fold 2 (some .int) ∈ lw_g := g_in (t_in 1915 (by decide +kernel)) rfl
theorem ks_X11_389 : lkS RX11 389 yX11_fold cX11_fold 2 (some .int) 1 := lkS.of4 wd_1913 wd_1914 wd_119 wd_1915 (by decide +kernel) (by decide)
theorem kb_55 : (Int8.ofInt 55).toInt32 = (55 : Int32) := by decide +kernel
theorem nz_10 : ¬ (10 : Int32) = 0 := by decide
theorem kb_m20 : (Int8.ofInt (-20)).toInt32 = (-20 : Int32) := by decide +kernel
theorem kb_60 : (Int8.ofInt 60).toInt32 = (60 : Int32) := by decide +kernel
theorem kh_14641 : (Int16.ofInt 14641).toInt32 = (14641 : Int32) := by decide +kernel
theorem kh_7320 : (Int16.ofInt 7320).toInt32 = (7320 : Int32) := by decide +kernel
theorem ib_7320_14641 : inb (7320 : Int32) 14641 := by decide
theorem wd_1920 : Cond.methodLink RX11 392 yX11_pacesFrom ∈ lw_g := g_in (t_in 1920 (by decide +kernel)) rfl
theorem wd_1922 : Cond.instanceMethod yX11_pacesFrom ∈ lw_g := g_in (t_in 1922 (by decide +kernel)) rfl
theorem wd_102 : Cond.selects "WindingSquareModel" yX11_pacesFrom yX11_pacesFrom ∈ lw_g := g_in (t_in 102 (by decide +kernel)) rfl
theorem wd_1923 : Cond.code yX11_pacesFrom cX11_pacesFrom 10 none ∈ lw_g := g_in (t_in 1923 (by decide +kernel)) rfl
theorem kv_X11_392 : lkV RX11 392 yX11_pacesFrom cX11_pacesFrom 10 none 5 11 := lkV.of5 wd_1920 wd_1922 wd_102 wd_119 wd_1923 (by decide +kernel) (by decide) ⟨_, _, rfl⟩
theorem kh_2000 : (Int16.ofInt 2000).toInt32 = (2000 : Int32) := by decide +kernel
theorem kh_m10000 : (Int16.ofInt (-10000)).toInt32 = (-10000 : Int32) := by decide +kernel
theorem kh_16384 : (Int16.ofInt 16384).toInt32 = (16384 : Int32) := by decide +kernel
theorem wd_1405 : Cond.fieldLink RX11 68 (TX11 34).1 (TX11 34).2.1 (TX11 34).2.2.1 ∈ lw_g := g_in (t_in 1405 (by decide +kernel)) rfl
theorem kf_X11_68 : lkF RX11 68 11 34 true (tyX11 34) := lkF.of RX11 TX11 40 tyX11 rfl ug_11 tyX11_ok nmX11 rfl (by decide) wd_1405 rfl rfl
theorem rf_257_34 : RF0 257 34 = some 276 := by decide +kernel
theorem th_276 : tA false 16384 276 := ⟨by decide +kernel, by decide +kernel⟩
theorem kh_128 : (Int16.ofInt 128).toInt32 = (128 : Int32) := by decide +kernel
theorem kb_127 : (Int8.ofInt 127).toInt32 = (127 : Int32) := by decide +kernel
theorem wd_1406 : Cond.fieldLink RX11 71 (TX11 35).1 (TX11 35).2.1 (TX11 35).2.2.1 ∈ lw_g := g_in (t_in 1406 (by decide +kernel)) rfl
theorem kf_X11_71 : lkF RX11 71 11 35 true (tyX11 35) := lkF.of RX11 TX11 40 tyX11 rfl ug_11 tyX11_ok nmX11 rfl (by decide) wd_1406 rfl rfl
theorem rf_257_35 : RF0 257 35 = some 277 := by decide +kernel
theorem th_277 : tA false 4 277 := ⟨by decide +kernel, by decide +kernel⟩
theorem wd_1407 : Cond.fieldLink RX11 74 (TX11 36).1 (TX11 36).2.1 (TX11 36).2.2.1 ∈ lw_g := g_in (t_in 1407 (by decide +kernel)) rfl
theorem kf_X11_74 : lkF RX11 74 11 36 true (tyX11 36) := lkF.of RX11 TX11 40 tyX11 rfl ug_11 tyX11_ok nmX11 rfl (by decide) wd_1407 rfl rfl
theorem rf_257_36 : RF0 257 36 = some 278 := by decide +kernel
theorem th_278 : tA false 4 278 := ⟨by decide +kernel, by decide +kernel⟩
theorem wd_1960 : Cond.methodLink RX11 405 yX11_bend ∈ lw_g := g_in (t_in 1960 (by decide +kernel)) rfl
theorem wd_1961 : Cond.static yX11_bend ∈ lw_g := g_in (t_in 1961 (by decide +kernel)) rfl
theorem wd_1962 : Cond.code yX11_bend cX11_bend 5 (some .int) ∈ lw_g := g_in (t_in 1962 (by decide +kernel)) rfl
theorem ks_X11_405 : lkS RX11 405 yX11_bend cX11_bend 5 (some .int) 3 := lkS.of4 wd_1960 wd_1961 wd_119 wd_1962 (by decide +kernel) (by decide)
theorem wd_1410 : Cond.fieldLink RX11 83 (TX11 39).1 (TX11 39).2.1 (TX11 39).2.2.1 ∈ lw_g := g_in (t_in 1410 (by decide +kernel)) rfl
theorem kf_X11_83 : lkF RX11 83 11 39 true (tyX11 39) := lkF.of RX11 TX11 40 tyX11 rfl ug_11 tyX11_ok nmX11 rfl (by decide) wd_1410 rfl rfl
theorem rf_257_39 : RF0 257 39 = some 281 := by decide +kernel
theorem th_281 : tA false 3721 281 := ⟨by decide +kernel, by decide +kernel⟩
theorem kh_600 : (Int16.ofInt 600).toInt32 = (600 : Int32) := by decide +kernel
theorem kac_X0_22 : Cond.methodLink RX0 22 arraycopyName ∈ lw_g := g_in (t_in 1350 (by decide +kernel)) rfl
theorem wd_657 : Cond.methodLink RX1 151 yX9_ahead ∈ lw_g := g_in (t_in 657 (by decide +kernel)) rfl
theorem wd_658 : Cond.instanceMethod yX9_ahead ∈ lw_g := g_in (t_in 658 (by decide +kernel)) rfl
theorem wd_659 : Cond.selects "WindingSquare$Walker" yX9_ahead yX9_ahead ∈ lw_g := g_in (t_in 659 (by decide +kernel)) rfl
theorem wd_660 : Cond.code yX9_ahead cX9_ahead 3 (some .int) ∈ lw_g := g_in (t_in 660 (by decide +kernel)) rfl
theorem kv_X1_151 : lkV RX1 151 yX9_ahead cX9_ahead 3 (some .int) 0 9 := lkV.of5 wd_657 wd_658 wd_659 wd_110 wd_660 (by decide +kernel) (by decide) ⟨_, _, rfl⟩
theorem wd_666 : Cond.methodLink RX1 154 yX7_whoAt ∈ lw_g := g_in (t_in 666 (by decide +kernel)) rfl
theorem wd_583 : Cond.instanceMethod yX7_whoAt ∈ lw_g := g_in (t_in 583 (by decide +kernel)) rfl
theorem wd_584 : Cond.selects "WindingSquare$Square" yX7_whoAt yX7_whoAt ∈ lw_g := g_in (t_in 584 (by decide +kernel)) rfl
theorem wd_585 : Cond.code yX7_whoAt cX7_whoAt 3 (some .int) ∈ lw_g := g_in (t_in 585 (by decide +kernel)) rfl
theorem kv_X1_154 : lkV RX1 154 yX7_whoAt cX7_whoAt 3 (some .int) 1 7 := lkV.of5 wd_666 wd_583 wd_584 wd_109 wd_585 (by decide +kernel) (by decide) ⟨_, _, rfl⟩
theorem wd_667 : Cond.methodLink RX1 157 yX9_stand ∈ lw_g := g_in (t_in 667 (by decide +kernel)) rfl
theorem wd_668 : Cond.instanceMethod yX9_stand ∈ lw_g := g_in (t_in 668 (by decide +kernel)) rfl
theorem wd_669 : Cond.selects "WindingSquare$Walker" yX9_stand yX9_stand ∈ lw_g := g_in (t_in 669 (by decide +kernel)) rfl
theorem wd_670 : Cond.code yX9_stand cX9_stand 2 none ∈ lw_g := g_in (t_in 670 (by decide +kernel)) rfl
theorem kv_X1_157 : lkV RX1 157 yX9_stand cX9_stand 2 none 1 9 := lkV.of5 wd_667 wd_668 wd_669 wd_110 wd_670 (by decide +kernel) (by decide) ⟨_, _, rfl⟩
theorem wd_418 : Cond.fieldLink RX1 29 (TX1 3).1 (TX1 3).2.1 (TX1 3).2.2.1 ∈ lw_g := g_in (t_in 418 (by decide +kernel)) rfl
theorem kf_X1_29 : lkF RX1 29 1 3 true (tyX1 3) := lkF.of RX1 TX1 8 tyX1 rfl ug_1 tyX1_ok nmX1 rfl (by decide) wd_418 rfl rfl
theorem rf_83_3 : RF0 83 3 = some 40 := by decide +kernel
theorem wd_648 : Cond.methodLink RX1 125 yX8_nextWord ∈ lw_g := g_in (t_in 648 (by decide +kernel)) rfl
theorem wd_649 : Cond.instanceMethod yX8_nextWord ∈ lw_g := g_in (t_in 649 (by decide +kernel)) rfl
theorem wd_650 : Cond.selects "WindingSquare$Texts" yX8_nextWord yX8_nextWord ∈ lw_g := g_in (t_in 650 (by decide +kernel)) rfl
theorem wd_111 : Cond.initialized "WindingSquare$Texts" ∈ lw_g := g_in (t_in 111 (by decide +kernel)) rfl
theorem wd_651 : Cond.code yX8_nextWord cX8_nextWord 4 (some .int) ∈ lw_g := g_in (t_in 651 (by decide +kernel)) rfl
theorem kv_X1_125 : lkV RX1 125 yX8_nextWord cX8_nextWord 4 (some .int) 2 8 := lkV.of5 wd_648 wd_649 wd_650 wd_111 wd_651 (by decide +kernel) (by decide) ⟨_, _, rfl⟩
theorem kh_154 : (Int16.ofInt 154).toInt32 = (154 : Int32) := by decide +kernel
theorem wd_154 : Cond.fieldLink RX1 47 (TX9 1).1 (TX9 1).2.1 (TX9 1).2.2.1 ∈ lw_g := g_in (t_in 154 (by decide +kernel)) rfl
theorem kf_X1_47 : lkF RX1 47 9 1 false .boolean := lkF.of RX9 TX9 13 tyX9 rfl ug_9 tyX9_ok nmX9 rfl (by decide) wd_154 rfl rfl
theorem kh_151 : (Int16.ofInt 151).toInt32 = (151 : Int32) := by decide +kernel
theorem wd_1107 : Cond.methodLink RX2 72 yJ9_abs_0f7a4 ∈ lw_g := g_in (t_in 1107 (by decide +kernel)) rfl
theorem ks_X2_72 : lkS RX2 72 yJ9_abs_0f7a4 cJ9_abs_0f7a4 1 (some .int) 1 := lkS.of4 wd_1107 wd_1108 wd_123 wd_1109 (by decide +kernel) (by decide)
theorem wd_1111 : Cond.methodLink RX2 79 yX2_nearest ∈ lw_g := g_in (t_in 1111 (by decide +kernel)) rfl
theorem wd_1112 : Cond.static yX2_nearest ∈ lw_g := g_in (t_in 1112 (by decide +kernel)) rfl
theorem wd_1113 : Cond.code yX2_nearest cX2_nearest 2 (some .int) ∈ lw_g := g_in (t_in 1113 (by decide +kernel)) rfl
theorem ks_X2_79 : lkS RX2 79 yX2_nearest cX2_nearest 2 (some .int) 2 := lkS.of4 wd_1111 wd_1112 wd_117 wd_1113 (by decide +kernel) (by decide)
theorem wd_1251 : Cond.methodLink RX2 82 yX2_cheapestBeside ∈ lw_g := g_in (t_in 1251 (by decide +kernel)) rfl
theorem wd_1253 : Cond.instanceMethod yX2_cheapestBeside ∈ lw_g := g_in (t_in 1253 (by decide +kernel)) rfl
theorem wd_35 : Cond.selects "WindingSquare$Grid" yX2_cheapestBeside yX2_cheapestBeside ∈ lw_g := g_in (t_in 35 (by decide +kernel)) rfl
theorem wd_1254 : Cond.code yX2_cheapestBeside cX2_cheapestBeside 7 (some .int) ∈ lw_g := g_in (t_in 1254 (by decide +kernel)) rfl
theorem kv_X2_82 : lkV RX2 82 yX2_cheapestBeside cX2_cheapestBeside 7 (some .int) 1 2 := lkV.of5 wd_1251 wd_1253 wd_35 wd_117 wd_1254 (by decide +kernel) (by decide) ⟨_, _, rfl⟩
theorem wd_1052 : Cond.methodLink RX2 91 yX2_onward ∈ lw_g := g_in (t_in 1052 (by decide +kernel)) rfl
theorem wd_1054 : Cond.instanceMethod yX2_onward ∈ lw_g := g_in (t_in 1054 (by decide +kernel)) rfl
theorem wd_24 : Cond.selects "WindingSquare$Grid" yX2_onward yX2_onward ∈ lw_g := g_in (t_in 24 (by decide +kernel)) rfl
theorem wd_1055 : Cond.code yX2_onward cX2_onward 6 (some .int) ∈ lw_g := g_in (t_in 1055 (by decide +kernel)) rfl
theorem kv_X2_91 : lkV RX2 91 yX2_onward cX2_onward 6 (some .int) 2 2 := lkV.of5 wd_1052 wd_1054 wd_24 wd_117 wd_1055 (by decide +kernel) (by decide) ⟨_, _, rfl⟩
theorem wd_1298 : Cond.methodLink RX2 85 yX2_free ∈ lw_g := g_in (t_in 1298 (by decide +kernel)) rfl
theorem wd_1037 : Cond.instanceMethod yX2_free ∈ lw_g := g_in (t_in 1037 (by decide +kernel)) rfl
theorem wd_1038 : Cond.selects "WindingSquare$Grid" yX2_free yX2_free ∈ lw_g := g_in (t_in 1038 (by decide +kernel)) rfl
theorem wd_1039 : Cond.code yX2_free cX2_free 2 (some .boolean) ∈ lw_g := g_in (t_in 1039 (by decide +kernel)) rfl
theorem kv_X2_85 : lkV RX2 85 yX2_free cX2_free 2 (some .boolean) 1 2 := lkV.of5 wd_1298 wd_1037 wd_1038 wd_117 wd_1039 (by decide +kernel) (by decide) ⟨_, _, rfl⟩
theorem nz_144 : ¬ (144 : Int32) = 0 := by decide
theorem wd_1086 : Cond.methodLink RX2 109 yX2_turnAt ∈ lw_g := g_in (t_in 1086 (by decide +kernel)) rfl
theorem wd_1088 : Cond.instanceMethod yX2_turnAt ∈ lw_g := g_in (t_in 1088 (by decide +kernel)) rfl
theorem wd_28 : Cond.selects "WindingSquare$Grid" yX2_turnAt yX2_turnAt ∈ lw_g := g_in (t_in 28 (by decide +kernel)) rfl
theorem wd_1089 : Cond.code yX2_turnAt cX2_turnAt 9 none ∈ lw_g := g_in (t_in 1089 (by decide +kernel)) rfl
theorem kv_X2_109 : lkV RX2 109 yX2_turnAt cX2_turnAt 9 none 2 2 := lkV.of5 wd_1086 wd_1088 wd_28 wd_117 wd_1089 (by decide +kernel) (by decide) ⟨_, _, rfl⟩
theorem nz_576 : ¬ (576 : Int32) = 0 := by decide
theorem wd_449 : Cond.fieldLink RX2 18 (TX2 3).1 (TX2 3).2.1 (TX2 3).2.2.1 ∈ lw_g := g_in (t_in 449 (by decide +kernel)) rfl
theorem kf_X2_18 : lkF RX2 18 2 3 true (tyX2 3) := lkF.of RX2 TX2 8 tyX2 rfl ug_2 tyX2_ok nmX2 rfl (by decide) wd_449 rfl rfl
theorem rf_87_3 : RF0 87 3 = some 90 := by decide +kernel
theorem th_90 : tA true 576 90 := ⟨by decide +kernel, by decide +kernel⟩
theorem ib_0_576 : inb (0 : Int32) 576 := by decide
theorem wd_700 : Cond.methodLink RX3 59 yX3_without ∈ lw_g := g_in (t_in 700 (by decide +kernel)) rfl
theorem wd_701 : Cond.static yX3_without ∈ lw_g := g_in (t_in 701 (by decide +kernel)) rfl
theorem wd_702 : Cond.code yX3_without cX3_without 2 (some .int) ∈ lw_g := g_in (t_in 702 (by decide +kernel)) rfl
theorem ks_X3_59 : lkS RX3 59 yX3_without cX3_without 2 (some .int) 2 := lkS.of4 wd_700 wd_701 wd_112 wd_702 (by decide +kernel) (by decide)
theorem wd_267 : Cond.fieldLink RX3 31 (TX3 0).1 (TX3 0).2.1 (TX3 0).2.2.1 ∈ lw_g := g_in (t_in 267 (by decide +kernel)) rfl
theorem kf_X3_31 : lkF RX3 31 3 0 false .int := lkF.of RX3 TX3 7 tyX3 rfl ug_3 tyX3_ok nmX3 rfl (by decide) wd_267 rfl rfl
theorem wd_268 : Cond.fieldLink RX3 9 (TX3 1).1 (TX3 1).2.1 (TX3 1).2.2.1 ∈ lw_g := g_in (t_in 268 (by decide +kernel)) rfl
theorem kf_X3_9 : lkF RX3 9 3 1 true (tyX3 1) := lkF.of RX3 TX3 7 tyX3 rfl ug_3 tyX3_ok nmX3 rfl (by decide) wd_268 rfl rfl
theorem wd_269 : Cond.fieldLink RX3 15 (TX3 2).1 (TX3 2).2.1 (TX3 2).2.2.1 ∈ lw_g := g_in (t_in 269 (by decide +kernel)) rfl
theorem kf_X3_15 : lkF RX3 15 3 2 true (tyX3 2) := lkF.of RX3 TX3 7 tyX3 rfl ug_3 tyX3_ok nmX3 rfl (by decide) wd_269 rfl rfl
theorem wd_270 : Cond.fieldLink RX3 18 (TX3 3).1 (TX3 3).2.1 (TX3 3).2.2.1 ∈ lw_g := g_in (t_in 270 (by decide +kernel)) rfl
theorem kf_X3_18 : lkF RX3 18 3 3 true (tyX3 3) := lkF.of RX3 TX3 7 tyX3 rfl ug_3 tyX3_ok nmX3 rfl (by decide) wd_270 rfl rfl
theorem wd_703 : Cond.methodLink RX3 63 yX3_run ∈ lw_g := g_in (t_in 703 (by decide +kernel)) rfl
theorem wd_705 : Cond.instanceMethod yX3_run ∈ lw_g := g_in (t_in 705 (by decide +kernel)) rfl
theorem wd_4 : Cond.selects "WindingSquare$Law" yX3_run yX3_run ∈ lw_g := g_in (t_in 4 (by decide +kernel)) rfl
theorem wd_706 : Cond.code yX3_run cX3_run 7 (some .int) ∈ lw_g := g_in (t_in 706 (by decide +kernel)) rfl
theorem kv_X3_63 : lkV RX3 63 yX3_run cX3_run 7 (some .int) 3 3 := lkV.of5 wd_703 wd_705 wd_4 wd_112 wd_706 (by decide +kernel) (by decide) ⟨_, _, rfl⟩
theorem kh_130 : (Int16.ofInt 130).toInt32 = (130 : Int32) := by decide +kernel
theorem kb_99 : (Int8.ofInt 99).toInt32 = (99 : Int32) := by decide +kernel
theorem wd_710 : Cond.methodLink RX3 67 yJ9_min_7cf53 ∈ lw_g := g_in (t_in 710 (by decide +kernel)) rfl
theorem ks_X3_67 : lkS RX3 67 yJ9_min_7cf53 cJ9_min_7cf53 2 (some .int) 2 := lkS.of4 wd_710 wd_711 wd_123 wd_712 (by decide +kernel) (by decide)
theorem wd_713 : Cond.methodLink RX3 73 yJ9_max_7cf53 ∈ lw_g := g_in (t_in 713 (by decide +kernel)) rfl
theorem ks_X3_73 : lkS RX3 73 yJ9_max_7cf53 cJ9_max_7cf53 2 (some .int) 2 := lkS.of4 wd_713 wd_714 wd_123 wd_715 (by decide +kernel) (by decide)
theorem kac_X3_76 : Cond.methodLink RX3 76 arraycopyName ∈ lw_g := g_in (t_in 940 (by decide +kernel)) rfl
theorem wd_882 : Cond.methodLink RX3 34 yX5_kind ∈ lw_g := g_in (t_in 882 (by decide +kernel)) rfl
theorem wd_883 : Cond.instanceMethod yX5_kind ∈ lw_g := g_in (t_in 883 (by decide +kernel)) rfl
theorem wd_884 : Cond.selects "WindingSquare$Reader" yX5_kind yX5_kind ∈ lw_g := g_in (t_in 884 (by decide +kernel)) rfl
theorem wd_885 : Cond.code yX5_kind cX5_kind 1 (some .int) ∈ lw_g := g_in (t_in 885 (by decide +kernel)) rfl
theorem kv_X3_34 : lkV RX3 34 yX5_kind cX5_kind 1 (some .int) 0 5 := lkV.of5 wd_882 wd_883 wd_884 wd_115 wd_885 (by decide +kernel) (by decide) ⟨_, _, rfl⟩
theorem wd_910 : Cond.methodLink RX3 96 yX5_number ∈ lw_g := g_in (t_in 910 (by decide +kernel)) rfl
theorem wd_911 : Cond.instanceMethod yX5_number ∈ lw_g := g_in (t_in 911 (by decide +kernel)) rfl
theorem wd_912 : Cond.selects "WindingSquare$Reader" yX5_number yX5_number ∈ lw_g := g_in (t_in 912 (by decide +kernel)) rfl
theorem wd_913 : Cond.code yX5_number cX5_number 5 (some .int) ∈ lw_g := g_in (t_in 913 (by decide +kernel)) rfl
theorem kv_X3_96 : lkV RX3 96 yX5_number cX5_number 5 (some .int) 2 5 := lkV.of5 wd_910 wd_911 wd_912 wd_115 wd_913 (by decide +kernel) (by decide) ⟨_, _, rfl⟩
theorem wd_906 : Cond.methodLink RX3 85 yX3_emit ∈ lw_g := g_in (t_in 906 (by decide +kernel)) rfl
theorem wd_908 : Cond.instanceMethod yX3_emit ∈ lw_g := g_in (t_in 908 (by decide +kernel)) rfl
theorem wd_13 : Cond.selects "WindingSquare$Law" yX3_emit yX3_emit ∈ lw_g := g_in (t_in 13 (by decide +kernel)) rfl
theorem wd_909 : Cond.code yX3_emit cX3_emit 2 none ∈ lw_g := g_in (t_in 909 (by decide +kernel)) rfl
theorem kv_X3_85 : lkV RX3 85 yX3_emit cX3_emit 2 none 1 3 := lkV.of5 wd_906 wd_908 wd_13 wd_112 wd_909 (by decide +kernel) (by decide) ⟨_, _, rfl⟩
theorem wd_894 : Cond.methodLink RX3 44 yX5_next ∈ lw_g := g_in (t_in 894 (by decide +kernel)) rfl
theorem kv_X3_44 : lkV RX3 44 yX5_next cX5_next 1 none 0 5 := lkV.of5 wd_894 wd_895 wd_896 wd_115 wd_897 (by decide +kernel) (by decide) ⟨_, _, rfl⟩
theorem wd_477 : Cond.fieldLink RX4 11 (TX4 0).1 (TX4 0).2.1 (TX4 0).2.2.1 ∈ lw_g := g_in (t_in 477 (by decide +kernel)) rfl
theorem kf_X4_11 : lkF RX4 11 4 0 true (tyX4 0) := lkF.of RX4 TX4 5 tyX4 rfl ug_4 tyX4_ok nmX4 rfl (by decide) wd_477 rfl rfl
theorem rf_95_0 : RF0 95 0 = some 96 := by decide +kernel
theorem th_96 : tA true 6561 96 := ⟨by decide +kernel, by decide +kernel⟩
theorem wd_1210 : Cond.methodLink RX4 24 yJ7_fill_53178 ∈ lw_g := g_in (t_in 1210 (by decide +kernel)) rfl
theorem ks_X4_24 : lkS RX4 24 yJ7_fill_53178 cJ7_fill_53178 4 none 2 := lkS.of4 wd_1210 wd_676 wd_121 wd_677 (by decide +kernel) (by decide)
theorem wd_1211 : Cond.methodLink RX4 30 yX4_field ∈ lw_g := g_in (t_in 1211 (by decide +kernel)) rfl
theorem wd_1212 : Cond.static yX4_field ∈ lw_g := g_in (t_in 1212 (by decide +kernel)) rfl
theorem wd_1213 : Cond.code yX4_field cX4_field 2 (some .int) ∈ lw_g := g_in (t_in 1213 (by decide +kernel)) rfl
theorem ks_X4_30 : lkS RX4 30 yX4_field cX4_field 2 (some .int) 2 := lkS.of4 wd_1211 wd_1212 wd_118 wd_1213 (by decide +kernel) (by decide)
theorem wd_1226 : Cond.methodLink RX4 38 yJ9_max_7cf53 ∈ lw_g := g_in (t_in 1226 (by decide +kernel)) rfl
theorem ks_X4_38 : lkS RX4 38 yJ9_max_7cf53 cJ9_max_7cf53 2 (some .int) 2 := lkS.of4 wd_1226 wd_714 wd_123 wd_715 (by decide +kernel) (by decide)
theorem ng_X4_43 : Cond.fieldLinkNest RX4 43 (zsC 0) (zsN 0) "[I" "WindingSquare" ∈ lw_nest := n_in (t_in 1227 (by decide +kernel)) rfl
theorem ng_X4_46 : Cond.fieldLinkNest RX4 46 (zsC 1) (zsN 1) "[I" "WindingSquare" ∈ lw_nest := n_in (t_in 1228 (by decide +kernel)) rfl
theorem wd_1315 : Cond.methodLink RX4 53 yX4_valueAll ∈ lw_g := g_in (t_in 1315 (by decide +kernel)) rfl
theorem wd_1317 : Cond.instanceMethod yX4_valueAll ∈ lw_g := g_in (t_in 1317 (by decide +kernel)) rfl
theorem wd_39 : Cond.selects "WindingSquare$Plane" yX4_valueAll yX4_valueAll ∈ lw_g := g_in (t_in 39 (by decide +kernel)) rfl
theorem wd_1318 : Cond.code yX4_valueAll cX4_valueAll 7 none ∈ lw_g := g_in (t_in 1318 (by decide +kernel)) rfl
theorem kv_X4_53 : lkV RX4 53 yX4_valueAll cX4_valueAll 7 none 0 4 := lkV.of5 wd_1315 wd_1317 wd_39 wd_118 wd_1318 (by decide +kernel) (by decide) ⟨_, _, rfl⟩
theorem nz_81 : ¬ (81 : Int32) = 0 := by decide
theorem ib_1_2 : inb (1 : Int32) 2 := by decide
theorem wd_1133 : Cond.methodLink RX6 40 yX6_goesRoundTo ∈ lw_g := g_in (t_in 1133 (by decide +kernel)) rfl
theorem wd_1135 : Cond.instanceMethod yX6_goesRoundTo ∈ lw_g := g_in (t_in 1135 (by decide +kernel)) rfl
theorem wd_30 : Cond.selects "WindingSquare$Rows" yX6_goesRoundTo yX6_goesRoundTo ∈ lw_g := g_in (t_in 30 (by decide +kernel)) rfl
theorem wd_1136 : Cond.code yX6_goesRoundTo cX6_goesRoundTo 6 (some .boolean) ∈ lw_g := g_in (t_in 1136 (by decide +kernel)) rfl
theorem kv_X6_40 : lkV RX6 40 yX6_goesRoundTo cX6_goesRoundTo 6 (some .boolean) 2 6 := lkV.of5 wd_1133 wd_1135 wd_30 wd_114 wd_1136 (by decide +kernel) (by decide) ⟨_, _, rfl⟩
theorem wd_1271 : Cond.methodLink RX6 75 yX6_fewestTo ∈ lw_g := g_in (t_in 1271 (by decide +kernel)) rfl
theorem wd_1273 : Cond.instanceMethod yX6_fewestTo ∈ lw_g := g_in (t_in 1273 (by decide +kernel)) rfl
theorem wd_36 : Cond.selects "WindingSquare$Rows" yX6_fewestTo yX6_fewestTo ∈ lw_g := g_in (t_in 36 (by decide +kernel)) rfl
theorem wd_1274 : Cond.code yX6_fewestTo cX6_fewestTo 5 (some .int) ∈ lw_g := g_in (t_in 1274 (by decide +kernel)) rfl
theorem kv_X6_75 : lkV RX6 75 yX6_fewestTo cX6_fewestTo 5 (some .int) 2 6 := lkV.of5 wd_1271 wd_1273 wd_36 wd_114 wd_1274 (by decide +kernel) (by decide) ⟨_, _, rfl⟩
theorem kac_X6_79 : Cond.methodLink RX6 79 arraycopyName ∈ lw_g := g_in (t_in 1355 (by decide +kernel)) rfl
theorem kac_X7_22 : Cond.methodLink RX7 22 arraycopyName ∈ lw_g := g_in (t_in 598 (by decide +kernel)) rfl
theorem wd_601 : Cond.methodLink RX7 32 yX9_copyFrom ∈ lw_g := g_in (t_in 601 (by decide +kernel)) rfl
theorem wd_602 : Cond.instanceMethod yX9_copyFrom ∈ lw_g := g_in (t_in 602 (by decide +kernel)) rfl
theorem wd_603 : Cond.selects "WindingSquare$Walker" yX9_copyFrom yX9_copyFrom ∈ lw_g := g_in (t_in 603 (by decide +kernel)) rfl
theorem wd_604 : Cond.code yX9_copyFrom cX9_copyFrom 2 none ∈ lw_g := g_in (t_in 604 (by decide +kernel)) rfl
theorem kv_X7_32 : lkV RX7 32 yX9_copyFrom cX9_copyFrom 2 none 1 9 := lkV.of5 wd_601 wd_602 wd_603 wd_110 wd_604 (by decide +kernel) (by decide) ⟨_, _, rfl⟩
theorem wd_229 : Cond.fieldLink RX7 36 (TX7 3).1 (TX7 3).2.1 (TX7 3).2.2.1 ∈ lw_g := g_in (t_in 229 (by decide +kernel)) rfl
theorem kf_X7_36 : lkF RX7 36 7 3 false .int := lkF.of RX7 TX7 7 tyX7 rfl ug_7 tyX7_ok nmX7 rfl (by decide) wd_229 rfl rfl
theorem wd_237 : Cond.fieldLink RX7 45 (TX7 6).1 (TX7 6).2.1 (TX7 6).2.2.1 ∈ lw_g := g_in (t_in 237 (by decide +kernel)) rfl
theorem kf_X7_45 : lkF RX7 45 7 6 false .int := lkF.of RX7 TX7 7 tyX7 rfl ug_7 tyX7_ok nmX7 rfl (by decide) wd_237 rfl rfl
theorem wd_970 : Cond.methodLink RX8 71 yX5_number ∈ lw_g := g_in (t_in 970 (by decide +kernel)) rfl
theorem kv_X8_71 : lkV RX8 71 yX5_number cX5_number 5 (some .int) 2 5 := lkV.of5 wd_970 wd_911 wd_912 wd_115 wd_913 (by decide +kernel) (by decide) ⟨_, _, rfl⟩
theorem wd_956 : Cond.methodLink RX8 46 yX5_kind ∈ lw_g := g_in (t_in 956 (by decide +kernel)) rfl
theorem kv_X8_46 : lkV RX8 46 yX5_kind cX5_kind 1 (some .int) 0 5 := lkV.of5 wd_956 wd_883 wd_884 wd_115 wd_885 (by decide +kernel) (by decide) ⟨_, _, rfl⟩
theorem kb_59 : (Int8.ofInt 59).toInt32 = (59 : Int32) := by decide +kernel
theorem wd_960 : Cond.methodLink RX8 56 yX5_opens ∈ lw_g := g_in (t_in 960 (by decide +kernel)) rfl
theorem wd_887 : Cond.instanceMethod yX5_opens ∈ lw_g := g_in (t_in 887 (by decide +kernel)) rfl
theorem wd_888 : Cond.selects "WindingSquare$Reader" yX5_opens yX5_opens ∈ lw_g := g_in (t_in 888 (by decide +kernel)) rfl
theorem wd_889 : Cond.code yX5_opens cX5_opens 4 (some .boolean) ∈ lw_g := g_in (t_in 889 (by decide +kernel)) rfl
theorem kv_X8_56 : lkV RX8 56 yX5_opens cX5_opens 4 (some .boolean) 3 5 := lkV.of5 wd_960 wd_887 wd_888 wd_115 wd_889 (by decide +kernel) (by decide) ⟨_, _, rfl⟩
theorem wd_961 : Cond.methodLink RX8 60 yX5_next ∈ lw_g := g_in (t_in 961 (by decide +kernel)) rfl
theorem kv_X8_60 : lkV RX8 60 yX5_next cX5_next 1 none 0 5 := lkV.of5 wd_961 wd_895 wd_896 wd_115 wd_897 (by decide +kernel) (by decide) ⟨_, _, rfl⟩
theorem wd_973 : Cond.methodLink RX8 67 yX5_take ∈ lw_g := g_in (t_in 973 (by decide +kernel)) rfl
theorem wd_924 : Cond.instanceMethod yX5_take ∈ lw_g := g_in (t_in 924 (by decide +kernel)) rfl
theorem wd_925 : Cond.selects "WindingSquare$Reader" yX5_take yX5_take ∈ lw_g := g_in (t_in 925 (by decide +kernel)) rfl
theorem wd_926 : Cond.code yX5_take cX5_take 2 (some .boolean) ∈ lw_g := g_in (t_in 926 (by decide +kernel)) rfl
theorem kv_X8_67 : lkV RX8 67 yX5_take cX5_take 2 (some .boolean) 1 5 := lkV.of5 wd_973 wd_924 wd_925 wd_115 wd_926 (by decide +kernel) (by decide) ⟨_, _, rfl⟩
theorem kh_156 : (Int16.ofInt 156).toInt32 = (156 : Int32) := by decide +kernel
theorem wd_220 : Cond.fieldLink RX10 105 (TX7 0).1 (TX7 0).2.1 (TX7 0).2.2.1 ∈ lw_g := g_in (t_in 220 (by decide +kernel)) rfl
theorem kf_X10_105 : lkF RX10 105 7 0 true (tyX7 0) := lkF.of RX7 TX7 7 tyX7 rfl ug_7 tyX7_ok nmX7 rfl (by decide) wd_220 rfl rfl
theorem wd_560 : Cond.methodLink RX10 109 yX9_begin ∈ lw_g := g_in (t_in 560 (by decide +kernel)) rfl
theorem wd_561 : Cond.instanceMethod yX9_begin ∈ lw_g := g_in (t_in 561 (by decide +kernel)) rfl
theorem wd_562 : Cond.selects "WindingSquare$Walker" yX9_begin yX9_begin ∈ lw_g := g_in (t_in 562 (by decide +kernel)) rfl
theorem wd_563 : Cond.code yX9_begin cX9_begin 2 none ∈ lw_g := g_in (t_in 563 (by decide +kernel)) rfl
theorem kv_X10_109 : lkV RX10 109 yX9_begin cX9_begin 2 none 1 9 := lkV.of5 wd_560 wd_561 wd_562 wd_110 wd_563 (by decide +kernel) (by decide) ⟨_, _, rfl⟩
theorem wd_576 : Cond.methodLink RX10 123 yX10_inRow ∈ lw_g := g_in (t_in 576 (by decide +kernel)) rfl
theorem ks_X10_123 : lkS RX10 123 yX10_inRow cX10_inRow 1 (some .boolean) 1 := lkS.of4 wd_576 wd_577 wd_108 wd_578 (by decide +kernel) (by decide)
theorem kb_m2 : (Int8.ofInt (-2)).toInt32 = (-2 : Int32) := by decide +kernel
theorem wd_222 : Cond.fieldLink RX10 65 (TX7 1).1 (TX7 1).2.1 (TX7 1).2.2.1 ∈ lw_g := g_in (t_in 222 (by decide +kernel)) rfl
theorem kf_X10_65 : lkF RX10 65 7 1 true (tyX7 1) := lkF.of RX7 TX7 7 tyX7 rfl ug_7 tyX7_ok nmX7 rfl (by decide) wd_222 rfl rfl
theorem wd_582 : Cond.methodLink RX10 130 yX7_whoAt ∈ lw_g := g_in (t_in 582 (by decide +kernel)) rfl
theorem kv_X10_130 : lkV RX10 130 yX7_whoAt cX7_whoAt 3 (some .int) 1 7 := lkV.of5 wd_582 wd_583 wd_584 wd_109 wd_585 (by decide +kernel) (by decide) ⟨_, _, rfl⟩
theorem wd_1157 : Cond.methodLink RX10 269 yX6_wound ∈ lw_g := g_in (t_in 1157 (by decide +kernel)) rfl
theorem wd_1158 : Cond.instanceMethod yX6_wound ∈ lw_g := g_in (t_in 1158 (by decide +kernel)) rfl
theorem wd_1159 : Cond.selects "WindingSquare$Rows" yX6_wound yX6_wound ∈ lw_g := g_in (t_in 1159 (by decide +kernel)) rfl
theorem wd_1160 : Cond.code yX6_wound cX6_wound 3 (some .int) ∈ lw_g := g_in (t_in 1160 (by decide +kernel)) rfl
theorem kv_X10_269 : lkV RX10 269 yX6_wound cX6_wound 3 (some .int) 0 6 := lkV.of5 wd_1157 wd_1158 wd_1159 wd_114 wd_1160 (by decide +kernel) (by decide) ⟨_, _, rfl⟩
theorem wd_1161 : Cond.methodLink RX10 272 yX6_home ∈ lw_g := g_in (t_in 1161 (by decide +kernel)) rfl
theorem wd_1162 : Cond.instanceMethod yX6_home ∈ lw_g := g_in (t_in 1162 (by decide +kernel)) rfl
theorem wd_1163 : Cond.selects "WindingSquare$Rows" yX6_home yX6_home ∈ lw_g := g_in (t_in 1163 (by decide +kernel)) rfl
theorem wd_1164 : Cond.code yX6_home cX6_home 1 (some .int) ∈ lw_g := g_in (t_in 1164 (by decide +kernel)) rfl
theorem kv_X10_272 : lkV RX10 272 yX6_home cX6_home 1 (some .int) 0 6 := lkV.of5 wd_1161 wd_1162 wd_1163 wd_114 wd_1164 (by decide +kernel) (by decide) ⟨_, _, rfl⟩
theorem wd_1172 : Cond.methodLink RX10 275 yX6_again ∈ lw_g := g_in (t_in 1172 (by decide +kernel)) rfl
theorem wd_1173 : Cond.instanceMethod yX6_again ∈ lw_g := g_in (t_in 1173 (by decide +kernel)) rfl
theorem wd_1174 : Cond.selects "WindingSquare$Rows" yX6_again yX6_again ∈ lw_g := g_in (t_in 1174 (by decide +kernel)) rfl
theorem wd_1175 : Cond.code yX6_again cX6_again 4 (some .int) ∈ lw_g := g_in (t_in 1175 (by decide +kernel)) rfl
theorem kv_X10_275 : lkV RX10 275 yX6_again cX6_again 4 (some .int) 0 6 := lkV.of5 wd_1172 wd_1173 wd_1174 wd_114 wd_1175 (by decide +kernel) (by decide) ⟨_, _, rfl⟩
theorem wd_1184 : Cond.methodLink RX10 278 yX6_about ∈ lw_g := g_in (t_in 1184 (by decide +kernel)) rfl
theorem wd_1185 : Cond.instanceMethod yX6_about ∈ lw_g := g_in (t_in 1185 (by decide +kernel)) rfl
theorem wd_1186 : Cond.selects "WindingSquare$Rows" yX6_about yX6_about ∈ lw_g := g_in (t_in 1186 (by decide +kernel)) rfl
theorem wd_1187 : Cond.code yX6_about cX6_about 1 (some .int) ∈ lw_g := g_in (t_in 1187 (by decide +kernel)) rfl
theorem kv_X10_278 : lkV RX10 278 yX6_about cX6_about 1 (some .int) 0 6 := lkV.of5 wd_1184 wd_1185 wd_1186 wd_114 wd_1187 (by decide +kernel) (by decide) ⟨_, _, rfl⟩
theorem kb_m100 : (Int8.ofInt (-100)).toInt32 = (-100 : Int32) := by decide +kernel
theorem wd_1662 : Cond.methodLink RX11 111 yX11_standsAt ∈ lw_g := g_in (t_in 1662 (by decide +kernel)) rfl
theorem wd_1664 : Cond.instanceMethod yX11_standsAt ∈ lw_g := g_in (t_in 1664 (by decide +kernel)) rfl
theorem wd_70 : Cond.selects "WindingSquareModel" yX11_standsAt yX11_standsAt ∈ lw_g := g_in (t_in 70 (by decide +kernel)) rfl
theorem wd_1665 : Cond.code yX11_standsAt cX11_standsAt 2 (some .int) ∈ lw_g := g_in (t_in 1665 (by decide +kernel)) rfl
theorem kv_X11_111 : lkV RX11 111 yX11_standsAt cX11_standsAt 2 (some .int) 1 11 := lkV.of5 wd_1662 wd_1664 wd_70 wd_119 wd_1665 (by decide +kernel) (by decide) ⟨_, _, rfl⟩
theorem wd_1543 : Cond.methodLink RX11 163 yX11_pass ∈ lw_g := g_in (t_in 1543 (by decide +kernel)) rfl
theorem wd_1545 : Cond.instanceMethod yX11_pass ∈ lw_g := g_in (t_in 1545 (by decide +kernel)) rfl
theorem wd_46 : Cond.selects "WindingSquareModel" yX11_pass yX11_pass ∈ lw_g := g_in (t_in 46 (by decide +kernel)) rfl
theorem wd_1546 : Cond.code yX11_pass cX11_pass 1 none ∈ lw_g := g_in (t_in 1546 (by decide +kernel)) rfl
theorem kv_X11_163 : lkV RX11 163 yX11_pass cX11_pass 1 none 0 11 := lkV.of5 wd_1543 wd_1545 wd_46 wd_119 wd_1546 (by decide +kernel) (by decide) ⟨_, _, rfl⟩
theorem kb_108 : (Int8.ofInt 108).toInt32 = (108 : Int32) := by decide +kernel
theorem kb_101 : (Int8.ofInt 101).toInt32 = (101 : Int32) := by decide +kernel
theorem kb_102 : (Int8.ofInt 102).toInt32 = (102 : Int32) := by decide +kernel
theorem kb_116 : (Int8.ofInt 116).toInt32 = (116 : Int32) := by decide +kernel
theorem wd_1532 : Cond.methodLink RX11 194 yX11_spelt ∈ lw_g := g_in (t_in 1532 (by decide +kernel)) rfl
theorem wd_1533 : Cond.static yX11_spelt ∈ lw_g := g_in (t_in 1533 (by decide +kernel)) rfl
theorem wd_1534 : Cond.code yX11_spelt cX11_spelt 7 (some .int) ∈ lw_g := g_in (t_in 1534 (by decide +kernel)) rfl
theorem ks_X11_194 : lkS RX11 194 yX11_spelt cX11_spelt 7 (some .int) 6 := lkS.of4 wd_1532 wd_1533 wd_119 wd_1534 (by decide +kernel) (by decide)
theorem kb_114 : (Int8.ofInt 114).toInt32 = (114 : Int32) := by decide +kernel
theorem kb_105 : (Int8.ofInt 105).toInt32 = (105 : Int32) := by decide +kernel
theorem kb_103 : (Int8.ofInt 103).toInt32 = (103 : Int32) := by decide +kernel
theorem kb_104 : (Int8.ofInt 104).toInt32 = (104 : Int32) := by decide +kernel
theorem kb_98 : (Int8.ofInt 98).toInt32 = (98 : Int32) := by decide +kernel
theorem kb_107 : (Int8.ofInt 107).toInt32 = (107 : Int32) := by decide +kernel
theorem kb_100 : (Int8.ofInt 100).toInt32 = (100 : Int32) := by decide +kernel
theorem kb_119 : (Int8.ofInt 119).toInt32 = (119 : Int32) := by decide +kernel
theorem wd_1566 : Cond.methodLink RX11 217 yX11_codes ∈ lw_g := g_in (t_in 1566 (by decide +kernel)) rfl
theorem wd_1568 : Cond.instanceMethod yX11_codes ∈ lw_g := g_in (t_in 1568 (by decide +kernel)) rfl
theorem wd_51 : Cond.selects "WindingSquareModel" yX11_codes yX11_codes ∈ lw_g := g_in (t_in 51 (by decide +kernel)) rfl
theorem wd_1569 : Cond.code yX11_codes cX11_codes 3 none ∈ lw_g := g_in (t_in 1569 (by decide +kernel)) rfl
theorem kv_X11_217 : lkV RX11 217 yX11_codes cX11_codes 3 none 2 11 := lkV.of5 wd_1566 wd_1568 wd_51 wd_119 wd_1569 (by decide +kernel) (by decide) ⟨_, _, rfl⟩
theorem wd_1522 : Cond.methodLink RX11 160 yX11_word ∈ lw_g := g_in (t_in 1522 (by decide +kernel)) rfl
theorem wd_1524 : Cond.instanceMethod yX11_word ∈ lw_g := g_in (t_in 1524 (by decide +kernel)) rfl
theorem wd_43 : Cond.selects "WindingSquareModel" yX11_word yX11_word ∈ lw_g := g_in (t_in 43 (by decide +kernel)) rfl
theorem wd_1525 : Cond.code yX11_word cX11_word 5 (some .int) ∈ lw_g := g_in (t_in 1525 (by decide +kernel)) rfl
theorem kv_X11_160 : lkV RX11 160 yX11_word cX11_word 5 (some .int) 0 11 := lkV.of5 wd_1522 wd_1524 wd_43 wd_119 wd_1525 (by decide +kernel) (by decide) ⟨_, _, rfl⟩
theorem kb_110 : (Int8.ofInt 110).toInt32 = (110 : Int32) := by decide +kernel
theorem kb_111 : (Int8.ofInt 111).toInt32 = (111 : Int32) := by decide +kernel
theorem wd_1581 : Cond.methodLink RX11 219 yX11_opensOne ∈ lw_g := g_in (t_in 1581 (by decide +kernel)) rfl
theorem wd_1583 : Cond.instanceMethod yX11_opensOne ∈ lw_g := g_in (t_in 1583 (by decide +kernel)) rfl
theorem wd_54 : Cond.selects "WindingSquareModel" yX11_opensOne yX11_opensOne ∈ lw_g := g_in (t_in 54 (by decide +kernel)) rfl
theorem wd_1584 : Cond.code yX11_opensOne cX11_opensOne 2 none ∈ lw_g := g_in (t_in 1584 (by decide +kernel)) rfl
theorem kv_X11_219 : lkV RX11 219 yX11_opensOne cX11_opensOne 2 none 1 11 := lkV.of5 wd_1581 wd_1583 wd_54 wd_119 wd_1584 (by decide +kernel) (by decide) ⟨_, _, rfl⟩
theorem wd_1585 : Cond.methodLink RX11 188 yX11_sign ∈ lw_g := g_in (t_in 1585 (by decide +kernel)) rfl
theorem wd_1587 : Cond.instanceMethod yX11_sign ∈ lw_g := g_in (t_in 1587 (by decide +kernel)) rfl
theorem wd_55 : Cond.selects "WindingSquareModel" yX11_sign yX11_sign ∈ lw_g := g_in (t_in 55 (by decide +kernel)) rfl
theorem wd_1588 : Cond.code yX11_sign cX11_sign 2 none ∈ lw_g := g_in (t_in 1588 (by decide +kernel)) rfl
theorem kv_X11_188 : lkV RX11 188 yX11_sign cX11_sign 2 none 1 11 := lkV.of5 wd_1585 wd_1587 wd_55 wd_119 wd_1588 (by decide +kernel) (by decide) ⟨_, _, rfl⟩
theorem kb_115 : (Int8.ofInt 115).toInt32 = (115 : Int32) := by decide +kernel
theorem kb_117 : (Int8.ofInt 117).toInt32 = (117 : Int32) := by decide +kernel
theorem kb_120 : (Int8.ofInt 120).toInt32 = (120 : Int32) := by decide +kernel
theorem kb_109 : (Int8.ofInt 109).toInt32 = (109 : Int32) := by decide +kernel
theorem wd_1391 : Cond.fieldLink RX11 35 (TX11 20).1 (TX11 20).2.1 (TX11 20).2.2.1 ∈ lw_g := g_in (t_in 1391 (by decide +kernel)) rfl
theorem kf_X11_35 : lkF RX11 35 11 20 true (tyX11 20) := lkF.of RX11 TX11 40 tyX11 rfl ug_11 tyX11_ok nmX11 rfl (by decide) wd_1391 rfl rfl
theorem rf_257_20 : RF0 257 20 = some 265 := by decide +kernel
theorem th_265 : tA false 10 265 := ⟨by decide +kernel, by decide +kernel⟩
theorem ib_2_10 : inb (2 : Int32) 10 := by decide
theorem ib_3_10 : inb (3 : Int32) 10 := by decide
theorem ib_4_10 : inb (4 : Int32) 10 := by decide
theorem ib_5_10 : inb (5 : Int32) 10 := by decide
theorem wd_1699 : Cond.methodLink RX11 243 yX11_inside ∈ lw_g := g_in (t_in 1699 (by decide +kernel)) rfl
theorem wd_1701 : Cond.instanceMethod yX11_inside ∈ lw_g := g_in (t_in 1701 (by decide +kernel)) rfl
theorem wd_77 : Cond.selects "WindingSquareModel" yX11_inside yX11_inside ∈ lw_g := g_in (t_in 77 (by decide +kernel)) rfl
theorem wd_1702 : Cond.code yX11_inside cX11_inside 3 (some .int) ∈ lw_g := g_in (t_in 1702 (by decide +kernel)) rfl
theorem kv_X11_243 : lkV RX11 243 yX11_inside cX11_inside 3 (some .int) 0 11 := lkV.of5 wd_1699 wd_1701 wd_77 wd_119 wd_1702 (by decide +kernel) (by decide) ⟨_, _, rfl⟩
theorem ib_7_10 : inb (7 : Int32) 10 := by decide
theorem wd_1703 : Cond.methodLink RX11 246 yX11_watchNow ∈ lw_g := g_in (t_in 1703 (by decide +kernel)) rfl
theorem wd_1705 : Cond.instanceMethod yX11_watchNow ∈ lw_g := g_in (t_in 1705 (by decide +kernel)) rfl
theorem wd_78 : Cond.selects "WindingSquareModel" yX11_watchNow yX11_watchNow ∈ lw_g := g_in (t_in 78 (by decide +kernel)) rfl
theorem wd_1706 : Cond.code yX11_watchNow cX11_watchNow 3 (some .int) ∈ lw_g := g_in (t_in 1706 (by decide +kernel)) rfl
theorem kv_X11_246 : lkV RX11 246 yX11_watchNow cX11_watchNow 3 (some .int) 0 11 := lkV.of5 wd_1703 wd_1705 wd_78 wd_119 wd_1706 (by decide +kernel) (by decide) ⟨_, _, rfl⟩
theorem ib_9_10 : inb (9 : Int32) 10 := by decide
theorem wd_1392 : Cond.fieldLink RX11 38 (TX11 21).1 (TX11 21).2.1 (TX11 21).2.2.1 ∈ lw_g := g_in (t_in 1392 (by decide +kernel)) rfl
theorem kf_X11_38 : lkF RX11 38 11 21 true (tyX11 21) := lkF.of RX11 TX11 40 tyX11 rfl ug_11 tyX11_ok nmX11 rfl (by decide) wd_1392 rfl rfl
theorem rf_257_21 : RF0 257 21 = some 266 := by decide +kernel
theorem th_266 : tA false 420 266 := ⟨by decide +kernel, by decide +kernel⟩
theorem wd_1711 : Cond.methodLink RX11 253 yX11_both ∈ lw_g := g_in (t_in 1711 (by decide +kernel)) rfl
theorem wd_1712 : Cond.static yX11_both ∈ lw_g := g_in (t_in 1712 (by decide +kernel)) rfl
theorem wd_1713 : Cond.code yX11_both cX11_both 3 (some .int) ∈ lw_g := g_in (t_in 1713 (by decide +kernel)) rfl
theorem ks_X11_253 : lkS RX11 253 yX11_both cX11_both 3 (some .int) 3 := lkS.of4 wd_1711 wd_1712 wd_119 wd_1713 (by decide +kernel) (by decide)
theorem ib_0_420 : inb (0 : Int32) 420 := by decide
theorem wd_1658 : Cond.methodLink RX11 266 yX11_sets ∈ lw_g := g_in (t_in 1658 (by decide +kernel)) rfl
theorem wd_1660 : Cond.instanceMethod yX11_sets ∈ lw_g := g_in (t_in 1660 (by decide +kernel)) rfl
theorem wd_69 : Cond.selects "WindingSquareModel" yX11_sets yX11_sets ∈ lw_g := g_in (t_in 69 (by decide +kernel)) rfl
theorem wd_1661 : Cond.code yX11_sets cX11_sets 4 none ∈ lw_g := g_in (t_in 1661 (by decide +kernel)) rfl
theorem kv_X11_266 : lkV RX11 266 yX11_sets cX11_sets 4 none 3 11 := lkV.of5 wd_1658 wd_1660 wd_69 wd_119 wd_1661 (by decide +kernel) (by decide) ⟨_, _, rfl⟩
theorem wd_1647 : Cond.methodLink RX11 270 yX11_adds ∈ lw_g := g_in (t_in 1647 (by decide +kernel)) rfl
theorem wd_1649 : Cond.instanceMethod yX11_adds ∈ lw_g := g_in (t_in 1649 (by decide +kernel)) rfl
theorem wd_67 : Cond.selects "WindingSquareModel" yX11_adds yX11_adds ∈ lw_g := g_in (t_in 67 (by decide +kernel)) rfl
theorem wd_1650 : Cond.code yX11_adds cX11_adds 4 none ∈ lw_g := g_in (t_in 1650 (by decide +kernel)) rfl
theorem kv_X11_270 : lkV RX11 270 yX11_adds cX11_adds 4 none 3 11 := lkV.of5 wd_1647 wd_1649 wd_67 wd_119 wd_1650 (by decide +kernel) (by decide) ⟨_, _, rfl⟩
theorem wd_1666 : Cond.methodLink RX11 273 yX11_writes ∈ lw_g := g_in (t_in 1666 (by decide +kernel)) rfl
theorem wd_1668 : Cond.instanceMethod yX11_writes ∈ lw_g := g_in (t_in 1668 (by decide +kernel)) rfl
theorem wd_71 : Cond.selects "WindingSquareModel" yX11_writes yX11_writes ∈ lw_g := g_in (t_in 71 (by decide +kernel)) rfl
theorem wd_1669 : Cond.code yX11_writes cX11_writes 5 none ∈ lw_g := g_in (t_in 1669 (by decide +kernel)) rfl
theorem kv_X11_273 : lkV RX11 273 yX11_writes cX11_writes 5 none 3 11 := lkV.of5 wd_1666 wd_1668 wd_71 wd_119 wd_1669 (by decide +kernel) (by decide) ⟨_, _, rfl⟩
theorem wd_1783 : Cond.methodLink RX11 328 yX11_take ∈ lw_g := g_in (t_in 1783 (by decide +kernel)) rfl
theorem wd_1785 : Cond.instanceMethod yX11_take ∈ lw_g := g_in (t_in 1785 (by decide +kernel)) rfl
theorem wd_88 : Cond.selects "WindingSquareModel" yX11_take yX11_take ∈ lw_g := g_in (t_in 88 (by decide +kernel)) rfl
theorem wd_1786 : Cond.code yX11_take cX11_take 1 none ∈ lw_g := g_in (t_in 1786 (by decide +kernel)) rfl
theorem kv_X11_328 : lkV RX11 328 yX11_take cX11_take 1 none 0 11 := lkV.of5 wd_1783 wd_1785 wd_88 wd_119 wd_1786 (by decide +kernel) (by decide) ⟨_, _, rfl⟩
theorem kh_937 : (Int16.ofInt 937).toInt32 = (937 : Int32) := by decide +kernel
theorem ib_937_2425 : inb (937 : Int32) 2425 := by decide
theorem kh_941 : (Int16.ofInt 941).toInt32 = (941 : Int32) := by decide +kernel
theorem wd_1643 : Cond.methodLink RX11 301 yX11_nextWord ∈ lw_g := g_in (t_in 1643 (by decide +kernel)) rfl
theorem wd_1645 : Cond.instanceMethod yX11_nextWord ∈ lw_g := g_in (t_in 1645 (by decide +kernel)) rfl
theorem wd_66 : Cond.selects "WindingSquareModel" yX11_nextWord yX11_nextWord ∈ lw_g := g_in (t_in 66 (by decide +kernel)) rfl
theorem wd_1646 : Cond.code yX11_nextWord cX11_nextWord 5 (some .int) ∈ lw_g := g_in (t_in 1646 (by decide +kernel)) rfl
theorem kv_X11_301 : lkV RX11 301 yX11_nextWord cX11_nextWord 5 (some .int) 1 11 := lkV.of5 wd_1643 wd_1645 wd_66 wd_119 wd_1646 (by decide +kernel) (by decide) ⟨_, _, rfl⟩
theorem wd_1680 : Cond.methodLink RX11 291 yX11_isIn ∈ lw_g := g_in (t_in 1680 (by decide +kernel)) rfl
theorem wd_1681 : Cond.static yX11_isIn ∈ lw_g := g_in (t_in 1681 (by decide +kernel)) rfl
theorem wd_1682 : Cond.code yX11_isIn cX11_isIn 2 (some .boolean) ∈ lw_g := g_in (t_in 1682 (by decide +kernel)) rfl
theorem ks_X11_291 : lkS RX11 291 yX11_isIn cX11_isIn 2 (some .boolean) 2 := lkS.of4 wd_1680 wd_1681 wd_119 wd_1682 (by decide +kernel) (by decide)
theorem wd_1859 : Cond.methodLink RX11 365 yX11_sees ∈ lw_g := g_in (t_in 1859 (by decide +kernel)) rfl
theorem wd_1861 : Cond.instanceMethod yX11_sees ∈ lw_g := g_in (t_in 1861 (by decide +kernel)) rfl
theorem wd_97 : Cond.selects "WindingSquareModel" yX11_sees yX11_sees ∈ lw_g := g_in (t_in 97 (by decide +kernel)) rfl
theorem wd_1862 : Cond.code yX11_sees cX11_sees 11 (some .boolean) ∈ lw_g := g_in (t_in 1862 (by decide +kernel)) rfl
theorem kv_X11_365 : lkV RX11 365 yX11_sees cX11_sees 11 (some .boolean) 2 11 := lkV.of5 wd_1859 wd_1861 wd_97 wd_119 wd_1862 (by decide +kernel) (by decide) ⟨_, _, rfl⟩
theorem kh_2370 : (Int16.ofInt 2370).toInt32 = (2370 : Int32) := by decide +kernel
theorem ib_2370_2425 : inb (2370 : Int32) 2425 := by decide
theorem wd_1877 : Cond.methodLink RX11 371 yX11_areAlike ∈ lw_g := g_in (t_in 1877 (by decide +kernel)) rfl
theorem wd_1879 : Cond.instanceMethod yX11_areAlike ∈ lw_g := g_in (t_in 1879 (by decide +kernel)) rfl
theorem wd_98 : Cond.selects "WindingSquareModel" yX11_areAlike yX11_areAlike ∈ lw_g := g_in (t_in 98 (by decide +kernel)) rfl
theorem wd_1880 : Cond.code yX11_areAlike cX11_areAlike 4 (some .boolean) ∈ lw_g := g_in (t_in 1880 (by decide +kernel)) rfl
theorem kv_X11_371 : lkV RX11 371 yX11_areAlike cX11_areAlike 4 (some .boolean) 2 11 := lkV.of5 wd_1877 wd_1879 wd_98 wd_119 wd_1880 (by decide +kernel) (by decide) ⟨_, _, rfl⟩
theorem wd_1893 : Cond.methodLink RX11 383 yX11_goesRound ∈ lw_g := g_in (t_in 1893 (by decide +kernel)) rfl
theorem wd_1895 : Cond.instanceMethod yX11_goesRound ∈ lw_g := g_in (t_in 1895 (by decide +kernel)) rfl
theorem wd_100 : Cond.selects "WindingSquareModel" yX11_goesRound yX11_goesRound ∈ lw_g := g_in (t_in 100 (by decide +kernel)) rfl
theorem wd_1896 : Cond.code yX11_goesRound cX11_goesRound 4 none ∈ lw_g := g_in (t_in 1896 (by decide +kernel)) rfl
theorem kv_X11_383 : lkV RX11 383 yX11_goesRound cX11_goesRound 4 none 0 11 := lkV.of5 wd_1893 wd_1895 wd_100 wd_119 wd_1896 (by decide +kernel) (by decide) ⟨_, _, rfl⟩
theorem wd_1897 : Cond.methodLink RX11 386 yX11_again ∈ lw_g := g_in (t_in 1897 (by decide +kernel)) rfl
theorem wd_1899 : Cond.instanceMethod yX11_again ∈ lw_g := g_in (t_in 1899 (by decide +kernel)) rfl
theorem wd_101 : Cond.selects "WindingSquareModel" yX11_again yX11_again ∈ lw_g := g_in (t_in 101 (by decide +kernel)) rfl
theorem wd_1900 : Cond.code yX11_again cX11_again 5 (some .int) ∈ lw_g := g_in (t_in 1900 (by decide +kernel)) rfl
theorem kv_X11_386 : lkV RX11 386 yX11_again cX11_again 5 (some .int) 0 11 := lkV.of5 wd_1897 wd_1899 wd_101 wd_119 wd_1900 (by decide +kernel) (by decide) ⟨_, _, rfl⟩
theorem wd_1408 : Cond.fieldLink RX11 77 (TX11 37).1 (TX11 37).2.1 (TX11 37).2.2.1 ∈ lw_g := g_in (t_in 1408 (by decide +kernel)) rfl
theorem kf_X11_77 : lkF RX11 77 11 37 true (tyX11 37) := lkF.of RX11 TX11 40 tyX11 rfl ug_11 tyX11_ok nmX11 rfl (by decide) wd_1408 rfl rfl
theorem rf_257_37 : RF0 257 37 = some 279 := by decide +kernel
theorem th_279 : tA false 144 279 := ⟨by decide +kernel, by decide +kernel⟩
theorem wd_1956 : Cond.methodLink RX11 408 yX11_layValues ∈ lw_g := g_in (t_in 1956 (by decide +kernel)) rfl
theorem wd_1958 : Cond.instanceMethod yX11_layValues ∈ lw_g := g_in (t_in 1958 (by decide +kernel)) rfl
theorem wd_106 : Cond.selects "WindingSquareModel" yX11_layValues yX11_layValues ∈ lw_g := g_in (t_in 106 (by decide +kernel)) rfl
theorem wd_1959 : Cond.code yX11_layValues cX11_layValues 7 none ∈ lw_g := g_in (t_in 1959 (by decide +kernel)) rfl
theorem kv_X11_408 : lkV RX11 408 yX11_layValues cX11_layValues 7 none 1 11 := lkV.of5 wd_1956 wd_1958 wd_106 wd_119 wd_1959 (by decide +kernel) (by decide) ⟨_, _, rfl⟩
theorem wd_420 : Cond.fieldLink RX1 11 (TX1 5).1 (TX1 5).2.1 (TX1 5).2.2.1 ∈ lw_g := g_in (t_in 420 (by decide +kernel)) rfl
theorem kf_X1_11 : lkF RX1 11 1 5 true (tyX1 5) := lkF.of RX1 TX1 8 tyX1 rfl ug_1 tyX1_ok nmX1 rfl (by decide) wd_420 rfl rfl
theorem rf_83_5 : RF0 83 5 = some 84 := by decide +kernel
theorem th_84 : tA true 10 84 := ⟨by decide +kernel, by decide +kernel⟩
theorem wd_675 : Cond.methodLink RX1 80 yJ7_fill_53178 ∈ lw_g := g_in (t_in 675 (by decide +kernel)) rfl
theorem ks_X1_80 : lkS RX1 80 yJ7_fill_53178 cJ7_fill_53178 4 none 2 := lkS.of4 wd_675 wd_676 wd_121 wd_677 (by decide +kernel) (by decide)
theorem wd_151 : Cond.fieldLink RX1 86 (TX9 0).1 (TX9 0).2.1 (TX9 0).2.2.1 ∈ lw_g := g_in (t_in 151 (by decide +kernel)) rfl
theorem kf_X1_86 : lkF RX1 86 9 0 false .int := lkF.of RX9 TX9 13 tyX9 rfl ug_9 tyX9_ok nmX9 rfl (by decide) wd_151 rfl rfl
theorem wd_678 : Cond.methodLink RX1 98 yX7_sum ∈ lw_g := g_in (t_in 678 (by decide +kernel)) rfl
theorem wd_679 : Cond.instanceMethod yX7_sum ∈ lw_g := g_in (t_in 679 (by decide +kernel)) rfl
theorem wd_680 : Cond.selects "WindingSquare$Square" yX7_sum yX7_sum ∈ lw_g := g_in (t_in 680 (by decide +kernel)) rfl
theorem wd_681 : Cond.code yX7_sum cX7_sum 4 (some .int) ∈ lw_g := g_in (t_in 681 (by decide +kernel)) rfl
theorem kv_X1_98 : lkV RX1 98 yX7_sum cX7_sum 4 (some .int) 1 7 := lkV.of5 wd_678 wd_679 wd_680 wd_109 wd_681 (by decide +kernel) (by decide) ⟨_, _, rfl⟩
theorem wd_228 : Cond.fieldLink RX1 55 (TX7 3).1 (TX7 3).2.1 (TX7 3).2.2.1 ∈ lw_g := g_in (t_in 228 (by decide +kernel)) rfl
theorem kf_X1_55 : lkF RX1 55 7 3 false .int := lkF.of RX7 TX7 7 tyX7 rfl ug_7 tyX7_ok nmX7 rfl (by decide) wd_228 rfl rfl
theorem wd_692 : Cond.methodLink RX1 102 yX8_watchAt ∈ lw_g := g_in (t_in 692 (by decide +kernel)) rfl
theorem wd_693 : Cond.instanceMethod yX8_watchAt ∈ lw_g := g_in (t_in 693 (by decide +kernel)) rfl
theorem wd_694 : Cond.selects "WindingSquare$Texts" yX8_watchAt yX8_watchAt ∈ lw_g := g_in (t_in 694 (by decide +kernel)) rfl
theorem wd_695 : Cond.code yX8_watchAt cX8_watchAt 3 (some .int) ∈ lw_g := g_in (t_in 695 (by decide +kernel)) rfl
theorem kv_X1_102 : lkV RX1 102 yX8_watchAt cX8_watchAt 3 (some .int) 1 8 := lkV.of5 wd_692 wd_693 wd_694 wd_111 wd_695 (by decide +kernel) (by decide) ⟨_, _, rfl⟩
theorem wd_290 : Cond.fieldLink RX1 107 (TX8 0).1 (TX8 0).2.1 (TX8 0).2.2.1 ∈ lw_g := g_in (t_in 290 (by decide +kernel)) rfl
theorem kf_X1_107 : lkF RX1 107 8 0 true (tyX8 0) := lkF.of RX8 TX8 8 tyX8 rfl ug_8 tyX8_ok nmX8 rfl (by decide) wd_290 rfl rfl
theorem rf_40_0 : RF0 40 0 = some 41 := by decide +kernel
theorem th_41 : tO true 3 41 := ⟨by decide +kernel, by decide +kernel⟩
theorem wd_696 : Cond.methodLink RX1 111 yX3_tells ∈ lw_g := g_in (t_in 696 (by decide +kernel)) rfl
theorem wd_697 : Cond.instanceMethod yX3_tells ∈ lw_g := g_in (t_in 697 (by decide +kernel)) rfl
theorem wd_698 : Cond.selects "WindingSquare$Law" yX3_tells yX3_tells ∈ lw_g := g_in (t_in 698 (by decide +kernel)) rfl
theorem wd_699 : Cond.code yX3_tells cX3_tells 6 (some .int) ∈ lw_g := g_in (t_in 699 (by decide +kernel)) rfl
theorem kv_X1_111 : lkV RX1 111 yX3_tells cX3_tells 6 (some .int) 2 3 := lkV.of5 wd_696 wd_697 wd_698 wd_112 wd_699 (by decide +kernel) (by decide) ⟨_, _, rfl⟩
theorem wd_158 : Cond.fieldLink RX1 89 (TX9 2).1 (TX9 2).2.1 (TX9 2).2.2.1 ∈ lw_g := g_in (t_in 158 (by decide +kernel)) rfl
theorem kf_X1_89 : lkF RX1 89 9 2 false .int := lkF.of RX9 TX9 13 tyX9 rfl ug_9 tyX9_ok nmX9 rfl (by decide) wd_158 rfl rfl
theorem wd_161 : Cond.fieldLink RX1 92 (TX9 3).1 (TX9 3).2.1 (TX9 3).2.2.1 ∈ lw_g := g_in (t_in 161 (by decide +kernel)) rfl
theorem kf_X1_92 : lkF RX1 92 9 3 false .int := lkF.of RX9 TX9 13 tyX9 rfl ug_9 tyX9_ok nmX9 rfl (by decide) wd_161 rfl rfl
theorem wd_164 : Cond.fieldLink RX1 95 (TX9 4).1 (TX9 4).2.1 (TX9 4).2.2.1 ∈ lw_g := g_in (t_in 164 (by decide +kernel)) rfl
theorem kf_X1_95 : lkF RX1 95 9 4 false .int := lkF.of RX9 TX9 13 tyX9 rfl ug_9 tyX9_ok nmX9 rfl (by decide) wd_164 rfl rfl
theorem wd_421 : Cond.fieldLink RX1 18 (TX1 6).1 (TX1 6).2.1 (TX1 6).2.2.1 ∈ lw_g := g_in (t_in 421 (by decide +kernel)) rfl
theorem kf_X1_18 : lkF RX1 18 1 6 true (tyX1 6) := lkF.of RX1 TX1 8 tyX1 rfl ug_1 tyX1_ok nmX1 rfl (by decide) wd_421 rfl rfl
theorem rf_83_6 : RF0 83 6 = some 85 := by decide +kernel
theorem th_85 : tO true 9 85 := ⟨by decide +kernel, by decide +kernel⟩
theorem wd_1285 : Cond.methodLink RX1 117 yX9_copyFrom ∈ lw_g := g_in (t_in 1285 (by decide +kernel)) rfl
theorem kv_X1_117 : lkV RX1 117 yX9_copyFrom cX9_copyFrom 2 none 1 9 := lkV.of5 wd_1285 wd_602 wd_603 wd_110 wd_604 (by decide +kernel) (by decide) ⟨_, _, rfl⟩
theorem wd_422 : Cond.fieldLink RX1 22 (TX1 7).1 (TX1 7).2.1 (TX1 7).2.2.1 ∈ lw_g := g_in (t_in 422 (by decide +kernel)) rfl
theorem kf_X1_22 : lkF RX1 22 1 7 true (tyX1 7) := lkF.of RX1 TX1 8 tyX1 rfl ug_1 tyX1_ok nmX1 rfl (by decide) wd_422 rfl rfl
theorem rf_83_7 : RF0 83 7 = some 86 := by decide +kernel
theorem th_86 : tO true 9 86 := ⟨by decide +kernel, by decide +kernel⟩
theorem wd_1286 : Cond.methodLink RX1 121 yX1_actAlone ∈ lw_g := g_in (t_in 1286 (by decide +kernel)) rfl
theorem wd_1288 : Cond.instanceMethod yX1_actAlone ∈ lw_g := g_in (t_in 1288 (by decide +kernel)) rfl
theorem wd_37 : Cond.selects "WindingSquare$Day" yX1_actAlone yX1_actAlone ∈ lw_g := g_in (t_in 37 (by decide +kernel)) rfl
theorem wd_116 : Cond.initialized "WindingSquare$Day" ∈ lw_g := g_in (t_in 116 (by decide +kernel)) rfl
theorem wd_1289 : Cond.code yX1_actAlone cX1_actAlone 5 none ∈ lw_g := g_in (t_in 1289 (by decide +kernel)) rfl
theorem kv_X1_121 : lkV RX1 121 yX1_actAlone cX1_actAlone 5 none 2 1 := lkV.of5 wd_1286 wd_1288 wd_37 wd_116 wd_1289 (by decide +kernel) (by decide) ⟨_, _, rfl⟩
theorem wd_1048 : Cond.methodLink RX2 46 yX2_neighbour ∈ lw_g := g_in (t_in 1048 (by decide +kernel)) rfl
theorem wd_1050 : Cond.instanceMethod yX2_neighbour ∈ lw_g := g_in (t_in 1050 (by decide +kernel)) rfl
theorem wd_23 : Cond.selects "WindingSquare$Grid" yX2_neighbour yX2_neighbour ∈ lw_g := g_in (t_in 23 (by decide +kernel)) rfl
theorem wd_1051 : Cond.code yX2_neighbour cX2_neighbour 6 (some .int) ∈ lw_g := g_in (t_in 1051 (by decide +kernel)) rfl
theorem kv_X2_46 : lkV RX2 46 yX2_neighbour cX2_neighbour 6 (some .int) 2 2 := lkV.of5 wd_1048 wd_1050 wd_23 wd_117 wd_1051 (by decide +kernel) (by decide) ⟨_, _, rfl⟩
theorem wd_1082 : Cond.methodLink RX2 62 yX2_turnEverywhere ∈ lw_g := g_in (t_in 1082 (by decide +kernel)) rfl
theorem wd_1084 : Cond.instanceMethod yX2_turnEverywhere ∈ lw_g := g_in (t_in 1084 (by decide +kernel)) rfl
theorem wd_27 : Cond.selects "WindingSquare$Grid" yX2_turnEverywhere yX2_turnEverywhere ∈ lw_g := g_in (t_in 27 (by decide +kernel)) rfl
theorem wd_1085 : Cond.code yX2_turnEverywhere cX2_turnEverywhere 3 none ∈ lw_g := g_in (t_in 1085 (by decide +kernel)) rfl
theorem kv_X2_62 : lkV RX2 62 yX2_turnEverywhere cX2_turnEverywhere 3 none 1 2 := lkV.of5 wd_1082 wd_1084 wd_27 wd_117 wd_1085 (by decide +kernel) (by decide) ⟨_, _, rfl⟩
theorem wd_1094 : Cond.methodLink RX2 66 yX2_stepOn ∈ lw_g := g_in (t_in 1094 (by decide +kernel)) rfl
theorem wd_1096 : Cond.instanceMethod yX2_stepOn ∈ lw_g := g_in (t_in 1096 (by decide +kernel)) rfl
theorem wd_29 : Cond.selects "WindingSquare$Grid" yX2_stepOn yX2_stepOn ∈ lw_g := g_in (t_in 29 (by decide +kernel)) rfl
theorem wd_1097 : Cond.code yX2_stepOn cX2_stepOn 4 none ∈ lw_g := g_in (t_in 1097 (by decide +kernel)) rfl
theorem kv_X2_66 : lkV RX2 66 yX2_stepOn cX2_stepOn 4 none 1 2 := lkV.of5 wd_1094 wd_1096 wd_29 wd_117 wd_1097 (by decide +kernel) (by decide) ⟨_, _, rfl⟩
theorem wd_1299 : Cond.methodLink RX2 88 yX2_flockFrom ∈ lw_g := g_in (t_in 1299 (by decide +kernel)) rfl
theorem wd_1301 : Cond.instanceMethod yX2_flockFrom ∈ lw_g := g_in (t_in 1301 (by decide +kernel)) rfl
theorem wd_38 : Cond.selects "WindingSquare$Grid" yX2_flockFrom yX2_flockFrom ∈ lw_g := g_in (t_in 38 (by decide +kernel)) rfl
theorem wd_1302 : Cond.code yX2_flockFrom cX2_flockFrom 6 (some .int) ∈ lw_g := g_in (t_in 1302 (by decide +kernel)) rfl
theorem kv_X2_88 : lkV RX2 88 yX2_flockFrom cX2_flockFrom 6 (some .int) 1 2 := lkV.of5 wd_1299 wd_1301 wd_38 wd_117 wd_1302 (by decide +kernel) (by decide) ⟨_, _, rfl⟩
theorem wd_448 : Cond.fieldLink RX2 15 (TX2 2).1 (TX2 2).2.1 (TX2 2).2.2.1 ∈ lw_g := g_in (t_in 448 (by decide +kernel)) rfl
theorem kf_X2_15 : lkF RX2 15 2 2 true (tyX2 2) := lkF.of RX2 TX2 8 tyX2 rfl ug_2 tyX2_ok nmX2 rfl (by decide) wd_448 rfl rfl
theorem rf_87_2 : RF0 87 2 = some 89 := by decide +kernel
theorem th_89 : tA true 576 89 := ⟨by decide +kernel, by decide +kernel⟩
theorem kac_X2_103 : Cond.methodLink RX2 103 arraycopyName ∈ lw_g := g_in (t_in 1073 (by decide +kernel)) rfl
theorem wd_902 : Cond.methodLink RX3 92 yX3_readUnit ∈ lw_g := g_in (t_in 902 (by decide +kernel)) rfl
theorem wd_904 : Cond.instanceMethod yX3_readUnit ∈ lw_g := g_in (t_in 904 (by decide +kernel)) rfl
theorem wd_12 : Cond.selects "WindingSquare$Law" yX3_readUnit yX3_readUnit ∈ lw_g := g_in (t_in 12 (by decide +kernel)) rfl
theorem wd_905 : Cond.code yX3_readUnit cX3_readUnit 5 (some .boolean) ∈ lw_g := g_in (t_in 905 (by decide +kernel)) rfl
theorem kv_X3_92 : lkV RX3 92 yX3_readUnit cX3_readUnit 5 (some .boolean) 2 3 := lkV.of5 wd_902 wd_904 wd_12 wd_112 wd_905 (by decide +kernel) (by decide) ⟨_, _, rfl⟩
theorem kb_42 : (Int8.ofInt 42).toInt32 = (42 : Int32) := by decide +kernel
theorem kb_43 : (Int8.ofInt 43).toInt32 = (43 : Int32) := by decide +kernel
theorem kb_47 : (Int8.ofInt 47).toInt32 = (47 : Int32) := by decide +kernel
theorem kb_45 : (Int8.ofInt 45).toInt32 = (45 : Int32) := by decide +kernel
theorem wd_478 : Cond.fieldLink RX4 15 (TX4 1).1 (TX4 1).2.1 (TX4 1).2.2.1 ∈ lw_g := g_in (t_in 478 (by decide +kernel)) rfl
theorem kf_X4_15 : lkF RX4 15 4 1 true (tyX4 1) := lkF.of RX4 TX4 5 tyX4 rfl ug_4 tyX4_ok nmX4 rfl (by decide) wd_478 rfl rfl
theorem rf_95_1 : RF0 95 1 = some 97 := by decide +kernel
theorem th_97 : tA true 6561 97 := ⟨by decide +kernel, by decide +kernel⟩
theorem ib_0_6561 : inb (0 : Int32) 6561 := by decide
theorem wd_1215 : Cond.methodLink RX4 34 yX4_leap ∈ lw_g := g_in (t_in 1215 (by decide +kernel)) rfl
theorem wd_1216 : Cond.static yX4_leap ∈ lw_g := g_in (t_in 1216 (by decide +kernel)) rfl
theorem wd_1217 : Cond.code yX4_leap cX4_leap 6 (some .int) ∈ lw_g := g_in (t_in 1217 (by decide +kernel)) rfl
theorem ks_X4_34 : lkS RX4 34 yX4_leap cX4_leap 6 (some .int) 4 := lkS.of4 wd_1215 wd_1216 wd_118 wd_1217 (by decide +kernel) (by decide)
theorem kh_6561 : (Int16.ofInt 6561).toInt32 = (6561 : Int32) := by decide +kernel
theorem wd_955 : Cond.methodLink RX8 40 yJ7_fill_53178 ∈ lw_g := g_in (t_in 955 (by decide +kernel)) rfl
theorem ks_X8_40 : lkS RX8 40 yJ7_fill_53178 cJ7_fill_53178 4 none 2 := lkS.of4 wd_955 wd_676 wd_121 wd_677 (by decide +kernel) (by decide)
theorem kh_149 : (Int16.ofInt 149).toInt32 = (149 : Int32) := by decide +kernel
theorem wd_978 : Cond.methodLink RX8 75 yX8_readWay ∈ lw_g := g_in (t_in 978 (by decide +kernel)) rfl
theorem wd_980 : Cond.instanceMethod yX8_readWay ∈ lw_g := g_in (t_in 980 (by decide +kernel)) rfl
theorem wd_19 : Cond.selects "WindingSquare$Texts" yX8_readWay yX8_readWay ∈ lw_g := g_in (t_in 19 (by decide +kernel)) rfl
theorem wd_981 : Cond.code yX8_readWay cX8_readWay 6 (some .boolean) ∈ lw_g := g_in (t_in 981 (by decide +kernel)) rfl
theorem kv_X8_75 : lkV RX8 75 yX8_readWay cX8_readWay 6 (some .boolean) 2 8 := lkV.of5 wd_978 wd_980 wd_19 wd_111 wd_981 (by decide +kernel) (by decide) ⟨_, _, rfl⟩
theorem kh_155 : (Int16.ofInt 155).toInt32 = (155 : Int32) := by decide +kernel
theorem kh_999 : (Int16.ofInt 999).toInt32 = (999 : Int32) := by decide +kernel
theorem wd_986 : Cond.methodLink RX8 78 yX8_readWatchers ∈ lw_g := g_in (t_in 986 (by decide +kernel)) rfl
theorem wd_988 : Cond.instanceMethod yX8_readWatchers ∈ lw_g := g_in (t_in 988 (by decide +kernel)) rfl
theorem wd_20 : Cond.selects "WindingSquare$Texts" yX8_readWatchers yX8_readWatchers ∈ lw_g := g_in (t_in 20 (by decide +kernel)) rfl
theorem wd_989 : Cond.code yX8_readWatchers cX8_readWatchers 2 (some .int) ∈ lw_g := g_in (t_in 989 (by decide +kernel)) rfl
theorem kv_X8_78 : lkV RX8 78 yX8_readWatchers cX8_readWatchers 2 (some .int) 1 8 := lkV.of5 wd_986 wd_988 wd_20 wd_111 wd_989 (by decide +kernel) (by decide) ⟨_, _, rfl⟩
theorem wd_289 : Cond.fieldLink RX8 12 (TX8 0).1 (TX8 0).2.1 (TX8 0).2.2.1 ∈ lw_g := g_in (t_in 289 (by decide +kernel)) rfl
theorem kf_X8_12 : lkF RX8 12 8 0 true (tyX8 0) := lkF.of RX8 TX8 8 tyX8 rfl ug_8 tyX8_ok nmX8 rfl (by decide) wd_289 rfl rfl
theorem wd_936 : Cond.methodLink RX8 91 yX3_copyFrom ∈ lw_g := g_in (t_in 936 (by decide +kernel)) rfl
theorem wd_937 : Cond.instanceMethod yX3_copyFrom ∈ lw_g := g_in (t_in 937 (by decide +kernel)) rfl
theorem wd_938 : Cond.selects "WindingSquare$Law" yX3_copyFrom yX3_copyFrom ∈ lw_g := g_in (t_in 938 (by decide +kernel)) rfl
theorem wd_939 : Cond.code yX3_copyFrom cX3_copyFrom 2 none ∈ lw_g := g_in (t_in 939 (by decide +kernel)) rfl
theorem kv_X8_91 : lkV RX8 91 yX3_copyFrom cX3_copyFrom 2 none 1 3 := lkV.of5 wd_936 wd_937 wd_938 wd_112 wd_939 (by decide +kernel) (by decide) ⟨_, _, rfl⟩
theorem wd_294 : Cond.fieldLink RX8 22 (TX8 2).1 (TX8 2).2.1 (TX8 2).2.2.1 ∈ lw_g := g_in (t_in 294 (by decide +kernel)) rfl
theorem kf_X8_22 : lkF RX8 22 8 2 true (tyX8 2) := lkF.of RX8 TX8 8 tyX8 rfl ug_8 tyX8_ok nmX8 rfl (by decide) wd_294 rfl rfl
theorem kac_X8_95 : Cond.methodLink RX8 95 arraycopyName ∈ lw_g := g_in (t_in 941 (by decide +kernel)) rfl
theorem kh_192 : (Int16.ofInt 192).toInt32 = (192 : Int32) := by decide +kernel
theorem wd_966 : Cond.methodLink RX8 105 yX8_readPlace ∈ lw_g := g_in (t_in 966 (by decide +kernel)) rfl
theorem wd_968 : Cond.instanceMethod yX8_readPlace ∈ lw_g := g_in (t_in 968 (by decide +kernel)) rfl
theorem wd_18 : Cond.selects "WindingSquare$Texts" yX8_readPlace yX8_readPlace ∈ lw_g := g_in (t_in 18 (by decide +kernel)) rfl
theorem wd_969 : Cond.code yX8_readPlace cX8_readPlace 4 (some .int) ∈ lw_g := g_in (t_in 969 (by decide +kernel)) rfl
theorem kv_X8_105 : lkV RX8 105 yX8_readPlace cX8_readPlace 4 (some .int) 1 8 := lkV.of5 wd_966 wd_968 wd_18 wd_111 wd_969 (by decide +kernel) (by decide) ⟨_, _, rfl⟩
theorem kh_148 : (Int16.ofInt 148).toInt32 = (148 : Int32) := by decide +kernel
theorem wd_971 : Cond.methodLink RX8 108 yJ9_min_7cf53 ∈ lw_g := g_in (t_in 971 (by decide +kernel)) rfl
theorem ks_X8_108 : lkS RX8 108 yJ9_min_7cf53 cJ9_min_7cf53 2 (some .int) 2 := lkS.of4 wd_971 wd_711 wd_123 wd_712 (by decide +kernel) (by decide)
theorem wd_972 : Cond.methodLink RX8 113 yJ9_max_7cf53 ∈ lw_g := g_in (t_in 972 (by decide +kernel)) rfl
theorem ks_X8_113 : lkS RX8 113 yJ9_max_7cf53 cJ9_max_7cf53 2 (some .int) 2 := lkS.of4 wd_972 wd_714 wd_123 wd_715 (by decide +kernel) (by decide)
theorem wd_1102 : Cond.methodLink RX10 248 yX10_isCell ∈ lw_g := g_in (t_in 1102 (by decide +kernel)) rfl
theorem ks_X10_248 : lkS RX10 248 yX10_isCell cX10_isCell 1 (some .boolean) 1 := lkS.of4 wd_1102 wd_1041 wd_108 wd_1042 (by decide +kernel) (by decide)
theorem wd_504 : Cond.fieldLink RX10 72 (TX10 11).1 (TX10 11).2.1 (TX10 11).2.2.1 ∈ lw_g := g_in (t_in 504 (by decide +kernel)) rfl
theorem kf_X10_72 : lkF RX10 72 10 11 true (tyX10 11) := lkF.of RX10 TX10 18 tyX10 rfl ug_10 tyX10_ok nmX10 rfl (by decide) wd_504 rfl rfl
theorem rf_0_11 : RF0 0 11 = some 87 := by decide +kernel
theorem wd_1103 : Cond.methodLink RX10 251 yX2_sees ∈ lw_g := g_in (t_in 1103 (by decide +kernel)) rfl
theorem wd_1104 : Cond.instanceMethod yX2_sees ∈ lw_g := g_in (t_in 1104 (by decide +kernel)) rfl
theorem wd_1105 : Cond.selects "WindingSquare$Grid" yX2_sees yX2_sees ∈ lw_g := g_in (t_in 1105 (by decide +kernel)) rfl
theorem wd_1106 : Cond.code yX2_sees cX2_sees 9 (some .boolean) ∈ lw_g := g_in (t_in 1106 (by decide +kernel)) rfl
theorem kv_X10_251 : lkV RX10 251 yX2_sees cX2_sees 9 (some .boolean) 2 2 := lkV.of5 wd_1103 wd_1104 wd_1105 wd_117 wd_1106 (by decide +kernel) (by decide) ⟨_, _, rfl⟩
theorem wd_1129 : Cond.methodLink RX10 258 yX6_alike ∈ lw_g := g_in (t_in 1129 (by decide +kernel)) rfl
theorem wd_1130 : Cond.instanceMethod yX6_alike ∈ lw_g := g_in (t_in 1130 (by decide +kernel)) rfl
theorem wd_1131 : Cond.selects "WindingSquare$Rows" yX6_alike yX6_alike ∈ lw_g := g_in (t_in 1131 (by decide +kernel)) rfl
theorem wd_1132 : Cond.code yX6_alike cX6_alike 1 (some .boolean) ∈ lw_g := g_in (t_in 1132 (by decide +kernel)) rfl
theorem kv_X10_258 : lkV RX10 258 yX6_alike cX6_alike 1 (some .boolean) 0 6 := lkV.of5 wd_1129 wd_1130 wd_1131 wd_114 wd_1132 (by decide +kernel) (by decide) ⟨_, _, rfl⟩
theorem wd_1141 : Cond.methodLink RX10 262 yX6_unlikeRows ∈ lw_g := g_in (t_in 1141 (by decide +kernel)) rfl
theorem wd_1142 : Cond.instanceMethod yX6_unlikeRows ∈ lw_g := g_in (t_in 1142 (by decide +kernel)) rfl
theorem wd_1143 : Cond.selects "WindingSquare$Rows" yX6_unlikeRows yX6_unlikeRows ∈ lw_g := g_in (t_in 1143 (by decide +kernel)) rfl
theorem wd_1144 : Cond.code yX6_unlikeRows cX6_unlikeRows 2 (some .int) ∈ lw_g := g_in (t_in 1144 (by decide +kernel)) rfl
theorem kv_X10_262 : lkV RX10 262 yX6_unlikeRows cX6_unlikeRows 2 (some .int) 0 6 := lkV.of5 wd_1141 wd_1142 wd_1143 wd_114 wd_1144 (by decide +kernel) (by decide) ⟨_, _, rfl⟩
theorem wd_1222 : Cond.methodLink RX10 299 yX4_antLeaves ∈ lw_g := g_in (t_in 1222 (by decide +kernel)) rfl
theorem wd_1223 : Cond.instanceMethod yX4_antLeaves ∈ lw_g := g_in (t_in 1223 (by decide +kernel)) rfl
theorem wd_1224 : Cond.selects "WindingSquare$Plane" yX4_antLeaves yX4_antLeaves ∈ lw_g := g_in (t_in 1224 (by decide +kernel)) rfl
theorem wd_1225 : Cond.code yX4_antLeaves cX4_antLeaves 11 (some .int) ∈ lw_g := g_in (t_in 1225 (by decide +kernel)) rfl
theorem kv_X10_299 : lkV RX10 299 yX4_antLeaves cX4_antLeaves 11 (some .int) 2 4 := lkV.of5 wd_1222 wd_1223 wd_1224 wd_118 wd_1225 (by decide +kernel) (by decide) ⟨_, _, rfl⟩
theorem wd_1247 : Cond.methodLink RX10 308 yX2_fewestToPart ∈ lw_g := g_in (t_in 1247 (by decide +kernel)) rfl
theorem wd_1248 : Cond.instanceMethod yX2_fewestToPart ∈ lw_g := g_in (t_in 1248 (by decide +kernel)) rfl
theorem wd_1249 : Cond.selects "WindingSquare$Grid" yX2_fewestToPart yX2_fewestToPart ∈ lw_g := g_in (t_in 1249 (by decide +kernel)) rfl
theorem wd_1250 : Cond.code yX2_fewestToPart cX2_fewestToPart 5 (some .int) ∈ lw_g := g_in (t_in 1250 (by decide +kernel)) rfl
theorem kv_X10_308 : lkV RX10 308 yX2_fewestToPart cX2_fewestToPart 5 (some .int) 0 2 := lkV.of5 wd_1247 wd_1248 wd_1249 wd_117 wd_1250 (by decide +kernel) (by decide) ⟨_, _, rfl⟩
theorem wd_1267 : Cond.methodLink RX10 314 yX6_sideways ∈ lw_g := g_in (t_in 1267 (by decide +kernel)) rfl
theorem wd_1268 : Cond.instanceMethod yX6_sideways ∈ lw_g := g_in (t_in 1268 (by decide +kernel)) rfl
theorem wd_1269 : Cond.selects "WindingSquare$Rows" yX6_sideways yX6_sideways ∈ lw_g := g_in (t_in 1269 (by decide +kernel)) rfl
theorem wd_1270 : Cond.code yX6_sideways cX6_sideways 5 (some .int) ∈ lw_g := g_in (t_in 1270 (by decide +kernel)) rfl
theorem kv_X10_314 : lkV RX10 314 yX6_sideways cX6_sideways 5 (some .int) 0 6 := lkV.of5 wd_1267 wd_1268 wd_1269 wd_114 wd_1270 (by decide +kernel) (by decide) ⟨_, _, rfl⟩
theorem wd_1311 : Cond.methodLink RX10 327 yX4_value ∈ lw_g := g_in (t_in 1311 (by decide +kernel)) rfl
theorem wd_1312 : Cond.instanceMethod yX4_value ∈ lw_g := g_in (t_in 1312 (by decide +kernel)) rfl
theorem wd_1313 : Cond.selects "WindingSquare$Plane" yX4_value yX4_value ∈ lw_g := g_in (t_in 1313 (by decide +kernel)) rfl
theorem wd_1314 : Cond.code yX4_value cX4_value 3 (some .int) ∈ lw_g := g_in (t_in 1314 (by decide +kernel)) rfl
theorem kv_X10_327 : lkV RX10 327 yX4_value cX4_value 3 (some .int) 2 4 := lkV.of5 wd_1311 wd_1312 wd_1313 wd_118 wd_1314 (by decide +kernel) (by decide) ⟨_, _, rfl⟩
theorem wd_1329 : Cond.methodLink RX10 330 yX4_wellGone ∈ lw_g := g_in (t_in 1329 (by decide +kernel)) rfl
theorem wd_1330 : Cond.instanceMethod yX4_wellGone ∈ lw_g := g_in (t_in 1330 (by decide +kernel)) rfl
theorem wd_1331 : Cond.selects "WindingSquare$Plane" yX4_wellGone yX4_wellGone ∈ lw_g := g_in (t_in 1331 (by decide +kernel)) rfl
theorem wd_1332 : Cond.code yX4_wellGone cX4_wellGone 6 (some .int) ∈ lw_g := g_in (t_in 1332 (by decide +kernel)) rfl
theorem kv_X10_330 : lkV RX10 330 yX4_wellGone cX4_wellGone 6 (some .int) 2 4 := lkV.of5 wd_1329 wd_1330 wd_1331 wd_118 wd_1332 (by decide +kernel) (by decide) ⟨_, _, rfl⟩
theorem wd_495 : Cond.fieldLink RX10 19 (TX10 2).1 (TX10 2).2.1 (TX10 2).2.2.1 ∈ lw_g := g_in (t_in 495 (by decide +kernel)) rfl
theorem kf_X10_19 : lkF RX10 19 10 2 true (tyX10 2) := lkF.of RX10 TX10 18 tyX10 rfl ug_10 tyX10_ok nmX10 rfl (by decide) wd_495 rfl rfl
theorem rf_0_2 : RF0 0 2 = some 39 := by decide +kernel
theorem wd_496 : Cond.fieldLink RX10 336 (TX10 3).1 (TX10 3).2.1 (TX10 3).2.2.1 ∈ lw_g := g_in (t_in 496 (by decide +kernel)) rfl
theorem kf_X10_336 : lkF RX10 336 10 3 false .int := lkF.of RX10 TX10 18 tyX10 rfl ug_10 tyX10_ok nmX10 rfl (by decide) wd_496 rfl rfl
theorem nz_6 : ¬ (6 : Int32) = 0 := by decide
theorem wd_594 : Cond.methodLink RX10 339 yX7_copyFrom ∈ lw_g := g_in (t_in 594 (by decide +kernel)) rfl
theorem wd_595 : Cond.instanceMethod yX7_copyFrom ∈ lw_g := g_in (t_in 595 (by decide +kernel)) rfl
theorem wd_596 : Cond.selects "WindingSquare$Square" yX7_copyFrom yX7_copyFrom ∈ lw_g := g_in (t_in 596 (by decide +kernel)) rfl
theorem wd_597 : Cond.code yX7_copyFrom cX7_copyFrom 3 none ∈ lw_g := g_in (t_in 597 (by decide +kernel)) rfl
theorem kv_X10_339 : lkV RX10 339 yX7_copyFrom cX7_copyFrom 3 none 1 7 := lkV.of5 wd_594 wd_595 wd_596 wd_109 wd_597 (by decide +kernel) (by decide) ⟨_, _, rfl⟩
theorem wd_494 : Cond.fieldLink RX10 16 (TX10 1).1 (TX10 1).2.1 (TX10 1).2.2.1 ∈ lw_g := g_in (t_in 494 (by decide +kernel)) rfl
theorem kf_X10_16 : lkF RX10 16 10 1 true (tyX10 1) := lkF.of RX10 TX10 18 tyX10 rfl ug_10 tyX10_ok nmX10 rfl (by decide) wd_494 rfl rfl
theorem rf_0_1 : RF0 0 1 = some 20 := by decide +kernel
theorem th_20 : tO true 7 20 := ⟨by decide +kernel, by decide +kernel⟩
theorem wd_503 : Cond.fieldLink RX10 59 (TX10 10).1 (TX10 10).2.1 (TX10 10).2.2.1 ∈ lw_g := g_in (t_in 503 (by decide +kernel)) rfl
theorem kf_X10_59 : lkF RX10 59 10 10 true (tyX10 10) := lkF.of RX10 TX10 18 tyX10 rfl ug_10 tyX10_ok nmX10 rfl (by decide) wd_503 rfl rfl
theorem rf_0_10 : RF0 0 10 = some 83 := by decide +kernel
theorem wd_414 : Cond.fieldLink RX10 397 (TX1 0).1 (TX1 0).2.1 (TX1 0).2.2.1 ∈ lw_g := g_in (t_in 414 (by decide +kernel)) rfl
theorem kf_X10_397 : lkF RX10 397 1 0 false .boolean := lkF.of RX1 TX1 8 tyX1 rfl ug_1 tyX1_ok nmX1 rfl (by decide) wd_414 rfl rfl
theorem wd_1731 : Cond.methodLink RX11 115 yX11_whoIsAt ∈ lw_g := g_in (t_in 1731 (by decide +kernel)) rfl
theorem wd_1733 : Cond.instanceMethod yX11_whoIsAt ∈ lw_g := g_in (t_in 1733 (by decide +kernel)) rfl
theorem wd_83 : Cond.selects "WindingSquareModel" yX11_whoIsAt yX11_whoIsAt ∈ lw_g := g_in (t_in 83 (by decide +kernel)) rfl
theorem wd_1734 : Cond.code yX11_whoIsAt cX11_whoIsAt 3 (some .int) ∈ lw_g := g_in (t_in 1734 (by decide +kernel)) rfl
theorem kv_X11_115 : lkV RX11 115 yX11_whoIsAt cX11_whoIsAt 3 (some .int) 1 11 := lkV.of5 wd_1731 wd_1733 wd_83 wd_119 wd_1734 (by decide +kernel) (by decide) ⟨_, _, rfl⟩
theorem wd_1535 : Cond.methodLink RX11 198 yX11_mayBegin ∈ lw_g := g_in (t_in 1535 (by decide +kernel)) rfl
theorem wd_1537 : Cond.instanceMethod yX11_mayBegin ∈ lw_g := g_in (t_in 1537 (by decide +kernel)) rfl
theorem wd_44 : Cond.selects "WindingSquareModel" yX11_mayBegin yX11_mayBegin ∈ lw_g := g_in (t_in 44 (by decide +kernel)) rfl
theorem wd_1538 : Cond.code yX11_mayBegin cX11_mayBegin 3 none ∈ lw_g := g_in (t_in 1538 (by decide +kernel)) rfl
theorem kv_X11_198 : lkV RX11 198 yX11_mayBegin cX11_mayBegin 3 none 2 11 := lkV.of5 wd_1535 wd_1537 wd_44 wd_119 wd_1538 (by decide +kernel) (by decide) ⟨_, _, rfl⟩
theorem wd_1562 : Cond.methodLink RX11 202 yX11_number ∈ lw_g := g_in (t_in 1562 (by decide +kernel)) rfl
theorem wd_1564 : Cond.instanceMethod yX11_number ∈ lw_g := g_in (t_in 1564 (by decide +kernel)) rfl
theorem wd_50 : Cond.selects "WindingSquareModel" yX11_number yX11_number ∈ lw_g := g_in (t_in 50 (by decide +kernel)) rfl
theorem wd_1565 : Cond.code yX11_number cX11_number 6 (some .int) ∈ lw_g := g_in (t_in 1565 (by decide +kernel)) rfl
theorem kv_X11_202 : lkV RX11 202 yX11_number cX11_number 6 (some .int) 2 11 := lkV.of5 wd_1562 wd_1564 wd_50 wd_119 wd_1565 (by decide +kernel) (by decide) ⟨_, _, rfl⟩
theorem wd_1609 : Cond.methodLink RX11 205 yX11_wayWord ∈ lw_g := g_in (t_in 1609 (by decide +kernel)) rfl
theorem wd_1610 : Cond.static yX11_wayWord ∈ lw_g := g_in (t_in 1610 (by decide +kernel)) rfl
theorem wd_1611 : Cond.code yX11_wayWord cX11_wayWord 1 (some .int) ∈ lw_g := g_in (t_in 1611 (by decide +kernel)) rfl
theorem ks_X11_205 : lkS RX11 205 yX11_wayWord cX11_wayWord 1 (some .int) 1 := lkS.of4 wd_1609 wd_1610 wd_119 wd_1611 (by decide +kernel) (by decide)
theorem wd_1597 : Cond.methodLink RX11 222 yX11_closes ∈ lw_g := g_in (t_in 1597 (by decide +kernel)) rfl
theorem wd_1599 : Cond.instanceMethod yX11_closes ∈ lw_g := g_in (t_in 1599 (by decide +kernel)) rfl
theorem wd_58 : Cond.selects "WindingSquareModel" yX11_closes yX11_closes ∈ lw_g := g_in (t_in 58 (by decide +kernel)) rfl
theorem wd_1600 : Cond.code yX11_closes cX11_closes 2 none ∈ lw_g := g_in (t_in 1600 (by decide +kernel)) rfl
theorem kv_X11_222 : lkV RX11 222 yX11_closes cX11_closes 2 none 1 11 := lkV.of5 wd_1597 wd_1599 wd_58 wd_119 wd_1600 (by decide +kernel) (by decide) ⟨_, _, rfl⟩
theorem wd_1570 : Cond.methodLink RX11 240 yX11_factOf ∈ lw_g := g_in (t_in 1570 (by decide +kernel)) rfl
theorem wd_1571 : Cond.static yX11_factOf ∈ lw_g := g_in (t_in 1571 (by decide +kernel)) rfl
theorem wd_1572 : Cond.code yX11_factOf cX11_factOf 1 (some .int) ∈ lw_g := g_in (t_in 1572 (by decide +kernel)) rfl
theorem ks_X11_240 : lkS RX11 240 yX11_factOf cX11_factOf 1 (some .int) 1 := lkS.of4 wd_1570 wd_1571 wd_119 wd_1572 (by decide +kernel) (by decide)
theorem wd_1695 : Cond.methodLink RX11 257 yX11_laysFacts ∈ lw_g := g_in (t_in 1695 (by decide +kernel)) rfl
theorem wd_1697 : Cond.instanceMethod yX11_laysFacts ∈ lw_g := g_in (t_in 1697 (by decide +kernel)) rfl
theorem wd_76 : Cond.selects "WindingSquareModel" yX11_laysFacts yX11_laysFacts ∈ lw_g := g_in (t_in 76 (by decide +kernel)) rfl
theorem wd_1698 : Cond.code yX11_laysFacts cX11_laysFacts 3 none ∈ lw_g := g_in (t_in 1698 (by decide +kernel)) rfl
theorem kv_X11_257 : lkV RX11 257 yX11_laysFacts cX11_laysFacts 3 none 1 11 := lkV.of5 wd_1695 wd_1697 wd_76 wd_119 wd_1698 (by decide +kernel) (by decide) ⟨_, _, rfl⟩
theorem ib_941_2425 : inb (941 : Int32) 2425 := by decide
theorem kh_945 : (Int16.ofInt 945).toInt32 = (945 : Int32) := by decide +kernel
theorem wd_1707 : Cond.methodLink RX11 260 yX11_comesTo ∈ lw_g := g_in (t_in 1707 (by decide +kernel)) rfl
theorem wd_1709 : Cond.instanceMethod yX11_comesTo ∈ lw_g := g_in (t_in 1709 (by decide +kernel)) rfl
theorem wd_79 : Cond.selects "WindingSquareModel" yX11_comesTo yX11_comesTo ∈ lw_g := g_in (t_in 79 (by decide +kernel)) rfl
theorem wd_1710 : Cond.code yX11_comesTo cX11_comesTo 7 (some .int) ∈ lw_g := g_in (t_in 1710 (by decide +kernel)) rfl
theorem kv_X11_260 : lkV RX11 260 yX11_comesTo cX11_comesTo 7 (some .int) 2 11 := lkV.of5 wd_1707 wd_1709 wd_79 wd_119 wd_1710 (by decide +kernel) (by decide) ⟨_, _, rfl⟩
theorem wd_1759 : Cond.methodLink RX11 322 yX11_isWalker ∈ lw_g := g_in (t_in 1759 (by decide +kernel)) rfl
theorem wd_1761 : Cond.instanceMethod yX11_isWalker ∈ lw_g := g_in (t_in 1761 (by decide +kernel)) rfl
theorem wd_87 : Cond.selects "WindingSquareModel" yX11_isWalker yX11_isWalker ∈ lw_g := g_in (t_in 87 (by decide +kernel)) rfl
theorem wd_1762 : Cond.code yX11_isWalker cX11_isWalker 2 (some .boolean) ∈ lw_g := g_in (t_in 1762 (by decide +kernel)) rfl
theorem kv_X11_322 : lkV RX11 322 yX11_isWalker cX11_isWalker 2 (some .boolean) 1 11 := lkV.of5 wd_1759 wd_1761 wd_87 wd_119 wd_1762 (by decide +kernel) (by decide) ⟨_, _, rfl⟩
theorem wd_1631 : Cond.methodLink RX11 310 yX11_begins ∈ lw_g := g_in (t_in 1631 (by decide +kernel)) rfl
theorem wd_1633 : Cond.instanceMethod yX11_begins ∈ lw_g := g_in (t_in 1633 (by decide +kernel)) rfl
theorem wd_63 : Cond.selects "WindingSquareModel" yX11_begins yX11_begins ∈ lw_g := g_in (t_in 63 (by decide +kernel)) rfl
theorem wd_1634 : Cond.code yX11_begins cX11_begins 1 none ∈ lw_g := g_in (t_in 1634 (by decide +kernel)) rfl
theorem kv_X11_310 : lkV RX11 310 yX11_begins cX11_begins 1 none 0 11 := lkV.of5 wd_1631 wd_1633 wd_63 wd_119 wd_1634 (by decide +kernel) (by decide) ⟨_, _, rfl⟩
theorem wd_1651 : Cond.methodLink RX11 304 yX11_turnsRound ∈ lw_g := g_in (t_in 1651 (by decide +kernel)) rfl
theorem wd_1653 : Cond.instanceMethod yX11_turnsRound ∈ lw_g := g_in (t_in 1653 (by decide +kernel)) rfl
theorem wd_68 : Cond.selects "WindingSquareModel" yX11_turnsRound yX11_turnsRound ∈ lw_g := g_in (t_in 68 (by decide +kernel)) rfl
theorem wd_1654 : Cond.code yX11_turnsRound cX11_turnsRound 4 none ∈ lw_g := g_in (t_in 1654 (by decide +kernel)) rfl
theorem kv_X11_304 : lkV RX11 304 yX11_turnsRound cX11_turnsRound 4 none 2 11 := lkV.of5 wd_1651 wd_1653 wd_68 wd_119 wd_1654 (by decide +kernel) (by decide) ⟨_, _, rfl⟩
theorem wd_1735 : Cond.methodLink RX11 316 yX11_ends ∈ lw_g := g_in (t_in 1735 (by decide +kernel)) rfl
theorem wd_1737 : Cond.instanceMethod yX11_ends ∈ lw_g := g_in (t_in 1737 (by decide +kernel)) rfl
theorem wd_84 : Cond.selects "WindingSquareModel" yX11_ends yX11_ends ∈ lw_g := g_in (t_in 84 (by decide +kernel)) rfl
theorem wd_1738 : Cond.code yX11_ends cX11_ends 1 none ∈ lw_g := g_in (t_in 1738 (by decide +kernel)) rfl
theorem kv_X11_316 : lkV RX11 316 yX11_ends cX11_ends 1 none 0 11 := lkV.of5 wd_1735 wd_1737 wd_84 wd_119 wd_1738 (by decide +kernel) (by decide) ⟨_, _, rfl⟩
theorem wd_1811 : Cond.methodLink RX11 331 yX11_goesAlone ∈ lw_g := g_in (t_in 1811 (by decide +kernel)) rfl
theorem wd_1813 : Cond.instanceMethod yX11_goesAlone ∈ lw_g := g_in (t_in 1813 (by decide +kernel)) rfl
theorem wd_89 : Cond.selects "WindingSquareModel" yX11_goesAlone yX11_goesAlone ∈ lw_g := g_in (t_in 89 (by decide +kernel)) rfl
theorem wd_1814 : Cond.code yX11_goesAlone cX11_goesAlone 5 none ∈ lw_g := g_in (t_in 1814 (by decide +kernel)) rfl
theorem kv_X11_331 : lkV RX11 331 yX11_goesAlone cX11_goesAlone 5 none 1 11 := lkV.of5 wd_1811 wd_1813 wd_89 wd_119 wd_1814 (by decide +kernel) (by decide) ⟨_, _, rfl⟩
theorem wd_1393 : Cond.fieldLink RX11 41 (TX11 22).1 (TX11 22).2.1 (TX11 22).2.2.1 ∈ lw_g := g_in (t_in 1393 (by decide +kernel)) rfl
theorem kf_X11_41 : lkF RX11 41 11 22 true (tyX11 22) := lkF.of RX11 TX11 40 tyX11 rfl ug_11 tyX11_ok nmX11 rfl (by decide) wd_1393 rfl rfl
theorem rf_257_22 : RF0 257 22 = some 267 := by decide +kernel
theorem th_267 : tA false 4032 267 := ⟨by decide +kernel, by decide +kernel⟩
theorem wd_1827 : Cond.methodLink RX11 334 yX11_onBy ∈ lw_g := g_in (t_in 1827 (by decide +kernel)) rfl
theorem wd_1829 : Cond.instanceMethod yX11_onBy ∈ lw_g := g_in (t_in 1829 (by decide +kernel)) rfl
theorem wd_92 : Cond.selects "WindingSquareModel" yX11_onBy yX11_onBy ∈ lw_g := g_in (t_in 92 (by decide +kernel)) rfl
theorem wd_1830 : Cond.code yX11_onBy cX11_onBy 6 (some .int) ∈ lw_g := g_in (t_in 1830 (by decide +kernel)) rfl
theorem kv_X11_334 : lkV RX11 334 yX11_onBy cX11_onBy 6 (some .int) 3 11 := lkV.of5 wd_1827 wd_1829 wd_92 wd_119 wd_1830 (by decide +kernel) (by decide) ⟨_, _, rfl⟩
theorem wd_1394 : Cond.fieldLink RX11 44 (TX11 23).1 (TX11 23).2.1 (TX11 23).2.2.1 ∈ lw_g := g_in (t_in 1394 (by decide +kernel)) rfl
theorem kf_X11_44 : lkF RX11 44 11 23 true (tyX11 23) := lkF.of RX11 TX11 40 tyX11 rfl ug_11 tyX11_ok nmX11 rfl (by decide) wd_1394 rfl rfl
theorem rf_257_23 : RF0 257 23 = some 268 := by decide +kernel
theorem th_268 : tA false 576 268 := ⟨by decide +kernel, by decide +kernel⟩
theorem wd_1396 : Cond.fieldLink RX11 50 (TX11 25).1 (TX11 25).2.1 (TX11 25).2.2.1 ∈ lw_g := g_in (t_in 1396 (by decide +kernel)) rfl
theorem kf_X11_50 : lkF RX11 50 11 25 true (tyX11 25) := lkF.of RX11 TX11 40 tyX11 rfl ug_11 tyX11_ok nmX11 rfl (by decide) wd_1396 rfl rfl
theorem rf_257_25 : RF0 257 25 = some 270 := by decide +kernel
theorem th_270 : tA false 12096 270 := ⟨by decide +kernel, by decide +kernel⟩
theorem wd_1936 : Cond.methodLink RX11 396 yX11_besides ∈ lw_g := g_in (t_in 1936 (by decide +kernel)) rfl
theorem wd_1938 : Cond.instanceMethod yX11_besides ∈ lw_g := g_in (t_in 1938 (by decide +kernel)) rfl
theorem wd_103 : Cond.selects "WindingSquareModel" yX11_besides yX11_besides ∈ lw_g := g_in (t_in 103 (by decide +kernel)) rfl
theorem wd_1939 : Cond.code yX11_besides cX11_besides 6 (some .int) ∈ lw_g := g_in (t_in 1939 (by decide +kernel)) rfl
theorem kv_X11_396 : lkV RX11 396 yX11_besides cX11_besides 6 (some .int) 1 11 := lkV.of5 wd_1936 wd_1938 wd_103 wd_119 wd_1939 (by decide +kernel) (by decide) ⟨_, _, rfl⟩
theorem wd_1409 : Cond.fieldLink RX11 80 (TX11 38).1 (TX11 38).2.1 (TX11 38).2.2.1 ∈ lw_g := g_in (t_in 1409 (by decide +kernel)) rfl
theorem kf_X11_80 : lkF RX11 80 11 38 true (tyX11 38) := lkF.of RX11 TX11 40 tyX11 rfl ug_11 tyX11_ok nmX11 rfl (by decide) wd_1409 rfl rfl
theorem rf_257_38 : RF0 257 38 = some 280 := by decide +kernel
theorem th_280 : tA false 144 280 := ⟨by decide +kernel, by decide +kernel⟩
theorem wd_173 : Cond.fieldLink RX1 160 (TX9 7).1 (TX9 7).2.1 (TX9 7).2.2.1 ∈ lw_g := g_in (t_in 173 (by decide +kernel)) rfl
theorem kf_X1_160 : lkF RX1 160 9 7 false .int := lkF.of RX9 TX9 13 tyX9 rfl ug_9 tyX9_ok nmX9 rfl (by decide) wd_173 rfl rfl
theorem wd_416 : Cond.fieldLink RX1 163 (TX1 1).1 (TX1 1).2.1 (TX1 1).2.2.1 ∈ lw_g := g_in (t_in 416 (by decide +kernel)) rfl
theorem kf_X1_163 : lkF RX1 163 1 1 false .int := lkF.of RX1 TX1 8 tyX1 rfl ug_1 tyX1_ok nmX1 rfl (by decide) wd_416 rfl rfl
theorem wd_181 : Cond.fieldLink RX1 166 (TX9 10).1 (TX9 10).2.1 (TX9 10).2.2.1 ∈ lw_g := g_in (t_in 181 (by decide +kernel)) rfl
theorem kf_X1_166 : lkF RX1 166 9 10 false .int := lkF.of RX9 TX9 13 tyX9 rfl ug_9 tyX9_ok nmX9 rfl (by decide) wd_181 rfl rfl
theorem wd_232 : Cond.fieldLink RX1 169 (TX7 4).1 (TX7 4).2.1 (TX7 4).2.2.1 ∈ lw_g := g_in (t_in 232 (by decide +kernel)) rfl
theorem kf_X1_169 : lkF RX1 169 7 4 false .int := lkF.of RX7 TX7 7 tyX7 rfl ug_7 tyX7_ok nmX7 rfl (by decide) wd_232 rfl rfl
theorem wd_671 : Cond.methodLink RX1 138 yX1_ask ∈ lw_g := g_in (t_in 671 (by decide +kernel)) rfl
theorem wd_672 : Cond.instanceMethod yX1_ask ∈ lw_g := g_in (t_in 672 (by decide +kernel)) rfl
theorem wd_673 : Cond.selects "WindingSquare$Day" yX1_ask yX1_ask ∈ lw_g := g_in (t_in 673 (by decide +kernel)) rfl
theorem wd_674 : Cond.code yX1_ask cX1_ask 3 (some .int) ∈ lw_g := g_in (t_in 674 (by decide +kernel)) rfl
theorem kv_X1_138 : lkV RX1 138 yX1_ask cX1_ask 3 (some .int) 2 1 := lkV.of5 wd_671 wd_672 wd_673 wd_116 wd_674 (by decide +kernel) (by decide) ⟨_, _, rfl⟩
theorem kh_129 : (Int16.ofInt 129).toInt32 = (129 : Int32) := by decide +kernel
theorem wd_716 : Cond.methodLink RX1 141 yX1_falls ∈ lw_g := g_in (t_in 716 (by decide +kernel)) rfl
theorem wd_718 : Cond.instanceMethod yX1_falls ∈ lw_g := g_in (t_in 718 (by decide +kernel)) rfl
theorem wd_5 : Cond.selects "WindingSquare$Day" yX1_falls yX1_falls ∈ lw_g := g_in (t_in 5 (by decide +kernel)) rfl
theorem wd_719 : Cond.code yX1_falls cX1_falls 2 (some .boolean) ∈ lw_g := g_in (t_in 719 (by decide +kernel)) rfl
theorem kv_X1_141 : lkV RX1 141 yX1_falls cX1_falls 2 (some .boolean) 1 1 := lkV.of5 wd_716 wd_718 wd_5 wd_116 wd_719 (by decide +kernel) (by decide) ⟨_, _, rfl⟩
theorem wd_185 : Cond.fieldLink RX1 172 (TX9 11).1 (TX9 11).2.1 (TX9 11).2.2.1 ∈ lw_g := g_in (t_in 185 (by decide +kernel)) rfl
theorem kf_X1_172 : lkF RX1 172 9 11 false .int := lkF.of RX9 TX9 13 tyX9 rfl ug_9 tyX9_ok nmX9 rfl (by decide) wd_185 rfl rfl
theorem kb_50 : (Int8.ofInt 50).toInt32 = (50 : Int32) := by decide +kernel
theorem wd_1064 : Cond.methodLink RX2 51 yX2_goStraight ∈ lw_g := g_in (t_in 1064 (by decide +kernel)) rfl
theorem wd_1066 : Cond.instanceMethod yX2_goStraight ∈ lw_g := g_in (t_in 1066 (by decide +kernel)) rfl
theorem wd_25 : Cond.selects "WindingSquare$Grid" yX2_goStraight yX2_goStraight ∈ lw_g := g_in (t_in 25 (by decide +kernel)) rfl
theorem wd_1067 : Cond.code yX2_goStraight cX2_goStraight 5 none ∈ lw_g := g_in (t_in 1067 (by decide +kernel)) rfl
theorem kv_X2_51 : lkV RX2 51 yX2_goStraight cX2_goStraight 5 none 0 2 := lkV.of5 wd_1064 wd_1066 wd_25 wd_117 wd_1067 (by decide +kernel) (by decide) ⟨_, _, rfl⟩
theorem wd_1069 : Cond.methodLink RX2 54 yX2_turnOnce ∈ lw_g := g_in (t_in 1069 (by decide +kernel)) rfl
theorem wd_1071 : Cond.instanceMethod yX2_turnOnce ∈ lw_g := g_in (t_in 1071 (by decide +kernel)) rfl
theorem wd_26 : Cond.selects "WindingSquare$Grid" yX2_turnOnce yX2_turnOnce ∈ lw_g := g_in (t_in 26 (by decide +kernel)) rfl
theorem wd_1072 : Cond.code yX2_turnOnce cX2_turnOnce 2 none ∈ lw_g := g_in (t_in 1072 (by decide +kernel)) rfl
theorem kv_X2_54 : lkV RX2 54 yX2_turnOnce cX2_turnOnce 2 none 0 2 := lkV.of5 wd_1069 wd_1071 wd_26 wd_117 wd_1072 (by decide +kernel) (by decide) ⟨_, _, rfl⟩
theorem wd_957 : Cond.methodLink RX8 52 yX8_stoneOf ∈ lw_g := g_in (t_in 957 (by decide +kernel)) rfl
theorem wd_958 : Cond.static yX8_stoneOf ∈ lw_g := g_in (t_in 958 (by decide +kernel)) rfl
theorem wd_959 : Cond.code yX8_stoneOf cX8_stoneOf 1 (some .int) ∈ lw_g := g_in (t_in 959 (by decide +kernel)) rfl
theorem ks_X8_52 : lkS RX8 52 yX8_stoneOf cX8_stoneOf 1 (some .int) 1 := lkS.of4 wd_957 wd_958 wd_111 wd_959 (by decide +kernel) (by decide)
theorem wd_962 : Cond.methodLink RX8 63 yX8_readArea ∈ lw_g := g_in (t_in 962 (by decide +kernel)) rfl
theorem wd_964 : Cond.instanceMethod yX8_readArea ∈ lw_g := g_in (t_in 964 (by decide +kernel)) rfl
theorem wd_17 : Cond.selects "WindingSquare$Texts" yX8_readArea yX8_readArea ∈ lw_g := g_in (t_in 17 (by decide +kernel)) rfl
theorem wd_965 : Cond.code yX8_readArea cX8_readArea 11 (some .boolean) ∈ lw_g := g_in (t_in 965 (by decide +kernel)) rfl
theorem kv_X8_63 : lkV RX8 63 yX8_readArea cX8_readArea 11 (some .boolean) 2 8 := lkV.of5 wd_962 wd_964 wd_17 wd_111 wd_965 (by decide +kernel) (by decide) ⟨_, _, rfl⟩
theorem wd_1345 : Cond.methodLink RX8 101 yX8_copyText ∈ lw_g := g_in (t_in 1345 (by decide +kernel)) rfl
theorem wd_933 : Cond.instanceMethod yX8_copyText ∈ lw_g := g_in (t_in 933 (by decide +kernel)) rfl
theorem wd_934 : Cond.selects "WindingSquare$Texts" yX8_copyText yX8_copyText ∈ lw_g := g_in (t_in 934 (by decide +kernel)) rfl
theorem wd_935 : Cond.code yX8_copyText cX8_copyText 3 none ∈ lw_g := g_in (t_in 935 (by decide +kernel)) rfl
theorem kv_X8_101 : lkV RX8 101 yX8_copyText cX8_copyText 3 none 2 8 := lkV.of5 wd_1345 wd_933 wd_934 wd_111 wd_935 (by decide +kernel) (by decide) ⟨_, _, rfl⟩
theorem wd_572 : Cond.methodLink RX10 115 yX7_has ∈ lw_g := g_in (t_in 572 (by decide +kernel)) rfl
theorem kv_X10_115 : lkV RX10 115 yX7_has cX7_has 2 (some .boolean) 1 7 := lkV.of5 wd_572 wd_573 wd_574 wd_109 wd_575 (by decide +kernel) (by decide) ⟨_, _, rfl⟩
theorem wd_156 : Cond.fieldLink RX10 119 (TX9 1).1 (TX9 1).2.1 (TX9 1).2.2.1 ∈ lw_g := g_in (t_in 156 (by decide +kernel)) rfl
theorem kf_X10_119 : lkF RX10 119 9 1 false .boolean := lkF.of RX9 TX9 13 tyX9 rfl ug_9 tyX9_ok nmX9 rfl (by decide) wd_156 rfl rfl
theorem wd_579 : Cond.methodLink RX10 126 yX10_entry ∈ lw_g := g_in (t_in 579 (by decide +kernel)) rfl
theorem wd_580 : Cond.static yX10_entry ∈ lw_g := g_in (t_in 580 (by decide +kernel)) rfl
theorem wd_581 : Cond.code yX10_entry cX10_entry 2 (some .int) ∈ lw_g := g_in (t_in 581 (by decide +kernel)) rfl
theorem ks_X10_126 : lkS RX10 126 yX10_entry cX10_entry 2 (some .int) 2 := lkS.of4 wd_579 wd_580 wd_108 wd_581 (by decide +kernel) (by decide)
theorem wd_590 : Cond.methodLink RX10 134 yX10_keep ∈ lw_g := g_in (t_in 590 (by decide +kernel)) rfl
theorem wd_592 : Cond.instanceMethod yX10_keep ∈ lw_g := g_in (t_in 592 (by decide +kernel)) rfl
theorem wd_1 : Cond.selects "WindingSquare" yX10_keep yX10_keep ∈ lw_g := g_in (t_in 1 (by decide +kernel)) rfl
theorem wd_593 : Cond.code yX10_keep cX10_keep 1 none ∈ lw_g := g_in (t_in 593 (by decide +kernel)) rfl
theorem kv_X10_134 : lkV RX10 134 yX10_keep cX10_keep 1 none 0 10 := lkV.of5 wd_590 wd_592 wd_1 wd_108 wd_593 (by decide +kernel) (by decide) ⟨_, _, rfl⟩
theorem wd_605 : Cond.methodLink RX10 137 yX9_enter ∈ lw_g := g_in (t_in 605 (by decide +kernel)) rfl
theorem wd_606 : Cond.instanceMethod yX9_enter ∈ lw_g := g_in (t_in 606 (by decide +kernel)) rfl
theorem wd_607 : Cond.selects "WindingSquare$Walker" yX9_enter yX9_enter ∈ lw_g := g_in (t_in 607 (by decide +kernel)) rfl
theorem wd_608 : Cond.code yX9_enter cX9_enter 3 none ∈ lw_g := g_in (t_in 608 (by decide +kernel)) rfl
theorem kv_X10_137 : lkV RX10 137 yX9_enter cX9_enter 3 none 2 9 := lkV.of5 wd_605 wd_606 wd_607 wd_110 wd_608 (by decide +kernel) (by decide) ⟨_, _, rfl⟩
theorem wd_609 : Cond.methodLink RX10 141 yX0_write ∈ lw_g := g_in (t_in 609 (by decide +kernel)) rfl
theorem kv_X10_141 : lkV RX10 141 yX0_write cX0_write 6 none 4 0 := lkV.of5 wd_609 wd_610 wd_611 wd_113 wd_612 (by decide +kernel) (by decide) ⟨_, _, rfl⟩
theorem wd_617 : Cond.methodLink RX10 145 yX7_hasIn ∈ lw_g := g_in (t_in 617 (by decide +kernel)) rfl
theorem wd_618 : Cond.instanceMethod yX7_hasIn ∈ lw_g := g_in (t_in 618 (by decide +kernel)) rfl
theorem wd_619 : Cond.selects "WindingSquare$Square" yX7_hasIn yX7_hasIn ∈ lw_g := g_in (t_in 619 (by decide +kernel)) rfl
theorem wd_620 : Cond.code yX7_hasIn cX7_hasIn 2 (some .boolean) ∈ lw_g := g_in (t_in 620 (by decide +kernel)) rfl
theorem kv_X10_145 : lkV RX10 145 yX7_hasIn cX7_hasIn 2 (some .boolean) 1 7 := lkV.of5 wd_617 wd_618 wd_619 wd_109 wd_620 (by decide +kernel) (by decide) ⟨_, _, rfl⟩
theorem wd_622 : Cond.methodLink RX10 148 yX1_turnRound ∈ lw_g := g_in (t_in 622 (by decide +kernel)) rfl
theorem wd_623 : Cond.instanceMethod yX1_turnRound ∈ lw_g := g_in (t_in 623 (by decide +kernel)) rfl
theorem wd_624 : Cond.selects "WindingSquare$Day" yX1_turnRound yX1_turnRound ∈ lw_g := g_in (t_in 624 (by decide +kernel)) rfl
theorem wd_625 : Cond.code yX1_turnRound cX1_turnRound 5 none ∈ lw_g := g_in (t_in 625 (by decide +kernel)) rfl
theorem kv_X10_148 : lkV RX10 148 yX1_turnRound cX1_turnRound 5 none 2 1 := lkV.of5 wd_622 wd_623 wd_624 wd_116 wd_625 (by decide +kernel) (by decide) ⟨_, _, rfl⟩
theorem wd_152 : Cond.fieldLink RX10 202 (TX9 0).1 (TX9 0).2.1 (TX9 0).2.2.1 ∈ lw_g := g_in (t_in 152 (by decide +kernel)) rfl
theorem kf_X10_202 : lkF RX10 202 9 0 false .int := lkF.of RX9 TX9 13 tyX9 rfl ug_9 tyX9_ok nmX9 rfl (by decide) wd_152 rfl rfl
theorem wd_182 : Cond.fieldLink RX10 205 (TX9 10).1 (TX9 10).2.1 (TX9 10).2.2.1 ∈ lw_g := g_in (t_in 182 (by decide +kernel)) rfl
theorem kf_X10_205 : lkF RX10 205 9 10 false .int := lkF.of RX9 TX9 13 tyX9 rfl ug_9 tyX9_ok nmX9 rfl (by decide) wd_182 rfl rfl
theorem wd_186 : Cond.fieldLink RX10 208 (TX9 11).1 (TX9 11).2.1 (TX9 11).2.2.1 ∈ lw_g := g_in (t_in 186 (by decide +kernel)) rfl
theorem kf_X10_208 : lkF RX10 208 9 11 false .int := lkF.of RX9 TX9 13 tyX9 rfl ug_9 tyX9_ok nmX9 rfl (by decide) wd_186 rfl rfl
theorem wd_189 : Cond.fieldLink RX10 211 (TX9 12).1 (TX9 12).2.1 (TX9 12).2.2.1 ∈ lw_g := g_in (t_in 189 (by decide +kernel)) rfl
theorem kf_X10_211 : lkF RX10 211 9 12 false .int := lkF.of RX9 TX9 13 tyX9 rfl ug_9 tyX9_ok nmX9 rfl (by decide) wd_189 rfl rfl
theorem wd_1002 : Cond.methodLink RX10 214 yX1_ask ∈ lw_g := g_in (t_in 1002 (by decide +kernel)) rfl
theorem kv_X10_214 : lkV RX10 214 yX1_ask cX1_ask 3 (some .int) 2 1 := lkV.of5 wd_1002 wd_672 wd_673 wd_116 wd_674 (by decide +kernel) (by decide) ⟨_, _, rfl⟩
theorem wd_999 : Cond.methodLink RX10 198 yX10_whereOf ∈ lw_g := g_in (t_in 999 (by decide +kernel)) rfl
theorem wd_1000 : Cond.static yX10_whereOf ∈ lw_g := g_in (t_in 1000 (by decide +kernel)) rfl
theorem wd_1001 : Cond.code yX10_whereOf cX10_whereOf 2 (some .int) ∈ lw_g := g_in (t_in 1001 (by decide +kernel)) rfl
theorem ks_X10_198 : lkS RX10 198 yX10_whereOf cX10_whereOf 2 (some .int) 2 := lkS.of4 wd_999 wd_1000 wd_108 wd_1001 (by decide +kernel) (by decide)
theorem wd_1036 : Cond.methodLink RX10 233 yX2_free ∈ lw_g := g_in (t_in 1036 (by decide +kernel)) rfl
theorem kv_X10_233 : lkV RX10 233 yX2_free cX2_free 2 (some .boolean) 1 2 := lkV.of5 wd_1036 wd_1037 wd_1038 wd_117 wd_1039 (by decide +kernel) (by decide) ⟨_, _, rfl⟩
theorem wd_1078 : Cond.methodLink RX10 244 yX2_countRows ∈ lw_g := g_in (t_in 1078 (by decide +kernel)) rfl
theorem wd_1079 : Cond.instanceMethod yX2_countRows ∈ lw_g := g_in (t_in 1079 (by decide +kernel)) rfl
theorem wd_1080 : Cond.selects "WindingSquare$Grid" yX2_countRows yX2_countRows ∈ lw_g := g_in (t_in 1080 (by decide +kernel)) rfl
theorem wd_1081 : Cond.code yX2_countRows cX2_countRows 8 (some .int) ∈ lw_g := g_in (t_in 1081 (by decide +kernel)) rfl
theorem kv_X10_244 : lkV RX10 244 yX2_countRows cX2_countRows 8 (some .int) 5 2 := lkV.of5 wd_1078 wd_1079 wd_1080 wd_117 wd_1081 (by decide +kernel) (by decide) ⟨_, _, rfl⟩
theorem wd_1204 : Cond.methodLink RX10 288 yJ9_max_7cf53 ∈ lw_g := g_in (t_in 1204 (by decide +kernel)) rfl
theorem ks_X10_288 : lkS RX10 288 yJ9_max_7cf53 cJ9_max_7cf53 2 (some .int) 2 := lkS.of4 wd_1204 wd_714 wd_123 wd_715 (by decide +kernel) (by decide)
theorem wd_1205 : Cond.methodLink RX10 293 yJ9_min_7cf53 ∈ lw_g := g_in (t_in 1205 (by decide +kernel)) rfl
theorem ks_X10_293 : lkS RX10 293 yJ9_min_7cf53 cJ9_min_7cf53 2 (some .int) 2 := lkS.of4 wd_1205 wd_711 wd_123 wd_712 (by decide +kernel) (by decide)
theorem wd_1206 : Cond.methodLink RX10 296 yX4_paces ∈ lw_g := g_in (t_in 1206 (by decide +kernel)) rfl
theorem wd_1207 : Cond.instanceMethod yX4_paces ∈ lw_g := g_in (t_in 1207 (by decide +kernel)) rfl
theorem wd_1208 : Cond.selects "WindingSquare$Plane" yX4_paces yX4_paces ∈ lw_g := g_in (t_in 1208 (by decide +kernel)) rfl
theorem wd_1209 : Cond.code yX4_paces cX4_paces 12 (some .int) ∈ lw_g := g_in (t_in 1209 (by decide +kernel)) rfl
theorem kv_X10_296 : lkV RX10 296 yX4_paces cX4_paces 12 (some .int) 4 4 := lkV.of5 wd_1206 wd_1207 wd_1208 wd_118 wd_1209 (by decide +kernel) (by decide) ⟨_, _, rfl⟩
theorem wd_1281 : Cond.methodLink RX10 317 yX1_meeting ∈ lw_g := g_in (t_in 1281 (by decide +kernel)) rfl
theorem wd_1282 : Cond.instanceMethod yX1_meeting ∈ lw_g := g_in (t_in 1282 (by decide +kernel)) rfl
theorem wd_1283 : Cond.selects "WindingSquare$Day" yX1_meeting yX1_meeting ∈ lw_g := g_in (t_in 1283 (by decide +kernel)) rfl
theorem wd_1284 : Cond.code yX1_meeting cX1_meeting 4 (some .int) ∈ lw_g := g_in (t_in 1284 (by decide +kernel)) rfl
theorem kv_X10_317 : lkV RX10 317 yX1_meeting cX1_meeting 4 (some .int) 2 1 := lkV.of5 wd_1281 wd_1282 wd_1283 wd_116 wd_1284 (by decide +kernel) (by decide) ⟨_, _, rfl⟩
theorem wd_1294 : Cond.methodLink RX10 320 yX2_flocks ∈ lw_g := g_in (t_in 1294 (by decide +kernel)) rfl
theorem wd_1295 : Cond.instanceMethod yX2_flocks ∈ lw_g := g_in (t_in 1295 (by decide +kernel)) rfl
theorem wd_1296 : Cond.selects "WindingSquare$Grid" yX2_flocks yX2_flocks ∈ lw_g := g_in (t_in 1296 (by decide +kernel)) rfl
theorem wd_1297 : Cond.code yX2_flocks cX2_flocks 5 (some .int) ∈ lw_g := g_in (t_in 1297 (by decide +kernel)) rfl
theorem kv_X10_320 : lkV RX10 320 yX2_flocks cX2_flocks 5 (some .int) 1 2 := lkV.of5 wd_1294 wd_1295 wd_1296 wd_117 wd_1297 (by decide +kernel) (by decide) ⟨_, _, rfl⟩
theorem wd_1303 : Cond.methodLink RX10 324 yX2_withOneBeside ∈ lw_g := g_in (t_in 1303 (by decide +kernel)) rfl
theorem wd_1304 : Cond.instanceMethod yX2_withOneBeside ∈ lw_g := g_in (t_in 1304 (by decide +kernel)) rfl
theorem wd_1305 : Cond.selects "WindingSquare$Grid" yX2_withOneBeside yX2_withOneBeside ∈ lw_g := g_in (t_in 1305 (by decide +kernel)) rfl
theorem wd_1306 : Cond.code yX2_withOneBeside cX2_withOneBeside 5 (some .int) ∈ lw_g := g_in (t_in 1306 (by decide +kernel)) rfl
theorem kv_X10_324 : lkV RX10 324 yX2_withOneBeside cX2_withOneBeside 5 (some .int) 0 2 := lkV.of5 wd_1303 wd_1304 wd_1305 wd_117 wd_1306 (by decide +kernel) (by decide) ⟨_, _, rfl⟩
theorem wd_499 : Cond.fieldLink RX10 30 (TX10 6).1 (TX10 6).2.1 (TX10 6).2.2.1 ∈ lw_g := g_in (t_in 499 (by decide +kernel)) rfl
theorem kf_X10_30 : lkF RX10 30 10 6 true (tyX10 6) := lkF.of RX10 TX10 18 tyX10 rfl ug_10 tyX10_ok nmX10 rfl (by decide) wd_499 rfl rfl
theorem rf_0_6 : RF0 0 6 = some 54 := by decide +kernel
theorem th_54 : tO true 8 54 := ⟨by decide +kernel, by decide +kernel⟩
theorem rf_54_1 : RF0 54 1 = some 61 := by decide +kernel
theorem th_61 : tA true 4 61 := ⟨by decide +kernel, by decide +kernel⟩
theorem wd_932 : Cond.methodLink RX10 367 yX8_copyText ∈ lw_g := g_in (t_in 932 (by decide +kernel)) rfl
theorem kv_X10_367 : lkV RX10 367 yX8_copyText cX8_copyText 3 none 2 8 := lkV.of5 wd_932 wd_933 wd_934 wd_111 wd_935 (by decide +kernel) (by decide) ⟨_, _, rfl⟩
theorem wd_295 : Cond.fieldLink RX10 371 (TX8 2).1 (TX8 2).2.1 (TX8 2).2.2.1 ∈ lw_g := g_in (t_in 295 (by decide +kernel)) rfl
theorem kf_X10_371 : lkF RX10 371 8 2 true (tyX8 2) := lkF.of RX8 TX8 8 tyX8 rfl ug_8 tyX8_ok nmX8 rfl (by decide) wd_295 rfl rfl
theorem rf_40_2 : RF0 40 2 = some 48 := by decide +kernel
theorem th_48 : tA true 144 48 := ⟨by decide +kernel, by decide +kernel⟩
theorem wd_942 : Cond.methodLink RX10 373 yX7_pave ∈ lw_g := g_in (t_in 942 (by decide +kernel)) rfl
theorem wd_943 : Cond.instanceMethod yX7_pave ∈ lw_g := g_in (t_in 943 (by decide +kernel)) rfl
theorem wd_944 : Cond.selects "WindingSquare$Square" yX7_pave yX7_pave ∈ lw_g := g_in (t_in 944 (by decide +kernel)) rfl
theorem wd_945 : Cond.code yX7_pave cX7_pave 3 none ∈ lw_g := g_in (t_in 945 (by decide +kernel)) rfl
theorem kv_X10_373 : lkV RX10 373 yX7_pave cX7_pave 3 none 1 7 := lkV.of5 wd_942 wd_943 wd_944 wd_109 wd_945 (by decide +kernel) (by decide) ⟨_, _, rfl⟩
theorem wd_946 : Cond.methodLink RX10 376 yX7_beginWays ∈ lw_g := g_in (t_in 946 (by decide +kernel)) rfl
theorem wd_947 : Cond.instanceMethod yX7_beginWays ∈ lw_g := g_in (t_in 947 (by decide +kernel)) rfl
theorem wd_948 : Cond.selects "WindingSquare$Square" yX7_beginWays yX7_beginWays ∈ lw_g := g_in (t_in 948 (by decide +kernel)) rfl
theorem wd_949 : Cond.code yX7_beginWays cX7_beginWays 2 none ∈ lw_g := g_in (t_in 949 (by decide +kernel)) rfl
theorem kv_X10_376 : lkV RX10 376 yX7_beginWays cX7_beginWays 2 none 0 7 := lkV.of5 wd_946 wd_947 wd_948 wd_109 wd_949 (by decide +kernel) (by decide) ⟨_, _, rfl⟩
theorem wd_1555 : Cond.methodLink RX11 237 yX11_readUnit ∈ lw_g := g_in (t_in 1555 (by decide +kernel)) rfl
theorem wd_1557 : Cond.instanceMethod yX11_readUnit ∈ lw_g := g_in (t_in 1557 (by decide +kernel)) rfl
theorem wd_49 : Cond.selects "WindingSquareModel" yX11_readUnit yX11_readUnit ∈ lw_g := g_in (t_in 49 (by decide +kernel)) rfl
theorem wd_1558 : Cond.code yX11_readUnit cX11_readUnit 2 none ∈ lw_g := g_in (t_in 1558 (by decide +kernel)) rfl
theorem kv_X11_237 : lkV RX11 237 yX11_readUnit cX11_readUnit 2 none 0 11 := lkV.of5 wd_1555 wd_1557 wd_49 wd_119 wd_1558 (by decide +kernel) (by decide) ⟨_, _, rfl⟩
theorem wd_1691 : Cond.methodLink RX11 276 yX11_tells ∈ lw_g := g_in (t_in 1691 (by decide +kernel)) rfl
theorem wd_1693 : Cond.instanceMethod yX11_tells ∈ lw_g := g_in (t_in 1693 (by decide +kernel)) rfl
theorem wd_75 : Cond.selects "WindingSquareModel" yX11_tells yX11_tells ∈ lw_g := g_in (t_in 75 (by decide +kernel)) rfl
theorem wd_1694 : Cond.code yX11_tells cX11_tells 6 (some .int) ∈ lw_g := g_in (t_in 1694 (by decide +kernel)) rfl
theorem kv_X11_276 : lkV RX11 276 yX11_tells cX11_tells 6 (some .int) 2 11 := lkV.of5 wd_1691 wd_1693 wd_75 wd_119 wd_1694 (by decide +kernel) (by decide) ⟨_, _, rfl⟩
theorem wd_1717 : Cond.methodLink RX11 279 yX11_falls ∈ lw_g := g_in (t_in 1717 (by decide +kernel)) rfl
theorem wd_1719 : Cond.instanceMethod yX11_falls ∈ lw_g := g_in (t_in 1719 (by decide +kernel)) rfl
theorem wd_80 : Cond.selects "WindingSquareModel" yX11_falls yX11_falls ∈ lw_g := g_in (t_in 80 (by decide +kernel)) rfl
theorem wd_1720 : Cond.code yX11_falls cX11_falls 2 (some .boolean) ∈ lw_g := g_in (t_in 1720 (by decide +kernel)) rfl
theorem kv_X11_279 : lkV RX11 279 yX11_falls cX11_falls 2 (some .boolean) 1 11 := lkV.of5 wd_1717 wd_1719 wd_80 wd_119 wd_1720 (by decide +kernel) (by decide) ⟨_, _, rfl⟩
theorem wd_1727 : Cond.methodLink RX11 298 yX11_isFree ∈ lw_g := g_in (t_in 1727 (by decide +kernel)) rfl
theorem wd_1729 : Cond.instanceMethod yX11_isFree ∈ lw_g := g_in (t_in 1729 (by decide +kernel)) rfl
theorem wd_82 : Cond.selects "WindingSquareModel" yX11_isFree yX11_isFree ∈ lw_g := g_in (t_in 82 (by decide +kernel)) rfl
theorem wd_1730 : Cond.code yX11_isFree cX11_isFree 2 (some .boolean) ∈ lw_g := g_in (t_in 1730 (by decide +kernel)) rfl
theorem kv_X11_298 : lkV RX11 298 yX11_isFree cX11_isFree 2 (some .boolean) 1 11 := lkV.of5 wd_1727 wd_1729 wd_82 wd_119 wd_1730 (by decide +kernel) (by decide) ⟨_, _, rfl⟩
theorem wd_1835 : Cond.methodLink RX11 337 yX11_straightOn ∈ lw_g := g_in (t_in 1835 (by decide +kernel)) rfl
theorem wd_1837 : Cond.instanceMethod yX11_straightOn ∈ lw_g := g_in (t_in 1837 (by decide +kernel)) rfl
theorem wd_94 : Cond.selects "WindingSquareModel" yX11_straightOn yX11_straightOn ∈ lw_g := g_in (t_in 94 (by decide +kernel)) rfl
theorem wd_1838 : Cond.code yX11_straightOn cX11_straightOn 6 none ∈ lw_g := g_in (t_in 1838 (by decide +kernel)) rfl
theorem kv_X11_337 : lkV RX11 337 yX11_straightOn cX11_straightOn 6 none 1 11 := lkV.of5 wd_1835 wd_1837 wd_94 wd_119 wd_1838 (by decide +kernel) (by decide) ⟨_, _, rfl⟩
theorem wd_1819 : Cond.methodLink RX11 340 yX11_isGround ∈ lw_g := g_in (t_in 1819 (by decide +kernel)) rfl
theorem wd_1821 : Cond.instanceMethod yX11_isGround ∈ lw_g := g_in (t_in 1821 (by decide +kernel)) rfl
theorem wd_90 : Cond.selects "WindingSquareModel" yX11_isGround yX11_isGround ∈ lw_g := g_in (t_in 90 (by decide +kernel)) rfl
theorem wd_1822 : Cond.code yX11_isGround cX11_isGround 2 (some .boolean) ∈ lw_g := g_in (t_in 1822 (by decide +kernel)) rfl
theorem kv_X11_340 : lkV RX11 340 yX11_isGround cX11_isGround 2 (some .boolean) 1 11 := lkV.of5 wd_1819 wd_1821 wd_90 wd_119 wd_1822 (by decide +kernel) (by decide) ⟨_, _, rfl⟩
theorem kh_209 : (Int16.ofInt 209).toInt32 = (209 : Int32) := by decide +kernel
theorem kh_12096 : (Int16.ofInt 12096).toInt32 = (12096 : Int32) := by decide +kernel
theorem wd_1843 : Cond.methodLink RX11 353 yX11_turnRows ∈ lw_g := g_in (t_in 1843 (by decide +kernel)) rfl
theorem wd_1845 : Cond.instanceMethod yX11_turnRows ∈ lw_g := g_in (t_in 1845 (by decide +kernel)) rfl
theorem wd_95 : Cond.selects "WindingSquareModel" yX11_turnRows yX11_turnRows ∈ lw_g := g_in (t_in 95 (by decide +kernel)) rfl
theorem wd_1846 : Cond.code yX11_turnRows cX11_turnRows 7 none ∈ lw_g := g_in (t_in 1846 (by decide +kernel)) rfl
theorem kv_X11_353 : lkV RX11 353 yX11_turnRows cX11_turnRows 7 none 1 11 := lkV.of5 wd_1843 wd_1845 wd_95 wd_119 wd_1846 (by decide +kernel) (by decide) ⟨_, _, rfl⟩
theorem wd_1851 : Cond.methodLink RX11 356 yX11_stepRows ∈ lw_g := g_in (t_in 1851 (by decide +kernel)) rfl
theorem wd_1853 : Cond.instanceMethod yX11_stepRows ∈ lw_g := g_in (t_in 1853 (by decide +kernel)) rfl
theorem wd_96 : Cond.selects "WindingSquareModel" yX11_stepRows yX11_stepRows ∈ lw_g := g_in (t_in 96 (by decide +kernel)) rfl
theorem wd_1854 : Cond.code yX11_stepRows cX11_stepRows 7 none ∈ lw_g := g_in (t_in 1854 (by decide +kernel)) rfl
theorem kv_X11_356 : lkV RX11 356 yX11_stepRows cX11_stepRows 7 none 1 11 := lkV.of5 wd_1851 wd_1853 wd_96 wd_119 wd_1854 (by decide +kernel) (by decide) ⟨_, _, rfl⟩
theorem wd_1944 : Cond.methodLink RX11 399 yX11_layFlocks ∈ lw_g := g_in (t_in 1944 (by decide +kernel)) rfl
theorem wd_1946 : Cond.instanceMethod yX11_layFlocks ∈ lw_g := g_in (t_in 1946 (by decide +kernel)) rfl
theorem wd_104 : Cond.selects "WindingSquareModel" yX11_layFlocks yX11_layFlocks ∈ lw_g := g_in (t_in 104 (by decide +kernel)) rfl
theorem wd_1947 : Cond.code yX11_layFlocks cX11_layFlocks 4 none ∈ lw_g := g_in (t_in 1947 (by decide +kernel)) rfl
theorem kv_X11_399 : lkV RX11 399 yX11_layFlocks cX11_layFlocks 4 none 0 11 := lkV.of5 wd_1944 wd_1946 wd_104 wd_119 wd_1947 (by decide +kernel) (by decide) ⟨_, _, rfl⟩
theorem wd_1948 : Cond.methodLink RX11 402 yX11_besideOne ∈ lw_g := g_in (t_in 1948 (by decide +kernel)) rfl
theorem wd_1950 : Cond.instanceMethod yX11_besideOne ∈ lw_g := g_in (t_in 1950 (by decide +kernel)) rfl
theorem wd_105 : Cond.selects "WindingSquareModel" yX11_besideOne yX11_besideOne ∈ lw_g := g_in (t_in 105 (by decide +kernel)) rfl
theorem wd_1951 : Cond.code yX11_besideOne cX11_besideOne 4 (some .int) ∈ lw_g := g_in (t_in 1951 (by decide +kernel)) rfl
theorem kv_X11_402 : lkV RX11 402 yX11_besideOne cX11_besideOne 4 (some .int) 1 11 := lkV.of5 wd_1948 wd_1950 wd_105 wd_119 wd_1951 (by decide +kernel) (by decide) ⟨_, _, rfl⟩
theorem wd_653 : Cond.methodLink RX1 135 yX1_goOn ∈ lw_g := g_in (t_in 653 (by decide +kernel)) rfl
theorem wd_655 : Cond.instanceMethod yX1_goOn ∈ lw_g := g_in (t_in 655 (by decide +kernel)) rfl
theorem wd_3 : Cond.selects "WindingSquare$Day" yX1_goOn yX1_goOn ∈ lw_g := g_in (t_in 3 (by decide +kernel)) rfl
theorem wd_656 : Cond.code yX1_goOn cX1_goOn 4 (some .int) ∈ lw_g := g_in (t_in 656 (by decide +kernel)) rfl
theorem kv_X1_135 : lkV RX1 135 yX1_goOn cX1_goOn 4 (some .int) 1 1 := lkV.of5 wd_653 wd_655 wd_3 wd_116 wd_656 (by decide +kernel) (by decide) ⟨_, _, rfl⟩
theorem wd_726 : Cond.methodLink RX1 148 yX1_leave ∈ lw_g := g_in (t_in 726 (by decide +kernel)) rfl
theorem wd_728 : Cond.instanceMethod yX1_leave ∈ lw_g := g_in (t_in 728 (by decide +kernel)) rfl
theorem wd_6 : Cond.selects "WindingSquare$Day" yX1_leave yX1_leave ∈ lw_g := g_in (t_in 6 (by decide +kernel)) rfl
theorem wd_729 : Cond.code yX1_leave cX1_leave 4 none ∈ lw_g := g_in (t_in 729 (by decide +kernel)) rfl
theorem kv_X1_148 : lkV RX1 148 yX1_leave cX1_leave 4 none 1 1 := lkV.of5 wd_726 wd_728 wd_6 wd_116 wd_729 (by decide +kernel) (by decide) ⟨_, _, rfl⟩
theorem wd_188 : Cond.fieldLink RX1 145 (TX9 12).1 (TX9 12).2.1 (TX9 12).2.2.1 ∈ lw_g := g_in (t_in 188 (by decide +kernel)) rfl
theorem kf_X1_145 : lkF RX1 145 9 12 false .int := lkF.of RX9 TX9 13 tyX9 rfl ug_9 tyX9_ok nmX9 rfl (by decide) wd_188 rfl rfl
theorem wd_652 : Cond.methodLink RX1 131 yX1_turnRound ∈ lw_g := g_in (t_in 652 (by decide +kernel)) rfl
theorem kv_X1_131 : lkV RX1 131 yX1_turnRound cX1_turnRound 5 none 2 1 := lkV.of5 wd_652 wd_623 wd_624 wd_116 wd_625 (by decide +kernel) (by decide) ⟨_, _, rfl⟩
theorem wd_1043 : Cond.methodLink RX10 236 yX2_least ∈ lw_g := g_in (t_in 1043 (by decide +kernel)) rfl
theorem wd_1044 : Cond.instanceMethod yX2_least ∈ lw_g := g_in (t_in 1044 (by decide +kernel)) rfl
theorem wd_1045 : Cond.selects "WindingSquare$Grid" yX2_least yX2_least ∈ lw_g := g_in (t_in 1045 (by decide +kernel)) rfl
theorem wd_1046 : Cond.code yX2_least cX2_least 10 (some .int) ∈ lw_g := g_in (t_in 1046 (by decide +kernel)) rfl
theorem kv_X10_236 : lkV RX10 236 yX2_least cX2_least 10 (some .int) 3 2 := lkV.of5 wd_1043 wd_1044 wd_1045 wd_117 wd_1046 (by decide +kernel) (by decide) ⟨_, _, rfl⟩
theorem wd_1059 : Cond.methodLink RX10 240 yX2_fewestSteps ∈ lw_g := g_in (t_in 1059 (by decide +kernel)) rfl
theorem wd_1060 : Cond.instanceMethod yX2_fewestSteps ∈ lw_g := g_in (t_in 1060 (by decide +kernel)) rfl
theorem wd_1061 : Cond.selects "WindingSquare$Grid" yX2_fewestSteps yX2_fewestSteps ∈ lw_g := g_in (t_in 1061 (by decide +kernel)) rfl
theorem wd_1062 : Cond.code yX2_fewestSteps cX2_fewestSteps 7 (some .int) ∈ lw_g := g_in (t_in 1062 (by decide +kernel)) rfl
theorem kv_X10_240 : lkV RX10 240 yX2_fewestSteps cX2_fewestSteps 7 (some .int) 4 2 := lkV.of5 wd_1059 wd_1060 wd_1061 wd_117 wd_1062 (by decide +kernel) (by decide) ⟨_, _, rfl⟩
theorem wd_506 : Cond.fieldLink RX10 343 (TX10 13).1 (TX10 13).2.1 (TX10 13).2.2.1 ∈ lw_g := g_in (t_in 506 (by decide +kernel)) rfl
theorem kf_X10_343 : lkF RX10 343 10 13 false .boolean := lkF.of RX10 TX10 18 tyX10 rfl ug_10 tyX10_ok nmX10 rfl (by decide) wd_506 rfl rfl
theorem wd_507 : Cond.fieldLink RX10 83 (TX10 14).1 (TX10 14).2.1 (TX10 14).2.2.1 ∈ lw_g := g_in (t_in 507 (by decide +kernel)) rfl
theorem kf_X10_83 : lkF RX10 83 10 14 true (tyX10 14) := lkF.of RX10 TX10 18 tyX10 rfl ug_10 tyX10_ok nmX10 rfl (by decide) wd_507 rfl rfl
theorem rf_0_14 : RF0 0 14 = some 100 := by decide +kernel
theorem th_100 : tO true 7 100 := ⟨by decide +kernel, by decide +kernel⟩
theorem wd_508 : Cond.fieldLink RX10 86 (TX10 15).1 (TX10 15).2.1 (TX10 15).2.2.1 ∈ lw_g := g_in (t_in 508 (by decide +kernel)) rfl
theorem kf_X10_86 : lkF RX10 86 10 15 true (tyX10 15) := lkF.of RX10 TX10 18 tyX10 rfl ug_10 tyX10_ok nmX10 rfl (by decide) wd_508 rfl rfl
theorem rf_0_15 : RF0 0 15 = some 119 := by decide +kernel
theorem th_119 : tO true 8 119 := ⟨by decide +kernel, by decide +kernel⟩
theorem wd_1341 : Cond.methodLink RX10 346 yX8_copyFrom ∈ lw_g := g_in (t_in 1341 (by decide +kernel)) rfl
theorem wd_1342 : Cond.instanceMethod yX8_copyFrom ∈ lw_g := g_in (t_in 1342 (by decide +kernel)) rfl
theorem wd_1343 : Cond.selects "WindingSquare$Texts" yX8_copyFrom yX8_copyFrom ∈ lw_g := g_in (t_in 1343 (by decide +kernel)) rfl
theorem wd_1344 : Cond.code yX8_copyFrom cX8_copyFrom 3 none ∈ lw_g := g_in (t_in 1344 (by decide +kernel)) rfl
theorem kv_X10_346 : lkV RX10 346 yX8_copyFrom cX8_copyFrom 3 none 1 8 := lkV.of5 wd_1341 wd_1342 wd_1343 wd_111 wd_1344 (by decide +kernel) (by decide) ⟨_, _, rfl⟩
theorem wd_509 : Cond.fieldLink RX10 89 (TX10 16).1 (TX10 16).2.1 (TX10 16).2.2.1 ∈ lw_g := g_in (t_in 509 (by decide +kernel)) rfl
theorem kf_X10_89 : lkF RX10 89 10 16 true (tyX10 16) := lkF.of RX10 TX10 18 tyX10 rfl ug_10 tyX10_ok nmX10 rfl (by decide) wd_509 rfl rfl
theorem rf_0_16 : RF0 0 16 = some 133 := by decide +kernel
theorem th_133 : tO true 0 133 := ⟨by decide +kernel, by decide +kernel⟩
theorem wd_1346 : Cond.methodLink RX10 349 yX0_copyFrom ∈ lw_g := g_in (t_in 1346 (by decide +kernel)) rfl
theorem wd_1347 : Cond.instanceMethod yX0_copyFrom ∈ lw_g := g_in (t_in 1347 (by decide +kernel)) rfl
theorem wd_1348 : Cond.selects "WindingSquare$Book" yX0_copyFrom yX0_copyFrom ∈ lw_g := g_in (t_in 1348 (by decide +kernel)) rfl
theorem wd_1349 : Cond.code yX0_copyFrom cX0_copyFrom 2 none ∈ lw_g := g_in (t_in 1349 (by decide +kernel)) rfl
theorem kv_X10_349 : lkV RX10 349 yX0_copyFrom cX0_copyFrom 2 none 1 0 := lkV.of5 wd_1346 wd_1347 wd_1348 wd_113 wd_1349 (by decide +kernel) (by decide) ⟨_, _, rfl⟩
theorem wd_510 : Cond.fieldLink RX10 92 (TX10 17).1 (TX10 17).2.1 (TX10 17).2.2.1 ∈ lw_g := g_in (t_in 510 (by decide +kernel)) rfl
theorem kf_X10_92 : lkF RX10 92 10 17 true (tyX10 17) := lkF.of RX10 TX10 18 tyX10 rfl ug_10 tyX10_ok nmX10 rfl (by decide) wd_510 rfl rfl
theorem rf_0_17 : RF0 0 17 = some 135 := by decide +kernel
theorem th_135 : tO true 6 135 := ⟨by decide +kernel, by decide +kernel⟩
theorem wd_1351 : Cond.methodLink RX10 352 yX6_copyFrom ∈ lw_g := g_in (t_in 1351 (by decide +kernel)) rfl
theorem wd_1352 : Cond.instanceMethod yX6_copyFrom ∈ lw_g := g_in (t_in 1352 (by decide +kernel)) rfl
theorem wd_1353 : Cond.selects "WindingSquare$Rows" yX6_copyFrom yX6_copyFrom ∈ lw_g := g_in (t_in 1353 (by decide +kernel)) rfl
theorem wd_1354 : Cond.code yX6_copyFrom cX6_copyFrom 2 none ∈ lw_g := g_in (t_in 1354 (by decide +kernel)) rfl
theorem kv_X10_352 : lkV RX10 352 yX6_copyFrom cX6_copyFrom 2 none 1 6 := lkV.of5 wd_1351 wd_1352 wd_1353 wd_114 wd_1354 (by decide +kernel) (by decide) ⟨_, _, rfl⟩
theorem wd_1551 : Cond.methodLink RX11 234 yX11_readPart ∈ lw_g := g_in (t_in 1551 (by decide +kernel)) rfl
theorem wd_1553 : Cond.instanceMethod yX11_readPart ∈ lw_g := g_in (t_in 1553 (by decide +kernel)) rfl
theorem wd_48 : Cond.selects "WindingSquareModel" yX11_readPart yX11_readPart ∈ lw_g := g_in (t_in 48 (by decide +kernel)) rfl
theorem wd_1554 : Cond.code yX11_readPart cX11_readPart 2 none ∈ lw_g := g_in (t_in 1554 (by decide +kernel)) rfl
theorem kv_X11_234 : lkV RX11 234 yX11_readPart cX11_readPart 2 none 0 11 := lkV.of5 wd_1551 wd_1553 wd_48 wd_119 wd_1554 (by decide +kernel) (by decide) ⟨_, _, rfl⟩
theorem wd_1687 : Cond.methodLink RX11 282 yX11_comesOver ∈ lw_g := g_in (t_in 1687 (by decide +kernel)) rfl
theorem wd_1689 : Cond.instanceMethod yX11_comesOver ∈ lw_g := g_in (t_in 1689 (by decide +kernel)) rfl
theorem wd_74 : Cond.selects "WindingSquareModel" yX11_comesOver yX11_comesOver ∈ lw_g := g_in (t_in 74 (by decide +kernel)) rfl
theorem wd_1690 : Cond.code yX11_comesOver cX11_comesOver 2 none ∈ lw_g := g_in (t_in 1690 (by decide +kernel)) rfl
theorem kv_X11_282 : lkV RX11 282 yX11_comesOver cX11_comesOver 2 none 1 11 := lkV.of5 wd_1687 wd_1689 wd_74 wd_119 wd_1690 (by decide +kernel) (by decide) ⟨_, _, rfl⟩
theorem wd_1823 : Cond.methodLink RX11 343 yX11_layFar ∈ lw_g := g_in (t_in 1823 (by decide +kernel)) rfl
theorem wd_1825 : Cond.instanceMethod yX11_layFar ∈ lw_g := g_in (t_in 1825 (by decide +kernel)) rfl
theorem wd_91 : Cond.selects "WindingSquareModel" yX11_layFar yX11_layFar ∈ lw_g := g_in (t_in 91 (by decide +kernel)) rfl
theorem wd_1826 : Cond.code yX11_layFar cX11_layFar 9 none ∈ lw_g := g_in (t_in 1826 (by decide +kernel)) rfl
theorem kv_X11_343 : lkV RX11 343 yX11_layFar cX11_layFar 9 none 2 11 := lkV.of5 wd_1823 wd_1825 wd_91 wd_119 wd_1826 (by decide +kernel) (by decide) ⟨_, _, rfl⟩
theorem wd_1831 : Cond.methodLink RX11 346 yX11_laySteps ∈ lw_g := g_in (t_in 1831 (by decide +kernel)) rfl
theorem wd_1833 : Cond.instanceMethod yX11_laySteps ∈ lw_g := g_in (t_in 1833 (by decide +kernel)) rfl
theorem wd_93 : Cond.selects "WindingSquareModel" yX11_laySteps yX11_laySteps ∈ lw_g := g_in (t_in 93 (by decide +kernel)) rfl
theorem wd_1834 : Cond.code yX11_laySteps cX11_laySteps 8 none ∈ lw_g := g_in (t_in 1834 (by decide +kernel)) rfl
theorem kv_X11_346 : lkV RX11 346 yX11_laySteps cX11_laySteps 8 none 2 11 := lkV.of5 wd_1831 wd_1833 wd_93 wd_119 wd_1834 (by decide +kernel) (by decide) ⟨_, _, rfl⟩
theorem wd_224 : Cond.fieldLink RX1 37 (TX7 2).1 (TX7 2).2.1 (TX7 2).2.2.1 ∈ lw_g := g_in (t_in 224 (by decide +kernel)) rfl
theorem kf_X1_37 : lkF RX1 37 7 2 false .int := lkF.of RX7 TX7 7 tyX7 rfl ug_7 tyX7_ok nmX7 rfl (by decide) wd_224 rfl rfl
theorem wd_644 : Cond.methodLink RX1 51 yX1_act ∈ lw_g := g_in (t_in 644 (by decide +kernel)) rfl
theorem wd_646 : Cond.instanceMethod yX1_act ∈ lw_g := g_in (t_in 646 (by decide +kernel)) rfl
theorem wd_2 : Cond.selects "WindingSquare$Day" yX1_act yX1_act ∈ lw_g := g_in (t_in 2 (by decide +kernel)) rfl
theorem wd_647 : Cond.code yX1_act cX1_act 5 none ∈ lw_g := g_in (t_in 647 (by decide +kernel)) rfl
theorem kv_X1_51 : lkV RX1 51 yX1_act cX1_act 5 none 1 1 := lkV.of5 wd_644 wd_646 wd_2 wd_116 wd_647 (by decide +kernel) (by decide) ⟨_, _, rfl⟩
theorem wd_1547 : Cond.methodLink RX11 208 yX11_readSum ∈ lw_g := g_in (t_in 1547 (by decide +kernel)) rfl
theorem wd_1549 : Cond.instanceMethod yX11_readSum ∈ lw_g := g_in (t_in 1549 (by decide +kernel)) rfl
theorem wd_47 : Cond.selects "WindingSquareModel" yX11_readSum yX11_readSum ∈ lw_g := g_in (t_in 47 (by decide +kernel)) rfl
theorem wd_1550 : Cond.code yX11_readSum cX11_readSum 2 none ∈ lw_g := g_in (t_in 1550 (by decide +kernel)) rfl
theorem kv_X11_208 : lkV RX11 208 yX11_readSum cX11_readSum 2 none 0 11 := lkV.of5 wd_1547 wd_1549 wd_47 wd_119 wd_1550 (by decide +kernel) (by decide) ⟨_, _, rfl⟩
theorem kb_62 : (Int8.ofInt 62).toInt32 = (62 : Int32) := by decide +kernel
theorem wd_1683 : Cond.methodLink RX11 295 yX11_goesOut ∈ lw_g := g_in (t_in 1683 (by decide +kernel)) rfl
theorem wd_1685 : Cond.instanceMethod yX11_goesOut ∈ lw_g := g_in (t_in 1685 (by decide +kernel)) rfl
theorem wd_73 : Cond.selects "WindingSquareModel" yX11_goesOut yX11_goesOut ∈ lw_g := g_in (t_in 73 (by decide +kernel)) rfl
theorem wd_1686 : Cond.code yX11_goesOut cX11_goesOut 2 none ∈ lw_g := g_in (t_in 1686 (by decide +kernel)) rfl
theorem kv_X11_295 : lkV RX11 295 yX11_goesOut cX11_goesOut 2 none 1 11 := lkV.of5 wd_1683 wd_1685 wd_73 wd_119 wd_1686 (by decide +kernel) (by decide) ⟨_, _, rfl⟩
theorem wd_415 : Cond.fieldLink RX10 154 (TX1 1).1 (TX1 1).2.1 (TX1 1).2.2.1 ∈ lw_g := g_in (t_in 415 (by decide +kernel)) rfl
theorem kf_X10_154 : lkF RX10 154 1 1 false .int := lkF.of RX1 TX1 8 tyX1 rfl ug_1 tyX1_ok nmX1 rfl (by decide) wd_415 rfl rfl
theorem wd_640 : Cond.methodLink RX10 157 yX1_pass ∈ lw_g := g_in (t_in 640 (by decide +kernel)) rfl
theorem wd_641 : Cond.instanceMethod yX1_pass ∈ lw_g := g_in (t_in 641 (by decide +kernel)) rfl
theorem wd_642 : Cond.selects "WindingSquare$Day" yX1_pass yX1_pass ∈ lw_g := g_in (t_in 642 (by decide +kernel)) rfl
theorem wd_643 : Cond.code yX1_pass cX1_pass 2 none ∈ lw_g := g_in (t_in 643 (by decide +kernel)) rfl
theorem kv_X10_157 : lkV RX10 157 yX1_pass cX1_pass 2 none 0 1 := lkV.of5 wd_640 wd_641 wd_642 wd_116 wd_643 (by decide +kernel) (by decide) ⟨_, _, rfl⟩
theorem wd_1019 : Cond.methodLink RX10 224 yX10_beginThought ∈ lw_g := g_in (t_in 1019 (by decide +kernel)) rfl
theorem wd_1021 : Cond.instanceMethod yX10_beginThought ∈ lw_g := g_in (t_in 1021 (by decide +kernel)) rfl
theorem wd_21 : Cond.selects "WindingSquare" yX10_beginThought yX10_beginThought ∈ lw_g := g_in (t_in 21 (by decide +kernel)) rfl
theorem wd_1022 : Cond.code yX10_beginThought cX10_beginThought 1 none ∈ lw_g := g_in (t_in 1022 (by decide +kernel)) rfl
theorem kv_X10_224 : lkV RX10 224 yX10_beginThought cX10_beginThought 1 none 0 10 := lkV.of5 wd_1019 wd_1021 wd_21 wd_108 wd_1022 (by decide +kernel) (by decide) ⟨_, _, rfl⟩
theorem wd_1023 : Cond.methodLink RX10 227 yX7_sum ∈ lw_g := g_in (t_in 1023 (by decide +kernel)) rfl
theorem kv_X10_227 : lkV RX10 227 yX7_sum cX7_sum 4 (some .int) 1 7 := lkV.of5 wd_1023 wd_679 wd_680 wd_109 wd_681 (by decide +kernel) (by decide) ⟨_, _, rfl⟩
theorem wd_1024 : Cond.methodLink RX10 230 yX10_endThought ∈ lw_g := g_in (t_in 1024 (by decide +kernel)) rfl
theorem wd_1026 : Cond.instanceMethod yX10_endThought ∈ lw_g := g_in (t_in 1026 (by decide +kernel)) rfl
theorem wd_22 : Cond.selects "WindingSquare" yX10_endThought yX10_endThought ∈ lw_g := g_in (t_in 22 (by decide +kernel)) rfl
theorem wd_1027 : Cond.code yX10_endThought cX10_endThought 1 none ∈ lw_g := g_in (t_in 1027 (by decide +kernel)) rfl
theorem kv_X10_230 : lkV RX10 230 yX10_endThought cX10_endThought 1 none 0 10 := lkV.of5 wd_1024 wd_1026 wd_22 wd_108 wd_1027 (by decide +kernel) (by decide) ⟨_, _, rfl⟩
theorem wd_1577 : Cond.methodLink RX11 225 yX11_readOpening ∈ lw_g := g_in (t_in 1577 (by decide +kernel)) rfl
theorem wd_1579 : Cond.instanceMethod yX11_readOpening ∈ lw_g := g_in (t_in 1579 (by decide +kernel)) rfl
theorem wd_53 : Cond.selects "WindingSquareModel" yX11_readOpening yX11_readOpening ∈ lw_g := g_in (t_in 53 (by decide +kernel)) rfl
theorem wd_1580 : Cond.code yX11_readOpening cX11_readOpening 2 none ∈ lw_g := g_in (t_in 1580 (by decide +kernel)) rfl
theorem kv_X11_225 : lkV RX11 225 yX11_readOpening cX11_readOpening 2 none 0 11 := lkV.of5 wd_1577 wd_1579 wd_53 wd_119 wd_1580 (by decide +kernel) (by decide) ⟨_, _, rfl⟩
theorem wd_1589 : Cond.methodLink RX11 228 yX11_readTwo ∈ lw_g := g_in (t_in 1589 (by decide +kernel)) rfl
theorem wd_1591 : Cond.instanceMethod yX11_readTwo ∈ lw_g := g_in (t_in 1591 (by decide +kernel)) rfl
theorem wd_56 : Cond.selects "WindingSquareModel" yX11_readTwo yX11_readTwo ∈ lw_g := g_in (t_in 56 (by decide +kernel)) rfl
theorem wd_1592 : Cond.code yX11_readTwo cX11_readTwo 2 none ∈ lw_g := g_in (t_in 1592 (by decide +kernel)) rfl
theorem kv_X11_228 : lkV RX11 228 yX11_readTwo cX11_readTwo 2 none 0 11 := lkV.of5 wd_1589 wd_1591 wd_56 wd_119 wd_1592 (by decide +kernel) (by decide) ⟨_, _, rfl⟩
theorem kb_41 : (Int8.ofInt 41).toInt32 = (41 : Int32) := by decide +kernel
theorem wd_1593 : Cond.methodLink RX11 231 yX11_goesOnWith ∈ lw_g := g_in (t_in 1593 (by decide +kernel)) rfl
theorem wd_1595 : Cond.instanceMethod yX11_goesOnWith ∈ lw_g := g_in (t_in 1595 (by decide +kernel)) rfl
theorem wd_57 : Cond.selects "WindingSquareModel" yX11_goesOnWith yX11_goesOnWith ∈ lw_g := g_in (t_in 57 (by decide +kernel)) rfl
theorem wd_1596 : Cond.code yX11_goesOnWith cX11_goesOnWith 1 (some .boolean) ∈ lw_g := g_in (t_in 1596 (by decide +kernel)) rfl
theorem kv_X11_231 : lkV RX11 231 yX11_goesOnWith cX11_goesOnWith 1 (some .boolean) 0 11 := lkV.of5 wd_1593 wd_1595 wd_57 wd_119 wd_1596 (by decide +kernel) (by decide) ⟨_, _, rfl⟩
theorem wd_1670 : Cond.methodLink RX11 307 yX11_goesOn ∈ lw_g := g_in (t_in 1670 (by decide +kernel)) rfl
theorem wd_1672 : Cond.instanceMethod yX11_goesOn ∈ lw_g := g_in (t_in 1672 (by decide +kernel)) rfl
theorem wd_72 : Cond.selects "WindingSquareModel" yX11_goesOn yX11_goesOn ∈ lw_g := g_in (t_in 72 (by decide +kernel)) rfl
theorem wd_1673 : Cond.code yX11_goesOn cX11_goesOn 6 none ∈ lw_g := g_in (t_in 1673 (by decide +kernel)) rfl
theorem kv_X11_307 : lkV RX11 307 yX11_goesOn cX11_goesOn 6 none 1 11 := lkV.of5 wd_1670 wd_1672 wd_72 wd_119 wd_1673 (by decide +kernel) (by decide) ⟨_, _, rfl⟩
theorem kb_112 : (Int8.ofInt 112).toInt32 = (112 : Int32) := by decide +kernel
theorem wd_1573 : Cond.methodLink RX11 211 yX11_readEither ∈ lw_g := g_in (t_in 1573 (by decide +kernel)) rfl
theorem wd_1575 : Cond.instanceMethod yX11_readEither ∈ lw_g := g_in (t_in 1575 (by decide +kernel)) rfl
theorem wd_52 : Cond.selects "WindingSquareModel" yX11_readEither yX11_readEither ∈ lw_g := g_in (t_in 52 (by decide +kernel)) rfl
theorem wd_1576 : Cond.code yX11_readEither cX11_readEither 2 none ∈ lw_g := g_in (t_in 1576 (by decide +kernel)) rfl
theorem kv_X11_211 : lkV RX11 211 yX11_readEither cX11_readEither 2 none 0 11 := lkV.of5 wd_1573 wd_1575 wd_52 wd_119 wd_1576 (by decide +kernel) (by decide) ⟨_, _, rfl⟩
theorem wd_1635 : Cond.methodLink RX11 313 yX11_goesMinute ∈ lw_g := g_in (t_in 1635 (by decide +kernel)) rfl
theorem wd_1637 : Cond.instanceMethod yX11_goesMinute ∈ lw_g := g_in (t_in 1637 (by decide +kernel)) rfl
theorem wd_64 : Cond.selects "WindingSquareModel" yX11_goesMinute yX11_goesMinute ∈ lw_g := g_in (t_in 64 (by decide +kernel)) rfl
theorem wd_1638 : Cond.code yX11_goesMinute cX11_goesMinute 3 none ∈ lw_g := g_in (t_in 1638 (by decide +kernel)) rfl
theorem kv_X11_313 : lkV RX11 313 yX11_goesMinute cX11_goesMinute 3 none 0 11 := lkV.of5 wd_1635 wd_1637 wd_64 wd_119 wd_1638 (by decide +kernel) (by decide) ⟨_, _, rfl⟩
theorem wd_1743 : Cond.methodLink RX11 319 yX11_sumOf ∈ lw_g := g_in (t_in 1743 (by decide +kernel)) rfl
theorem wd_1745 : Cond.instanceMethod yX11_sumOf ∈ lw_g := g_in (t_in 1745 (by decide +kernel)) rfl
theorem wd_86 : Cond.selects "WindingSquareModel" yX11_sumOf yX11_sumOf ∈ lw_g := g_in (t_in 86 (by decide +kernel)) rfl
theorem wd_1746 : Cond.code yX11_sumOf cX11_sumOf 4 (some .int) ∈ lw_g := g_in (t_in 1746 (by decide +kernel)) rfl
theorem kv_X11_319 : lkV RX11 319 yX11_sumOf cX11_sumOf 4 (some .int) 1 11 := lkV.of5 wd_1743 wd_1745 wd_86 wd_119 wd_1746 (by decide +kernel) (by decide) ⟨_, _, rfl⟩
theorem wd_1518 : Cond.methodLink RX11 175 yX11_readRule ∈ lw_g := g_in (t_in 1518 (by decide +kernel)) rfl
theorem wd_1520 : Cond.instanceMethod yX11_readRule ∈ lw_g := g_in (t_in 1520 (by decide +kernel)) rfl
theorem wd_42 : Cond.selects "WindingSquareModel" yX11_readRule yX11_readRule ∈ lw_g := g_in (t_in 42 (by decide +kernel)) rfl
theorem wd_1521 : Cond.code yX11_readRule cX11_readRule 8 none ∈ lw_g := g_in (t_in 1521 (by decide +kernel)) rfl
theorem kv_X11_175 : lkV RX11 175 yX11_readRule cX11_readRule 8 none 1 11 := lkV.of5 wd_1518 wd_1520 wd_42 wd_119 wd_1521 (by decide +kernel) (by decide) ⟨_, _, rfl⟩
theorem wd_1601 : Cond.methodLink RX11 179 yX11_readStones ∈ lw_g := g_in (t_in 1601 (by decide +kernel)) rfl
theorem wd_1603 : Cond.instanceMethod yX11_readStones ∈ lw_g := g_in (t_in 1603 (by decide +kernel)) rfl
theorem wd_59 : Cond.selects "WindingSquareModel" yX11_readStones yX11_readStones ∈ lw_g := g_in (t_in 59 (by decide +kernel)) rfl
theorem wd_1604 : Cond.code yX11_readStones cX11_readStones 10 none ∈ lw_g := g_in (t_in 1604 (by decide +kernel)) rfl
theorem kv_X11_179 : lkV RX11 179 yX11_readStones cX11_readStones 10 none 1 11 := lkV.of5 wd_1601 wd_1603 wd_59 wd_119 wd_1604 (by decide +kernel) (by decide) ⟨_, _, rfl⟩
theorem wd_1605 : Cond.methodLink RX11 182 yX11_readWay ∈ lw_g := g_in (t_in 1605 (by decide +kernel)) rfl
theorem wd_1607 : Cond.instanceMethod yX11_readWay ∈ lw_g := g_in (t_in 1607 (by decide +kernel)) rfl
theorem wd_60 : Cond.selects "WindingSquareModel" yX11_readWay yX11_readWay ∈ lw_g := g_in (t_in 60 (by decide +kernel)) rfl
theorem wd_1608 : Cond.code yX11_readWay cX11_readWay 7 none ∈ lw_g := g_in (t_in 1608 (by decide +kernel)) rfl
theorem kv_X11_182 : lkV RX11 182 yX11_readWay cX11_readWay 7 none 1 11 := lkV.of5 wd_1605 wd_1607 wd_60 wd_119 wd_1608 (by decide +kernel) (by decide) ⟨_, _, rfl⟩
theorem wd_1612 : Cond.methodLink RX11 185 yX11_readHour ∈ lw_g := g_in (t_in 1612 (by decide +kernel)) rfl
theorem wd_1614 : Cond.instanceMethod yX11_readHour ∈ lw_g := g_in (t_in 1614 (by decide +kernel)) rfl
theorem wd_61 : Cond.selects "WindingSquareModel" yX11_readHour yX11_readHour ∈ lw_g := g_in (t_in 61 (by decide +kernel)) rfl
theorem wd_1615 : Cond.code yX11_readHour cX11_readHour 5 none ∈ lw_g := g_in (t_in 1615 (by decide +kernel)) rfl
theorem kv_X11_185 : lkV RX11 185 yX11_readHour cX11_readHour 5 none 1 11 := lkV.of5 wd_1612 wd_1614 wd_61 wd_119 wd_1615 (by decide +kernel) (by decide) ⟨_, _, rfl⟩
theorem wd_1616 : Cond.methodLink RX11 191 yX11_drivesOut ∈ lw_g := g_in (t_in 1616 (by decide +kernel)) rfl
theorem wd_1618 : Cond.instanceMethod yX11_drivesOut ∈ lw_g := g_in (t_in 1618 (by decide +kernel)) rfl
theorem wd_62 : Cond.selects "WindingSquareModel" yX11_drivesOut yX11_drivesOut ∈ lw_g := g_in (t_in 62 (by decide +kernel)) rfl
theorem wd_1619 : Cond.code yX11_drivesOut cX11_drivesOut 3 none ∈ lw_g := g_in (t_in 1619 (by decide +kernel)) rfl
theorem kv_X11_191 : lkV RX11 191 yX11_drivesOut cX11_drivesOut 3 none 0 11 := lkV.of5 wd_1616 wd_1618 wd_62 wd_119 wd_1619 (by decide +kernel) (by decide) ⟨_, _, rfl⟩
