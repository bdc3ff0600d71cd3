/-! WindingSquare$Book.write(LWindingSquare$Square;III)V -/
noncomputable def f_X0_write (a0 : Nat) (a1 : Nat) (p2 : Int32) (p3 : Int32) (p4 : Int32) (M : zM) : Option (zM) :=
  if (M a1 6) < (150 : Int32) then (nm ((4 : Int32) * (M a1 6)) fun v5_17 =>
  grd (inb v5_17 600) (
  nm (mset M (a0 + 1) (ix v5_17) (M a1 3)) fun M29 =>
  grd (inb (v5_17 + (1 : Int32)) 600) (
  nm (mset M29 (a0 + 1) (ix (v5_17 + (1 : Int32))) p2) fun M39 =>
  grd (inb (v5_17 + (2 : Int32)) 600) (
  nm (mset M39 (a0 + 1) (ix (v5_17 + (2 : Int32))) p3) fun M49 =>
  grd (inb (v5_17 + (3 : Int32)) 600) (
  nm (mset M49 (a0 + 1) (ix (v5_17 + (3 : Int32))) p4) fun M60 =>
  nm (mset M60 a1 6 ((M60 a1 6) + (1 : Int32))) fun M68 =>
  some M68)))))
  else (some M)
set_option maxRecDepth 100000 in
theorem f_X0_write_ok {C : zC} {d : Nat} {g : zG} {l : Launch} {w : zW} {r : zM} {a0 : Nat} {a1 : Nat} {p2 : Int32} {p3 : Int32} {p4 : Int32} (hB : bOK C cX0_write 6 RX0 d g l w true) (h0 : tO true 0 a0) (h1 : tO true 7 a1) (hd : 1 ≤ d) (M : zM) (hR : RtV C cX0_write w r) : Sg C w (0, 0) 0 [(0, zr w a0), (1, zr w a1), (2, .int p2), (3, .int p3), (4, .int p4)] [] M (f_X0_write a0 a1 p2 p3 p4 M) (fun q => q = r) := by
  have hC := hB.1.1
  have hq1 : 1 ≤ d := by omega
  unfold f_X0_write
  refine x_aload_n hC dX0_write_0 rfl 1 rfl ?_
  refine r_getI hB dX0_write_1 kf_X0_13 rfl h1 ?_
  refine x_sipush (v := (150 : Int32)) hC dX0_write_4 kh_150 ?_
  refine x_icmp_lt (tgt := 11) hC dX0_write_7 (by decide) ?_ ?_
  · refine x_iconst (v := (4 : Int32)) hC dX0_write_11 ki_4 ?_
    refine x_aload_n hC dX0_write_12 rfl 1 rfl ?_
    refine r_getI hB dX0_write_13 kf_X0_13 rfl h1 ?_
    refine x_imul hC dX0_write_16 ?_
    refine x_top (fun v5_17 => ?_)
    refine x_istore (f := 0) hC dX0_write_17 [(5, .int v5_17), (0, zr w a0), (1, zr w a1), (2, .int p2), (3, .int p3), (4, .int p4)] (by decide) rfl ?_
    refine x_aload_n hC dX0_write_19 rfl 1 rfl ?_
    refine r_getR hB dX0_write_20 kf_X0_9 rfl h0 (nv_0_0 h0).1 ?_
    refine x_iload hC dX0_write_23 0 rfl ?_
    refine x_aload_n hC dX0_write_25 rfl 2 rfl ?_
    refine r_getI hB dX0_write_26 kf_X0_19 rfl h1 ?_
    refine r_iast hB dX0_write_29 (nv_0_0 h0).2 ?_
    refine x_mem (fun M29 => ?_)
    refine x_aload_n hC dX0_write_30 rfl 1 rfl ?_
    refine r_getR hB dX0_write_31 kf_X0_9 rfl h0 (nv_0_0 h0).1 ?_
    refine x_iload hC dX0_write_34 0 rfl ?_
    refine x_iconst (v := (1 : Int32)) hC dX0_write_36 ki_1 ?_
    refine x_iadd hC dX0_write_37 ?_
    refine x_iload_n hC dX0_write_38 rfl 3 rfl ?_
    refine r_iast hB dX0_write_39 (nv_0_0 h0).2 ?_
    refine x_mem (fun M39 => ?_)
    refine x_aload_n hC dX0_write_40 rfl 1 rfl ?_
    refine r_getR hB dX0_write_41 kf_X0_9 rfl h0 (nv_0_0 h0).1 ?_
    refine x_iload hC dX0_write_44 0 rfl ?_
    refine x_iconst (v := (2 : Int32)) hC dX0_write_46 ki_2 ?_
    refine x_iadd hC dX0_write_47 ?_
    refine x_iload_n hC dX0_write_48 rfl 4 rfl ?_
    refine r_iast hB dX0_write_49 (nv_0_0 h0).2 ?_
    refine x_mem (fun M49 => ?_)
    refine x_aload_n hC dX0_write_50 rfl 1 rfl ?_
    refine r_getR hB dX0_write_51 kf_X0_9 rfl h0 (nv_0_0 h0).1 ?_
    refine x_iload hC dX0_write_54 0 rfl ?_
    refine x_iconst (v := (3 : Int32)) hC dX0_write_56 ki_3 ?_
    refine x_iadd hC dX0_write_57 ?_
    refine x_iload hC dX0_write_58 5 rfl ?_
    refine r_iast hB dX0_write_60 (nv_0_0 h0).2 ?_
    refine x_mem (fun M60 => ?_)
    refine x_aload_n hC dX0_write_61 rfl 2 rfl ?_
    refine x_dup hC dX0_write_62 rfl ?_
    refine r_getI hB dX0_write_63 kf_X0_13 rfl h1 ?_
    refine x_iconst (v := (1 : Int32)) hC dX0_write_66 ki_1 ?_
    refine x_iadd hC dX0_write_67 ?_
    refine r_putI hB dX0_write_68 kf_X0_13 rfl h1 ?_
    refine x_mem (fun M68 => ?_)
    exact r_retV hR dX0_write_71 (fun h => h)
  · exact r_retV hR dX0_write_10 (fun h => h)
theorem f_X0_write_met {l : Launch} {d : Nat} {g : zG} {w : zW} {M0 : zM} {a0 : Nat} {a1 : Nat} {p2 : Int32} {p3 : Int32} {p4 : Int32} {M : zM} (hw : wS w) (h0 : tO true 0 a0) (h1 : tO true 7 a1) (hd : 1 ≤ d) {M' : zM} (h : f_X0_write a0 a1 p2 p3 p4 M = some M') : zMet l yX0_write cX0_write 6 none d g w (zin true) M0 [zr w a0, zr w a1, .int p2, .int p3, .int p4] M none M' :=
  met_v (by decide +kernel) (Nat.le_of_ble_eq_true rfl) (fun C hB0 hR => f_X0_write_ok ⟨hB0, hw⟩ h0 h1 hd M hR _ h rfl)
/-! WindingSquare$Book.part(II)I -/
noncomputable def f_X0_part (a0 : Nat) (p1 : Int32) (p2 : Int32) (M : zM) : Option (Int32) :=
  grd (inb (((4 : Int32) * p1) + p2) 600) (
  some (M (a0 + 1) (ix (((4 : Int32) * p1) + p2))))
set_option maxRecDepth 100000 in
theorem f_X0_part_ok {C : zC} {d : Nat} {g : zG} {l : Launch} {w : zW} {r : Int32} {a0 : Nat} {p1 : Int32} {p2 : Int32} (hB : bOK C cX0_part 3 RX0 d g l w true) (h0 : tO true 0 a0) (hd : 1 ≤ d) (M : zM) (hR : RtI C cX0_part w r M) : Sg C w (0, 0) 0 [(0, zr w a0), (1, .int p1), (2, .int p2)] [] M (f_X0_part a0 p1 p2 M) (fun q => q = r) := by
  have hC := hB.1.1
  have hq1 : 1 ≤ d := by omega
  unfold f_X0_part
  refine x_aload_n hC dX0_part_0 rfl 0 rfl ?_
  refine r_getR hB dX0_part_1 kf_X0_9 rfl h0 (nv_0_0 h0).1 ?_
  refine x_iconst (v := (4 : Int32)) hC dX0_part_4 ki_4 ?_
  refine x_iload_n hC dX0_part_5 rfl 1 rfl ?_
  refine x_imul hC dX0_part_6 ?_
  refine x_iload_n hC dX0_part_7 rfl 2 rfl ?_
  refine x_iadd hC dX0_part_8 ?_
  refine r_iald hB dX0_part_9 (nv_0_0 h0).2 ?_
  exact r_retI hR dX0_part_10 (fun h => congrArg (fun q => (q, M)) h)
theorem f_X0_part_met {l : Launch} {d : Nat} {g : zG} {w : zW} {M0 : zM} {a0 : Nat} {p1 : Int32} {p2 : Int32} {M : zM} (hw : wS w) (h0 : tO true 0 a0) (hd : 1 ≤ d) {v : Int32} (h : f_X0_part a0 p1 p2 M = some v) : zMet l yX0_part cX0_part 3 (some .int) d g w (zin true) M0 [zr w a0, .int p1, .int p2] M (some (.int v)) M :=
  met_i (by decide +kernel) (Nat.le_of_ble_eq_true rfl) rfl (fun C hB0 hR => f_X0_part_ok ⟨hB0, hw⟩ h0 hd M hR _ h rfl)
/-! WindingSquare$Grid.plus(II)I -/
def f_X2_plus (p0 : Int32) (p1 : Int32) : Int32 :=
  nm (p0 + p1) fun v2_3 =>
  if v2_3 < (1000000007 : Int32) then (v2_3)
  else ((v2_3 - (1000000007 : Int32)))
set_option maxRecDepth 100000 in
theorem f_X2_plus_ok {C : zC} {d : Nat} {g : zG} {l : Launch} {w : zW} {r : Int32} {p0 : Int32} {p1 : Int32} (hB : bOK C cX2_plus 3 RX2 d g l w true) (hd : 1 ≤ d) (M : zM) (hR : RtI C cX2_plus w r M) : Sg C w (0, 0) 0 [(0, .int p0), (1, .int p1)] [] M (some (f_X2_plus p0 p1)) (fun q => q = r) := by
  have hC := hB.1.1
  have hq1 : 1 ≤ d := by omega
  unfold f_X2_plus
  refine x_iload_n hC dX2_plus_0 rfl 0 rfl ?_
  refine x_iload_n hC dX2_plus_1 rfl 1 rfl ?_
  refine x_iadd hC dX2_plus_2 ?_
  refine x_sn ?_
  refine x_top (fun v2_3 => ?_)
  refine x_istore_n hC dX2_plus_3 rfl [(2, .int v2_3), (0, .int p0), (1, .int p1)] (by decide) rfl ?_
  refine x_iload_n hC dX2_plus_4 rfl 0 rfl ?_
  refine x_ldc hC dX2_plus_5 wd_1093 ?_
  refine x_si ?_
  refine x_icmp_lt (tgt := 17) hC dX2_plus_7 (by decide) ?_ ?_
  · refine x_iload_n hC dX2_plus_17 rfl 0 rfl ?_
    exact r_retI hR dX2_plus_18 (fun h => congrArg (fun q => (q, M)) h)
  · refine x_iload_n hC dX2_plus_10 rfl 0 rfl ?_
    refine x_ldc hC dX2_plus_11 wd_1093 ?_
    refine x_isub hC dX2_plus_13 ?_
    refine x_goto (tgt := 18) hC dX2_plus_14 (by decide) ?_
    exact r_retI hR dX2_plus_18 (fun h => congrArg (fun q => (q, M)) h)
theorem f_X2_plus_met {l : Launch} {d : Nat} {g : zG} {w : zW} {M0 : zM} {p0 : Int32} {p1 : Int32} {M : zM} (hw : wS w) (hd : 1 ≤ d) : zMet l yX2_plus cX2_plus 3 (some .int) d g w (zin true) M0 [.int p0, .int p1] M (some (.int (f_X2_plus p0 p1))) M :=
  met_i (by decide +kernel) (Nat.le_of_ble_eq_true rfl) rfl (fun C hB0 hR => f_X2_plus_ok ⟨hB0, hw⟩ hd M hR _ rfl rfl)
/-! WindingSquare$Law.emit(I)V -/
noncomputable def f_X3_emit (a0 : Nat) (p1 : Int32) (M : zM) : Option (zM) :=
  if (400 : Int32) ≤ (M a0 5) then (some M)
  else (grd (inb (M a0 5) 400) (
  nm (mset M (a0 + 4) (ix (M a0 5)) p1) fun M19 =>
  nm (mset M19 a0 5 ((M19 a0 5) + (1 : Int32))) fun M27 =>
  some M27))
set_option maxRecDepth 100000 in
theorem f_X3_emit_ok {C : zC} {d : Nat} {g : zG} {l : Launch} {w : zW} {r : zM} {a0 : Nat} {p1 : Int32} (hB : bOK C cX3_emit 2 RX3 d g l w true) (h0 : tO true 3 a0) (hd : 1 ≤ d) (M : zM) (hR : RtV C cX3_emit w r) : Sg C w (0, 0) 0 [(0, zr w a0), (1, .int p1)] [] M (f_X3_emit a0 p1 M) (fun q => q = r) := by
  have hC := hB.1.1
  have hq1 : 1 ≤ d := by omega
  unfold f_X3_emit
  refine x_aload_n hC dX3_emit_0 rfl 0 rfl ?_
  refine r_getI hB dX3_emit_1 kf_X3_27 rfl h0 ?_
  refine x_sipush (v := (400 : Int32)) hC dX3_emit_4 kh_400 ?_
  refine x_icmp_ge (tgt := 30) hC dX3_emit_7 (by decide) ?_ ?_
  · exact r_retV hR dX3_emit_30 (fun h => h)
  · refine x_aload_n hC dX3_emit_10 rfl 0 rfl ?_
    refine r_getR hB dX3_emit_11 kf_X3_21 rfl h0 (nv_3_4 h0).1 ?_
    refine x_aload_n hC dX3_emit_14 rfl 0 rfl ?_
    refine r_getI hB dX3_emit_15 kf_X3_27 rfl h0 ?_
    refine x_iload_n hC dX3_emit_18 rfl 1 rfl ?_
    refine r_iast hB dX3_emit_19 (nv_3_4 h0).2 ?_
    refine x_mem (fun M19 => ?_)
    refine x_aload_n hC dX3_emit_20 rfl 0 rfl ?_
    refine x_dup hC dX3_emit_21 rfl ?_
    refine r_getI hB dX3_emit_22 kf_X3_27 rfl h0 ?_
    refine x_iconst (v := (1 : Int32)) hC dX3_emit_25 ki_1 ?_
    refine x_iadd hC dX3_emit_26 ?_
    refine r_putI hB dX3_emit_27 kf_X3_27 rfl h0 ?_
    refine x_mem (fun M27 => ?_)
    exact r_retV hR dX3_emit_30 (fun h => h)
theorem f_X3_emit_met {l : Launch} {d : Nat} {g : zG} {w : zW} {M0 : zM} {a0 : Nat} {p1 : Int32} {M : zM} (hw : wS w) (h0 : tO true 3 a0) (hd : 1 ≤ d) {M' : zM} (h : f_X3_emit a0 p1 M = some M') : zMet l yX3_emit cX3_emit 2 none d g w (zin true) M0 [zr w a0, .int p1] M none M' :=
  met_v (by decide +kernel) (Nat.le_of_ble_eq_true rfl) (fun C hB0 hR => f_X3_emit_ok ⟨hB0, hw⟩ h0 hd M hR _ h rfl)
/-! WindingSquare$Law.without(I[I)I -/
noncomputable def f_X3_without (p0 : Int32) (a1 : Nat) (M : zM) : Option (Int32) :=
  if p0 = (128 : Int32) then (some (((300 : Int32) * (M a1 (ix (6 : Int32)))) + ((20 : Int32) * (M a1 (ix (0 : Int32))))))
  else (if p0 = (129 : Int32) then (some ((200 : Int32) * (M a1 (ix (8 : Int32)))))
  else (some ((10 : Int32) - (M a1 (ix (1 : Int32))))))
set_option maxRecDepth 100000 in
theorem f_X3_without_ok {C : zC} {d : Nat} {g : zG} {l : Launch} {w : zW} {r : Int32} {p0 : Int32} {a1 : Nat} (hB : bOK C cX3_without 2 RX3 d g l w true) (h1 : tA true 10 a1) (hd : 1 ≤ d) (M : zM) (hR : RtI C cX3_without w r M) : Sg C w (0, 0) 0 [(0, .int p0), (1, zr w a1)] [] M (f_X3_without p0 a1 M) (fun q => q = r) := by
  have hC := hB.1.1
  have hq1 : 1 ≤ d := by omega
  unfold f_X3_without
  refine x_iload_n hC dX3_without_0 rfl 0 rfl ?_
  refine x_ite (fun hs => ?_) (fun hs128 => ?_)
  · refine x_lsw (tgt := 28) (off := 27) hC dX3_without_1 (by decide +kernel) (by rw [hs]; decide +kernel) (by decide) ?_
    refine x_sipush (v := (300 : Int32)) hC dX3_without_28 kh_300 ?_
    refine x_aload_n hC dX3_without_31 rfl 1 rfl ?_
    refine x_bipush (v := (6 : Int32)) hC dX3_without_32 kb_6 ?_
    refine r_iald0 hB dX3_without_34 h1 ib_6_10 ?_
    refine x_imul hC dX3_without_35 ?_
    refine x_bipush (v := (20 : Int32)) hC dX3_without_36 kb_20 ?_
    refine x_aload_n hC dX3_without_38 rfl 1 rfl ?_
    refine x_iconst (v := (0 : Int32)) hC dX3_without_39 ki_0 ?_
    refine r_iald0 hB dX3_without_40 h1 ib_0_10 ?_
    refine x_imul hC dX3_without_41 ?_
    refine x_iadd hC dX3_without_42 ?_
    exact r_retI hR dX3_without_43 (fun h => congrArg (fun q => (q, M)) h)
  · skip
    refine x_ite (fun hs => ?_) (fun hs129 => ?_)
    · refine x_lsw (tgt := 44) (off := 43) hC dX3_without_1 (by decide +kernel) (by rw [hs]; decide +kernel) (by decide) ?_
      refine x_sipush (v := (200 : Int32)) hC dX3_without_44 kh_200 ?_
      refine x_aload_n hC dX3_without_47 rfl 1 rfl ?_
      refine x_bipush (v := (8 : Int32)) hC dX3_without_48 kb_8 ?_
      refine r_iald0 hB dX3_without_50 h1 ib_8_10 ?_
      refine x_imul hC dX3_without_51 ?_
      exact r_retI hR dX3_without_52 (fun h => congrArg (fun q => (q, M)) h)
    · skip
      refine x_lsw (tgt := 53) (off := 52) hC dX3_without_1 (by decide +kernel) (by have q0 := (x_ne (k := 128) hs128 (by decide)).symm; have q1 := (x_ne (k := 129) hs129 (by decide)).symm; simp [Op.lookupswitch.offset, *]; done) (by decide) ?_
      refine x_bipush (v := (10 : Int32)) hC dX3_without_53 kb_10 ?_
      refine x_aload_n hC dX3_without_55 rfl 1 rfl ?_
      refine x_iconst (v := (1 : Int32)) hC dX3_without_56 ki_1 ?_
      refine r_iald0 hB dX3_without_57 h1 ib_1_10 ?_
      refine x_isub hC dX3_without_58 ?_
      exact r_retI hR dX3_without_59 (fun h => congrArg (fun q => (q, M)) h)
theorem f_X3_without_met {l : Launch} {d : Nat} {g : zG} {w : zW} {M0 : zM} {p0 : Int32} {a1 : Nat} {M : zM} (hw : wS w) (h1 : tA true 10 a1) (hd : 1 ≤ d) {v : Int32} (h : f_X3_without p0 a1 M = some v) : zMet l yX3_without cX3_without 2 (some .int) d g w (zin true) M0 [.int p0, zr w a1] M (some (.int v)) M :=
  met_i (by decide +kernel) (Nat.le_of_ble_eq_true rfl) rfl (fun C hB0 hR => f_X3_without_ok ⟨hB0, hw⟩ h1 hd M hR _ h rfl)
/-! WindingSquare$Law.join(III)I -/
noncomputable def f_X3_join (p0 : Int32) (p1 : Int32) (p2 : Int32) : Option (Int32) :=
  if p0 = (42 : Int32) then (some (p1 * p2))
  else (if p0 = (43 : Int32) then (some (p1 + p2))
  else (if p0 = (45 : Int32) then (some (p1 - p2))
  else (if p0 = (47 : Int32) then (if p2 = 0 then (some (0 : Int32))
  else (grd (¬ p2 = 0) (
  some (p1 / p2))))
  else (if p0 = (60 : Int32) then (if p2 ≤ p1 then (some (0 : Int32))
  else (some (1 : Int32)))
  else (if p0 = (61 : Int32) then (if p1 = p2 then (some (1 : Int32))
  else (some (0 : Int32)))
  else (if p0 = (62 : Int32) then (if p1 ≤ p2 then (some (0 : Int32))
  else (some (1 : Int32)))
  else (if p0 = (133 : Int32) then (some (p1 &&& p2))
  else (some (p1 ||| p2)))))))))
set_option maxRecDepth 100000 in
theorem f_X3_join_ok {C : zC} {d : Nat} {g : zG} {l : Launch} {w : zW} {r : Int32} {p0 : Int32} {p1 : Int32} {p2 : Int32} (hB : bOK C cX3_join 3 RX3 d g l w true) (hd : 1 ≤ d) (M : zM) (hR : RtI C cX3_join w r M) : Sg C w (0, 0) 0 [(0, .int p0), (1, .int p1), (2, .int p2)] [] M (f_X3_join p0 p1 p2) (fun q => q = r) := by
  have hC := hB.1.1
  have hq1 : 1 ≤ d := by omega
  unfold f_X3_join
  refine x_iload_n hC dX3_join_0 rfl 0 rfl ?_
  refine x_ite (fun hs => ?_) (fun hs42 => ?_)
  · refine x_lsw (tgt := 84) (off := 83) hC dX3_join_1 (by decide +kernel) (by rw [hs]; decide +kernel) (by decide) ?_
    refine x_iload_n hC dX3_join_84 rfl 1 rfl ?_
    refine x_iload_n hC dX3_join_85 rfl 2 rfl ?_
    refine x_imul hC dX3_join_86 ?_
    exact r_retI hR dX3_join_87 (fun h => congrArg (fun q => (q, M)) h)
  · skip
    refine x_ite (fun hs => ?_) (fun hs43 => ?_)
    · refine x_lsw (tgt := 76) (off := 75) hC dX3_join_1 (by decide +kernel) (by rw [hs]; decide +kernel) (by decide) ?_
      refine x_iload_n hC dX3_join_76 rfl 1 rfl ?_
      refine x_iload_n hC dX3_join_77 rfl 2 rfl ?_
      refine x_iadd hC dX3_join_78 ?_
      exact r_retI hR dX3_join_79 (fun h => congrArg (fun q => (q, M)) h)
    · skip
      refine x_ite (fun hs => ?_) (fun hs45 => ?_)
      · refine x_lsw (tgt := 80) (off := 79) hC dX3_join_1 (by decide +kernel) (by rw [hs]; decide +kernel) (by decide) ?_
        refine x_iload_n hC dX3_join_80 rfl 1 rfl ?_
        refine x_iload_n hC dX3_join_81 rfl 2 rfl ?_
        refine x_isub hC dX3_join_82 ?_
        exact r_retI hR dX3_join_83 (fun h => congrArg (fun q => (q, M)) h)
      · skip
        refine x_ite (fun hs => ?_) (fun hs47 => ?_)
        · refine x_lsw (tgt := 88) (off := 87) hC dX3_join_1 (by decide +kernel) (by rw [hs]; decide +kernel) (by decide) ?_
          refine x_iload_n hC dX3_join_88 rfl 2 rfl ?_
          refine x_if_ne (tgt := 96) hC dX3_join_89 (by decide) ?_ ?_
          · refine x_iconst (v := (0 : Int32)) hC dX3_join_92 ki_0 ?_
            refine x_goto (tgt := 99) hC dX3_join_93 (by decide) ?_
            exact r_retI hR dX3_join_99 (fun h => congrArg (fun q => (q, M)) h)
          · refine x_iload_n hC dX3_join_96 rfl 1 rfl ?_
            refine x_iload_n hC dX3_join_97 rfl 2 rfl ?_
            refine x_grd (fun hne => ?_)
            refine x_idiv0 hC dX3_join_98 hne ?_
            exact r_retI hR dX3_join_99 (fun h => congrArg (fun q => (q, M)) h)
        · skip
          refine x_ite (fun hs => ?_) (fun hs60 => ?_)
          · refine x_lsw (tgt := 100) (off := 99) hC dX3_join_1 (by decide +kernel) (by rw [hs]; decide +kernel) (by decide) ?_
            refine x_iload_n hC dX3_join_100 rfl 1 rfl ?_
            refine x_iload_n hC dX3_join_101 rfl 2 rfl ?_
            refine x_icmp_ge (tgt := 109) hC dX3_join_102 (by decide) ?_ ?_
            · refine x_iconst (v := (0 : Int32)) hC dX3_join_109 ki_0 ?_
              exact r_retI hR dX3_join_110 (fun h => congrArg (fun q => (q, M)) h)
            · refine x_iconst (v := (1 : Int32)) hC dX3_join_105 ki_1 ?_
              refine x_goto (tgt := 110) hC dX3_join_106 (by decide) ?_
              exact r_retI hR dX3_join_110 (fun h => congrArg (fun q => (q, M)) h)
          · skip
            refine x_ite (fun hs => ?_) (fun hs61 => ?_)
            · refine x_lsw (tgt := 111) (off := 110) hC dX3_join_1 (by decide +kernel) (by rw [hs]; decide +kernel) (by decide) ?_
              refine x_iload_n hC dX3_join_111 rfl 1 rfl ?_
              refine x_iload_n hC dX3_join_112 rfl 2 rfl ?_
              refine x_icmp_ne (tgt := 120) hC dX3_join_113 (by decide) ?_ ?_
              · refine x_iconst (v := (1 : Int32)) hC dX3_join_116 ki_1 ?_
                refine x_goto (tgt := 121) hC dX3_join_117 (by decide) ?_
                exact r_retI hR dX3_join_121 (fun h => congrArg (fun q => (q, M)) h)
              · refine x_iconst (v := (0 : Int32)) hC dX3_join_120 ki_0 ?_
                exact r_retI hR dX3_join_121 (fun h => congrArg (fun q => (q, M)) h)
            · skip
              refine x_ite (fun hs => ?_) (fun hs62 => ?_)
              · refine x_lsw (tgt := 122) (off := 121) hC dX3_join_1 (by decide +kernel) (by rw [hs]; decide +kernel) (by decide) ?_
                refine x_iload_n hC dX3_join_122 rfl 1 rfl ?_
                refine x_iload_n hC dX3_join_123 rfl 2 rfl ?_
                refine x_icmp_le (tgt := 131) hC dX3_join_124 (by decide) ?_ ?_
                · refine x_iconst (v := (0 : Int32)) hC dX3_join_131 ki_0 ?_
                  exact r_retI hR dX3_join_132 (fun h => congrArg (fun q => (q, M)) h)
                · refine x_iconst (v := (1 : Int32)) hC dX3_join_127 ki_1 ?_
                  refine x_goto (tgt := 132) hC dX3_join_128 (by decide) ?_
                  exact r_retI hR dX3_join_132 (fun h => congrArg (fun q => (q, M)) h)
              · skip
                refine x_ite (fun hs => ?_) (fun hs133 => ?_)
                · refine x_lsw (tgt := 133) (off := 132) hC dX3_join_1 (by decide +kernel) (by rw [hs]; decide +kernel) (by decide) ?_
                  refine x_iload_n hC dX3_join_133 rfl 1 rfl ?_
                  refine x_iload_n hC dX3_join_134 rfl 2 rfl ?_
                  refine x_iand hC dX3_join_135 ?_
                  exact r_retI hR dX3_join_136 (fun h => congrArg (fun q => (q, M)) h)
                · skip
                  refine x_lsw (tgt := 137) (off := 136) hC dX3_join_1 (by decide +kernel) (by have q0 := (x_ne (k := 42) hs42 (by decide)).symm; have q1 := (x_ne (k := 43) hs43 (by decide)).symm; have q2 := (x_ne (k := 45) hs45 (by decide)).symm; have q3 := (x_ne (k := 47) hs47 (by decide)).symm; have q4 := (x_ne (k := 60) hs60 (by decide)).symm; have q5 := (x_ne (k := 61) hs61 (by decide)).symm; have q6 := (x_ne (k := 62) hs62 (by decide)).symm; have q7 := (x_ne (k := 133) hs133 (by decide)).symm; simp [Op.lookupswitch.offset, *]; done) (by decide) ?_
                  refine x_iload_n hC dX3_join_137 rfl 1 rfl ?_
                  refine x_iload_n hC dX3_join_138 rfl 2 rfl ?_
                  refine x_ior hC dX3_join_139 ?_
                  exact r_retI hR dX3_join_140 (fun h => congrArg (fun q => (q, M)) h)
theorem f_X3_join_met {l : Launch} {d : Nat} {g : zG} {w : zW} {M0 : zM} {p0 : Int32} {p1 : Int32} {p2 : Int32} {M : zM} (hw : wS w) (hd : 1 ≤ d) {v : Int32} (h : f_X3_join p0 p1 p2 = some v) : zMet l yX3_join cX3_join 3 (some .int) d g w (zin true) M0 [.int p0, .int p1, .int p2] M (some (.int v)) M :=
  met_i (by decide +kernel) (Nat.le_of_ble_eq_true rfl) rfl (fun C hB0 hR => f_X3_join_ok ⟨hB0, hw⟩ hd M hR _ h rfl)
/-! WindingSquare$Plane.foldTurn(I)I -/
noncomputable def b_X4_foldTurn_2 (v2_2 : Int32) : Option ((Int32) ⊕ (Int32)) :=
  if v2_2 ≤ (1 : Int32) then (some (.inr v2_2))
  else (if (irem v2_2 (2 : Int32)) = 0 then (nm (v2_2 / (2 : Int32)) fun v2_16_2 =>
  some (.inl v2_16_2))
  else (some (.inr v2_2)))
set_option maxRecDepth 100000 in
theorem b_X4_foldTurn_2_ok {C : zC} {d : Nat} {g : zG} {l : Launch} {w : zW} {r : Int32} {v2_2 : Int32} (hB : bOK C cX4_foldTurn 3 RX4 d g l w true) (hd : 1 ≤ d) (M : zM) (hR : RtI C cX4_foldTurn w r M) : Sg C w (0, 0) 2 [(2, .int v2_2)] [] M (b_X4_foldTurn_2 v2_2) (fun o => Sum.elim (fun (s : (Int32)) => Zs C w (0, 0) 2 [(2, .int s)] [] M) (fun (s : (Int32)) => Zs C w (0, 0) 20 [(2, .int s)] [] M) o) := by
  have hC := hB.1.1
  have hq1 : 1 ≤ d := by omega
  unfold b_X4_foldTurn_2
  refine x_iload_n hC dX4_foldTurn_2 rfl 0 rfl ?_
  refine x_iconst (v := (1 : Int32)) hC dX4_foldTurn_3 ki_1 ?_
  refine x_icmp_le (tgt := 20) hC dX4_foldTurn_4 (by decide) ?_ ?_
  · exact x_done (fun h => h)
  · refine x_iload_n hC dX4_foldTurn_7 rfl 0 rfl ?_
    refine x_iconst (v := (2 : Int32)) hC dX4_foldTurn_8 ki_2 ?_
    refine x_irem0 hC dX4_foldTurn_9 nz_2 ?_
    refine x_if_ne (tgt := 20) hC dX4_foldTurn_10 (by decide) ?_ ?_
    · refine x_iload_n hC dX4_foldTurn_13 rfl 0 rfl ?_
      refine x_iconst (v := (2 : Int32)) hC dX4_foldTurn_14 ki_2 ?_
      refine x_idiv0 hC dX4_foldTurn_15 nz_2 ?_
      refine x_top (fun v2_16_2 => ?_)
      refine x_istore_n hC dX4_foldTurn_16 rfl [(2, .int v2_16_2)] (by decide) rfl ?_
      refine x_goto (tgt := 2) hC dX4_foldTurn_17 (by decide) ?_
      exact x_done (fun h => h)
    · exact x_done (fun h => h)
noncomputable def j_X4_foldTurn_20 (v2_20 : Int32) : Option (Int32) :=
  if (irem v2_20 (4 : Int32)) = (1 : Int32) then (some (1 : Int32))
  else (some (0 : Int32))
set_option maxRecDepth 100000 in
theorem j_X4_foldTurn_20_ok {C : zC} {d : Nat} {g : zG} {l : Launch} {w : zW} {r : Int32} {v2_20 : Int32} (hB : bOK C cX4_foldTurn 3 RX4 d g l w true) (hd : 1 ≤ d) (M : zM) (hR : RtI C cX4_foldTurn w r M) : Sg C w (0, 0) 20 [(2, .int v2_20)] [] M (j_X4_foldTurn_20 v2_20) (fun q => q = r) := by
  have hC := hB.1.1
  have hq1 : 1 ≤ d := by omega
  unfold j_X4_foldTurn_20
  refine x_iload_n hC dX4_foldTurn_20 rfl 0 rfl ?_
  refine x_iconst (v := (4 : Int32)) hC dX4_foldTurn_21 ki_4 ?_
  refine x_irem0 hC dX4_foldTurn_22 nz_4 ?_
  refine x_iconst (v := (1 : Int32)) hC dX4_foldTurn_23 ki_1 ?_
  refine x_icmp_ne (tgt := 31) hC dX4_foldTurn_24 (by decide) ?_ ?_
  · refine x_iconst (v := (1 : Int32)) hC dX4_foldTurn_27 ki_1 ?_
    refine x_goto (tgt := 32) hC dX4_foldTurn_28 (by decide) ?_
    exact r_retI hR dX4_foldTurn_32 (fun h => congrArg (fun q => (q, M)) h)
  · refine x_iconst (v := (0 : Int32)) hC dX4_foldTurn_31 ki_0 ?_
    exact r_retI hR dX4_foldTurn_32 (fun h => congrArg (fun q => (q, M)) h)
noncomputable def f_X4_foldTurn (p1 : Int32) : Option (Int32) :=
  (loopW (fun s => b_X4_foldTurn_2 s) p1).bind (fun r => j_X4_foldTurn_20 r)
set_option maxRecDepth 100000 in
theorem f_X4_foldTurn_ok {C : zC} {d : Nat} {g : zG} {l : Launch} {w : zW} {r : Int32} {p1 : Int32} (hB : bOK C cX4_foldTurn 3 RX4 d g l w true) (hd : 1 ≤ d) (M : zM) (hR : RtI C cX4_foldTurn w r M) : Sg C w (0, 0) 0 [(0, zr w 95), (1, .int p1)] [] M (f_X4_foldTurn p1) (fun q => q = r) := by
  have hC := hB.1.1
  have hq1 : 1 ≤ d := by omega
  unfold f_X4_foldTurn
  refine x_iload_n hC dX4_foldTurn_0 rfl 1 rfl ?_
  refine x_istore_n hC dX4_foldTurn_1 rfl [(2, .int p1), (0, zr w 95), (1, .int p1)] (by decide) rfl ?_
  refine x_sub [0] rfl ?_
  refine x_loopB (pc2 := 20) (fun (s : (Int32)) => [(2, .int s)]) (fun (s : (Int32)) => M) (fun (s : (Int32)) => [(2, .int s)]) (fun (s : (Int32)) => M) p1 ?_ ?_
  · exact fun s => b_X4_foldTurn_2_ok hB hd M hR
  · intro r9
    exact j_X4_foldTurn_20_ok hB hd M hR
theorem f_X4_foldTurn_met {l : Launch} {d : Nat} {g : zG} {w : zW} {M0 : zM} {p1 : Int32} {M : zM} (hw : wS w) (hd : 1 ≤ d) {v : Int32} (h : f_X4_foldTurn p1 = some v) : zMet l yX4_foldTurn cX4_foldTurn 3 (some .int) d g w (zin true) M0 [zr w 95, .int p1] M (some (.int v)) M :=
  met_i (by decide +kernel) (Nat.le_of_ble_eq_true rfl) rfl (fun C hB0 hR => f_X4_foldTurn_ok ⟨hB0, hw⟩ hd M hR _ h rfl)
/-! WindingSquare$Plane.foldEnd(IZ)I -/
noncomputable def b_X4_foldEnd_8 (v1_8 : Int32) (v2_8 : Int32) (v3_8 : Int32) (v4_8 : Int32) (v5_8 : Int32) : Option ((Int32 × Int32 × Int32) ⊕ (Int32 × Int32)) :=
  if v1_8 ≤ v5_8 then (some (.inr (v3_8, v4_8)))
  else (nm (v3_8 + v4_8) fun v6_18_8 =>
  nm (v4_8 - v3_8) fun v4_24_8 =>
  some (.inl (v6_18_8, v4_24_8, (v5_8 + (1 : Int32)))))
set_option maxRecDepth 100000 in
theorem b_X4_foldEnd_8_ok {C : zC} {d : Nat} {g : zG} {l : Launch} {w : zW} {r : Int32} {v1_8 : Int32} {v2_8 : Int32} {v3_8 : Int32} {v4_8 : Int32} {v5_8 : Int32} (hB : bOK C cX4_foldEnd 7 RX4 d g l w true) (hd : 1 ≤ d) (M : zM) (hR : RtI C cX4_foldEnd w r M) : Sg C w (0, 0) 8 [(1, .int v1_8), (2, .int v2_8), (3, .int v3_8), (4, .int v4_8), (5, .int v5_8)] [] M (b_X4_foldEnd_8 v1_8 v2_8 v3_8 v4_8 v5_8) (fun o => Sum.elim (fun (s : (Int32 × Int32 × Int32)) => Zs C w (0, 0) 8 [(1, .int v1_8), (2, .int v2_8), (3, .int s.1), (4, .int s.2.1), (5, .int s.2.2)] [] M) (fun (s : (Int32 × Int32)) => Zs C w (0, 0) 35 [(2, .int v2_8), (3, .int s.1), (4, .int s.2)] [] M) o) := by
  have hC := hB.1.1
  have hq1 : 1 ≤ d := by omega
  unfold b_X4_foldEnd_8
  refine x_iload hC dX4_foldEnd_8 4 rfl ?_
  refine x_iload_n hC dX4_foldEnd_10 rfl 0 rfl ?_
  refine x_icmp_ge (tgt := 35) hC dX4_foldEnd_11 (by decide) ?_ ?_
  · refine x_sub [1, 2, 3] rfl ?_
    exact x_done (fun h => h)
  · refine x_iload_n hC dX4_foldEnd_14 rfl 2 rfl ?_
    refine x_iload hC dX4_foldEnd_15 3 rfl ?_
    refine x_iadd hC dX4_foldEnd_17 ?_
    refine x_top (fun v6_18_8 => ?_)
    refine x_istore (f := 0) hC dX4_foldEnd_18 [(6, .int v6_18_8), (1, .int v1_8), (2, .int v2_8), (3, .int v3_8), (4, .int v4_8), (5, .int v5_8)] (by decide) rfl ?_
    refine x_iload hC dX4_foldEnd_20 4 rfl ?_
    refine x_iload_n hC dX4_foldEnd_22 rfl 3 rfl ?_
    refine x_isub hC dX4_foldEnd_23 ?_
    refine x_top (fun v4_24_8 => ?_)
    refine x_istore (f := 0) hC dX4_foldEnd_24 [(4, .int v4_24_8), (6, .int v6_18_8), (1, .int v1_8), (2, .int v2_8), (3, .int v3_8), (5, .int v5_8)] (by decide) rfl ?_
    refine x_iload hC dX4_foldEnd_26 1 rfl ?_
    refine x_istore_n hC dX4_foldEnd_28 rfl [(3, .int v6_18_8), (4, .int v4_24_8), (6, .int v6_18_8), (1, .int v1_8), (2, .int v2_8), (5, .int v5_8)] (by decide) rfl ?_
    refine x_iinc hC dX4_foldEnd_29 ki_1 [(5, .int (v5_8 + (1 : Int32))), (3, .int v6_18_8), (4, .int v4_24_8), (6, .int v6_18_8), (1, .int v1_8), (2, .int v2_8)] 5 rfl (by decide) rfl ?_
    refine x_goto (tgt := 8) hC dX4_foldEnd_32 (by decide) ?_
    refine x_sub [4, 5, 1, 2, 0] rfl ?_
    exact x_done (fun h => h)
noncomputable def j_X4_foldEnd_35 (v2_35 : Int32) (v3_35 : Int32) (v4_35 : Int32) : Option (Int32) :=
  if v2_35 = 0 then (some v4_35)
  else (some v3_35)
set_option maxRecDepth 100000 in
theorem j_X4_foldEnd_35_ok {C : zC} {d : Nat} {g : zG} {l : Launch} {w : zW} {r : Int32} {v2_35 : Int32} {v3_35 : Int32} {v4_35 : Int32} (hB : bOK C cX4_foldEnd 7 RX4 d g l w true) (hd : 1 ≤ d) (M : zM) (hR : RtI C cX4_foldEnd w r M) : Sg C w (0, 0) 35 [(2, .int v2_35), (3, .int v3_35), (4, .int v4_35)] [] M (j_X4_foldEnd_35 v2_35 v3_35 v4_35) (fun q => q = r) := by
  have hC := hB.1.1
  have hq1 : 1 ≤ d := by omega
  unfold j_X4_foldEnd_35
  refine x_iload_n hC dX4_foldEnd_35 rfl 0 rfl ?_
  refine x_if_eq (tgt := 43) hC dX4_foldEnd_36 (by decide) ?_ ?_
  · refine x_iload hC dX4_foldEnd_43 2 rfl ?_
    exact r_retI hR dX4_foldEnd_45 (fun h => congrArg (fun q => (q, M)) h)
  · refine x_iload_n hC dX4_foldEnd_39 rfl 1 rfl ?_
    refine x_goto (tgt := 45) hC dX4_foldEnd_40 (by decide) ?_
    exact r_retI hR dX4_foldEnd_45 (fun h => congrArg (fun q => (q, M)) h)
noncomputable def f_X4_foldEnd (p1 : Int32) (p2 : Int32) : Option (Int32) :=
  (loopW (fun s => b_X4_foldEnd_8 p1 p2 s.1 s.2.1 s.2.2) ((0 : Int32), (1 : Int32), (0 : Int32))).bind (fun r => j_X4_foldEnd_35 p2 r.1 r.2)
set_option maxRecDepth 100000 in
theorem f_X4_foldEnd_ok {C : zC} {d : Nat} {g : zG} {l : Launch} {w : zW} {r : Int32} {p1 : Int32} {p2 : Int32} (hB : bOK C cX4_foldEnd 7 RX4 d g l w true) (hd : 1 ≤ d) (M : zM) (hR : RtI C cX4_foldEnd w r M) : Sg C w (0, 0) 0 [(0, zr w 95), (1, .int p1), (2, .int p2)] [] M (f_X4_foldEnd p1 p2) (fun q => q = r) := by
  have hC := hB.1.1
  have hq1 : 1 ≤ d := by omega
  unfold f_X4_foldEnd
  refine x_iconst (v := (0 : Int32)) hC dX4_foldEnd_0 ki_0 ?_
  refine x_istore_n hC dX4_foldEnd_1 rfl [(3, .int (0 : Int32)), (0, zr w 95), (1, .int p1), (2, .int p2)] (by decide) rfl ?_
  refine x_iconst (v := (1 : Int32)) hC dX4_foldEnd_2 ki_1 ?_
  refine x_istore (f := 0) hC dX4_foldEnd_3 [(4, .int (1 : Int32)), (3, .int (0 : Int32)), (0, zr w 95), (1, .int p1), (2, .int p2)] (by decide) rfl ?_
  refine x_iconst (v := (0 : Int32)) hC dX4_foldEnd_5 ki_0 ?_
  refine x_istore (f := 0) hC dX4_foldEnd_6 [(5, .int (0 : Int32)), (4, .int (1 : Int32)), (3, .int (0 : Int32)), (0, zr w 95), (1, .int p1), (2, .int p2)] (by decide) rfl ?_
  refine x_sub [4, 5, 2, 1, 0] rfl ?_
  refine x_loopB (pc2 := 35) (fun (s : (Int32 × Int32 × Int32)) => [(1, .int p1), (2, .int p2), (3, .int s.1), (4, .int s.2.1), (5, .int s.2.2)]) (fun (s : (Int32 × Int32 × Int32)) => M) (fun (s : (Int32 × Int32)) => [(2, .int p2), (3, .int s.1), (4, .int s.2)]) (fun (s : (Int32 × Int32)) => M) ((0 : Int32), (1 : Int32), (0 : Int32)) ?_ ?_
  · exact fun s => b_X4_foldEnd_8_ok hB hd M hR
  · intro r9
    exact j_X4_foldEnd_35_ok hB hd M hR
theorem f_X4_foldEnd_met {l : Launch} {d : Nat} {g : zG} {w : zW} {M0 : zM} {p1 : Int32} {p2 : Int32} {M : zM} (hw : wS w) (hd : 1 ≤ d) {v : Int32} (h : f_X4_foldEnd p1 p2 = some v) : zMet l yX4_foldEnd cX4_foldEnd 7 (some .int) d g w (zin true) M0 [zr w 95, .int p1, .int p2] M (some (.int v)) M :=
  met_i (by decide +kernel) (Nat.le_of_ble_eq_true rfl) rfl (fun C hB0 hR => f_X4_foldEnd_ok ⟨hB0, hw⟩ hd M hR _ h rfl)
/-! WindingSquare$Plane.hooksAndSlabs(I)I -/
noncomputable def b_X4_hooksAndSlabs_23 (v1_23 : Int32) (v2_23 : Int32) (M : zM) : Option ((Int32 × zM) ⊕ (zM)) :=
  if v1_23 < v2_23 then (some (.inr M))
  else (grd (inb (v2_23 - (1 : Int32)) 41) (
  grd (inb (v2_23 - (3 : Int32)) 41) (
  grd (inb v2_23 41) (
  nm (mset M 98 (ix v2_23) (((((2 : Int64) * ((M 98 (ix (v2_23 - (1 : Int32))))).toInt64) + ((M 98 (ix (v2_23 - (3 : Int32))))).toInt64) - (((2 : Int64) * ((M 98 (ix (v2_23 - (1 : Int32))))).toInt64) + ((M 98 (ix (v2_23 - (3 : Int32))))).toInt64) / (1000000007 : Int64) * (1000000007 : Int64))).toInt32) fun M61_23 =>
  some (.inl ((v2_23 + (1 : Int32)), M61_23))))))
set_option maxRecDepth 100000 in
theorem b_X4_hooksAndSlabs_23_ok {C : zC} {d : Nat} {g : zG} {l : Launch} {w : zW} {r : Int32 × zM} {v1_23 : Int32} {v2_23 : Int32} (hB : bOK C cX4_hooksAndSlabs 3 RX4 d g l w true) (hd : 1 ≤ d) (M : zM) (hR : RtI C cX4_hooksAndSlabs w r.1 r.2) : Sg C w (0, 0) 23 [(0, zr w 95), (1, .int v1_23), (2, .int v2_23)] [] M (b_X4_hooksAndSlabs_23 v1_23 v2_23 M) (fun o => Sum.elim (fun (s : (Int32 × zM)) => Zs C w (0, 0) 23 [(0, zr w 95), (1, .int v1_23), (2, .int s.1)] [] s.2) (fun (s : (zM)) => Zs C w (0, 0) 68 [(0, zr w 95), (1, .int v1_23)] [] s) o) := by
  have hC := hB.1.1
  have hq1 : 1 ≤ d := by omega
  unfold b_X4_hooksAndSlabs_23
  refine x_iload_n hC dX4_hooksAndSlabs_23 rfl 2 rfl ?_
  refine x_iload_n hC dX4_hooksAndSlabs_24 rfl 1 rfl ?_
  refine x_icmp_gt (tgt := 68) hC dX4_hooksAndSlabs_25 (by decide) ?_ ?_
  · refine x_sub [0, 1] rfl ?_
    exact x_done (fun h => h)
  · refine x_aload_n hC dX4_hooksAndSlabs_28 rfl 0 rfl ?_
    refine r_getR hB dX4_hooksAndSlabs_29 kf_X4_18 rfl th_95 rf_95_2 ?_
    refine x_iload_n hC dX4_hooksAndSlabs_32 rfl 2 rfl ?_
    refine x_ldc2 hC dX4_hooksAndSlabs_33 wd_1237 ?_
    refine x_aload_n hC dX4_hooksAndSlabs_36 rfl 0 rfl ?_
    refine r_getR hB dX4_hooksAndSlabs_37 kf_X4_18 rfl th_95 rf_95_2 ?_
    refine x_iload_n hC dX4_hooksAndSlabs_40 rfl 2 rfl ?_
    refine x_iconst (v := (1 : Int32)) hC dX4_hooksAndSlabs_41 ki_1 ?_
    refine x_isub hC dX4_hooksAndSlabs_42 ?_
    refine r_iald hB dX4_hooksAndSlabs_43 th_98 ?_
    refine x_i2l hC dX4_hooksAndSlabs_44 ?_
    refine x_lmul hC dX4_hooksAndSlabs_45 ?_
    refine x_aload_n hC dX4_hooksAndSlabs_46 rfl 0 rfl ?_
    refine r_getR hB dX4_hooksAndSlabs_47 kf_X4_18 rfl th_95 rf_95_2 ?_
    refine x_iload_n hC dX4_hooksAndSlabs_50 rfl 2 rfl ?_
    refine x_iconst (v := (3 : Int32)) hC dX4_hooksAndSlabs_51 ki_3 ?_
    refine x_isub hC dX4_hooksAndSlabs_52 ?_
    refine r_iald hB dX4_hooksAndSlabs_53 th_98 ?_
    refine x_i2l hC dX4_hooksAndSlabs_54 ?_
    refine x_ladd hC dX4_hooksAndSlabs_55 ?_
    refine x_ldc2 hC dX4_hooksAndSlabs_56 wd_1238 ?_
    refine x_lrem0 hC dX4_hooksAndSlabs_59 (by decide) ?_
    refine x_l2i hC dX4_hooksAndSlabs_60 ?_
    refine r_iast hB dX4_hooksAndSlabs_61 th_98 ?_
    refine x_mem (fun M61_23 => ?_)
    refine x_iinc hC dX4_hooksAndSlabs_62 ki_1 [(2, .int (v2_23 + (1 : Int32))), (0, zr w 95), (1, .int v1_23)] 2 rfl (by decide) rfl ?_
    refine x_goto (tgt := 23) hC dX4_hooksAndSlabs_65 (by decide) ?_
    refine x_sub [1, 2, 0] rfl ?_
    exact x_done (fun h => h)
noncomputable def j_X4_hooksAndSlabs_68 (v1_68 : Int32) (M : zM) : Option (Int32 × zM) :=
  grd (inb v1_68 41) (
  some ((M 98 (ix v1_68)), M))
set_option maxRecDepth 100000 in
theorem j_X4_hooksAndSlabs_68_ok {C : zC} {d : Nat} {g : zG} {l : Launch} {w : zW} {r : Int32 × zM} {v1_68 : Int32} (hB : bOK C cX4_hooksAndSlabs 3 RX4 d g l w true) (hd : 1 ≤ d) (M : zM) (hR : RtI C cX4_hooksAndSlabs w r.1 r.2) : Sg C w (0, 0) 68 [(0, zr w 95), (1, .int v1_68)] [] M (j_X4_hooksAndSlabs_68 v1_68 M) (fun q => q = r) := by
  have hC := hB.1.1
  have hq1 : 1 ≤ d := by omega
  unfold j_X4_hooksAndSlabs_68
  refine x_aload_n hC dX4_hooksAndSlabs_68 rfl 0 rfl ?_
  refine r_getR hB dX4_hooksAndSlabs_69 kf_X4_18 rfl th_95 rf_95_2 ?_
  refine x_iload_n hC dX4_hooksAndSlabs_72 rfl 1 rfl ?_
  refine r_iald hB dX4_hooksAndSlabs_73 th_98 ?_
  exact r_retI hR dX4_hooksAndSlabs_74 (fun h => h)
noncomputable def f_X4_hooksAndSlabs (p1 : Int32) (M : zM) : Option (Int32 × zM) :=
  nm (mset M 98 (ix (0 : Int32)) (1 : Int32)) fun M6 =>
  nm (mset M6 98 (ix (1 : Int32)) (1 : Int32)) fun M13 =>
  nm (mset M13 98 (ix (2 : Int32)) (2 : Int32)) fun M20 =>
  (loopW (fun s => b_X4_hooksAndSlabs_23 p1 s.1 s.2) ((3 : Int32), M20)).bind (fun r => j_X4_hooksAndSlabs_68 p1 r)
set_option maxRecDepth 100000 in
theorem f_X4_hooksAndSlabs_ok {C : zC} {d : Nat} {g : zG} {l : Launch} {w : zW} {r : Int32 × zM} {p1 : Int32} (hB : bOK C cX4_hooksAndSlabs 3 RX4 d g l w true) (hd : 1 ≤ d) (M : zM) (hR : RtI C cX4_hooksAndSlabs w r.1 r.2) : Sg C w (0, 0) 0 [(0, zr w 95), (1, .int p1)] [] M (f_X4_hooksAndSlabs p1 M) (fun q => q = r) := by
  have hC := hB.1.1
  have hq1 : 1 ≤ d := by omega
  unfold f_X4_hooksAndSlabs
  refine x_aload_n hC dX4_hooksAndSlabs_0 rfl 0 rfl ?_
  refine r_getR hB dX4_hooksAndSlabs_1 kf_X4_18 rfl th_95 rf_95_2 ?_
  refine x_iconst (v := (0 : Int32)) hC dX4_hooksAndSlabs_4 ki_0 ?_
  refine x_iconst (v := (1 : Int32)) hC dX4_hooksAndSlabs_5 ki_1 ?_
  refine r_iast0 hB dX4_hooksAndSlabs_6 th_98 ib_0_41 ?_
  refine x_mem (fun M6 => ?_)
  refine x_aload_n hC dX4_hooksAndSlabs_7 rfl 0 rfl ?_
  refine r_getR hB dX4_hooksAndSlabs_8 kf_X4_18 rfl th_95 rf_95_2 ?_
  refine x_iconst (v := (1 : Int32)) hC dX4_hooksAndSlabs_11 ki_1 ?_
  refine x_iconst (v := (1 : Int32)) hC dX4_hooksAndSlabs_12 ki_1 ?_
  refine r_iast0 hB dX4_hooksAndSlabs_13 th_98 ib_1_41 ?_
  refine x_mem (fun M13 => ?_)
  refine x_aload_n hC dX4_hooksAndSlabs_14 rfl 0 rfl ?_
  refine r_getR hB dX4_hooksAndSlabs_15 kf_X4_18 rfl th_95 rf_95_2 ?_
  refine x_iconst (v := (2 : Int32)) hC dX4_hooksAndSlabs_18 ki_2 ?_
  refine x_iconst (v := (2 : Int32)) hC dX4_hooksAndSlabs_19 ki_2 ?_
  refine r_iast0 hB dX4_hooksAndSlabs_20 th_98 ib_2_41 ?_
  refine x_mem (fun M20 => ?_)
  refine x_iconst (v := (3 : Int32)) hC dX4_hooksAndSlabs_21 ki_3 ?_
  refine x_istore_n hC dX4_hooksAndSlabs_22 rfl [(2, .int (3 : Int32)), (0, zr w 95), (1, .int p1)] (by decide) rfl ?_
  refine x_sub [1, 2, 0] rfl ?_
  refine x_loopB (pc2 := 68) (fun (s : (Int32 × zM)) => [(0, zr w 95), (1, .int p1), (2, .int s.1)]) (fun (s : (Int32 × zM)) => s.2) (fun (s : (zM)) => [(0, zr w 95), (1, .int p1)]) (fun (s : (zM)) => s) ((3 : Int32), M20) ?_ ?_
  · exact fun s => b_X4_hooksAndSlabs_23_ok hB hd s.2 hR
  · intro r9
    exact j_X4_hooksAndSlabs_68_ok hB hd r9 hR
theorem f_X4_hooksAndSlabs_met {l : Launch} {d : Nat} {g : zG} {w : zW} {M0 : zM} {p1 : Int32} {M : zM} (hw : wS w) (hd : 1 ≤ d) {v : Int32} {M' : zM} (h : f_X4_hooksAndSlabs p1 M = some (v, M')) : zMet l yX4_hooksAndSlabs cX4_hooksAndSlabs 3 (some .int) d g w (zin true) M0 [zr w 95, .int p1] M (some (.int v)) M' :=
  met_i (by decide +kernel) (Nat.le_of_ble_eq_true rfl) rfl (fun C hB0 hR => f_X4_hooksAndSlabs_ok (r := (v, M')) ⟨hB0, hw⟩ hd M hR _ h rfl)
/-! WindingSquare$Plane.hooksAlone(I)I -/
def f_X4_hooksAlone (p1 : Int32) : Int32 :=
  if (irem p1 (3 : Int32)) = 0 then (((1 : Int32) <<< ((p1 / (3 : Int32)) &&& 31)))
  else ((0 : Int32))
set_option maxRecDepth 100000 in
theorem f_X4_hooksAlone_ok {C : zC} {d : Nat} {g : zG} {l : Launch} {w : zW} {r : Int32} {p1 : Int32} (hB : bOK C cX4_hooksAlone 2 RX4 d g l w true) (hd : 1 ≤ d) (M : zM) (hR : RtI C cX4_hooksAlone w r M) : Sg C w (0, 0) 0 [(0, zr w 95), (1, .int p1)] [] M (some (f_X4_hooksAlone p1)) (fun q => q = r) := by
  have hC := hB.1.1
  have hq1 : 1 ≤ d := by omega
  unfold f_X4_hooksAlone
  refine x_iload_n hC dX4_hooksAlone_0 rfl 1 rfl ?_
  refine x_iconst (v := (3 : Int32)) hC dX4_hooksAlone_1 ki_3 ?_
  refine x_irem0 hC dX4_hooksAlone_2 nz_3 ?_
  refine x_si ?_
  refine x_if_ne (tgt := 14) hC dX4_hooksAlone_3 (by decide) ?_ ?_
  · refine x_iconst (v := (1 : Int32)) hC dX4_hooksAlone_6 ki_1 ?_
    refine x_iload_n hC dX4_hooksAlone_7 rfl 1 rfl ?_
    refine x_iconst (v := (3 : Int32)) hC dX4_hooksAlone_8 ki_3 ?_
    refine x_idiv0 hC dX4_hooksAlone_9 nz_3 ?_
    refine x_ishl hC dX4_hooksAlone_10 ?_
    refine x_goto (tgt := 15) hC dX4_hooksAlone_11 (by decide) ?_
    exact r_retI hR dX4_hooksAlone_15 (fun h => congrArg (fun q => (q, M)) h)
  · refine x_iconst (v := (0 : Int32)) hC dX4_hooksAlone_14 ki_0 ?_
    exact r_retI hR dX4_hooksAlone_15 (fun h => congrArg (fun q => (q, M)) h)
theorem f_X4_hooksAlone_met {l : Launch} {d : Nat} {g : zG} {w : zW} {M0 : zM} {p1 : Int32} {M : zM} (hw : wS w) (hd : 1 ≤ d) : zMet l yX4_hooksAlone cX4_hooksAlone 2 (some .int) d g w (zin true) M0 [zr w 95, .int p1] M (some (.int (f_X4_hooksAlone p1))) M :=
  met_i (by decide +kernel) (Nat.le_of_ble_eq_true rfl) rfl (fun C hB0 hR => f_X4_hooksAlone_ok ⟨hB0, hw⟩ hd M hR _ rfl rfl)
/-! WindingSquare$Plane.gone(III)I -/
noncomputable def f_X4_gone (p0 : Int32) (p1 : Int32) (p2 : Int32) (M : zM) : Option (Int32) :=
  grd (inb (p2 &&& (3 : Int32)) 4) (
  nm (p0 + (zsV 2 (ix (p2 &&& (3 : Int32))))) fun v3_9 =>
  grd (inb (p2 &&& (3 : Int32)) 4) (
  nm (p1 + (zsV 3 (ix (p2 &&& (3 : Int32))))) fun v4_19 =>
  if v3_9 < 0 then (some (-1 : Int32))
  else (if 0 ≤ v4_19 then (some (((61 : Int32) * v4_19) + v3_9))
  else (some (-1 : Int32)))))
set_option maxRecDepth 100000 in
theorem f_X4_gone_ok {C : zC} {d : Nat} {g : zG} {l : Launch} {w : zW} {r : Int32} {p0 : Int32} {p1 : Int32} {p2 : Int32} (hB : bOK C cX4_gone 5 RX4 d g l w true) (hd : 1 ≤ d) (M : zM) (hR : RtI C cX4_gone w r M) : Sg C w (0, 0) 0 [(0, .int p0), (1, .int p1), (2, .int p2)] [] M (f_X4_gone p0 p1 p2 M) (fun q => q = r) := by
  have hC := hB.1.1
  have hq1 : 1 ≤ d := by omega
  unfold f_X4_gone
  refine x_iload_n hC dX4_gone_0 rfl 0 rfl ?_
  refine r_gets (k0 := 2) hB dX4_gone_1 (by decide) ng_X4_64 ?_
  refine x_iload_n hC dX4_gone_4 rfl 2 rfl ?_
  refine x_iconst (v := (3 : Int32)) hC dX4_gone_5 ki_3 ?_
  refine x_iand hC dX4_gone_6 ?_
  refine r_stld hB dX4_gone_7 (by decide) ?_
  refine x_iadd hC dX4_gone_8 ?_
  refine x_top (fun v3_9 => ?_)
  refine x_istore_n hC dX4_gone_9 rfl [(3, .int v3_9), (0, .int p0), (1, .int p1), (2, .int p2)] (by decide) rfl ?_
  refine x_iload_n hC dX4_gone_10 rfl 2 rfl ?_
  refine r_gets (k0 := 3) hB dX4_gone_11 (by decide) ng_X4_67 ?_
  refine x_iload_n hC dX4_gone_14 rfl 3 rfl ?_
  refine x_iconst (v := (3 : Int32)) hC dX4_gone_15 ki_3 ?_
  refine x_iand hC dX4_gone_16 ?_
  refine r_stld hB dX4_gone_17 (by decide) ?_
  refine x_iadd hC dX4_gone_18 ?_
  refine x_top (fun v4_19 => ?_)
  refine x_istore (f := 0) hC dX4_gone_19 [(4, .int v4_19), (3, .int v3_9), (0, .int p0), (1, .int p1), (2, .int p2)] (by decide) rfl ?_
  refine x_iload_n hC dX4_gone_21 rfl 1 rfl ?_
  refine x_if_lt (tgt := 30) hC dX4_gone_22 (by decide) ?_ ?_
  · refine x_iconst (v := (-1 : Int32)) hC dX4_gone_30 ki_m1 ?_
    refine x_goto (tgt := 41) hC dX4_gone_31 (by decide) ?_
    exact r_retI hR dX4_gone_41 (fun h => congrArg (fun q => (q, M)) h)
  · refine x_iload hC dX4_gone_25 0 rfl ?_
    refine x_if_ge (tgt := 34) hC dX4_gone_27 (by decide) ?_ ?_
    · refine x_bipush (v := (61 : Int32)) hC dX4_gone_34 kb_61 ?_
      refine x_iload hC dX4_gone_36 0 rfl ?_
      refine x_imul hC dX4_gone_38 ?_
      refine x_iload_n hC dX4_gone_39 rfl 1 rfl ?_
      refine x_iadd hC dX4_gone_40 ?_
      exact r_retI hR dX4_gone_41 (fun h => congrArg (fun q => (q, M)) h)
    · refine x_iconst (v := (-1 : Int32)) hC dX4_gone_30 ki_m1 ?_
      refine x_goto (tgt := 41) hC dX4_gone_31 (by decide) ?_
      exact r_retI hR dX4_gone_41 (fun h => congrArg (fun q => (q, M)) h)
theorem f_X4_gone_met {l : Launch} {d : Nat} {g : zG} {w : zW} {M0 : zM} {p0 : Int32} {p1 : Int32} {p2 : Int32} {M : zM} (hw : wS w) (hd : 1 ≤ d) {v : Int32} (h : f_X4_gone p0 p1 p2 M = some v) : zMet l yX4_gone cX4_gone 5 (some .int) d g w (zin true) M0 [.int p0, .int p1, .int p2] M (some (.int v)) M :=
  met_i (by decide +kernel) (Nat.le_of_ble_eq_true rfl) rfl (fun C hB0 hR => f_X4_gone_ok ⟨hB0, hw⟩ hd M hR _ h rfl)
/-! WindingSquare$Plane.leastMissing(I)I -/
noncomputable def b_X4_leastMissing_2 (v0_2 : Int32) (v1_2 : Int32) : Option ((Int32) ⊕ (Int32)) :=
  if (4 : Int32) ≤ v1_2 then (some (.inr v1_2))
  else (if ((v0_2 >>> (v1_2 &&& 31)) &&& (1 : Int32)) = (1 : Int32) then (some (.inl (v1_2 + (1 : Int32))))
  else (some (.inr v1_2)))
set_option maxRecDepth 100000 in
theorem b_X4_leastMissing_2_ok {C : zC} {d : Nat} {g : zG} {l : Launch} {w : zW} {r : Int32} {v0_2 : Int32} {v1_2 : Int32} (hB : bOK C cX4_leastMissing 2 RX4 d g l w true) (hd : 1 ≤ d) (M : zM) (hR : RtI C cX4_leastMissing w r M) : Sg C w (0, 0) 2 [(0, .int v0_2), (1, .int v1_2)] [] M (b_X4_leastMissing_2 v0_2 v1_2) (fun o => Sum.elim (fun (s : (Int32)) => Zs C w (0, 0) 2 [(0, .int v0_2), (1, .int s)] [] M) (fun (s : (Int32)) => Zs C w (0, 0) 22 [(1, .int s)] [] M) o) := by
  have hC := hB.1.1
  have hq1 : 1 ≤ d := by omega
  unfold b_X4_leastMissing_2
  refine x_iload_n hC dX4_leastMissing_2 rfl 1 rfl ?_
  refine x_iconst (v := (4 : Int32)) hC dX4_leastMissing_3 ki_4 ?_
  refine x_icmp_ge (tgt := 22) hC dX4_leastMissing_4 (by decide) ?_ ?_
  · refine x_sub [1] rfl ?_
    exact x_done (fun h => h)
  · refine x_iload_n hC dX4_leastMissing_7 rfl 0 rfl ?_
    refine x_iload_n hC dX4_leastMissing_8 rfl 1 rfl ?_
    refine x_ishr hC dX4_leastMissing_9 ?_
    refine x_iconst (v := (1 : Int32)) hC dX4_leastMissing_10 ki_1 ?_
    refine x_iand hC dX4_leastMissing_11 ?_
    refine x_iconst (v := (1 : Int32)) hC dX4_leastMissing_12 ki_1 ?_
    refine x_icmp_ne (tgt := 22) hC dX4_leastMissing_13 (by decide) ?_ ?_
    · refine x_iinc hC dX4_leastMissing_16 ki_1 [(1, .int (v1_2 + (1 : Int32))), (0, .int v0_2)] 1 rfl (by decide) rfl ?_
      refine x_goto (tgt := 2) hC dX4_leastMissing_19 (by decide) ?_
      refine x_sub [1, 0] rfl ?_
      exact x_done (fun h => h)
    · refine x_sub [1] rfl ?_
      exact x_done (fun h => h)
noncomputable def j_X4_leastMissing_22 (v1_22 : Int32) : Option (Int32) :=
  some v1_22
set_option maxRecDepth 100000 in
theorem j_X4_leastMissing_22_ok {C : zC} {d : Nat} {g : zG} {l : Launch} {w : zW} {r : Int32} {v1_22 : Int32} (hB : bOK C cX4_leastMissing 2 RX4 d g l w true) (hd : 1 ≤ d) (M : zM) (hR : RtI C cX4_leastMissing w r M) : Sg C w (0, 0) 22 [(1, .int v1_22)] [] M (j_X4_leastMissing_22 v1_22) (fun q => q = r) := by
  have hC := hB.1.1
  have hq1 : 1 ≤ d := by omega
  unfold j_X4_leastMissing_22
  refine x_iload_n hC dX4_leastMissing_22 rfl 0 rfl ?_
  exact r_retI hR dX4_leastMissing_23 (fun h => congrArg (fun q => (q, M)) h)
noncomputable def f_X4_leastMissing (p0 : Int32) : Option (Int32) :=
  (loopW (fun s => b_X4_leastMissing_2 p0 s) (0 : Int32)).bind (fun r => j_X4_leastMissing_22 r)
set_option maxRecDepth 100000 in
theorem f_X4_leastMissing_ok {C : zC} {d : Nat} {g : zG} {l : Launch} {w : zW} {r : Int32} {p0 : Int32} (hB : bOK C cX4_leastMissing 2 RX4 d g l w true) (hd : 1 ≤ d) (M : zM) (hR : RtI C cX4_leastMissing w r M) : Sg C w (0, 0) 0 [(0, .int p0)] [] M (f_X4_leastMissing p0) (fun q => q = r) := by
  have hC := hB.1.1
  have hq1 : 1 ≤ d := by omega
  unfold f_X4_leastMissing
  refine x_iconst (v := (0 : Int32)) hC dX4_leastMissing_0 ki_0 ?_
  refine x_istore_n hC dX4_leastMissing_1 rfl [(1, .int (0 : Int32)), (0, .int p0)] (by decide) rfl ?_
  refine x_sub [1, 0] rfl ?_
  refine x_loopB (pc2 := 22) (fun (s : (Int32)) => [(0, .int p0), (1, .int s)]) (fun (s : (Int32)) => M) (fun (s : (Int32)) => [(1, .int s)]) (fun (s : (Int32)) => M) (0 : Int32) ?_ ?_
  · exact fun s => b_X4_leastMissing_2_ok hB hd M hR
  · intro r9
    exact j_X4_leastMissing_22_ok hB hd M hR
theorem f_X4_leastMissing_met {l : Launch} {d : Nat} {g : zG} {w : zW} {M0 : zM} {p0 : Int32} {M : zM} (hw : wS w) (hd : 1 ≤ d) {v : Int32} (h : f_X4_leastMissing p0 = some v) : zMet l yX4_leastMissing cX4_leastMissing 2 (some .int) d g w (zin true) M0 [.int p0] M (some (.int v)) M :=
  met_i (by decide +kernel) (Nat.le_of_ble_eq_true rfl) rfl (fun C hB0 hR => f_X4_leastMissing_ok ⟨hB0, hw⟩ hd M hR _ h rfl)
/-! WindingSquare$Reader.put(I)V -/
noncomputable def b_X5_put_3 (v1_3 : Int32) (v2_3 : Int32) (M : zM) : Option ((Int32 × zM) ⊕ (zM)) :=
  if v2_3 < 0 then (some (.inr M))
  else (if (400 : Int32) ≤ (M 78 0) then (some (.inr M))
  else (grd (inb (M 78 0) 400) (
  nm (mset M 79 (ix (M 78 0)) ((iush v1_3 v2_3) &&& (255 : Int32))) fun M32_3 =>
  nm (mset M32_3 78 0 ((M32_3 78 0) + (1 : Int32))) fun M40_3 =>
  some (.inl ((v2_3 + (-8 : Int32)), M40_3)))))
set_option maxRecDepth 100000 in
theorem b_X5_put_3_ok {C : zC} {d : Nat} {g : zG} {l : Launch} {w : zW} {r : zM} {v1_3 : Int32} {v2_3 : Int32} (hB : bOK C cX5_put 3 RX5 d g l w true) (hd : 1 ≤ d) (M : zM) (hR : RtV C cX5_put w r) : Sg C w (0, 0) 3 [(0, zr w 78), (1, .int v1_3), (2, .int v2_3)] [] M (b_X5_put_3 v1_3 v2_3 M) (fun o => Sum.elim (fun (s : (Int32 × zM)) => Zs C w (0, 0) 3 [(0, zr w 78), (1, .int v1_3), (2, .int s.1)] [] s.2) (fun (s : (zM)) => Zs C w (0, 0) 49 [] [] s) o) := by
  have hC := hB.1.1
  have hq1 : 1 ≤ d := by omega
  unfold b_X5_put_3
  refine x_iload_n hC dX5_put_3 rfl 2 rfl ?_
  refine x_if_lt (tgt := 49) hC dX5_put_4 (by decide) ?_ ?_
  · refine x_sub [] rfl ?_
    exact x_done (fun h => h)
  · refine x_aload_n hC dX5_put_7 rfl 0 rfl ?_
    refine r_getI hB dX5_put_8 kf_X5_28 rfl th_78 ?_
    refine x_sipush (v := (400 : Int32)) hC dX5_put_11 kh_400 ?_
    refine x_icmp_ge (tgt := 49) hC dX5_put_14 (by decide) ?_ ?_
    · refine x_sub [] rfl ?_
      exact x_done (fun h => h)
    · refine x_aload_n hC dX5_put_17 rfl 0 rfl ?_
      refine r_getR hB dX5_put_18 kf_X5_15 rfl th_78 rf_78_3 ?_
      refine x_aload_n hC dX5_put_21 rfl 0 rfl ?_
      refine r_getI hB dX5_put_22 kf_X5_28 rfl th_78 ?_
      refine x_iload_n hC dX5_put_25 rfl 1 rfl ?_
      refine x_iload_n hC dX5_put_26 rfl 2 rfl ?_
      refine x_iushr hC dX5_put_27 ?_
      refine x_sipush (v := (255 : Int32)) hC dX5_put_28 kh_255 ?_
      refine x_iand hC dX5_put_31 ?_
      refine r_iast hB dX5_put_32 th_79 ?_
      refine x_mem (fun M32_3 => ?_)
      refine x_aload_n hC dX5_put_33 rfl 0 rfl ?_
      refine x_dup hC dX5_put_34 rfl ?_
      refine r_getI hB dX5_put_35 kf_X5_28 rfl th_78 ?_
      refine x_iconst (v := (1 : Int32)) hC dX5_put_38 ki_1 ?_
      refine x_iadd hC dX5_put_39 ?_
      refine r_putI hB dX5_put_40 kf_X5_28 rfl th_78 ?_
      refine x_mem (fun M40_3 => ?_)
      refine x_iinc hC dX5_put_43 ki_m8 [(2, .int (v2_3 + (-8 : Int32))), (0, zr w 78), (1, .int v1_3)] 2 rfl (by decide) rfl ?_
      refine x_goto (tgt := 3) hC dX5_put_46 (by decide) ?_
      refine x_sub [1, 2, 0] rfl ?_
      exact x_done (fun h => h)
noncomputable def j_X5_put_49 (M : zM) : Option (zM) :=
  some M
set_option maxRecDepth 100000 in
theorem j_X5_put_49_ok {C : zC} {d : Nat} {g : zG} {l : Launch} {w : zW} {r : zM} (hB : bOK C cX5_put 3 RX5 d g l w true) (hd : 1 ≤ d) (M : zM) (hR : RtV C cX5_put w r) : Sg C w (0, 0) 49 [] [] M (j_X5_put_49 M) (fun q => q = r) := by
  have hC := hB.1.1
  have hq1 : 1 ≤ d := by omega
  unfold j_X5_put_49
  exact r_retV hR dX5_put_49 (fun h => h)
noncomputable def f_X5_put (p1 : Int32) (M : zM) : Option (zM) :=
  (loopW (fun s => b_X5_put_3 p1 s.1 s.2) ((24 : Int32), M)).bind (fun r => j_X5_put_49 r)
set_option maxRecDepth 100000 in
theorem f_X5_put_ok {C : zC} {d : Nat} {g : zG} {l : Launch} {w : zW} {r : zM} {p1 : Int32} (hB : bOK C cX5_put 3 RX5 d g l w true) (hd : 1 ≤ d) (M : zM) (hR : RtV C cX5_put w r) : Sg C w (0, 0) 0 [(0, zr w 78), (1, .int p1)] [] M (f_X5_put p1 M) (fun q => q = r) := by
  have hC := hB.1.1
  have hq1 : 1 ≤ d := by omega
  unfold f_X5_put
  refine x_bipush (v := (24 : Int32)) hC dX5_put_0 kb_24 ?_
  refine x_istore_n hC dX5_put_2 rfl [(2, .int (24 : Int32)), (0, zr w 78), (1, .int p1)] (by decide) rfl ?_
  refine x_sub [1, 2, 0] rfl ?_
  refine x_loopB (pc2 := 49) (fun (s : (Int32 × zM)) => [(0, zr w 78), (1, .int p1), (2, .int s.1)]) (fun (s : (Int32 × zM)) => s.2) (fun (s : (zM)) => []) (fun (s : (zM)) => s) ((24 : Int32), M) ?_ ?_
  · exact fun s => b_X5_put_3_ok hB hd s.2 hR
  · intro r9
    exact j_X5_put_49_ok hB hd r9 hR
theorem f_X5_put_met {l : Launch} {d : Nat} {g : zG} {w : zW} {M0 : zM} {p1 : Int32} {M : zM} (hw : wS w) (hd : 1 ≤ d) {M' : zM} (h : f_X5_put p1 M = some M') : zMet l yX5_put cX5_put 3 none d g w (zin true) M0 [zr w 78, .int p1] M none M' :=
  met_v (by decide +kernel) (Nat.le_of_ble_eq_true rfl) (fun C hB0 hR => f_X5_put_ok ⟨hB0, hw⟩ hd M hR _ h rfl)
/-! WindingSquare$Reader.kind()I -/
noncomputable def f_X5_kind (M : zM) : Option (Int32) :=
  grd (inb (M 78 7) 401) (
  some (M 80 (ix (M 78 7))))
set_option maxRecDepth 100000 in
theorem f_X5_kind_ok {C : zC} {d : Nat} {g : zG} {l : Launch} {w : zW} {r : Int32} (hB : bOK C cX5_kind 1 RX5 d g l w true) (hd : 1 ≤ d) (M : zM) (hR : RtI C cX5_kind w r M) : Sg C w (0, 0) 0 [(0, zr w 78)] [] M (f_X5_kind M) (fun q => q = r) := by
  have hC := hB.1.1
  have hq1 : 1 ≤ d := by omega
  unfold f_X5_kind
  refine x_aload_n hC dX5_kind_0 rfl 0 rfl ?_
  refine r_getR hB dX5_kind_1 kf_X5_19 rfl th_78 rf_78_4 ?_
  refine x_aload_n hC dX5_kind_4 rfl 0 rfl ?_
  refine r_getI hB dX5_kind_5 kf_X5_34 rfl th_78 ?_
  refine r_iald hB dX5_kind_8 th_80 ?_
  exact r_retI hR dX5_kind_9 (fun h => congrArg (fun q => (q, M)) h)
theorem f_X5_kind_met {l : Launch} {d : Nat} {g : zG} {w : zW} {M0 : zM} {M : zM} (hw : wS w) (hd : 1 ≤ d) {v : Int32} (h : f_X5_kind M = some v) : zMet l yX5_kind cX5_kind 1 (some .int) d g w (zin true) M0 [zr w 78] M (some (.int v)) M :=
  met_i (by decide +kernel) (Nat.le_of_ble_eq_true rfl) rfl (fun C hB0 hR => f_X5_kind_ok ⟨hB0, hw⟩ hd M hR _ h rfl)
/-! WindingSquare$Reader.next()V -/
noncomputable def f_X5_next (M : zM) : Option (zM) :=
  if (400 : Int32) ≤ (M 78 7) then (some M)
  else (nm (mset M 78 7 ((M 78 7) + (1 : Int32))) fun M17 =>
  some M17)
set_option maxRecDepth 100000 in
theorem f_X5_next_ok {C : zC} {d : Nat} {g : zG} {l : Launch} {w : zW} {r : zM} (hB : bOK C cX5_next 1 RX5 d g l w true) (hd : 1 ≤ d) (M : zM) (hR : RtV C cX5_next w r) : Sg C w (0, 0) 0 [(0, zr w 78)] [] M (f_X5_next M) (fun q => q = r) := by
  have hC := hB.1.1
  have hq1 : 1 ≤ d := by omega
  unfold f_X5_next
  refine x_aload_n hC dX5_next_0 rfl 0 rfl ?_
  refine r_getI hB dX5_next_1 kf_X5_34 rfl th_78 ?_
  refine x_sipush (v := (400 : Int32)) hC dX5_next_4 kh_400 ?_
  refine x_icmp_ge (tgt := 20) hC dX5_next_7 (by decide) ?_ ?_
  · exact r_retV hR dX5_next_20 (fun h => h)
  · refine x_aload_n hC dX5_next_10 rfl 0 rfl ?_
    refine x_dup hC dX5_next_11 rfl ?_
    refine r_getI hB dX5_next_12 kf_X5_34 rfl th_78 ?_
    refine x_iconst (v := (1 : Int32)) hC dX5_next_15 ki_1 ?_
    refine x_iadd hC dX5_next_16 ?_
    refine r_putI hB dX5_next_17 kf_X5_34 rfl th_78 ?_
    refine x_mem (fun M17 => ?_)
    exact r_retV hR dX5_next_20 (fun h => h)
theorem f_X5_next_met {l : Launch} {d : Nat} {g : zG} {w : zW} {M0 : zM} {M : zM} (hw : wS w) (hd : 1 ≤ d) {M' : zM} (h : f_X5_next M = some M') : zMet l yX5_next cX5_next 1 none d g w (zin true) M0 [zr w 78] M none M' :=
  met_v (by decide +kernel) (Nat.le_of_ble_eq_true rfl) (fun C hB0 hR => f_X5_next_ok ⟨hB0, hw⟩ hd M hR _ h rfl)
/-! WindingSquare$Reader.fail(I)Z -/
noncomputable def f_X5_fail (p1 : Int32) (M : zM) : Option (Int32 × zM) :=
  nm (mset M 78 1 p1) fun M2 =>
  grd (inb (M2 78 7) 401) (
  nm (mset M2 78 2 (M2 82 (ix (M2 78 7)))) fun M15 =>
  some ((0 : Int32), M15))
set_option maxRecDepth 100000 in
theorem f_X5_fail_ok {C : zC} {d : Nat} {g : zG} {l : Launch} {w : zW} {r : Int32 × zM} {p1 : Int32} (hB : bOK C cX5_fail 2 RX5 d g l w true) (hd : 1 ≤ d) (M : zM) (hR : RtZ C cX5_fail w r.1 r.2) : Sg C w (0, 0) 0 [(0, zr w 78), (1, .int p1)] [] M (f_X5_fail p1 M) (fun q => q = r) := by
  have hC := hB.1.1
  have hq1 : 1 ≤ d := by omega
  unfold f_X5_fail
  refine x_aload_n hC dX5_fail_0 rfl 0 rfl ?_
  refine x_iload_n hC dX5_fail_1 rfl 1 rfl ?_
  refine r_putI hB dX5_fail_2 kf_X5_31 rfl th_78 ?_
  refine x_mem (fun M2 => ?_)
  refine x_aload_n hC dX5_fail_5 rfl 0 rfl ?_
  refine x_aload_n hC dX5_fail_6 rfl 0 rfl ?_
  refine r_getR hB dX5_fail_7 kf_X5_25 rfl th_78 rf_78_6 ?_
  refine x_aload_n hC dX5_fail_10 rfl 0 rfl ?_
  refine r_getI hB dX5_fail_11 kf_X5_34 rfl th_78 ?_
  refine r_iald hB dX5_fail_14 th_82 ?_
  refine r_putI hB dX5_fail_15 kf_X5_9 rfl th_78 ?_
  refine x_mem (fun M15 => ?_)
  refine x_iconst (v := (0 : Int32)) hC dX5_fail_18 ki_0 ?_
  exact r_retZ hR dX5_fail_19 (Or.inl rfl) (fun h => h)
theorem f_X5_fail_met {l : Launch} {d : Nat} {g : zG} {w : zW} {M0 : zM} {p1 : Int32} {M : zM} (hw : wS w) (hd : 1 ≤ d) {v : Int32} {M' : zM} (h : f_X5_fail p1 M = some (v, M')) : zMet l yX5_fail cX5_fail 2 (some .boolean) d g w (zin true) M0 [zr w 78, .int p1] M (some (.int v)) M' :=
  met_z (by decide +kernel) (Nat.le_of_ble_eq_true rfl) (fun C hB0 hR => f_X5_fail_ok (r := (v, M')) ⟨hB0, hw⟩ hd M hR _ h rfl)
/-! WindingSquare$Reader.isLetter(I)Z -/
def j_X5_isLetter_12 (v0_12 : Int32) : Int32 :=
  if v0_12 < (65 : Int32) then ((0 : Int32))
  else (if (90 : Int32) < v0_12 then ((0 : Int32))
  else ((1 : Int32)))
set_option maxRecDepth 100000 in
theorem j_X5_isLetter_12_ok {C : zC} {d : Nat} {g : zG} {l : Launch} {w : zW} {r : Int32} {v0_12 : Int32} (hB : bOK C cX5_isLetter 1 RX5 d g l w true) (hd : 1 ≤ d) (M : zM) (hR : RtZ C cX5_isLetter w r M) : Sg C w (0, 0) 12 [(0, .int v0_12)] [] M (some (j_X5_isLetter_12 v0_12)) (fun q => q = r) := by
  have hC := hB.1.1
  have hq1 : 1 ≤ d := by omega
  unfold j_X5_isLetter_12
  refine x_iload_n hC dX5_isLetter_12 rfl 0 rfl ?_
  refine x_bipush (v := (65 : Int32)) hC dX5_isLetter_13 kb_65 ?_
  refine x_si ?_
  refine x_icmp_lt (tgt := 28) hC dX5_isLetter_15 (by decide) ?_ ?_
  · refine x_iconst (v := (0 : Int32)) hC dX5_isLetter_28 ki_0 ?_
    exact r_retZ hR dX5_isLetter_29 (Or.inl rfl) (fun h => congrArg (fun q => (q, M)) h)
  · refine x_iload_n hC dX5_isLetter_18 rfl 0 rfl ?_
    refine x_bipush (v := (90 : Int32)) hC dX5_isLetter_19 kb_90 ?_
    refine x_si ?_
    refine x_icmp_gt (tgt := 28) hC dX5_isLetter_21 (by decide) ?_ ?_
    · refine x_iconst (v := (0 : Int32)) hC dX5_isLetter_28 ki_0 ?_
      exact r_retZ hR dX5_isLetter_29 (Or.inl rfl) (fun h => congrArg (fun q => (q, M)) h)
    · refine x_iconst (v := (1 : Int32)) hC dX5_isLetter_24 ki_1 ?_
      refine x_goto (tgt := 29) hC dX5_isLetter_25 (by decide) ?_
      exact r_retZ hR dX5_isLetter_29 (Or.inr rfl) (fun h => congrArg (fun q => (q, M)) h)
def f_X5_isLetter (p0 : Int32) : Int32 :=
  if p0 < (97 : Int32) then (j_X5_isLetter_12 p0)
  else (if p0 ≤ (122 : Int32) then ((1 : Int32))
  else (j_X5_isLetter_12 p0))
set_option maxRecDepth 100000 in
theorem f_X5_isLetter_ok {C : zC} {d : Nat} {g : zG} {l : Launch} {w : zW} {r : Int32} {p0 : Int32} (hB : bOK C cX5_isLetter 1 RX5 d g l w true) (hd : 1 ≤ d) (M : zM) (hR : RtZ C cX5_isLetter w r M) : Sg C w (0, 0) 0 [(0, .int p0)] [] M (some (f_X5_isLetter p0)) (fun q => q = r) := by
  have hC := hB.1.1
  have hq1 : 1 ≤ d := by omega
  unfold f_X5_isLetter
  refine x_iload_n hC dX5_isLetter_0 rfl 0 rfl ?_
  refine x_bipush (v := (97 : Int32)) hC dX5_isLetter_1 kb_97 ?_
  refine x_si ?_
  refine x_icmp_lt (tgt := 12) hC dX5_isLetter_3 (by decide) ?_ ?_
  · exact j_X5_isLetter_12_ok hB hd M hR
  · refine x_iload_n hC dX5_isLetter_6 rfl 0 rfl ?_
    refine x_bipush (v := (122 : Int32)) hC dX5_isLetter_7 kb_122 ?_
    refine x_si ?_
    refine x_icmp_le (tgt := 24) hC dX5_isLetter_9 (by decide) ?_ ?_
    · refine x_iconst (v := (1 : Int32)) hC dX5_isLetter_24 ki_1 ?_
      refine x_goto (tgt := 29) hC dX5_isLetter_25 (by decide) ?_
      exact r_retZ hR dX5_isLetter_29 (Or.inr rfl) (fun h => congrArg (fun q => (q, M)) h)
    · exact j_X5_isLetter_12_ok hB hd M hR
theorem f_X5_isLetter_met {l : Launch} {d : Nat} {g : zG} {w : zW} {M0 : zM} {p0 : Int32} {M : zM} (hw : wS w) (hd : 1 ≤ d) : zMet l yX5_isLetter cX5_isLetter 1 (some .boolean) d g w (zin true) M0 [.int p0] M (some (.int (f_X5_isLetter p0))) M :=
  met_z (by decide +kernel) (Nat.le_of_ble_eq_true rfl) (fun C hB0 hR => f_X5_isLetter_ok ⟨hB0, hw⟩ hd M hR _ rfl rfl)
/-! WindingSquare$Reader.isDigit(I)Z -/
def f_X5_isDigit (p0 : Int32) : Int32 :=
  if p0 < (48 : Int32) then ((0 : Int32))
  else (if (57 : Int32) < p0 then ((0 : Int32))
  else ((1 : Int32)))
set_option maxRecDepth 100000 in
theorem f_X5_isDigit_ok {C : zC} {d : Nat} {g : zG} {l : Launch} {w : zW} {r : Int32} {p0 : Int32} (hB : bOK C cX5_isDigit 1 RX5 d g l w true) (hd : 1 ≤ d) (M : zM) (hR : RtZ C cX5_isDigit w r M) : Sg C w (0, 0) 0 [(0, .int p0)] [] M (some (f_X5_isDigit p0)) (fun q => q = r) := by
  have hC := hB.1.1
  have hq1 : 1 ≤ d := by omega
  unfold f_X5_isDigit
  refine x_iload_n hC dX5_isDigit_0 rfl 0 rfl ?_
  refine x_bipush (v := (48 : Int32)) hC dX5_isDigit_1 kb_48 ?_
  refine x_si ?_
  refine x_icmp_lt (tgt := 16) hC dX5_isDigit_3 (by decide) ?_ ?_
  · refine x_iconst (v := (0 : Int32)) hC dX5_isDigit_16 ki_0 ?_
    exact r_retZ hR dX5_isDigit_17 (Or.inl rfl) (fun h => congrArg (fun q => (q, M)) h)
  · refine x_iload_n hC dX5_isDigit_6 rfl 0 rfl ?_
    refine x_bipush (v := (57 : Int32)) hC dX5_isDigit_7 kb_57 ?_
    refine x_si ?_
    refine x_icmp_gt (tgt := 16) hC dX5_isDigit_9 (by decide) ?_ ?_
    · refine x_iconst (v := (0 : Int32)) hC dX5_isDigit_16 ki_0 ?_
      exact r_retZ hR dX5_isDigit_17 (Or.inl rfl) (fun h => congrArg (fun q => (q, M)) h)
    · refine x_iconst (v := (1 : Int32)) hC dX5_isDigit_12 ki_1 ?_
      refine x_goto (tgt := 17) hC dX5_isDigit_13 (by decide) ?_
      exact r_retZ hR dX5_isDigit_17 (Or.inr rfl) (fun h => congrArg (fun q => (q, M)) h)
theorem f_X5_isDigit_met {l : Launch} {d : Nat} {g : zG} {w : zW} {M0 : zM} {p0 : Int32} {M : zM} (hw : wS w) (hd : 1 ≤ d) : zMet l yX5_isDigit cX5_isDigit 1 (some .boolean) d g w (zin true) M0 [.int p0] M (some (.int (f_X5_isDigit p0))) M :=
  met_z (by decide +kernel) (Nat.le_of_ble_eq_true rfl) (fun C hB0 hR => f_X5_isDigit_ok ⟨hB0, hw⟩ hd M hR _ rfl rfl)
/-! WindingSquare$Reader.valueOf(II)I -/
noncomputable def b_X5_valueOf_5 (v2_5 : Int32) (v3_5 : Int32) (v4_5 : Int32) (M : zM) : Option ((Int32 × Int32) ⊕ (Int32)) :=
  if v2_5 ≤ v4_5 then (some (.inr v3_5))
  else (grd (inb v4_5 400) (
  nm ((((10 : Int32) * v3_5) + (M 79 (ix v4_5))) - (48 : Int32)) fun v3_26_5 =>
  some (.inl (v3_26_5, (v4_5 + (1 : Int32))))))
set_option maxRecDepth 100000 in
theorem b_X5_valueOf_5_ok {C : zC} {d : Nat} {g : zG} {l : Launch} {w : zW} {r : Int32} {v2_5 : Int32} {v3_5 : Int32} {v4_5 : Int32} (hB : bOK C cX5_valueOf 5 RX5 d g l w true) (hd : 1 ≤ d) (M : zM) (hR : RtI C cX5_valueOf w r M) : Sg C w (0, 0) 5 [(0, zr w 78), (2, .int v2_5), (3, .int v3_5), (4, .int v4_5)] [] M (b_X5_valueOf_5 v2_5 v3_5 v4_5 M) (fun o => Sum.elim (fun (s : (Int32 × Int32)) => Zs C w (0, 0) 5 [(0, zr w 78), (2, .int v2_5), (3, .int s.1), (4, .int s.2)] [] M) (fun (s : (Int32)) => Zs C w (0, 0) 33 [(3, .int s)] [] M) o) := by
  have hC := hB.1.1
  have hq1 : 1 ≤ d := by omega
  unfold b_X5_valueOf_5
  refine x_iload hC dX5_valueOf_5 3 rfl ?_
  refine x_iload_n hC dX5_valueOf_7 rfl 1 rfl ?_
  refine x_icmp_ge (tgt := 33) hC dX5_valueOf_8 (by decide) ?_ ?_
  · refine x_sub [2] rfl ?_
    exact x_done (fun h => h)
  · refine x_bipush (v := (10 : Int32)) hC dX5_valueOf_11 kb_10 ?_
    refine x_iload_n hC dX5_valueOf_13 rfl 2 rfl ?_
    refine x_imul hC dX5_valueOf_14 ?_
    refine x_aload_n hC dX5_valueOf_15 rfl 0 rfl ?_
    refine r_getR hB dX5_valueOf_16 kf_X5_15 rfl th_78 rf_78_3 ?_
    refine x_iload hC dX5_valueOf_19 3 rfl ?_
    refine r_iald hB dX5_valueOf_21 th_79 ?_
    refine x_iadd hC dX5_valueOf_22 ?_
    refine x_bipush (v := (48 : Int32)) hC dX5_valueOf_23 kb_48 ?_
    refine x_isub hC dX5_valueOf_25 ?_
    refine x_top (fun v3_26_5 => ?_)
    refine x_istore_n hC dX5_valueOf_26 rfl [(3, .int v3_26_5), (0, zr w 78), (2, .int v2_5), (4, .int v4_5)] (by decide) rfl ?_
    refine x_iinc hC dX5_valueOf_27 ki_1 [(4, .int (v4_5 + (1 : Int32))), (3, .int v3_26_5), (0, zr w 78), (2, .int v2_5)] 3 rfl (by decide) rfl ?_
    refine x_goto (tgt := 5) hC dX5_valueOf_30 (by decide) ?_
    refine x_sub [2, 3, 1, 0] rfl ?_
    exact x_done (fun h => h)
noncomputable def j_X5_valueOf_33 (v3_33 : Int32) (M : zM) : Option (Int32) :=
  some v3_33
set_option maxRecDepth 100000 in
theorem j_X5_valueOf_33_ok {C : zC} {d : Nat} {g : zG} {l : Launch} {w : zW} {r : Int32} {v3_33 : Int32} (hB : bOK C cX5_valueOf 5 RX5 d g l w true) (hd : 1 ≤ d) (M : zM) (hR : RtI C cX5_valueOf w r M) : Sg C w (0, 0) 33 [(3, .int v3_33)] [] M (j_X5_valueOf_33 v3_33 M) (fun q => q = r) := by
  have hC := hB.1.1
  have hq1 : 1 ≤ d := by omega
  unfold j_X5_valueOf_33
  refine x_iload_n hC dX5_valueOf_33 rfl 0 rfl ?_
  exact r_retI hR dX5_valueOf_34 (fun h => congrArg (fun q => (q, M)) h)
noncomputable def f_X5_valueOf (p1 : Int32) (p2 : Int32) (M : zM) : Option (Int32) :=
  (loopW (fun s => b_X5_valueOf_5 p2 s.1 s.2 M) ((0 : Int32), p1)).bind (fun r => j_X5_valueOf_33 r M)
set_option maxRecDepth 100000 in
theorem f_X5_valueOf_ok {C : zC} {d : Nat} {g : zG} {l : Launch} {w : zW} {r : Int32} {p1 : Int32} {p2 : Int32} (hB : bOK C cX5_valueOf 5 RX5 d g l w true) (hd : 1 ≤ d) (M : zM) (hR : RtI C cX5_valueOf w r M) : Sg C w (0, 0) 0 [(0, zr w 78), (1, .int p1), (2, .int p2)] [] M (f_X5_valueOf p1 p2 M) (fun q => q = r) := by
  have hC := hB.1.1
  have hq1 : 1 ≤ d := by omega
  unfold f_X5_valueOf
  refine x_iconst (v := (0 : Int32)) hC dX5_valueOf_0 ki_0 ?_
  refine x_istore_n hC dX5_valueOf_1 rfl [(3, .int (0 : Int32)), (0, zr w 78), (1, .int p1), (2, .int p2)] (by decide) rfl ?_
  refine x_iload_n hC dX5_valueOf_2 rfl 2 rfl ?_
  refine x_istore (f := 0) hC dX5_valueOf_3 [(4, .int p1), (3, .int (0 : Int32)), (0, zr w 78), (1, .int p1), (2, .int p2)] (by decide) rfl ?_
  refine x_sub [2, 4, 1, 0] rfl ?_
  refine x_loopB (pc2 := 33) (fun (s : (Int32 × Int32)) => [(0, zr w 78), (2, .int p2), (3, .int s.1), (4, .int s.2)]) (fun (s : (Int32 × Int32)) => M) (fun (s : (Int32)) => [(3, .int s)]) (fun (s : (Int32)) => M) ((0 : Int32), p1) ?_ ?_
  · exact fun s => b_X5_valueOf_5_ok hB hd M hR
  · intro r9
    exact j_X5_valueOf_33_ok hB hd M hR
theorem f_X5_valueOf_met {l : Launch} {d : Nat} {g : zG} {w : zW} {M0 : zM} {p1 : Int32} {p2 : Int32} {M : zM} (hw : wS w) (hd : 1 ≤ d) {v : Int32} (h : f_X5_valueOf p1 p2 M = some v) : zMet l yX5_valueOf cX5_valueOf 5 (some .int) d g w (zin true) M0 [zr w 78, .int p1, .int p2] M (some (.int v)) M :=
  met_i (by decide +kernel) (Nat.le_of_ble_eq_true rfl) rfl (fun C hB0 hR => f_X5_valueOf_ok ⟨hB0, hw⟩ hd M hR _ h rfl)
/-! WindingSquare$Rows.tellTurn(II)I -/
noncomputable def f_X6_tellTurn (a0 : Nat) (p1 : Int32) (p2 : Int32) (M : zM) : Option (Int32 × zM) :=
  if p2 = (-1 : Int32) then (grd (inb p1 2) (
  nm (mset M (a0 + 2) (ix p1) (0 : Int32)) fun M11 =>
  some ((0 : Int32), M11)))
  else (grd (inb p1 2) (
  if (M (a0 + 2) (ix p1)) < (12 : Int32) then (grd (inb p1 2) (
  grd (inb (((12 : Int32) * p1) + (M (a0 + 2) (ix p1))) 24) (
  nm (mset M (a0 + 1) (ix (((12 : Int32) * p1) + (M (a0 + 2) (ix p1)))) p2) fun M43 =>
  grd (inb p1 2) (
  grd (inb p1 2) (
  nm (mset M43 (a0 + 2) (ix p1) ((M43 (a0 + 2) (ix p1)) + (1 : Int32))) fun M53 =>
  grd (inb p1 2) (
  some ((M53 (a0 + 2) (ix p1)), M53)))))))
  else (some ((-1 : Int32), M))))
set_option maxRecDepth 100000 in
theorem f_X6_tellTurn_ok {C : zC} {d : Nat} {g : zG} {l : Launch} {w : zW} {r : Int32 × zM} {a0 : Nat} {p1 : Int32} {p2 : Int32} (hB : bOK C cX6_tellTurn 3 RX6 d g l w true) (h0 : tO true 6 a0) (hd : 1 ≤ d) (M : zM) (hR : RtI C cX6_tellTurn w r.1 r.2) : Sg C w (0, 0) 0 [(0, zr w a0), (1, .int p1), (2, .int p2)] [] M (f_X6_tellTurn a0 p1 p2 M) (fun q => q = r) := by
  have hC := hB.1.1
  have hq1 : 1 ≤ d := by omega
  unfold f_X6_tellTurn
  refine x_iload_n hC dX6_tellTurn_0 rfl 2 rfl ?_
  refine x_iconst (v := (-1 : Int32)) hC dX6_tellTurn_1 ki_m1 ?_
  refine x_icmp_ne (tgt := 14) hC dX6_tellTurn_2 (by decide) ?_ ?_
  · refine x_aload_n hC dX6_tellTurn_5 rfl 0 rfl ?_
    refine r_getR hB dX6_tellTurn_6 kf_X6_15 rfl h0 (nv_6_1 h0).1 ?_
    refine x_iload_n hC dX6_tellTurn_9 rfl 1 rfl ?_
    refine x_iconst (v := (0 : Int32)) hC dX6_tellTurn_10 ki_0 ?_
    refine r_iast hB dX6_tellTurn_11 (nv_6_1 h0).2 ?_
    refine x_mem (fun M11 => ?_)
    refine x_iconst (v := (0 : Int32)) hC dX6_tellTurn_12 ki_0 ?_
    exact r_retI hR dX6_tellTurn_13 (fun h => h)
  · refine x_aload_n hC dX6_tellTurn_14 rfl 0 rfl ?_
    refine r_getR hB dX6_tellTurn_15 kf_X6_15 rfl h0 (nv_6_1 h0).1 ?_
    refine x_iload_n hC dX6_tellTurn_18 rfl 1 rfl ?_
    refine r_iald hB dX6_tellTurn_19 (nv_6_1 h0).2 ?_
    refine x_bipush (v := (12 : Int32)) hC dX6_tellTurn_20 kb_12 ?_
    refine x_icmp_lt (tgt := 27) hC dX6_tellTurn_22 (by decide) ?_ ?_
    · refine x_aload_n hC dX6_tellTurn_27 rfl 0 rfl ?_
      refine r_getR hB dX6_tellTurn_28 kf_X6_11 rfl h0 (nv_6_0 h0).1 ?_
      refine x_bipush (v := (12 : Int32)) hC dX6_tellTurn_31 kb_12 ?_
      refine x_iload_n hC dX6_tellTurn_33 rfl 1 rfl ?_
      refine x_imul hC dX6_tellTurn_34 ?_
      refine x_aload_n hC dX6_tellTurn_35 rfl 0 rfl ?_
      refine r_getR hB dX6_tellTurn_36 kf_X6_15 rfl h0 (nv_6_1 h0).1 ?_
      refine x_iload_n hC dX6_tellTurn_39 rfl 1 rfl ?_
      refine r_iald hB dX6_tellTurn_40 (nv_6_1 h0).2 ?_
      refine x_iadd hC dX6_tellTurn_41 ?_
      refine x_iload_n hC dX6_tellTurn_42 rfl 2 rfl ?_
      refine r_iast hB dX6_tellTurn_43 (nv_6_0 h0).2 ?_
      refine x_mem (fun M43 => ?_)
      refine x_aload_n hC dX6_tellTurn_44 rfl 0 rfl ?_
      refine r_getR hB dX6_tellTurn_45 kf_X6_15 rfl h0 (nv_6_1 h0).1 ?_
      refine x_iload_n hC dX6_tellTurn_48 rfl 1 rfl ?_
      refine x_dup2 hC dX6_tellTurn_49 rfl rfl ?_
      refine r_iald hB dX6_tellTurn_50 (nv_6_1 h0).2 ?_
      refine x_iconst (v := (1 : Int32)) hC dX6_tellTurn_51 ki_1 ?_
      refine x_iadd hC dX6_tellTurn_52 ?_
      refine r_iast hB dX6_tellTurn_53 (nv_6_1 h0).2 ?_
      refine x_mem (fun M53 => ?_)
      refine x_aload_n hC dX6_tellTurn_54 rfl 0 rfl ?_
      refine r_getR hB dX6_tellTurn_55 kf_X6_15 rfl h0 (nv_6_1 h0).1 ?_
      refine x_iload_n hC dX6_tellTurn_58 rfl 1 rfl ?_
      refine r_iald hB dX6_tellTurn_59 (nv_6_1 h0).2 ?_
      exact r_retI hR dX6_tellTurn_60 (fun h => h)
    · refine x_iconst (v := (-1 : Int32)) hC dX6_tellTurn_25 ki_m1 ?_
      exact r_retI hR dX6_tellTurn_26 (fun h => h)
theorem f_X6_tellTurn_met {l : Launch} {d : Nat} {g : zG} {w : zW} {M0 : zM} {a0 : Nat} {p1 : Int32} {p2 : Int32} {M : zM} (hw : wS w) (h0 : tO true 6 a0) (hd : 1 ≤ d) {v : Int32} {M' : zM} (h : f_X6_tellTurn a0 p1 p2 M = some (v, M')) : zMet l yX6_tellTurn cX6_tellTurn 3 (some .int) d g w (zin true) M0 [zr w a0, .int p1, .int p2] M (some (.int v)) M' :=
  met_i (by decide +kernel) (Nat.le_of_ble_eq_true rfl) rfl (fun C hB0 hR => f_X6_tellTurn_ok (r := (v, M')) ⟨hB0, hw⟩ h0 hd M hR _ h rfl)
/-! WindingSquare$Rows.tellMove(I)I -/
noncomputable def f_X6_tellMove (a0 : Nat) (p1 : Int32) (M : zM) : Option (Int32 × zM) :=
  if p1 = (-1 : Int32) then (nm (mset M a0 3 (0 : Int32)) fun M7 =>
  some ((0 : Int32), M7))
  else (if (M a0 3) < (24 : Int32) then (grd (inb (M a0 3) 24) (
  nm (mset M (a0 + 3) (ix (M a0 3)) p1) fun M32 =>
  nm (mset M32 a0 3 ((M32 a0 3) + (1 : Int32))) fun M40 =>
  some ((M40 a0 3), M40)))
  else (some ((-1 : Int32), M)))
set_option maxRecDepth 100000 in
theorem f_X6_tellMove_ok {C : zC} {d : Nat} {g : zG} {l : Launch} {w : zW} {r : Int32 × zM} {a0 : Nat} {p1 : Int32} (hB : bOK C cX6_tellMove 2 RX6 d g l w true) (h0 : tO true 6 a0) (hd : 1 ≤ d) (M : zM) (hR : RtI C cX6_tellMove w r.1 r.2) : Sg C w (0, 0) 0 [(0, zr w a0), (1, .int p1)] [] M (f_X6_tellMove a0 p1 M) (fun q => q = r) := by
  have hC := hB.1.1
  have hq1 : 1 ≤ d := by omega
  unfold f_X6_tellMove
  refine x_iload_n hC dX6_tellMove_0 rfl 1 rfl ?_
  refine x_iconst (v := (-1 : Int32)) hC dX6_tellMove_1 ki_m1 ?_
  refine x_icmp_ne (tgt := 12) hC dX6_tellMove_2 (by decide) ?_ ?_
  · refine x_aload_n hC dX6_tellMove_5 rfl 0 rfl ?_
    refine x_iconst (v := (0 : Int32)) hC dX6_tellMove_6 ki_0 ?_
    refine r_putI hB dX6_tellMove_7 kf_X6_33 rfl h0 ?_
    refine x_mem (fun M7 => ?_)
    refine x_iconst (v := (0 : Int32)) hC dX6_tellMove_10 ki_0 ?_
    exact r_retI hR dX6_tellMove_11 (fun h => h)
  · refine x_aload_n hC dX6_tellMove_12 rfl 0 rfl ?_
    refine r_getI hB dX6_tellMove_13 kf_X6_33 rfl h0 ?_
    refine x_bipush (v := (24 : Int32)) hC dX6_tellMove_16 kb_24 ?_
    refine x_icmp_lt (tgt := 23) hC dX6_tellMove_18 (by decide) ?_ ?_
    · refine x_aload_n hC dX6_tellMove_23 rfl 0 rfl ?_
      refine r_getR hB dX6_tellMove_24 kf_X6_18 rfl h0 (nv_6_2 h0).1 ?_
      refine x_aload_n hC dX6_tellMove_27 rfl 0 rfl ?_
      refine r_getI hB dX6_tellMove_28 kf_X6_33 rfl h0 ?_
      refine x_iload_n hC dX6_tellMove_31 rfl 1 rfl ?_
      refine r_iast hB dX6_tellMove_32 (nv_6_2 h0).2 ?_
      refine x_mem (fun M32 => ?_)
      refine x_aload_n hC dX6_tellMove_33 rfl 0 rfl ?_
      refine x_dup hC dX6_tellMove_34 rfl ?_
      refine r_getI hB dX6_tellMove_35 kf_X6_33 rfl h0 ?_
      refine x_iconst (v := (1 : Int32)) hC dX6_tellMove_38 ki_1 ?_
      refine x_iadd hC dX6_tellMove_39 ?_
      refine r_putI hB dX6_tellMove_40 kf_X6_33 rfl h0 ?_
      refine x_mem (fun M40 => ?_)
      refine x_aload_n hC dX6_tellMove_43 rfl 0 rfl ?_
      refine r_getI hB dX6_tellMove_44 kf_X6_33 rfl h0 ?_
      exact r_retI hR dX6_tellMove_47 (fun h => h)
    · refine x_iconst (v := (-1 : Int32)) hC dX6_tellMove_21 ki_m1 ?_
      exact r_retI hR dX6_tellMove_22 (fun h => h)
theorem f_X6_tellMove_met {l : Launch} {d : Nat} {g : zG} {w : zW} {M0 : zM} {a0 : Nat} {p1 : Int32} {M : zM} (hw : wS w) (h0 : tO true 6 a0) (hd : 1 ≤ d) {v : Int32} {M' : zM} (h : f_X6_tellMove a0 p1 M = some (v, M')) : zMet l yX6_tellMove cX6_tellMove 2 (some .int) d g w (zin true) M0 [zr w a0, .int p1] M (some (.int v)) M' :=
  met_i (by decide +kernel) (Nat.le_of_ble_eq_true rfl) rfl (fun C hB0 hR => f_X6_tellMove_ok (r := (v, M')) ⟨hB0, hw⟩ h0 hd M hR _ h rfl)
/-! WindingSquare$Rows.tellGap(II)I -/
noncomputable def f_X6_tellGap (a0 : Nat) (p1 : Int32) (p2 : Int32) (M : zM) : Option (Int32 × zM) :=
  if p1 = (-1 : Int32) then (nm (mset M a0 6 (0 : Int32)) fun M7 =>
  some ((0 : Int32), M7))
  else (if (M a0 6) < (8 : Int32) then (grd (inb (M a0 6) 8) (
  nm (mset M (a0 + 4) (ix (M a0 6)) p1) fun M32 =>
  grd (inb (M32 a0 6) 8) (
  nm (mset M32 (a0 + 5) (ix (M32 a0 6)) p2) fun M42 =>
  nm (mset M42 a0 6 ((M42 a0 6) + (1 : Int32))) fun M50 =>
  some ((M50 a0 6), M50))))
  else (some ((-1 : Int32), M)))
set_option maxRecDepth 100000 in
theorem f_X6_tellGap_ok {C : zC} {d : Nat} {g : zG} {l : Launch} {w : zW} {r : Int32 × zM} {a0 : Nat} {p1 : Int32} {p2 : Int32} (hB : bOK C cX6_tellGap 3 RX6 d g l w true) (h0 : tO true 6 a0) (hd : 1 ≤ d) (M : zM) (hR : RtI C cX6_tellGap w r.1 r.2) : Sg C w (0, 0) 0 [(0, zr w a0), (1, .int p1), (2, .int p2)] [] M (f_X6_tellGap a0 p1 p2 M) (fun q => q = r) := by
  have hC := hB.1.1
  have hq1 : 1 ≤ d := by omega
  unfold f_X6_tellGap
  refine x_iload_n hC dX6_tellGap_0 rfl 1 rfl ?_
  refine x_iconst (v := (-1 : Int32)) hC dX6_tellGap_1 ki_m1 ?_
  refine x_icmp_ne (tgt := 12) hC dX6_tellGap_2 (by decide) ?_ ?_
  · refine x_aload_n hC dX6_tellGap_5 rfl 0 rfl ?_
    refine x_iconst (v := (0 : Int32)) hC dX6_tellGap_6 ki_0 ?_
    refine r_putI hB dX6_tellGap_7 kf_X6_37 rfl h0 ?_
    refine x_mem (fun M7 => ?_)
    refine x_iconst (v := (0 : Int32)) hC dX6_tellGap_10 ki_0 ?_
    exact r_retI hR dX6_tellGap_11 (fun h => h)
  · refine x_aload_n hC dX6_tellGap_12 rfl 0 rfl ?_
    refine r_getI hB dX6_tellGap_13 kf_X6_37 rfl h0 ?_
    refine x_bipush (v := (8 : Int32)) hC dX6_tellGap_16 kb_8 ?_
    refine x_icmp_lt (tgt := 23) hC dX6_tellGap_18 (by decide) ?_ ?_
    · refine x_aload_n hC dX6_tellGap_23 rfl 0 rfl ?_
      refine r_getR hB dX6_tellGap_24 kf_X6_21 rfl h0 (nv_6_4 h0).1 ?_
      refine x_aload_n hC dX6_tellGap_27 rfl 0 rfl ?_
      refine r_getI hB dX6_tellGap_28 kf_X6_37 rfl h0 ?_
      refine x_iload_n hC dX6_tellGap_31 rfl 1 rfl ?_
      refine r_iast hB dX6_tellGap_32 (nv_6_4 h0).2 ?_
      refine x_mem (fun M32 => ?_)
      refine x_aload_n hC dX6_tellGap_33 rfl 0 rfl ?_
      refine r_getR hB dX6_tellGap_34 kf_X6_24 rfl h0 (nv_6_5 h0).1 ?_
      refine x_aload_n hC dX6_tellGap_37 rfl 0 rfl ?_
      refine r_getI hB dX6_tellGap_38 kf_X6_37 rfl h0 ?_
      refine x_iload_n hC dX6_tellGap_41 rfl 2 rfl ?_
      refine r_iast hB dX6_tellGap_42 (nv_6_5 h0).2 ?_
      refine x_mem (fun M42 => ?_)
      refine x_aload_n hC dX6_tellGap_43 rfl 0 rfl ?_
      refine x_dup hC dX6_tellGap_44 rfl ?_
      refine r_getI hB dX6_tellGap_45 kf_X6_37 rfl h0 ?_
      refine x_iconst (v := (1 : Int32)) hC dX6_tellGap_48 ki_1 ?_
      refine x_iadd hC dX6_tellGap_49 ?_
      refine r_putI hB dX6_tellGap_50 kf_X6_37 rfl h0 ?_
      refine x_mem (fun M50 => ?_)
      refine x_aload_n hC dX6_tellGap_53 rfl 0 rfl ?_
      refine r_getI hB dX6_tellGap_54 kf_X6_37 rfl h0 ?_
      exact r_retI hR dX6_tellGap_57 (fun h => h)
    · refine x_iconst (v := (-1 : Int32)) hC dX6_tellGap_21 ki_m1 ?_
      exact r_retI hR dX6_tellGap_22 (fun h => h)
theorem f_X6_tellGap_met {l : Launch} {d : Nat} {g : zG} {w : zW} {M0 : zM} {a0 : Nat} {p1 : Int32} {p2 : Int32} {M : zM} (hw : wS w) (h0 : tO true 6 a0) (hd : 1 ≤ d) {v : Int32} {M' : zM} (h : f_X6_tellGap a0 p1 p2 M = some (v, M')) : zMet l yX6_tellGap cX6_tellGap 3 (some .int) d g w (zin true) M0 [zr w a0, .int p1, .int p2] M (some (.int v)) M' :=
  met_i (by decide +kernel) (Nat.le_of_ble_eq_true rfl) rfl (fun C hB0 hR => f_X6_tellGap_ok (r := (v, M')) ⟨hB0, hw⟩ h0 hd M hR _ h rfl)
/-! WindingSquare$Rows.wound()I -/
noncomputable def j_X6_wound_34_4 (a0 : Nat) (v2_34_4 : Int32) (s0_34_4 : Int32) (s1_34_4 : Int32) (M : zM) : Option ((Int32 × Int32) ⊕ (Int32)) :=
  nm (s0_34_4 + s1_34_4) fun v1_35_4 =>
  some (.inl (v1_35_4, (v2_34_4 + (1 : Int32))))
set_option maxRecDepth 100000 in
theorem j_X6_wound_34_4_ok {C : zC} {d : Nat} {g : zG} {l : Launch} {w : zW} {r : Int32} {a0 : Nat} {v2_34_4 : Int32} {s0_34_4 : Int32} {s1_34_4 : Int32} (hB : bOK C cX6_wound 3 RX6 d g l w true) (h0 : tO true 6 a0) (hd : 1 ≤ d) (M : zM) (hR : RtI C cX6_wound w r M) : Sg C w (0, 0) 34 [(0, zr w a0), (2, .int v2_34_4)] [.int s1_34_4, .int s0_34_4] M (j_X6_wound_34_4 a0 v2_34_4 s0_34_4 s1_34_4 M) (fun o => Sum.elim (fun (s : (Int32 × Int32)) => Zs C w (0, 0) 4 [(0, zr w a0), (1, .int s.1), (2, .int s.2)] [] M) (fun (s : (Int32)) => Zs C w (0, 0) 42 [(1, .int s)] [] M) o) := by
  have hC := hB.1.1
  have hq1 : 1 ≤ d := by omega
  unfold j_X6_wound_34_4
  refine x_iadd hC dX6_wound_34 ?_
  refine x_top (fun v1_35_4 => ?_)
  refine x_istore_n hC dX6_wound_35 rfl [(1, .int v1_35_4), (0, zr w a0), (2, .int v2_34_4)] (by decide) rfl ?_
  refine x_iinc hC dX6_wound_36 ki_1 [(2, .int (v2_34_4 + (1 : Int32))), (1, .int v1_35_4), (0, zr w a0)] 2 rfl (by decide) rfl ?_
  refine x_goto (tgt := 4) hC dX6_wound_39 (by decide) ?_
  refine x_sub [2, 1, 0] rfl ?_
  exact x_done (fun h => h)
noncomputable def b_X6_wound_4 (a0 : Nat) (v1_4 : Int32) (v2_4 : Int32) (M : zM) : Option ((Int32 × Int32) ⊕ (Int32)) :=
  if (M a0 3) ≤ v2_4 then (some (.inr v1_4))
  else (grd (inb v2_4 24) (
  if (M (a0 + 3) (ix v2_4)) = (2 : Int32) then (j_X6_wound_34_4 a0 v2_4 v1_4 (1 : Int32) M)
  else (grd (inb v2_4 24) (
  j_X6_wound_34_4 a0 v2_4 v1_4 (-(M (a0 + 3) (ix v2_4))) M))))
set_option maxRecDepth 100000 in
theorem b_X6_wound_4_ok {C : zC} {d : Nat} {g : zG} {l : Launch} {w : zW} {r : Int32} {a0 : Nat} {v1_4 : Int32} {v2_4 : Int32} (hB : bOK C cX6_wound 3 RX6 d g l w true) (h0 : tO true 6 a0) (hd : 1 ≤ d) (M : zM) (hR : RtI C cX6_wound w r M) : Sg C w (0, 0) 4 [(0, zr w a0), (1, .int v1_4), (2, .int v2_4)] [] M (b_X6_wound_4 a0 v1_4 v2_4 M) (fun o => Sum.elim (fun (s : (Int32 × Int32)) => Zs C w (0, 0) 4 [(0, zr w a0), (1, .int s.1), (2, .int s.2)] [] M) (fun (s : (Int32)) => Zs C w (0, 0) 42 [(1, .int s)] [] M) o) := by
  have hC := hB.1.1
  have hq1 : 1 ≤ d := by omega
  unfold b_X6_wound_4
  refine x_iload_n hC dX6_wound_4 rfl 2 rfl ?_
  refine x_aload_n hC dX6_wound_5 rfl 0 rfl ?_
  refine r_getI hB dX6_wound_6 kf_X6_33 rfl h0 ?_
  refine x_icmp_ge (tgt := 42) hC dX6_wound_9 (by decide) ?_ ?_
  · refine x_sub [1] rfl ?_
    exact x_done (fun h => h)
  · refine x_iload_n hC dX6_wound_12 rfl 1 rfl ?_
    refine x_aload_n hC dX6_wound_13 rfl 0 rfl ?_
    refine r_getR hB dX6_wound_14 kf_X6_18 rfl h0 (nv_6_2 h0).1 ?_
    refine x_iload_n hC dX6_wound_17 rfl 2 rfl ?_
    refine r_iald hB dX6_wound_18 (nv_6_2 h0).2 ?_
    refine x_iconst (v := (2 : Int32)) hC dX6_wound_19 ki_2 ?_
    refine x_icmp_ne (tgt := 27) hC dX6_wound_20 (by decide) ?_ ?_
    · refine x_iconst (v := (1 : Int32)) hC dX6_wound_23 ki_1 ?_
      refine x_goto (tgt := 34) hC dX6_wound_24 (by decide) ?_
      refine x_sub [0, 2] rfl ?_
      exact j_X6_wound_34_4_ok hB h0 hd M hR
    · refine x_aload_n hC dX6_wound_27 rfl 0 rfl ?_
      refine r_getR hB dX6_wound_28 kf_X6_18 rfl h0 (nv_6_2 h0).1 ?_
      refine x_iload_n hC dX6_wound_31 rfl 2 rfl ?_
      refine r_iald hB dX6_wound_32 (nv_6_2 h0).2 ?_
      refine x_ineg hC dX6_wound_33 ?_
      refine x_sub [0, 2] rfl ?_
      exact j_X6_wound_34_4_ok hB h0 hd M hR
noncomputable def j_X6_wound_42 (a0 : Nat) (v1_42 : Int32) (M : zM) : Option (Int32) :=
  some v1_42
set_option maxRecDepth 100000 in
theorem j_X6_wound_42_ok {C : zC} {d : Nat} {g : zG} {l : Launch} {w : zW} {r : Int32} {a0 : Nat} {v1_42 : Int32} (hB : bOK C cX6_wound 3 RX6 d g l w true) (h0 : tO true 6 a0) (hd : 1 ≤ d) (M : zM) (hR : RtI C cX6_wound w r M) : Sg C w (0, 0) 42 [(1, .int v1_42)] [] M (j_X6_wound_42 a0 v1_42 M) (fun q => q = r) := by
  have hC := hB.1.1
  have hq1 : 1 ≤ d := by omega
  unfold j_X6_wound_42
  refine x_iload_n hC dX6_wound_42 rfl 0 rfl ?_
  exact r_retI hR dX6_wound_43 (fun h => congrArg (fun q => (q, M)) h)
noncomputable def f_X6_wound (a0 : Nat) (M : zM) : Option (Int32) :=
  (loopW (fun s => b_X6_wound_4 a0 s.1 s.2 M) ((0 : Int32), (0 : Int32))).bind (fun r => j_X6_wound_42 a0 r M)
set_option maxRecDepth 100000 in
theorem f_X6_wound_ok {C : zC} {d : Nat} {g : zG} {l : Launch} {w : zW} {r : Int32} {a0 : Nat} (hB : bOK C cX6_wound 3 RX6 d g l w true) (h0 : tO true 6 a0) (hd : 1 ≤ d) (M : zM) (hR : RtI C cX6_wound w r M) : Sg C w (0, 0) 0 [(0, zr w a0)] [] M (f_X6_wound a0 M) (fun q => q = r) := by
  have hC := hB.1.1
  have hq1 : 1 ≤ d := by omega
  unfold f_X6_wound
  refine x_iconst (v := (0 : Int32)) hC dX6_wound_0 ki_0 ?_
  refine x_istore_n hC dX6_wound_1 rfl [(1, .int (0 : Int32)), (0, zr w a0)] (by decide) rfl ?_
  refine x_iconst (v := (0 : Int32)) hC dX6_wound_2 ki_0 ?_
  refine x_istore_n hC dX6_wound_3 rfl [(2, .int (0 : Int32)), (1, .int (0 : Int32)), (0, zr w a0)] (by decide) rfl ?_
  refine x_sub [2, 1, 0] rfl ?_
  refine x_loopB (pc2 := 42) (fun (s : (Int32 × Int32)) => [(0, zr w a0), (1, .int s.1), (2, .int s.2)]) (fun (s : (Int32 × Int32)) => M) (fun (s : (Int32)) => [(1, .int s)]) (fun (s : (Int32)) => M) ((0 : Int32), (0 : Int32)) ?_ ?_
  · exact fun s => b_X6_wound_4_ok hB h0 hd M hR
  · intro r9
    exact j_X6_wound_42_ok hB h0 hd M hR
theorem f_X6_wound_met {l : Launch} {d : Nat} {g : zG} {w : zW} {M0 : zM} {a0 : Nat} {M : zM} (hw : wS w) (h0 : tO true 6 a0) (hd : 1 ≤ d) {v : Int32} (h : f_X6_wound a0 M = some v) : zMet l yX6_wound cX6_wound 3 (some .int) d g w (zin true) M0 [zr w a0] M (some (.int v)) M :=
  met_i (by decide +kernel) (Nat.le_of_ble_eq_true rfl) rfl (fun C hB0 hR => f_X6_wound_ok ⟨hB0, hw⟩ h0 hd M hR _ h rfl)
/-! WindingSquare$Rows.isRotation(IIZ)Z -/
noncomputable def j_X6_isRotation_48_11 (a0 : Nat) (v1_11 : Int32) (v2_11 : Int32) (v3_11 : Int32) (v4_11 : Int32) (v5_48_11 : Int32) (v6_48_11 : Int32) (M : zM) : Option ((Int32) ⊕ (Unit ⊕ (Int32))) :=
  grd (inb (v2_11 + v5_48_11) 24) (
  if (M (a0 + 1) (ix (v2_11 + v5_48_11))) = v6_48_11 then (some (.inl (v5_48_11 + (1 : Int32))))
  else (some (.inr (.inr (0 : Int32)))))
set_option maxRecDepth 100000 in
theorem j_X6_isRotation_48_11_ok {C : zC} {d : Nat} {g : zG} {l : Launch} {w : zW} {r : Int32} {a0 : Nat} {v1_11 : Int32} {v2_11 : Int32} {v3_11 : Int32} {v4_11 : Int32} {v5_48_11 : Int32} {v6_48_11 : Int32} (hB : bOK C cX6_isRotation 7 RX6 d g l w true) (h0 : tO true 6 a0) (hd : 1 ≤ d) (M : zM) (hR : RtZ C cX6_isRotation w r M) : Sg C w (0, 0) 48 [(0, zr w a0), (1, .int v1_11), (2, .int v2_11), (3, .int v3_11), (4, .int v4_11), (5, .int v5_48_11), (6, .int v6_48_11)] [] M (j_X6_isRotation_48_11 a0 v1_11 v2_11 v3_11 v4_11 v5_48_11 v6_48_11 M) (fun o => Sum.elim (fun (s : (Int32)) => Zs C w (0, 0) 11 [(0, zr w a0), (1, .int v1_11), (2, .int v2_11), (3, .int v3_11), (4, .int v4_11), (5, .int s)] [] M) (fun q => Sum.elim (fun (s : Unit) => Zs C w (0, 0) 70 [] [] M) (fun q => q = r) q) o) := by
  have hC := hB.1.1
  have hq1 : 1 ≤ d := by omega
  unfold j_X6_isRotation_48_11
  refine x_aload_n hC dX6_isRotation_48 rfl 0 rfl ?_
  refine r_getR hB dX6_isRotation_49 kf_X6_11 rfl h0 (nv_6_0 h0).1 ?_
  refine x_iload_n hC dX6_isRotation_52 rfl 2 rfl ?_
  refine x_iload hC dX6_isRotation_53 5 rfl ?_
  refine x_iadd hC dX6_isRotation_55 ?_
  refine r_iald hB dX6_isRotation_56 (nv_6_0 h0).2 ?_
  refine x_iload hC dX6_isRotation_57 6 rfl ?_
  refine x_icmp_eq (tgt := 64) hC dX6_isRotation_59 (by decide) ?_ ?_
  · refine x_iinc hC dX6_isRotation_64 ki_1 [(5, .int (v5_48_11 + (1 : Int32))), (0, zr w a0), (1, .int v1_11), (2, .int v2_11), (3, .int v3_11), (4, .int v4_11), (6, .int v6_48_11)] 5 rfl (by decide) rfl ?_
    refine x_goto (tgt := 11) hC dX6_isRotation_67 (by decide) ?_
    refine x_sub [1, 2, 3, 4, 5, 0] rfl ?_
    exact x_done (fun h => h)
  · refine x_iconst (v := (0 : Int32)) hC dX6_isRotation_62 ki_0 ?_
    exact r_retZ hR dX6_isRotation_63 (Or.inl rfl) (fun h => congrArg (fun q => (q, M)) h)
noncomputable def b_X6_isRotation_11 (a0 : Nat) (v1_11 : Int32) (v2_11 : Int32) (v3_11 : Int32) (v4_11 : Int32) (v5_11 : Int32) (M : zM) : Option ((Int32) ⊕ (Unit ⊕ (Int32))) :=
  if v4_11 ≤ v5_11 then (some (.inr (.inl ())))
  else (grd (¬ v4_11 = 0) (
  grd (inb (irem (v5_11 + v1_11) v4_11) 24) (
  nm (M (a0 + 1) (ix (irem (v5_11 + v1_11) v4_11))) fun v6_30_11 =>
  if v3_11 = 0 then (j_X6_isRotation_48_11 a0 v1_11 v2_11 v3_11 v4_11 v5_11 v6_30_11 M)
  else (if (2 : Int32) ≤ v6_30_11 then (j_X6_isRotation_48_11 a0 v1_11 v2_11 v3_11 v4_11 v5_11 v6_30_11 M)
  else (nm ((1 : Int32) - v6_30_11) fun v6_46_11 =>
  j_X6_isRotation_48_11 a0 v1_11 v2_11 v3_11 v4_11 v5_11 v6_46_11 M)))))
set_option maxRecDepth 100000 in
theorem b_X6_isRotation_11_ok {C : zC} {d : Nat} {g : zG} {l : Launch} {w : zW} {r : Int32} {a0 : Nat} {v1_11 : Int32} {v2_11 : Int32} {v3_11 : Int32} {v4_11 : Int32} {v5_11 : Int32} (hB : bOK C cX6_isRotation 7 RX6 d g l w true) (h0 : tO true 6 a0) (hd : 1 ≤ d) (M : zM) (hR : RtZ C cX6_isRotation w r M) : Sg C w (0, 0) 11 [(0, zr w a0), (1, .int v1_11), (2, .int v2_11), (3, .int v3_11), (4, .int v4_11), (5, .int v5_11)] [] M (b_X6_isRotation_11 a0 v1_11 v2_11 v3_11 v4_11 v5_11 M) (fun o => Sum.elim (fun (s : (Int32)) => Zs C w (0, 0) 11 [(0, zr w a0), (1, .int v1_11), (2, .int v2_11), (3, .int v3_11), (4, .int v4_11), (5, .int s)] [] M) (fun q => Sum.elim (fun (s : Unit) => Zs C w (0, 0) 70 [] [] M) (fun q => q = r) q) o) := by
  have hC := hB.1.1
  have hq1 : 1 ≤ d := by omega
  unfold b_X6_isRotation_11
  refine x_iload hC dX6_isRotation_11 5 rfl ?_
  refine x_iload hC dX6_isRotation_13 4 rfl ?_
  refine x_icmp_ge (tgt := 70) hC dX6_isRotation_15 (by decide) ?_ ?_
  · refine x_sub [] rfl ?_
    exact x_done (fun h => h)
  · refine x_aload_n hC dX6_isRotation_18 rfl 0 rfl ?_
    refine r_getR hB dX6_isRotation_19 kf_X6_11 rfl h0 (nv_6_0 h0).1 ?_
    refine x_iload hC dX6_isRotation_22 5 rfl ?_
    refine x_iload_n hC dX6_isRotation_24 rfl 1 rfl ?_
    refine x_iadd hC dX6_isRotation_25 ?_
    refine x_iload hC dX6_isRotation_26 4 rfl ?_
    refine x_grd (fun hne => ?_)
    refine x_irem0 hC dX6_isRotation_28 hne ?_
    refine r_iald hB dX6_isRotation_29 (nv_6_0 h0).2 ?_
    refine x_top (fun v6_30_11 => ?_)
    refine x_istore (f := 0) hC dX6_isRotation_30 [(6, .int v6_30_11), (0, zr w a0), (1, .int v1_11), (2, .int v2_11), (3, .int v3_11), (4, .int v4_11), (5, .int v5_11)] (by decide) rfl ?_
    refine x_iload_n hC dX6_isRotation_32 rfl 4 rfl ?_
    refine x_if_eq (tgt := 48) hC dX6_isRotation_33 (by decide) ?_ ?_
    · refine x_sub [1, 2, 3, 4, 5, 6, 0] rfl ?_
      exact j_X6_isRotation_48_11_ok hB h0 hd M hR
    · refine x_iload hC dX6_isRotation_36 0 rfl ?_
      refine x_iconst (v := (2 : Int32)) hC dX6_isRotation_38 ki_2 ?_
      refine x_icmp_ge (tgt := 48) hC dX6_isRotation_39 (by decide) ?_ ?_
      · refine x_sub [1, 2, 3, 4, 5, 6, 0] rfl ?_
        exact j_X6_isRotation_48_11_ok hB h0 hd M hR
      · refine x_iconst (v := (1 : Int32)) hC dX6_isRotation_42 ki_1 ?_
        refine x_iload hC dX6_isRotation_43 0 rfl ?_
        refine x_isub hC dX6_isRotation_45 ?_
        refine x_top (fun v6_46_11 => ?_)
        refine x_istore (f := 0) hC dX6_isRotation_46 [(6, .int v6_46_11), (0, zr w a0), (1, .int v1_11), (2, .int v2_11), (3, .int v3_11), (4, .int v4_11), (5, .int v5_11)] (by decide) rfl ?_
        refine x_sub [1, 2, 3, 4, 5, 6, 0] rfl ?_
        exact j_X6_isRotation_48_11_ok hB h0 hd M hR
noncomputable def j_X6_isRotation_70 (a0 : Nat) (M : zM) : Option (Int32) :=
  some (1 : Int32)
set_option maxRecDepth 100000 in
theorem j_X6_isRotation_70_ok {C : zC} {d : Nat} {g : zG} {l : Launch} {w : zW} {r : Int32} {a0 : Nat} (hB : bOK C cX6_isRotation 7 RX6 d g l w true) (h0 : tO true 6 a0) (hd : 1 ≤ d) (M : zM) (hR : RtZ C cX6_isRotation w r M) : Sg C w (0, 0) 70 [] [] M (j_X6_isRotation_70 a0 M) (fun q => q = r) := by
  have hC := hB.1.1
  have hq1 : 1 ≤ d := by omega
  unfold j_X6_isRotation_70
  refine x_iconst (v := (1 : Int32)) hC dX6_isRotation_70 ki_1 ?_
  exact r_retZ hR dX6_isRotation_71 (Or.inr rfl) (fun h => congrArg (fun q => (q, M)) h)
noncomputable def f_X6_isRotation (a0 : Nat) (p1 : Int32) (p2 : Int32) (p3 : Int32) (M : zM) : Option (Int32) :=
  nm (M (a0 + 2) (ix (0 : Int32))) fun v4_6 =>
  (loopW (fun s => b_X6_isRotation_11 a0 p1 p2 p3 v4_6 s M) (0 : Int32)).bind (fun q => Sum.elim (fun r => j_X6_isRotation_70 a0 M) some q)
set_option maxRecDepth 100000 in
theorem f_X6_isRotation_ok {C : zC} {d : Nat} {g : zG} {l : Launch} {w : zW} {r : Int32} {a0 : Nat} {p1 : Int32} {p2 : Int32} {p3 : Int32} (hB : bOK C cX6_isRotation 7 RX6 d g l w true) (h0 : tO true 6 a0) (hd : 1 ≤ d) (M : zM) (hR : RtZ C cX6_isRotation w r M) : Sg C w (0, 0) 0 [(0, zr w a0), (1, .int p1), (2, .int p2), (3, .int p3)] [] M (f_X6_isRotation a0 p1 p2 p3 M) (fun q => q = r) := by
  have hC := hB.1.1
  have hq1 : 1 ≤ d := by omega
  unfold f_X6_isRotation
  refine x_aload_n hC dX6_isRotation_0 rfl 0 rfl ?_
  refine r_getR hB dX6_isRotation_1 kf_X6_15 rfl h0 (nv_6_1 h0).1 ?_
  refine x_iconst (v := (0 : Int32)) hC dX6_isRotation_4 ki_0 ?_
  refine r_iald0 hB dX6_isRotation_5 (nv_6_1 h0).2 ib_0_2 ?_
  refine x_top (fun v4_6 => ?_)
  refine x_istore (f := 0) hC dX6_isRotation_6 [(4, .int v4_6), (0, zr w a0), (1, .int p1), (2, .int p2), (3, .int p3)] (by decide) rfl ?_
  refine x_iconst (v := (0 : Int32)) hC dX6_isRotation_8 ki_0 ?_
  refine x_istore (f := 0) hC dX6_isRotation_9 [(5, .int (0 : Int32)), (4, .int v4_6), (0, zr w a0), (1, .int p1), (2, .int p2), (3, .int p3)] (by decide) rfl ?_
  refine x_sub [2, 3, 4, 5, 1, 0] rfl ?_
  refine x_loopR (pc2 := 70) (fun (s : (Int32)) => [(0, zr w a0), (1, .int p1), (2, .int p2), (3, .int p3), (4, .int v4_6), (5, .int s)]) (fun (s : (Int32)) => M) (fun (s : Unit) => []) (fun (s : Unit) => M) (0 : Int32) ?_ ?_
  · exact fun s => b_X6_isRotation_11_ok hB h0 hd M hR
  · intro r9
    exact j_X6_isRotation_70_ok hB h0 hd M hR
theorem f_X6_isRotation_met {l : Launch} {d : Nat} {g : zG} {w : zW} {M0 : zM} {a0 : Nat} {p1 : Int32} {p2 : Int32} {p3 : Int32} {M : zM} (hw : wS w) (h0 : tO true 6 a0) (hd : 1 ≤ d) {v : Int32} (h : f_X6_isRotation a0 p1 p2 p3 M = some v) : zMet l yX6_isRotation cX6_isRotation 7 (some .boolean) d g w (zin true) M0 [zr w a0, .int p1, .int p2, .int p3] M (some (.int v)) M :=
  met_z (by decide +kernel) (Nat.le_of_ble_eq_true rfl) (fun C hB0 hR => f_X6_isRotation_ok ⟨hB0, hw⟩ h0 hd M hR _ h rfl)
/-! WindingSquare$Rows.walk()I -/
noncomputable def j_X6_walk_147_28 (a0 : Nat) (v1_147_28 : Int32) (v2_147_28 : Int32) (v3_147_28 : Int32) (M : zM) : Option ((Int32 × Int32 × Int32 × zM) ⊕ (Int32 × zM)) :=
  some (.inl (v1_147_28, v2_147_28, (v3_147_28 + (1 : Int32)), M))
set_option maxRecDepth 100000 in
theorem j_X6_walk_147_28_ok {C : zC} {d : Nat} {g : zG} {l : Launch} {w : zW} {r : Int32 × zM} {a0 : Nat} {v1_147_28 : Int32} {v2_147_28 : Int32} {v3_147_28 : Int32} (hB : bOK C cX6_walk 4 RX6 d g l w true) (h0 : tO true 6 a0) (hd : 1 ≤ d) (M : zM) (hR : RtI C cX6_walk w r.1 r.2) : Sg C w (0, 0) 147 [(0, zr w a0), (1, .int v1_147_28), (2, .int v2_147_28), (3, .int v3_147_28)] [] M (j_X6_walk_147_28 a0 v1_147_28 v2_147_28 v3_147_28 M) (fun o => Sum.elim (fun (s : (Int32 × Int32 × Int32 × zM)) => Zs C w (0, 0) 28 [(0, zr w a0), (1, .int s.1), (2, .int s.2.1), (3, .int s.2.2.1)] [] s.2.2.2) (fun (s : (Int32 × zM)) => Zs C w (0, 0) 153 [(2, .int s.1)] [] s.2) o) := by
  have hC := hB.1.1
  have hq1 : 1 ≤ d := by omega
  unfold j_X6_walk_147_28
  refine x_iinc hC dX6_walk_147 ki_1 [(3, .int (v3_147_28 + (1 : Int32))), (0, zr w a0), (1, .int v1_147_28), (2, .int v2_147_28)] 3 rfl (by decide) rfl ?_
  refine x_goto (tgt := 28) hC dX6_walk_150 (by decide) ?_
  refine x_sub [1, 2, 3, 0] rfl ?_
  exact x_done (fun h => h)
noncomputable def j_X6_walk_61_28 (a0 : Nat) (v2_61_28 : Int32) (v3_61_28 : Int32) (s0_61_28 : Int32) (s1_61_28 : Int32) (M : zM) : Option ((Int32 × Int32 × Int32 × zM) ⊕ (Int32 × zM)) :=
  nm ((s0_61_28 + s1_61_28) &&& (3 : Int32)) fun v1_64_28 =>
  j_X6_walk_147_28 a0 v1_64_28 v2_61_28 v3_61_28 M
set_option maxRecDepth 100000 in
theorem j_X6_walk_61_28_ok {C : zC} {d : Nat} {g : zG} {l : Launch} {w : zW} {r : Int32 × zM} {a0 : Nat} {v2_61_28 : Int32} {v3_61_28 : Int32} {s0_61_28 : Int32} {s1_61_28 : Int32} (hB : bOK C cX6_walk 4 RX6 d g l w true) (h0 : tO true 6 a0) (hd : 1 ≤ d) (M : zM) (hR : RtI C cX6_walk w r.1 r.2) : Sg C w (0, 0) 61 [(0, zr w a0), (2, .int v2_61_28), (3, .int v3_61_28)] [.int s1_61_28, .int s0_61_28] M (j_X6_walk_61_28 a0 v2_61_28 v3_61_28 s0_61_28 s1_61_28 M) (fun o => Sum.elim (fun (s : (Int32 × Int32 × Int32 × zM)) => Zs C w (0, 0) 28 [(0, zr w a0), (1, .int s.1), (2, .int s.2.1), (3, .int s.2.2.1)] [] s.2.2.2) (fun (s : (Int32 × zM)) => Zs C w (0, 0) 153 [(2, .int s.1)] [] s.2) o) := by
  have hC := hB.1.1
  have hq1 : 1 ≤ d := by omega
  unfold j_X6_walk_61_28
  refine x_iadd hC dX6_walk_61 ?_
  refine x_iconst (v := (3 : Int32)) hC dX6_walk_62 ki_3 ?_
  refine x_iand hC dX6_walk_63 ?_
  refine x_top (fun v1_64_28 => ?_)
  refine x_istore_n hC dX6_walk_64 rfl [(1, .int v1_64_28), (0, zr w a0), (2, .int v2_61_28), (3, .int v3_61_28)] (by decide) rfl ?_
  refine x_goto (tgt := 147) hC dX6_walk_65 (by decide) ?_
  refine x_sub [1, 0, 2, 3] rfl ?_
  exact j_X6_walk_147_28_ok hB h0 hd M hR
noncomputable def b_X6_walk_28 (a0 : Nat) (v1_28 : Int32) (v2_28 : Int32) (v3_28 : Int32) (M : zM) : Option ((Int32 × Int32 × Int32 × zM) ⊕ (Int32 × zM)) :=
  if (M a0 3) ≤ v3_28 then (some (.inr (v2_28, M)))
  else (grd (inb v3_28 24) (
  if (M (a0 + 3) (ix v3_28)) = 0 then (grd (inb v1_28 4) (
  grd (inb v1_28 4) (
  nm (mset M a0 11 ((M a0 11) + (((M a0 9) * (zsV 1 (ix v1_28))) - ((M a0 10) * (zsV 0 (ix v1_28)))))) fun M95_28 =>
  grd (inb v1_28 4) (
  nm (mset M95_28 a0 9 ((M95_28 a0 9) + (zsV 0 (ix v1_28)))) fun M109_28 =>
  grd (inb v1_28 4) (
  nm (mset M109_28 a0 10 ((M109_28 a0 10) + (zsV 1 (ix v1_28)))) fun M123_28 =>
  grd (inb (v2_28 + (1 : Int32)) 25) (
  nm (mset M123_28 (a0 + 7) (ix (v2_28 + (1 : Int32))) (((49 : Int32) * (M123_28 a0 10)) + (M123_28 a0 9))) fun M146_28 =>
  j_X6_walk_147_28 a0 v1_28 (v2_28 + (1 : Int32)) v3_28 M146_28))))))
  else (grd (inb v3_28 24) (
  if (M (a0 + 3) (ix v3_28)) = (2 : Int32) then (j_X6_walk_61_28 a0 v2_28 v3_28 v1_28 (1 : Int32) M)
  else (j_X6_walk_61_28 a0 v2_28 v3_28 v1_28 (3 : Int32) M)))))
set_option maxRecDepth 100000 in
theorem b_X6_walk_28_ok {C : zC} {d : Nat} {g : zG} {l : Launch} {w : zW} {r : Int32 × zM} {a0 : Nat} {v1_28 : Int32} {v2_28 : Int32} {v3_28 : Int32} (hB : bOK C cX6_walk 4 RX6 d g l w true) (h0 : tO true 6 a0) (hd : 1 ≤ d) (M : zM) (hR : RtI C cX6_walk w r.1 r.2) : Sg C w (0, 0) 28 [(0, zr w a0), (1, .int v1_28), (2, .int v2_28), (3, .int v3_28)] [] M (b_X6_walk_28 a0 v1_28 v2_28 v3_28 M) (fun o => Sum.elim (fun (s : (Int32 × Int32 × Int32 × zM)) => Zs C w (0, 0) 28 [(0, zr w a0), (1, .int s.1), (2, .int s.2.1), (3, .int s.2.2.1)] [] s.2.2.2) (fun (s : (Int32 × zM)) => Zs C w (0, 0) 153 [(2, .int s.1)] [] s.2) o) := by
  have hC := hB.1.1
  have hq1 : 1 ≤ d := by omega
  unfold b_X6_walk_28
  refine x_iload_n hC dX6_walk_28 rfl 3 rfl ?_
  refine x_aload_n hC dX6_walk_29 rfl 0 rfl ?_
  refine r_getI hB dX6_walk_30 kf_X6_33 rfl h0 ?_
  refine x_icmp_ge (tgt := 153) hC dX6_walk_33 (by decide) ?_ ?_
  · refine x_sub [2] rfl ?_
    exact x_done (fun h => h)
  · refine x_aload_n hC dX6_walk_36 rfl 0 rfl ?_
    refine r_getR hB dX6_walk_37 kf_X6_18 rfl h0 (nv_6_2 h0).1 ?_
    refine x_iload_n hC dX6_walk_40 rfl 3 rfl ?_
    refine r_iald hB dX6_walk_41 (nv_6_2 h0).2 ?_
    refine x_if_eq (tgt := 68) hC dX6_walk_42 (by decide) ?_ ?_
    · refine x_aload_n hC dX6_walk_68 rfl 0 rfl ?_
      refine x_dup hC dX6_walk_69 rfl ?_
      refine r_getI hB dX6_walk_70 kf_X6_72 rfl h0 ?_
      refine x_aload_n hC dX6_walk_73 rfl 0 rfl ?_
      refine r_getI hB dX6_walk_74 kf_X6_52 rfl h0 ?_
      refine r_getsN (k0 := 1) hB dX6_walk_77 (by decide) ng_X6_85 ?_
      refine x_iload_n hC dX6_walk_80 rfl 1 rfl ?_
      refine r_stld hB dX6_walk_81 (by decide) ?_
      refine x_imul hC dX6_walk_82 ?_
      refine x_aload_n hC dX6_walk_83 rfl 0 rfl ?_
      refine r_getI hB dX6_walk_84 kf_X6_61 rfl h0 ?_
      refine r_getsN (k0 := 0) hB dX6_walk_87 (by decide) ng_X6_88 ?_
      refine x_iload_n hC dX6_walk_90 rfl 1 rfl ?_
      refine r_stld hB dX6_walk_91 (by decide) ?_
      refine x_imul hC dX6_walk_92 ?_
      refine x_isub hC dX6_walk_93 ?_
      refine x_iadd hC dX6_walk_94 ?_
      refine r_putI hB dX6_walk_95 kf_X6_72 rfl h0 ?_
      refine x_mem (fun M95_28 => ?_)
      refine x_aload_n hC dX6_walk_98 rfl 0 rfl ?_
      refine x_dup hC dX6_walk_99 rfl ?_
      refine r_getI hB dX6_walk_100 kf_X6_52 rfl h0 ?_
      refine r_getsN (k0 := 0) hB dX6_walk_103 (by decide) ng_X6_88 ?_
      refine x_iload_n hC dX6_walk_106 rfl 1 rfl ?_
      refine r_stld hB dX6_walk_107 (by decide) ?_
      refine x_iadd hC dX6_walk_108 ?_
      refine r_putI hB dX6_walk_109 kf_X6_52 rfl h0 ?_
      refine x_mem (fun M109_28 => ?_)
      refine x_aload_n hC dX6_walk_112 rfl 0 rfl ?_
      refine x_dup hC dX6_walk_113 rfl ?_
      refine r_getI hB dX6_walk_114 kf_X6_61 rfl h0 ?_
      refine r_getsN (k0 := 1) hB dX6_walk_117 (by decide) ng_X6_85 ?_
      refine x_iload_n hC dX6_walk_120 rfl 1 rfl ?_
      refine r_stld hB dX6_walk_121 (by decide) ?_
      refine x_iadd hC dX6_walk_122 ?_
      refine r_putI hB dX6_walk_123 kf_X6_61 rfl h0 ?_
      refine x_mem (fun M123_28 => ?_)
      refine x_iinc hC dX6_walk_126 ki_1 [(2, .int (v2_28 + (1 : Int32))), (0, zr w a0), (1, .int v1_28), (3, .int v3_28)] 2 rfl (by decide) rfl ?_
      refine x_aload_n hC dX6_walk_129 rfl 1 rfl ?_
      refine r_getR hB dX6_walk_130 kf_X6_30 rfl h0 (nv_6_8 h0).1 ?_
      refine x_iload_n hC dX6_walk_133 rfl 0 rfl ?_
      refine x_bipush (v := (49 : Int32)) hC dX6_walk_134 kb_49 ?_
      refine x_aload_n hC dX6_walk_136 rfl 1 rfl ?_
      refine r_getI hB dX6_walk_137 kf_X6_61 rfl h0 ?_
      refine x_imul hC dX6_walk_140 ?_
      refine x_aload_n hC dX6_walk_141 rfl 1 rfl ?_
      refine r_getI hB dX6_walk_142 kf_X6_52 rfl h0 ?_
      refine x_iadd hC dX6_walk_145 ?_
      refine r_iast hB dX6_walk_146 (nv_6_8 h0).2 ?_
      refine x_mem (fun M146_28 => ?_)
      refine x_sub [1, 2, 0, 3] rfl ?_
      exact j_X6_walk_147_28_ok hB h0 hd M146_28 hR
    · refine x_iload_n hC dX6_walk_45 rfl 1 rfl ?_
      refine x_aload_n hC dX6_walk_46 rfl 0 rfl ?_
      refine r_getR hB dX6_walk_47 kf_X6_18 rfl h0 (nv_6_2 h0).1 ?_
      refine x_iload_n hC dX6_walk_50 rfl 3 rfl ?_
      refine r_iald hB dX6_walk_51 (nv_6_2 h0).2 ?_
      refine x_iconst (v := (2 : Int32)) hC dX6_walk_52 ki_2 ?_
      refine x_icmp_ne (tgt := 60) hC dX6_walk_53 (by decide) ?_ ?_
      · refine x_iconst (v := (1 : Int32)) hC dX6_walk_56 ki_1 ?_
        refine x_goto (tgt := 61) hC dX6_walk_57 (by decide) ?_
        refine x_sub [0, 2, 3] rfl ?_
        exact j_X6_walk_61_28_ok hB h0 hd M hR
      · refine x_iconst (v := (3 : Int32)) hC dX6_walk_60 ki_3 ?_
        refine x_sub [0, 2, 3] rfl ?_
        exact j_X6_walk_61_28_ok hB h0 hd M hR
noncomputable def j_X6_walk_153 (a0 : Nat) (v2_153 : Int32) (M : zM) : Option (Int32 × zM) :=
  some (v2_153, M)
set_option maxRecDepth 100000 in
theorem j_X6_walk_153_ok {C : zC} {d : Nat} {g : zG} {l : Launch} {w : zW} {r : Int32 × zM} {a0 : Nat} {v2_153 : Int32} (hB : bOK C cX6_walk 4 RX6 d g l w true) (h0 : tO true 6 a0) (hd : 1 ≤ d) (M : zM) (hR : RtI C cX6_walk w r.1 r.2) : Sg C w (0, 0) 153 [(2, .int v2_153)] [] M (j_X6_walk_153 a0 v2_153 M) (fun q => q = r) := by
  have hC := hB.1.1
  have hq1 : 1 ≤ d := by omega
  unfold j_X6_walk_153
  refine x_iload_n hC dX6_walk_153 rfl 0 rfl ?_
  exact r_retI hR dX6_walk_154 (fun h => h)
noncomputable def f_X6_walk (a0 : Nat) (M : zM) : Option (Int32 × zM) :=
  nm (mset M a0 9 (0 : Int32)) fun M6 =>
  nm (mset M6 a0 10 (0 : Int32)) fun M11 =>
  nm (mset M11 a0 11 (0 : Int32)) fun M16 =>
  nm (mset M16 (a0 + 7) (ix (0 : Int32)) (0 : Int32)) fun M25 =>
  (loopW (fun s => b_X6_walk_28 a0 s.1 s.2.1 s.2.2.1 s.2.2.2) ((0 : Int32), (0 : Int32), (0 : Int32), M25)).bind (fun r => j_X6_walk_153 a0 r.1 r.2)
set_option maxRecDepth 100000 in
theorem f_X6_walk_ok {C : zC} {d : Nat} {g : zG} {l : Launch} {w : zW} {r : Int32 × zM} {a0 : Nat} (hB : bOK C cX6_walk 4 RX6 d g l w true) (h0 : tO true 6 a0) (hd : 1 ≤ d) (M : zM) (hR : RtI C cX6_walk w r.1 r.2) : Sg C w (0, 0) 0 [(0, zr w a0)] [] M (f_X6_walk a0 M) (fun q => q = r) := by
  have hC := hB.1.1
  have hq1 : 1 ≤ d := by omega
  unfold f_X6_walk
  refine x_iconst (v := (0 : Int32)) hC dX6_walk_0 ki_0 ?_
  refine x_istore_n hC dX6_walk_1 rfl [(1, .int (0 : Int32)), (0, zr w a0)] (by decide) rfl ?_
  refine x_iconst (v := (0 : Int32)) hC dX6_walk_2 ki_0 ?_
  refine x_istore_n hC dX6_walk_3 rfl [(2, .int (0 : Int32)), (1, .int (0 : Int32)), (0, zr w a0)] (by decide) rfl ?_
  refine x_aload_n hC dX6_walk_4 rfl 2 rfl ?_
  refine x_iconst (v := (0 : Int32)) hC dX6_walk_5 ki_0 ?_
  refine r_putI hB dX6_walk_6 kf_X6_52 rfl h0 ?_
  refine x_mem (fun M6 => ?_)
  refine x_aload_n hC dX6_walk_9 rfl 2 rfl ?_
  refine x_iconst (v := (0 : Int32)) hC dX6_walk_10 ki_0 ?_
  refine r_putI hB dX6_walk_11 kf_X6_61 rfl h0 ?_
  refine x_mem (fun M11 => ?_)
  refine x_aload_n hC dX6_walk_14 rfl 2 rfl ?_
  refine x_iconst (v := (0 : Int32)) hC dX6_walk_15 ki_0 ?_
  refine r_putI hB dX6_walk_16 kf_X6_72 rfl h0 ?_
  refine x_mem (fun M16 => ?_)
  refine x_aload_n hC dX6_walk_19 rfl 2 rfl ?_
  refine r_getR hB dX6_walk_20 kf_X6_30 rfl h0 (nv_6_8 h0).1 ?_
  refine x_iconst (v := (0 : Int32)) hC dX6_walk_23 ki_0 ?_
  refine x_iconst (v := (0 : Int32)) hC dX6_walk_24 ki_0 ?_
  refine r_iast0 hB dX6_walk_25 (nv_6_8 h0).2 ib_0_25 ?_
  refine x_mem (fun M25 => ?_)
  refine x_iconst (v := (0 : Int32)) hC dX6_walk_26 ki_0 ?_
  refine x_istore_n hC dX6_walk_27 rfl [(3, .int (0 : Int32)), (2, .int (0 : Int32)), (1, .int (0 : Int32)), (0, zr w a0)] (by decide) rfl ?_
  refine x_sub [3, 2, 1, 0] rfl ?_
  refine x_loopB (pc2 := 153) (fun (s : (Int32 × Int32 × Int32 × zM)) => [(0, zr w a0), (1, .int s.1), (2, .int s.2.1), (3, .int s.2.2.1)]) (fun (s : (Int32 × Int32 × Int32 × zM)) => s.2.2.2) (fun (s : (Int32 × zM)) => [(2, .int s.1)]) (fun (s : (Int32 × zM)) => s.2) ((0 : Int32), (0 : Int32), (0 : Int32), M25) ?_ ?_
  · exact fun s => b_X6_walk_28_ok hB h0 hd s.2.2.2 hR
  · intro r9
    exact j_X6_walk_153_ok hB h0 hd r9.2 hR
theorem f_X6_walk_met {l : Launch} {d : Nat} {g : zG} {w : zW} {M0 : zM} {a0 : Nat} {M : zM} (hw : wS w) (h0 : tO true 6 a0) (hd : 1 ≤ d) {v : Int32} {M' : zM} (h : f_X6_walk a0 M = some (v, M')) : zMet l yX6_walk cX6_walk 4 (some .int) d g w (zin true) M0 [zr w a0] M (some (.int v)) M' :=
  met_i (by decide +kernel) (Nat.le_of_ble_eq_true rfl) rfl (fun C hB0 hR => f_X6_walk_ok (r := (v, M')) ⟨hB0, hw⟩ h0 hd M hR _ h rfl)
/-! WindingSquare$Rows.firstTime(I)Z -/
noncomputable def b_X6_firstTime_2 (a0 : Nat) (v1_2 : Int32) (v2_2 : Int32) (M : zM) : Option ((Int32) ⊕ (Unit ⊕ (Int32))) :=
  if v1_2 ≤ v2_2 then (some (.inr (.inl ())))
  else (grd (inb v2_2 25) (
  grd (inb v1_2 25) (
  if (M (a0 + 7) (ix v2_2)) = (M (a0 + 7) (ix v1_2)) then (some (.inr (.inr (0 : Int32))))
  else (some (.inl (v2_2 + (1 : Int32)))))))
set_option maxRecDepth 100000 in
theorem b_X6_firstTime_2_ok {C : zC} {d : Nat} {g : zG} {l : Launch} {w : zW} {r : Int32} {a0 : Nat} {v1_2 : Int32} {v2_2 : Int32} (hB : bOK C cX6_firstTime 3 RX6 d g l w true) (h0 : tO true 6 a0) (hd : 1 ≤ d) (M : zM) (hR : RtZ C cX6_firstTime w r M) : Sg C w (0, 0) 2 [(0, zr w a0), (1, .int v1_2), (2, .int v2_2)] [] M (b_X6_firstTime_2 a0 v1_2 v2_2 M) (fun o => Sum.elim (fun (s : (Int32)) => Zs C w (0, 0) 2 [(0, zr w a0), (1, .int v1_2), (2, .int s)] [] M) (fun q => Sum.elim (fun (s : Unit) => Zs C w (0, 0) 30 [] [] M) (fun q => q = r) q) o) := by
  have hC := hB.1.1
  have hq1 : 1 ≤ d := by omega
  unfold b_X6_firstTime_2
  refine x_iload_n hC dX6_firstTime_2 rfl 2 rfl ?_
  refine x_iload_n hC dX6_firstTime_3 rfl 1 rfl ?_
  refine x_icmp_ge (tgt := 30) hC dX6_firstTime_4 (by decide) ?_ ?_
  · refine x_sub [] rfl ?_
    exact x_done (fun h => h)
  · refine x_aload_n hC dX6_firstTime_7 rfl 0 rfl ?_
    refine r_getR hB dX6_firstTime_8 kf_X6_30 rfl h0 (nv_6_8 h0).1 ?_
    refine x_iload_n hC dX6_firstTime_11 rfl 2 rfl ?_
    refine r_iald hB dX6_firstTime_12 (nv_6_8 h0).2 ?_
    refine x_aload_n hC dX6_firstTime_13 rfl 0 rfl ?_
    refine r_getR hB dX6_firstTime_14 kf_X6_30 rfl h0 (nv_6_8 h0).1 ?_
    refine x_iload_n hC dX6_firstTime_17 rfl 1 rfl ?_
    refine r_iald hB dX6_firstTime_18 (nv_6_8 h0).2 ?_
    refine x_icmp_ne (tgt := 24) hC dX6_firstTime_19 (by decide) ?_ ?_
    · refine x_iconst (v := (0 : Int32)) hC dX6_firstTime_22 ki_0 ?_
      exact r_retZ hR dX6_firstTime_23 (Or.inl rfl) (fun h => congrArg (fun q => (q, M)) h)
    · refine x_iinc hC dX6_firstTime_24 ki_1 [(2, .int (v2_2 + (1 : Int32))), (0, zr w a0), (1, .int v1_2)] 2 rfl (by decide) rfl ?_
      refine x_goto (tgt := 2) hC dX6_firstTime_27 (by decide) ?_
      refine x_sub [1, 2, 0] rfl ?_
      exact x_done (fun h => h)
noncomputable def j_X6_firstTime_30 (a0 : Nat) (M : zM) : Option (Int32) :=
  some (1 : Int32)
set_option maxRecDepth 100000 in
theorem j_X6_firstTime_30_ok {C : zC} {d : Nat} {g : zG} {l : Launch} {w : zW} {r : Int32} {a0 : Nat} (hB : bOK C cX6_firstTime 3 RX6 d g l w true) (h0 : tO true 6 a0) (hd : 1 ≤ d) (M : zM) (hR : RtZ C cX6_firstTime w r M) : Sg C w (0, 0) 30 [] [] M (j_X6_firstTime_30 a0 M) (fun q => q = r) := by
  have hC := hB.1.1
  have hq1 : 1 ≤ d := by omega
  unfold j_X6_firstTime_30
  refine x_iconst (v := (1 : Int32)) hC dX6_firstTime_30 ki_1 ?_
  exact r_retZ hR dX6_firstTime_31 (Or.inr rfl) (fun h => congrArg (fun q => (q, M)) h)
noncomputable def f_X6_firstTime (a0 : Nat) (p1 : Int32) (M : zM) : Option (Int32) :=
  (loopW (fun s => b_X6_firstTime_2 a0 p1 s M) (0 : Int32)).bind (fun q => Sum.elim (fun r => j_X6_firstTime_30 a0 M) some q)
set_option maxRecDepth 100000 in
theorem f_X6_firstTime_ok {C : zC} {d : Nat} {g : zG} {l : Launch} {w : zW} {r : Int32} {a0 : Nat} {p1 : Int32} (hB : bOK C cX6_firstTime 3 RX6 d g l w true) (h0 : tO true 6 a0) (hd : 1 ≤ d) (M : zM) (hR : RtZ C cX6_firstTime w r M) : Sg C w (0, 0) 0 [(0, zr w a0), (1, .int p1)] [] M (f_X6_firstTime a0 p1 M) (fun q => q = r) := by
  have hC := hB.1.1
  have hq1 : 1 ≤ d := by omega
  unfold f_X6_firstTime
  refine x_iconst (v := (0 : Int32)) hC dX6_firstTime_0 ki_0 ?_
  refine x_istore_n hC dX6_firstTime_1 rfl [(2, .int (0 : Int32)), (0, zr w a0), (1, .int p1)] (by decide) rfl ?_
  refine x_sub [1, 2, 0] rfl ?_
  refine x_loopR (pc2 := 30) (fun (s : (Int32)) => [(0, zr w a0), (1, .int p1), (2, .int s)]) (fun (s : (Int32)) => M) (fun (s : Unit) => []) (fun (s : Unit) => M) (0 : Int32) ?_ ?_
  · exact fun s => b_X6_firstTime_2_ok hB h0 hd M hR
  · intro r9
    exact j_X6_firstTime_30_ok hB h0 hd M hR
theorem f_X6_firstTime_met {l : Launch} {d : Nat} {g : zG} {w : zW} {M0 : zM} {a0 : Nat} {p1 : Int32} {M : zM} (hw : wS w) (h0 : tO true 6 a0) (hd : 1 ≤ d) {v : Int32} (h : f_X6_firstTime a0 p1 M = some v) : zMet l yX6_firstTime cX6_firstTime 3 (some .boolean) d g w (zin true) M0 [zr w a0, .int p1] M (some (.int v)) M :=
  met_z (by decide +kernel) (Nat.le_of_ble_eq_true rfl) (fun C hB0 hR => f_X6_firstTime_ok ⟨hB0, hw⟩ h0 hd M hR _ h rfl)
/-! WindingSquare$Rows.comesBack(II)Z -/
noncomputable def b_X6_comesBack_4 (a0 : Nat) (v1_4 : Int32) (v2_4 : Int32) (v3_4 : Int32) (M : zM) : Option ((Int32) ⊕ (Unit ⊕ (Int32))) :=
  if v2_4 < v3_4 then (some (.inr (.inl ())))
  else (grd (inb v3_4 25) (
  grd (inb v1_4 25) (
  if (M (a0 + 7) (ix v3_4)) = (M (a0 + 7) (ix v1_4)) then (some (.inr (.inr (1 : Int32))))
  else (some (.inl (v3_4 + (1 : Int32)))))))
set_option maxRecDepth 100000 in
theorem b_X6_comesBack_4_ok {C : zC} {d : Nat} {g : zG} {l : Launch} {w : zW} {r : Int32} {a0 : Nat} {v1_4 : Int32} {v2_4 : Int32} {v3_4 : Int32} (hB : bOK C cX6_comesBack 4 RX6 d g l w true) (h0 : tO true 6 a0) (hd : 1 ≤ d) (M : zM) (hR : RtZ C cX6_comesBack w r M) : Sg C w (0, 0) 4 [(0, zr w a0), (1, .int v1_4), (2, .int v2_4), (3, .int v3_4)] [] M (b_X6_comesBack_4 a0 v1_4 v2_4 v3_4 M) (fun o => Sum.elim (fun (s : (Int32)) => Zs C w (0, 0) 4 [(0, zr w a0), (1, .int v1_4), (2, .int v2_4), (3, .int s)] [] M) (fun q => Sum.elim (fun (s : Unit) => Zs C w (0, 0) 32 [] [] M) (fun q => q = r) q) o) := by
  have hC := hB.1.1
  have hq1 : 1 ≤ d := by omega
  unfold b_X6_comesBack_4
  refine x_iload_n hC dX6_comesBack_4 rfl 3 rfl ?_
  refine x_iload_n hC dX6_comesBack_5 rfl 2 rfl ?_
  refine x_icmp_gt (tgt := 32) hC dX6_comesBack_6 (by decide) ?_ ?_
  · refine x_sub [] rfl ?_
    exact x_done (fun h => h)
  · refine x_aload_n hC dX6_comesBack_9 rfl 0 rfl ?_
    refine r_getR hB dX6_comesBack_10 kf_X6_30 rfl h0 (nv_6_8 h0).1 ?_
    refine x_iload_n hC dX6_comesBack_13 rfl 3 rfl ?_
    refine r_iald hB dX6_comesBack_14 (nv_6_8 h0).2 ?_
    refine x_aload_n hC dX6_comesBack_15 rfl 0 rfl ?_
    refine r_getR hB dX6_comesBack_16 kf_X6_30 rfl h0 (nv_6_8 h0).1 ?_
    refine x_iload_n hC dX6_comesBack_19 rfl 1 rfl ?_
    refine r_iald hB dX6_comesBack_20 (nv_6_8 h0).2 ?_
    refine x_icmp_ne (tgt := 26) hC dX6_comesBack_21 (by decide) ?_ ?_
    · refine x_iconst (v := (1 : Int32)) hC dX6_comesBack_24 ki_1 ?_
      exact r_retZ hR dX6_comesBack_25 (Or.inr rfl) (fun h => congrArg (fun q => (q, M)) h)
    · refine x_iinc hC dX6_comesBack_26 ki_1 [(3, .int (v3_4 + (1 : Int32))), (0, zr w a0), (1, .int v1_4), (2, .int v2_4)] 3 rfl (by decide) rfl ?_
      refine x_goto (tgt := 4) hC dX6_comesBack_29 (by decide) ?_
      refine x_sub [1, 2, 3, 0] rfl ?_
      exact x_done (fun h => h)
noncomputable def j_X6_comesBack_32 (a0 : Nat) (M : zM) : Option (Int32) :=
  some (0 : Int32)
set_option maxRecDepth 100000 in
theorem j_X6_comesBack_32_ok {C : zC} {d : Nat} {g : zG} {l : Launch} {w : zW} {r : Int32} {a0 : Nat} (hB : bOK C cX6_comesBack 4 RX6 d g l w true) (h0 : tO true 6 a0) (hd : 1 ≤ d) (M : zM) (hR : RtZ C cX6_comesBack w r M) : Sg C w (0, 0) 32 [] [] M (j_X6_comesBack_32 a0 M) (fun q => q = r) := by
  have hC := hB.1.1
  have hq1 : 1 ≤ d := by omega
  unfold j_X6_comesBack_32
  refine x_iconst (v := (0 : Int32)) hC dX6_comesBack_32 ki_0 ?_
  exact r_retZ hR dX6_comesBack_33 (Or.inl rfl) (fun h => congrArg (fun q => (q, M)) h)
noncomputable def f_X6_comesBack (a0 : Nat) (p1 : Int32) (p2 : Int32) (M : zM) : Option (Int32) :=
  nm (p1 + (1 : Int32)) fun v3_3 =>
  (loopW (fun s => b_X6_comesBack_4 a0 p1 p2 s M) v3_3).bind (fun q => Sum.elim (fun r => j_X6_comesBack_32 a0 M) some q)
set_option maxRecDepth 100000 in
theorem f_X6_comesBack_ok {C : zC} {d : Nat} {g : zG} {l : Launch} {w : zW} {r : Int32} {a0 : Nat} {p1 : Int32} {p2 : Int32} (hB : bOK C cX6_comesBack 4 RX6 d g l w true) (h0 : tO true 6 a0) (hd : 1 ≤ d) (M : zM) (hR : RtZ C cX6_comesBack w r M) : Sg C w (0, 0) 0 [(0, zr w a0), (1, .int p1), (2, .int p2)] [] M (f_X6_comesBack a0 p1 p2 M) (fun q => q = r) := by
  have hC := hB.1.1
  have hq1 : 1 ≤ d := by omega
  unfold f_X6_comesBack
  refine x_iload_n hC dX6_comesBack_0 rfl 1 rfl ?_
  refine x_iconst (v := (1 : Int32)) hC dX6_comesBack_1 ki_1 ?_
  refine x_iadd hC dX6_comesBack_2 ?_
  refine x_top (fun v3_3 => ?_)
  refine x_istore_n hC dX6_comesBack_3 rfl [(3, .int v3_3), (0, zr w a0), (1, .int p1), (2, .int p2)] (by decide) rfl ?_
  refine x_sub [1, 2, 3, 0] rfl ?_
  refine x_loopR (pc2 := 32) (fun (s : (Int32)) => [(0, zr w a0), (1, .int p1), (2, .int p2), (3, .int s)]) (fun (s : (Int32)) => M) (fun (s : Unit) => []) (fun (s : Unit) => M) v3_3 ?_ ?_
  · exact fun s => b_X6_comesBack_4_ok hB h0 hd M hR
  · intro r9
    exact j_X6_comesBack_32_ok hB h0 hd M hR
theorem f_X6_comesBack_met {l : Launch} {d : Nat} {g : zG} {w : zW} {M0 : zM} {a0 : Nat} {p1 : Int32} {p2 : Int32} {M : zM} (hw : wS w) (h0 : tO true 6 a0) (hd : 1 ≤ d) {v : Int32} (h : f_X6_comesBack a0 p1 p2 M = some v) : zMet l yX6_comesBack cX6_comesBack 4 (some .boolean) d g w (zin true) M0 [zr w a0, .int p1, .int p2] M (some (.int v)) M :=
  met_z (by decide +kernel) (Nat.le_of_ble_eq_true rfl) (fun C hB0 hR => f_X6_comesBack_ok ⟨hB0, hw⟩ h0 hd M hR _ h rfl)
/-! WindingSquare$Square.has(I)Z -/
def f_X7_has (a0 : Nat) (p1 : Int32) (M : zM) : Int32 :=
  if p1 < 0 then ((0 : Int32))
  else (if (M a0 2) ≤ p1 then ((0 : Int32))
  else ((1 : Int32)))
set_option maxRecDepth 100000 in
theorem f_X7_has_ok {C : zC} {d : Nat} {g : zG} {l : Launch} {w : zW} {r : Int32} {a0 : Nat} {p1 : Int32} (hB : bOK C cX7_has 2 RX7 d g l w true) (h0 : tO true 7 a0) (hd : 1 ≤ d) (M : zM) (hR : RtZ C cX7_has w r M) : Sg C w (0, 0) 0 [(0, zr w a0), (1, .int p1)] [] M (some (f_X7_has a0 p1 M)) (fun q => q = r) := by
  have hC := hB.1.1
  have hq1 : 1 ≤ d := by omega
  unfold f_X7_has
  refine x_iload_n hC dX7_has_0 rfl 1 rfl ?_
  refine x_si ?_
  refine x_if_lt (tgt := 16) hC dX7_has_1 (by decide) ?_ ?_
  · refine x_iconst (v := (0 : Int32)) hC dX7_has_16 ki_0 ?_
    exact r_retZ hR dX7_has_17 (Or.inl rfl) (fun h => congrArg (fun q => (q, M)) h)
  · refine x_iload_n hC dX7_has_4 rfl 1 rfl ?_
    refine x_aload_n hC dX7_has_5 rfl 0 rfl ?_
    refine r_getI hB dX7_has_6 kf_X7_28 rfl h0 ?_
    refine x_si ?_
    refine x_icmp_ge (tgt := 16) hC dX7_has_9 (by decide) ?_ ?_
    · refine x_iconst (v := (0 : Int32)) hC dX7_has_16 ki_0 ?_
      exact r_retZ hR dX7_has_17 (Or.inl rfl) (fun h => congrArg (fun q => (q, M)) h)
    · refine x_iconst (v := (1 : Int32)) hC dX7_has_12 ki_1 ?_
      refine x_goto (tgt := 17) hC dX7_has_13 (by decide) ?_
      exact r_retZ hR dX7_has_17 (Or.inr rfl) (fun h => congrArg (fun q => (q, M)) h)
theorem f_X7_has_met {l : Launch} {d : Nat} {g : zG} {w : zW} {M0 : zM} {a0 : Nat} {p1 : Int32} {M : zM} (hw : wS w) (h0 : tO true 7 a0) (hd : 1 ≤ d) : zMet l yX7_has cX7_has 2 (some .boolean) d g w (zin true) M0 [zr w a0, .int p1] M (some (.int (f_X7_has a0 p1 M))) M :=
  met_z (by decide +kernel) (Nat.le_of_ble_eq_true rfl) (fun C hB0 hR => f_X7_has_ok ⟨hB0, hw⟩ h0 hd M hR _ rfl rfl)
/-! WindingSquare$Square.insideSet()I -/
noncomputable def j_X7_insideSet_30_4 (a0 : Nat) (v1_30_4 : Int32) (v2_30_4 : Int32) (M : zM) : Option ((Int32 × Int32) ⊕ (Int32)) :=
  some (.inl (v1_30_4, (v2_30_4 + (1 : Int32))))
set_option maxRecDepth 100000 in
theorem j_X7_insideSet_30_4_ok {C : zC} {d : Nat} {g : zG} {l : Launch} {w : zW} {r : Int32} {a0 : Nat} {v1_30_4 : Int32} {v2_30_4 : Int32} (hB : bOK C cX7_insideSet 3 RX7 d g l w true) (h0 : tO true 7 a0) (hd : 1 ≤ d) (M : zM) (hR : RtI C cX7_insideSet w r M) : Sg C w (0, 0) 30 [(0, zr w a0), (1, .int v1_30_4), (2, .int v2_30_4)] [] M (j_X7_insideSet_30_4 a0 v1_30_4 v2_30_4 M) (fun o => Sum.elim (fun (s : (Int32 × Int32)) => Zs C w (0, 0) 4 [(0, zr w a0), (1, .int s.1), (2, .int s.2)] [] M) (fun (s : (Int32)) => Zs C w (0, 0) 36 [(1, .int s)] [] M) o) := by
  have hC := hB.1.1
  have hq1 : 1 ≤ d := by omega
  unfold j_X7_insideSet_30_4
  refine x_iinc hC dX7_insideSet_30 ki_1 [(2, .int (v2_30_4 + (1 : Int32))), (0, zr w a0), (1, .int v1_30_4)] 2 rfl (by decide) rfl ?_
  refine x_goto (tgt := 4) hC dX7_insideSet_33 (by decide) ?_
  refine x_sub [1, 2, 0] rfl ?_
  exact x_done (fun h => h)
noncomputable def b_X7_insideSet_4 (a0 : Nat) (v1_4 : Int32) (v2_4 : Int32) (M : zM) : Option ((Int32 × Int32) ⊕ (Int32)) :=
  if (M a0 2) ≤ v2_4 then (some (.inr v1_4))
  else (grd (inb v2_4 16) (
  if (M (a0 + 3 + ix v2_4) 1) = 0 then (j_X7_insideSet_30_4 a0 v1_4 v2_4 M)
  else (nm (v1_4 ||| ((1 : Int32) <<< (v2_4 &&& 31))) fun v1_29_4 =>
  j_X7_insideSet_30_4 a0 v1_29_4 v2_4 M)))
set_option maxRecDepth 100000 in
theorem b_X7_insideSet_4_ok {C : zC} {d : Nat} {g : zG} {l : Launch} {w : zW} {r : Int32} {a0 : Nat} {v1_4 : Int32} {v2_4 : Int32} (hB : bOK C cX7_insideSet 3 RX7 d g l w true) (h0 : tO true 7 a0) (hd : 1 ≤ d) (M : zM) (hR : RtI C cX7_insideSet w r M) : Sg C w (0, 0) 4 [(0, zr w a0), (1, .int v1_4), (2, .int v2_4)] [] M (b_X7_insideSet_4 a0 v1_4 v2_4 M) (fun o => Sum.elim (fun (s : (Int32 × Int32)) => Zs C w (0, 0) 4 [(0, zr w a0), (1, .int s.1), (2, .int s.2)] [] M) (fun (s : (Int32)) => Zs C w (0, 0) 36 [(1, .int s)] [] M) o) := by
  have hC := hB.1.1
  have hq1 : 1 ≤ d := by omega
  unfold b_X7_insideSet_4
  refine x_iload_n hC dX7_insideSet_4 rfl 2 rfl ?_
  refine x_aload_n hC dX7_insideSet_5 rfl 0 rfl ?_
  refine r_getI hB dX7_insideSet_6 kf_X7_28 rfl h0 ?_
  refine x_icmp_ge (tgt := 36) hC dX7_insideSet_9 (by decide) ?_ ?_
  · refine x_sub [1] rfl ?_
    exact x_done (fun h => h)
  · refine x_aload_n hC dX7_insideSet_12 rfl 0 rfl ?_
    refine r_getR hB dX7_insideSet_13 kf_X7_11 rfl h0 (nv_7_0 h0).1 ?_
    refine x_iload_n hC dX7_insideSet_16 rfl 2 rfl ?_
    refine r_aaW (a := a0) hB dX7_insideSet_17 h0 (fun hg17 => ?_)
    refine r_getI hB dX7_insideSet_18 kf_X7_52 rfl (nv_wk h0 hg17).2 ?_
    refine x_if_eq (tgt := 30) hC dX7_insideSet_21 (by decide) ?_ ?_
    · exact j_X7_insideSet_30_4_ok hB h0 hd M hR
    · refine x_iload_n hC dX7_insideSet_24 rfl 1 rfl ?_
      refine x_iconst (v := (1 : Int32)) hC dX7_insideSet_25 ki_1 ?_
      refine x_iload_n hC dX7_insideSet_26 rfl 2 rfl ?_
      refine x_ishl hC dX7_insideSet_27 ?_
      refine x_ior hC dX7_insideSet_28 ?_
      refine x_top (fun v1_29_4 => ?_)
      refine x_istore_n hC dX7_insideSet_29 rfl [(1, .int v1_29_4), (0, zr w a0), (2, .int v2_4)] (by decide) rfl ?_
      refine x_sub [1, 0, 2] rfl ?_
      exact j_X7_insideSet_30_4_ok hB h0 hd M hR
noncomputable def j_X7_insideSet_36 (a0 : Nat) (v1_36 : Int32) (M : zM) : Option (Int32) :=
  some v1_36
set_option maxRecDepth 100000 in
theorem j_X7_insideSet_36_ok {C : zC} {d : Nat} {g : zG} {l : Launch} {w : zW} {r : Int32} {a0 : Nat} {v1_36 : Int32} (hB : bOK C cX7_insideSet 3 RX7 d g l w true) (h0 : tO true 7 a0) (hd : 1 ≤ d) (M : zM) (hR : RtI C cX7_insideSet w r M) : Sg C w (0, 0) 36 [(1, .int v1_36)] [] M (j_X7_insideSet_36 a0 v1_36 M) (fun q => q = r) := by
  have hC := hB.1.1
  have hq1 : 1 ≤ d := by omega
  unfold j_X7_insideSet_36
  refine x_iload_n hC dX7_insideSet_36 rfl 0 rfl ?_
  exact r_retI hR dX7_insideSet_37 (fun h => congrArg (fun q => (q, M)) h)
noncomputable def f_X7_insideSet (a0 : Nat) (M : zM) : Option (Int32) :=
  (loopW (fun s => b_X7_insideSet_4 a0 s.1 s.2 M) ((0 : Int32), (0 : Int32))).bind (fun r => j_X7_insideSet_36 a0 r M)
set_option maxRecDepth 100000 in
theorem f_X7_insideSet_ok {C : zC} {d : Nat} {g : zG} {l : Launch} {w : zW} {r : Int32} {a0 : Nat} (hB : bOK C cX7_insideSet 3 RX7 d g l w true) (h0 : tO true 7 a0) (hd : 1 ≤ d) (M : zM) (hR : RtI C cX7_insideSet w r M) : Sg C w (0, 0) 0 [(0, zr w a0)] [] M (f_X7_insideSet a0 M) (fun q => q = r) := by
  have hC := hB.1.1
  have hq1 : 1 ≤ d := by omega
  unfold f_X7_insideSet
  refine x_iconst (v := (0 : Int32)) hC dX7_insideSet_0 ki_0 ?_
  refine x_istore_n hC dX7_insideSet_1 rfl [(1, .int (0 : Int32)), (0, zr w a0)] (by decide) rfl ?_
  refine x_iconst (v := (0 : Int32)) hC dX7_insideSet_2 ki_0 ?_
  refine x_istore_n hC dX7_insideSet_3 rfl [(2, .int (0 : Int32)), (1, .int (0 : Int32)), (0, zr w a0)] (by decide) rfl ?_
  refine x_sub [2, 1, 0] rfl ?_
  refine x_loopB (pc2 := 36) (fun (s : (Int32 × Int32)) => [(0, zr w a0), (1, .int s.1), (2, .int s.2)]) (fun (s : (Int32 × Int32)) => M) (fun (s : (Int32)) => [(1, .int s)]) (fun (s : (Int32)) => M) ((0 : Int32), (0 : Int32)) ?_ ?_
  · exact fun s => b_X7_insideSet_4_ok hB h0 hd M hR
  · intro r9
    exact j_X7_insideSet_36_ok hB h0 hd M hR
theorem f_X7_insideSet_met {l : Launch} {d : Nat} {g : zG} {w : zW} {M0 : zM} {a0 : Nat} {M : zM} (hw : wS w) (h0 : tO true 7 a0) (hd : 1 ≤ d) {v : Int32} (h : f_X7_insideSet a0 M = some v) : zMet l yX7_insideSet cX7_insideSet 3 (some .int) d g w (zin true) M0 [zr w a0] M (some (.int v)) M :=
  met_i (by decide +kernel) (Nat.le_of_ble_eq_true rfl) rfl (fun C hB0 hR => f_X7_insideSet_ok ⟨hB0, hw⟩ h0 hd M hR _ h rfl)
/-! WindingSquare$Square.stones()I -/
noncomputable def j_X7_stones_24_4 (a0 : Nat) (v1_24_4 : Int32) (v2_24_4 : Int32) (M : zM) : Option ((Int32 × Int32) ⊕ (Int32)) :=
  some (.inl (v1_24_4, (v2_24_4 + (1 : Int32))))
set_option maxRecDepth 100000 in
theorem j_X7_stones_24_4_ok {C : zC} {d : Nat} {g : zG} {l : Launch} {w : zW} {r : Int32} {a0 : Nat} {v1_24_4 : Int32} {v2_24_4 : Int32} (hB : bOK C cX7_stones 3 RX7 d g l w true) (h0 : tO true 7 a0) (hd : 1 ≤ d) (M : zM) (hR : RtI C cX7_stones w r M) : Sg C w (0, 0) 24 [(0, zr w a0), (1, .int v1_24_4), (2, .int v2_24_4)] [] M (j_X7_stones_24_4 a0 v1_24_4 v2_24_4 M) (fun o => Sum.elim (fun (s : (Int32 × Int32)) => Zs C w (0, 0) 4 [(0, zr w a0), (1, .int s.1), (2, .int s.2)] [] M) (fun (s : (Int32)) => Zs C w (0, 0) 30 [(1, .int s)] [] M) o) := by
  have hC := hB.1.1
  have hq1 : 1 ≤ d := by omega
  unfold j_X7_stones_24_4
  refine x_iinc hC dX7_stones_24 ki_1 [(2, .int (v2_24_4 + (1 : Int32))), (0, zr w a0), (1, .int v1_24_4)] 2 rfl (by decide) rfl ?_
  refine x_goto (tgt := 4) hC dX7_stones_27 (by decide) ?_
  refine x_sub [1, 2, 0] rfl ?_
  exact x_done (fun h => h)
noncomputable def b_X7_stones_4 (a0 : Nat) (v1_4 : Int32) (v2_4 : Int32) (M : zM) : Option ((Int32 × Int32) ⊕ (Int32)) :=
  if (144 : Int32) ≤ v2_4 then (some (.inr v1_4))
  else (grd (inb v2_4 144) (
  if (M (a0 + 2) (ix v2_4)) = (1 : Int32) then (j_X7_stones_24_4 a0 (v1_4 + (1 : Int32)) v2_4 M)
  else (j_X7_stones_24_4 a0 v1_4 v2_4 M)))
set_option maxRecDepth 100000 in
theorem b_X7_stones_4_ok {C : zC} {d : Nat} {g : zG} {l : Launch} {w : zW} {r : Int32} {a0 : Nat} {v1_4 : Int32} {v2_4 : Int32} (hB : bOK C cX7_stones 3 RX7 d g l w true) (h0 : tO true 7 a0) (hd : 1 ≤ d) (M : zM) (hR : RtI C cX7_stones w r M) : Sg C w (0, 0) 4 [(0, zr w a0), (1, .int v1_4), (2, .int v2_4)] [] M (b_X7_stones_4 a0 v1_4 v2_4 M) (fun o => Sum.elim (fun (s : (Int32 × Int32)) => Zs C w (0, 0) 4 [(0, zr w a0), (1, .int s.1), (2, .int s.2)] [] M) (fun (s : (Int32)) => Zs C w (0, 0) 30 [(1, .int s)] [] M) o) := by
  have hC := hB.1.1
  have hq1 : 1 ≤ d := by omega
  unfold b_X7_stones_4
  refine x_iload_n hC dX7_stones_4 rfl 2 rfl ?_
  refine x_sipush (v := (144 : Int32)) hC dX7_stones_5 kh_144 ?_
  refine x_icmp_ge (tgt := 30) hC dX7_stones_8 (by decide) ?_ ?_
  · refine x_sub [1] rfl ?_
    exact x_done (fun h => h)
  · refine x_aload_n hC dX7_stones_11 rfl 0 rfl ?_
    refine r_getR hB dX7_stones_12 kf_X7_17 rfl h0 (nv_7_1 h0).1 ?_
    refine x_iload_n hC dX7_stones_15 rfl 2 rfl ?_
    refine r_iald hB dX7_stones_16 (nv_7_1 h0).2 ?_
    refine x_iconst (v := (1 : Int32)) hC dX7_stones_17 ki_1 ?_
    refine x_icmp_ne (tgt := 24) hC dX7_stones_18 (by decide) ?_ ?_
    · refine x_iinc hC dX7_stones_21 ki_1 [(1, .int (v1_4 + (1 : Int32))), (0, zr w a0), (2, .int v2_4)] 1 rfl (by decide) rfl ?_
      refine x_sub [1, 0, 2] rfl ?_
      exact j_X7_stones_24_4_ok hB h0 hd M hR
    · exact j_X7_stones_24_4_ok hB h0 hd M hR
noncomputable def j_X7_stones_30 (a0 : Nat) (v1_30 : Int32) (M : zM) : Option (Int32) :=
  some v1_30
set_option maxRecDepth 100000 in
theorem j_X7_stones_30_ok {C : zC} {d : Nat} {g : zG} {l : Launch} {w : zW} {r : Int32} {a0 : Nat} {v1_30 : Int32} (hB : bOK C cX7_stones 3 RX7 d g l w true) (h0 : tO true 7 a0) (hd : 1 ≤ d) (M : zM) (hR : RtI C cX7_stones w r M) : Sg C w (0, 0) 30 [(1, .int v1_30)] [] M (j_X7_stones_30 a0 v1_30 M) (fun q => q = r) := by
  have hC := hB.1.1
  have hq1 : 1 ≤ d := by omega
  unfold j_X7_stones_30
  refine x_iload_n hC dX7_stones_30 rfl 0 rfl ?_
  exact r_retI hR dX7_stones_31 (fun h => congrArg (fun q => (q, M)) h)
noncomputable def f_X7_stones (a0 : Nat) (M : zM) : Option (Int32) :=
  (loopW (fun s => b_X7_stones_4 a0 s.1 s.2 M) ((0 : Int32), (0 : Int32))).bind (fun r => j_X7_stones_30 a0 r M)
set_option maxRecDepth 100000 in
theorem f_X7_stones_ok {C : zC} {d : Nat} {g : zG} {l : Launch} {w : zW} {r : Int32} {a0 : Nat} (hB : bOK C cX7_stones 3 RX7 d g l w true) (h0 : tO true 7 a0) (hd : 1 ≤ d) (M : zM) (hR : RtI C cX7_stones w r M) : Sg C w (0, 0) 0 [(0, zr w a0)] [] M (f_X7_stones a0 M) (fun q => q = r) := by
  have hC := hB.1.1
  have hq1 : 1 ≤ d := by omega
  unfold f_X7_stones
  refine x_iconst (v := (0 : Int32)) hC dX7_stones_0 ki_0 ?_
  refine x_istore_n hC dX7_stones_1 rfl [(1, .int (0 : Int32)), (0, zr w a0)] (by decide) rfl ?_
  refine x_iconst (v := (0 : Int32)) hC dX7_stones_2 ki_0 ?_
  refine x_istore_n hC dX7_stones_3 rfl [(2, .int (0 : Int32)), (1, .int (0 : Int32)), (0, zr w a0)] (by decide) rfl ?_
  refine x_sub [2, 1, 0] rfl ?_
  refine x_loopB (pc2 := 30) (fun (s : (Int32 × Int32)) => [(0, zr w a0), (1, .int s.1), (2, .int s.2)]) (fun (s : (Int32 × Int32)) => M) (fun (s : (Int32)) => [(1, .int s)]) (fun (s : (Int32)) => M) ((0 : Int32), (0 : Int32)) ?_ ?_
  · exact fun s => b_X7_stones_4_ok hB h0 hd M hR
  · intro r9
    exact j_X7_stones_30_ok hB h0 hd M hR
theorem f_X7_stones_met {l : Launch} {d : Nat} {g : zG} {w : zW} {M0 : zM} {a0 : Nat} {M : zM} (hw : wS w) (h0 : tO true 7 a0) (hd : 1 ≤ d) {v : Int32} (h : f_X7_stones a0 M = some v) : zMet l yX7_stones cX7_stones 3 (some .int) d g w (zin true) M0 [zr w a0] M (some (.int v)) M :=
  met_i (by decide +kernel) (Nat.le_of_ble_eq_true rfl) rfl (fun C hB0 hR => f_X7_stones_ok ⟨hB0, hw⟩ h0 hd M hR _ h rfl)
/-! WindingSquare$Square.drawOf1000()I -/
noncomputable def f_X7_drawOf1000 (a0 : Nat) (M : zM) : Option (Int32 × zM) :=
  nm (mset M a0 5 (((1664525 : Int32) * (M a0 5)) + (1013904223 : Int32))) fun M11 =>
  some ((irem (iush (M11 a0 5) (8 : Int32)) (1000 : Int32)), M11)
set_option maxRecDepth 100000 in
theorem f_X7_drawOf1000_ok {C : zC} {d : Nat} {g : zG} {l : Launch} {w : zW} {r : Int32 × zM} {a0 : Nat} (hB : bOK C cX7_drawOf1000 1 RX7 d g l w true) (h0 : tO true 7 a0) (hd : 1 ≤ d) (M : zM) (hR : RtI C cX7_drawOf1000 w r.1 r.2) : Sg C w (0, 0) 0 [(0, zr w a0)] [] M (f_X7_drawOf1000 a0 M) (fun q => q = r) := by
  have hC := hB.1.1
  have hq1 : 1 ≤ d := by omega
  unfold f_X7_drawOf1000
  refine x_aload_n hC dX7_drawOf1000_0 rfl 0 rfl ?_
  refine x_ldc hC dX7_drawOf1000_1 wd_724 ?_
  refine x_aload_n hC dX7_drawOf1000_3 rfl 0 rfl ?_
  refine r_getI hB dX7_drawOf1000_4 kf_X7_42 rfl h0 ?_
  refine x_imul hC dX7_drawOf1000_7 ?_
  refine x_ldc hC dX7_drawOf1000_8 wd_725 ?_
  refine x_iadd hC dX7_drawOf1000_10 ?_
  refine r_putI hB dX7_drawOf1000_11 kf_X7_42 rfl h0 ?_
  refine x_mem (fun M11 => ?_)
  refine x_aload_n hC dX7_drawOf1000_14 rfl 0 rfl ?_
  refine r_getI hB dX7_drawOf1000_15 kf_X7_42 rfl h0 ?_
  refine x_bipush (v := (8 : Int32)) hC dX7_drawOf1000_18 kb_8 ?_
  refine x_iushr hC dX7_drawOf1000_20 ?_
  refine x_sipush (v := (1000 : Int32)) hC dX7_drawOf1000_21 kh_1000 ?_
  refine x_irem0 hC dX7_drawOf1000_24 nz_1000 ?_
  exact r_retI hR dX7_drawOf1000_25 (fun h => h)
theorem f_X7_drawOf1000_met {l : Launch} {d : Nat} {g : zG} {w : zW} {M0 : zM} {a0 : Nat} {M : zM} (hw : wS w) (h0 : tO true 7 a0) (hd : 1 ≤ d) {v : Int32} {M' : zM} (h : f_X7_drawOf1000 a0 M = some (v, M')) : zMet l yX7_drawOf1000 cX7_drawOf1000 1 (some .int) d g w (zin true) M0 [zr w a0] M (some (.int v)) M' :=
  met_i (by decide +kernel) (Nat.le_of_ble_eq_true rfl) rfl (fun C hB0 hR => f_X7_drawOf1000_ok (r := (v, M')) ⟨hB0, hw⟩ h0 hd M hR _ h rfl)
/-! WindingSquare$Texts.watchAt(I)I -/
noncomputable def b_X8_watchAt_9 (a0 : Nat) (v1_9 : Int32) (v2_9 : Int32) (M : zM) : Option ((Int32) ⊕ (Unit ⊕ (Int32))) :=
  if v2_9 < 0 then (some (.inr (.inl ())))
  else (grd (inb v2_9 16) (
  if v1_9 < (M (a0 + 12) (ix v2_9)) then (some (.inl (v2_9 + (-1 : Int32))))
  else (grd (inb v2_9 16) (
  some (.inr (.inr (M (a0 + 13) (ix v2_9))))))))
set_option maxRecDepth 100000 in
theorem b_X8_watchAt_9_ok {C : zC} {d : Nat} {g : zG} {l : Launch} {w : zW} {r : Int32} {a0 : Nat} {v1_9 : Int32} {v2_9 : Int32} (hB : bOK C cX8_watchAt 3 RX8 d g l w true) (h0 : tO true 8 a0) (hd : 1 ≤ d) (M : zM) (hR : RtI C cX8_watchAt w r M) : Sg C w (0, 0) 9 [(0, zr w a0), (1, .int v1_9), (2, .int v2_9)] [] M (b_X8_watchAt_9 a0 v1_9 v2_9 M) (fun o => Sum.elim (fun (s : (Int32)) => Zs C w (0, 0) 9 [(0, zr w a0), (1, .int v1_9), (2, .int s)] [] M) (fun q => Sum.elim (fun (s : Unit) => Zs C w (0, 0) 36 [] [] M) (fun q => q = r) q) o) := by
  have hC := hB.1.1
  have hq1 : 1 ≤ d := by omega
  unfold b_X8_watchAt_9
  refine x_iload_n hC dX8_watchAt_9 rfl 2 rfl ?_
  refine x_if_lt (tgt := 36) hC dX8_watchAt_10 (by decide) ?_ ?_
  · refine x_sub [] rfl ?_
    exact x_done (fun h => h)
  · refine x_aload_n hC dX8_watchAt_13 rfl 0 rfl ?_
    refine r_getR hB dX8_watchAt_14 kf_X8_34 rfl h0 (nv_8_6 h0).1 ?_
    refine x_iload_n hC dX8_watchAt_17 rfl 2 rfl ?_
    refine r_iald hB dX8_watchAt_18 (nv_8_6 h0).2 ?_
    refine x_iload_n hC dX8_watchAt_19 rfl 1 rfl ?_
    refine x_icmp_gt (tgt := 30) hC dX8_watchAt_20 (by decide) ?_ ?_
    · refine x_iinc hC dX8_watchAt_30 ki_m1 [(2, .int (v2_9 + (-1 : Int32))), (0, zr w a0), (1, .int v1_9)] 2 rfl (by decide) rfl ?_
      refine x_goto (tgt := 9) hC dX8_watchAt_33 (by decide) ?_
      refine x_sub [1, 2, 0] rfl ?_
      exact x_done (fun h => h)
    · refine x_aload_n hC dX8_watchAt_23 rfl 0 rfl ?_
      refine r_getR hB dX8_watchAt_24 kf_X8_37 rfl h0 (nv_8_7 h0).1 ?_
      refine x_iload_n hC dX8_watchAt_27 rfl 2 rfl ?_
      refine r_iald hB dX8_watchAt_28 (nv_8_7 h0).2 ?_
      exact r_retI hR dX8_watchAt_29 (fun h => congrArg (fun q => (q, M)) h)
noncomputable def j_X8_watchAt_36 (a0 : Nat) (M : zM) : Option (Int32) :=
  some (0 : Int32)
set_option maxRecDepth 100000 in
theorem j_X8_watchAt_36_ok {C : zC} {d : Nat} {g : zG} {l : Launch} {w : zW} {r : Int32} {a0 : Nat} (hB : bOK C cX8_watchAt 3 RX8 d g l w true) (h0 : tO true 8 a0) (hd : 1 ≤ d) (M : zM) (hR : RtI C cX8_watchAt w r M) : Sg C w (0, 0) 36 [] [] M (j_X8_watchAt_36 a0 M) (fun q => q = r) := by
  have hC := hB.1.1
  have hq1 : 1 ≤ d := by omega
  unfold j_X8_watchAt_36
  refine x_iconst (v := (0 : Int32)) hC dX8_watchAt_36 ki_0 ?_
  exact r_retI hR dX8_watchAt_37 (fun h => congrArg (fun q => (q, M)) h)
noncomputable def f_X8_watchAt (a0 : Nat) (p1 : Int32) (M : zM) : Option (Int32) :=
  nm ((M (a0 + 7) (ix (3 : Int32))) - (1 : Int32)) fun v2_8 =>
  (loopW (fun s => b_X8_watchAt_9 a0 p1 s M) v2_8).bind (fun q => Sum.elim (fun r => j_X8_watchAt_36 a0 M) some q)
set_option maxRecDepth 100000 in
theorem f_X8_watchAt_ok {C : zC} {d : Nat} {g : zG} {l : Launch} {w : zW} {r : Int32} {a0 : Nat} {p1 : Int32} (hB : bOK C cX8_watchAt 3 RX8 d g l w true) (h0 : tO true 8 a0) (hd : 1 ≤ d) (M : zM) (hR : RtI C cX8_watchAt w r M) : Sg C w (0, 0) 0 [(0, zr w a0), (1, .int p1)] [] M (f_X8_watchAt a0 p1 M) (fun q => q = r) := by
  have hC := hB.1.1
  have hq1 : 1 ≤ d := by omega
  unfold f_X8_watchAt
  refine x_aload_n hC dX8_watchAt_0 rfl 0 rfl ?_
  refine r_getR hB dX8_watchAt_1 kf_X8_18 rfl h0 (nv_8_1 h0).1 ?_
  refine x_iconst (v := (3 : Int32)) hC dX8_watchAt_4 ki_3 ?_
  refine r_iald0 hB dX8_watchAt_5 (nv_8_1 h0).2 ib_3_4 ?_
  refine x_iconst (v := (1 : Int32)) hC dX8_watchAt_6 ki_1 ?_
  refine x_isub hC dX8_watchAt_7 ?_
  refine x_top (fun v2_8 => ?_)
  refine x_istore_n hC dX8_watchAt_8 rfl [(2, .int v2_8), (0, zr w a0), (1, .int p1)] (by decide) rfl ?_
  refine x_sub [1, 2, 0] rfl ?_
  refine x_loopR (pc2 := 36) (fun (s : (Int32)) => [(0, zr w a0), (1, .int p1), (2, .int s)]) (fun (s : (Int32)) => M) (fun (s : Unit) => []) (fun (s : Unit) => M) v2_8 ?_ ?_
  · exact fun s => b_X8_watchAt_9_ok hB h0 hd M hR
  · intro r9
    exact j_X8_watchAt_36_ok hB h0 hd M hR
theorem f_X8_watchAt_met {l : Launch} {d : Nat} {g : zG} {w : zW} {M0 : zM} {a0 : Nat} {p1 : Int32} {M : zM} (hw : wS w) (h0 : tO true 8 a0) (hd : 1 ≤ d) {v : Int32} (h : f_X8_watchAt a0 p1 M = some v) : zMet l yX8_watchAt cX8_watchAt 3 (some .int) d g w (zin true) M0 [zr w a0, .int p1] M (some (.int v)) M :=
  met_i (by decide +kernel) (Nat.le_of_ble_eq_true rfl) rfl (fun C hB0 hR => f_X8_watchAt_ok ⟨hB0, hw⟩ h0 hd M hR _ h rfl)
/-! WindingSquare$Texts.nextWord(ILWindingSquare$Walker;)I -/
noncomputable def j_X8_nextWord_65 (a0 : Nat) (a2 : Nat) (v3_65 : Int32) (M : zM) : Option (Int32 × zM) :=
  grd (inb v3_65 192) (
  some ((M (a0 + 10) (ix v3_65)), M))
set_option maxRecDepth 100000 in
theorem j_X8_nextWord_65_ok {C : zC} {d : Nat} {g : zG} {l : Launch} {w : zW} {r : Int32 × zM} {a0 : Nat} {a2 : Nat} {v3_65 : Int32} (hB : bOK C cX8_nextWord 4 RX8 d g l w true) (h0 : tO true 8 a0) (h2 : tO true 9 a2) (hd : 1 ≤ d) (M : zM) (hR : RtI C cX8_nextWord w r.1 r.2) : Sg C w (0, 0) 65 [(0, zr w a0), (3, .int v3_65)] [] M (j_X8_nextWord_65 a0 a2 v3_65 M) (fun q => q = r) := by
  have hC := hB.1.1
  have hq1 : 1 ≤ d := by omega
  unfold j_X8_nextWord_65
  refine x_aload_n hC dX8_nextWord_65 rfl 0 rfl ?_
  refine r_getR hB dX8_nextWord_66 kf_X8_28 rfl h0 (nv_8_4 h0).1 ?_
  refine x_iload_n hC dX8_nextWord_69 rfl 1 rfl ?_
  refine r_iald hB dX8_nextWord_70 (nv_8_4 h0).2 ?_
  exact r_retI hR dX8_nextWord_71 (fun h => h)
noncomputable def f_X8_nextWord (a0 : Nat) (p1 : Int32) (a2 : Nat) (M : zM) : Option (Int32 × zM) :=
  grd (inb p1 16) (
  if (M a2 8) < (M (a0 + 9) (ix p1)) then (nm (((12 : Int32) * p1) + (M a2 8)) fun v3_26 =>
  nm (mset M a2 9 ((M a2 9) + (1 : Int32))) fun M34 =>
  grd (inb v3_26 192) (
  if (M34 a2 9) < (M34 (a0 + 11) (ix v3_26)) then (j_X8_nextWord_65 a0 a2 v3_26 M34)
  else (nm (mset M34 a2 8 ((M34 a2 8) + (1 : Int32))) fun M57 =>
  nm (mset M57 a2 9 (0 : Int32)) fun M62 =>
  j_X8_nextWord_65 a0 a2 v3_26 M62)))
  else (some ((150 : Int32), M)))
set_option maxRecDepth 100000 in
theorem f_X8_nextWord_ok {C : zC} {d : Nat} {g : zG} {l : Launch} {w : zW} {r : Int32 × zM} {a0 : Nat} {p1 : Int32} {a2 : Nat} (hB : bOK C cX8_nextWord 4 RX8 d g l w true) (h0 : tO true 8 a0) (h2 : tO true 9 a2) (hd : 1 ≤ d) (M : zM) (hR : RtI C cX8_nextWord w r.1 r.2) : Sg C w (0, 0) 0 [(0, zr w a0), (1, .int p1), (2, zr w a2)] [] M (f_X8_nextWord a0 p1 a2 M) (fun q => q = r) := by
  have hC := hB.1.1
  have hq1 : 1 ≤ d := by omega
  unfold f_X8_nextWord
  refine x_aload_n hC dX8_nextWord_0 rfl 2 rfl ?_
  refine r_getI hB dX8_nextWord_1 kf_X8_82 rfl h2 ?_
  refine x_aload_n hC dX8_nextWord_4 rfl 0 rfl ?_
  refine r_getR hB dX8_nextWord_5 kf_X8_25 rfl h0 (nv_8_3 h0).1 ?_
  refine x_iload_n hC dX8_nextWord_8 rfl 1 rfl ?_
  refine r_iald hB dX8_nextWord_9 (nv_8_3 h0).2 ?_
  refine x_icmp_lt (tgt := 17) hC dX8_nextWord_10 (by decide) ?_ ?_
  · refine x_bipush (v := (12 : Int32)) hC dX8_nextWord_17 kb_12 ?_
    refine x_iload_n hC dX8_nextWord_19 rfl 1 rfl ?_
    refine x_imul hC dX8_nextWord_20 ?_
    refine x_aload_n hC dX8_nextWord_21 rfl 2 rfl ?_
    refine r_getI hB dX8_nextWord_22 kf_X8_82 rfl h2 ?_
    refine x_iadd hC dX8_nextWord_25 ?_
    refine x_top (fun v3_26 => ?_)
    refine x_istore_n hC dX8_nextWord_26 rfl [(3, .int v3_26), (0, zr w a0), (1, .int p1), (2, zr w a2)] (by decide) rfl ?_
    refine x_aload_n hC dX8_nextWord_27 rfl 3 rfl ?_
    refine x_dup hC dX8_nextWord_28 rfl ?_
    refine r_getI hB dX8_nextWord_29 kf_X8_88 rfl h2 ?_
    refine x_iconst (v := (1 : Int32)) hC dX8_nextWord_32 ki_1 ?_
    refine x_iadd hC dX8_nextWord_33 ?_
    refine r_putI hB dX8_nextWord_34 kf_X8_88 rfl h2 ?_
    refine x_mem (fun M34 => ?_)
    refine x_aload_n hC dX8_nextWord_37 rfl 3 rfl ?_
    refine r_getI hB dX8_nextWord_38 kf_X8_88 rfl h2 ?_
    refine x_aload_n hC dX8_nextWord_41 rfl 1 rfl ?_
    refine r_getR hB dX8_nextWord_42 kf_X8_31 rfl h0 (nv_8_5 h0).1 ?_
    refine x_iload_n hC dX8_nextWord_45 rfl 0 rfl ?_
    refine r_iald hB dX8_nextWord_46 (nv_8_5 h0).2 ?_
    refine x_icmp_lt (tgt := 65) hC dX8_nextWord_47 (by decide) ?_ ?_
    · refine x_sub [1, 0] rfl ?_
      exact j_X8_nextWord_65_ok hB h0 h2 hd M34 hR
    · refine x_aload_n hC dX8_nextWord_50 rfl 3 rfl ?_
      refine x_dup hC dX8_nextWord_51 rfl ?_
      refine r_getI hB dX8_nextWord_52 kf_X8_82 rfl h2 ?_
      refine x_iconst (v := (1 : Int32)) hC dX8_nextWord_55 ki_1 ?_
      refine x_iadd hC dX8_nextWord_56 ?_
      refine r_putI hB dX8_nextWord_57 kf_X8_82 rfl h2 ?_
      refine x_mem (fun M57 => ?_)
      refine x_aload_n hC dX8_nextWord_60 rfl 3 rfl ?_
      refine x_iconst (v := (0 : Int32)) hC dX8_nextWord_61 ki_0 ?_
      refine r_putI hB dX8_nextWord_62 kf_X8_88 rfl h2 ?_
      refine x_mem (fun M62 => ?_)
      refine x_sub [1, 0] rfl ?_
      exact j_X8_nextWord_65_ok hB h0 h2 hd M62 hR
  · refine x_sipush (v := (150 : Int32)) hC dX8_nextWord_13 kh_150 ?_
    exact r_retI hR dX8_nextWord_16 (fun h => h)
theorem f_X8_nextWord_met {l : Launch} {d : Nat} {g : zG} {w : zW} {M0 : zM} {a0 : Nat} {p1 : Int32} {a2 : Nat} {M : zM} (hw : wS w) (h0 : tO true 8 a0) (h2 : tO true 9 a2) (hd : 1 ≤ d) {v : Int32} {M' : zM} (h : f_X8_nextWord a0 p1 a2 M = some (v, M')) : zMet l yX8_nextWord cX8_nextWord 4 (some .int) d g w (zin true) M0 [zr w a0, .int p1, zr w a2] M (some (.int v)) M' :=
  met_i (by decide +kernel) (Nat.le_of_ble_eq_true rfl) rfl (fun C hB0 hR => f_X8_nextWord_ok (r := (v, M')) ⟨hB0, hw⟩ h0 h2 hd M hR _ h rfl)
/-! WindingSquare$Texts.stoneOf(I)I -/
def f_X8_stoneOf (p0 : Int32) : Int32 :=
  if p0 = (141 : Int32) then ((2 : Int32))
  else (if p0 = (142 : Int32) then ((-1 : Int32))
  else (if p0 = (143 : Int32) then ((-1 : Int32))
  else (if p0 = (144 : Int32) then ((-1 : Int32))
  else (if p0 = (145 : Int32) then ((1 : Int32))
  else (if p0 = (146 : Int32) then ((3 : Int32))
  else (if p0 = (147 : Int32) then ((0 : Int32))
  else ((-1 : Int32))))))))
set_option maxRecDepth 100000 in
theorem f_X8_stoneOf_ok {C : zC} {d : Nat} {g : zG} {l : Launch} {w : zW} {r : Int32} {p0 : Int32} (hB : bOK C cX8_stoneOf 1 RX8 d g l w true) (hd : 1 ≤ d) (M : zM) (hR : RtI C cX8_stoneOf w r M) : Sg C w (0, 0) 0 [(0, .int p0)] [] M (some (f_X8_stoneOf p0)) (fun q => q = r) := by
  have hC := hB.1.1
  have hq1 : 1 ≤ d := by omega
  unfold f_X8_stoneOf
  refine x_iload_n hC dX8_stoneOf_0 rfl 0 rfl ?_
  refine x_si ?_
  refine x_ite (fun hs => ?_) (fun hs141 => ?_)
  · refine x_tsI (tgt := 48) (off := 47) hC dX8_stoneOf_1 (by rw [hs]; decide +kernel) (by rw [hs]; decide +kernel) (by rw [hs]; decide +kernel) (by decide) ?_
    refine x_iconst (v := (2 : Int32)) hC dX8_stoneOf_48 ki_2 ?_
    exact r_retI hR dX8_stoneOf_49 (fun h => congrArg (fun q => (q, M)) h)
  · skip
    refine x_si ?_
    refine x_ite (fun hs => ?_) (fun hs142 => ?_)
    · refine x_tsI (tgt := 52) (off := 51) hC dX8_stoneOf_1 (by rw [hs]; decide +kernel) (by rw [hs]; decide +kernel) (by rw [hs]; decide +kernel) (by decide) ?_
      refine x_iconst (v := (-1 : Int32)) hC dX8_stoneOf_52 ki_m1 ?_
      exact r_retI hR dX8_stoneOf_53 (fun h => congrArg (fun q => (q, M)) h)
    · skip
      refine x_si ?_
      refine x_ite (fun hs => ?_) (fun hs143 => ?_)
      · refine x_tsI (tgt := 52) (off := 51) hC dX8_stoneOf_1 (by rw [hs]; decide +kernel) (by rw [hs]; decide +kernel) (by rw [hs]; decide +kernel) (by decide) ?_
        refine x_iconst (v := (-1 : Int32)) hC dX8_stoneOf_52 ki_m1 ?_
        exact r_retI hR dX8_stoneOf_53 (fun h => congrArg (fun q => (q, M)) h)
      · skip
        refine x_si ?_
        refine x_ite (fun hs => ?_) (fun hs144 => ?_)
        · refine x_tsI (tgt := 52) (off := 51) hC dX8_stoneOf_1 (by rw [hs]; decide +kernel) (by rw [hs]; decide +kernel) (by rw [hs]; decide +kernel) (by decide) ?_
          refine x_iconst (v := (-1 : Int32)) hC dX8_stoneOf_52 ki_m1 ?_
          exact r_retI hR dX8_stoneOf_53 (fun h => congrArg (fun q => (q, M)) h)
        · skip
          refine x_si ?_
          refine x_ite (fun hs => ?_) (fun hs145 => ?_)
          · refine x_tsI (tgt := 46) (off := 45) hC dX8_stoneOf_1 (by rw [hs]; decide +kernel) (by rw [hs]; decide +kernel) (by rw [hs]; decide +kernel) (by decide) ?_
            refine x_iconst (v := (1 : Int32)) hC dX8_stoneOf_46 ki_1 ?_
            exact r_retI hR dX8_stoneOf_47 (fun h => congrArg (fun q => (q, M)) h)
          · skip
            refine x_si ?_
            refine x_ite (fun hs => ?_) (fun hs146 => ?_)
            · refine x_tsI (tgt := 50) (off := 49) hC dX8_stoneOf_1 (by rw [hs]; decide +kernel) (by rw [hs]; decide +kernel) (by rw [hs]; decide +kernel) (by decide) ?_
              refine x_iconst (v := (3 : Int32)) hC dX8_stoneOf_50 ki_3 ?_
              exact r_retI hR dX8_stoneOf_51 (fun h => congrArg (fun q => (q, M)) h)
            · skip
              refine x_si ?_
              refine x_ite (fun hs => ?_) (fun hs147 => ?_)
              · refine x_tsI (tgt := 44) (off := 43) hC dX8_stoneOf_1 (by rw [hs]; decide +kernel) (by rw [hs]; decide +kernel) (by rw [hs]; decide +kernel) (by decide) ?_
                refine x_iconst (v := (0 : Int32)) hC dX8_stoneOf_44 ki_0 ?_
                exact r_retI hR dX8_stoneOf_45 (fun h => congrArg (fun q => (q, M)) h)
              · skip
                refine x_tsO (tgt := 52) hC dX8_stoneOf_1 (by have q0 := x_ne (k := 141) hs141 (by decide); have q1 := x_ne (k := 142) hs142 (by decide); have q2 := x_ne (k := 143) hs143 (by decide); have q3 := x_ne (k := 144) hs144 (by decide); have q4 := x_ne (k := 145) hs145 (by decide); have q5 := x_ne (k := 146) hs146 (by decide); have q6 := x_ne (k := 147) hs147 (by decide); omega) (by decide) ?_
                refine x_iconst (v := (-1 : Int32)) hC dX8_stoneOf_52 ki_m1 ?_
                exact r_retI hR dX8_stoneOf_53 (fun h => congrArg (fun q => (q, M)) h)
theorem f_X8_stoneOf_met {l : Launch} {d : Nat} {g : zG} {w : zW} {M0 : zM} {p0 : Int32} {M : zM} (hw : wS w) (hd : 1 ≤ d) : zMet l yX8_stoneOf cX8_stoneOf 1 (some .int) d g w (zin true) M0 [.int p0] M (some (.int (f_X8_stoneOf p0))) M :=
  met_i (by decide +kernel) (Nat.le_of_ble_eq_true rfl) rfl (fun C hB0 hR => f_X8_stoneOf_ok ⟨hB0, hw⟩ hd M hR _ rfl rfl)
/-! WindingSquare$Walker.beginWay()V -/
noncomputable def f_X9_beginWay (a0 : Nat) (M : zM) : Option (zM) :=
  nm (mset M a0 8 (0 : Int32)) fun M2 =>
  nm (mset M2 a0 9 (0 : Int32)) fun M7 =>
  some M7
set_option maxRecDepth 100000 in
theorem f_X9_beginWay_ok {C : zC} {d : Nat} {g : zG} {l : Launch} {w : zW} {r : zM} {a0 : Nat} (hB : bOK C cX9_beginWay 1 RX9 d g l w true) (h0 : tO true 9 a0) (hd : 1 ≤ d) (M : zM) (hR : RtV C cX9_beginWay w r) : Sg C w (0, 0) 0 [(0, zr w a0)] [] M (f_X9_beginWay a0 M) (fun q => q = r) := by
  have hC := hB.1.1
  have hq1 : 1 ≤ d := by omega
  unfold f_X9_beginWay
  refine x_aload_n hC dX9_beginWay_0 rfl 0 rfl ?_
  refine x_iconst (v := (0 : Int32)) hC dX9_beginWay_1 ki_0 ?_
  refine r_putI hB dX9_beginWay_2 kf_X9_31 rfl h0 ?_
  refine x_mem (fun M2 => ?_)
  refine x_aload_n hC dX9_beginWay_5 rfl 0 rfl ?_
  refine x_iconst (v := (0 : Int32)) hC dX9_beginWay_6 ki_0 ?_
  refine r_putI hB dX9_beginWay_7 kf_X9_34 rfl h0 ?_
  refine x_mem (fun M7 => ?_)
  exact r_retV hR dX9_beginWay_10 (fun h => h)
theorem f_X9_beginWay_met {l : Launch} {d : Nat} {g : zG} {w : zW} {M0 : zM} {a0 : Nat} {M : zM} (hw : wS w) (h0 : tO true 9 a0) (hd : 1 ≤ d) {M' : zM} (h : f_X9_beginWay a0 M = some M') : zMet l yX9_beginWay cX9_beginWay 1 none d g w (zin true) M0 [zr w a0] M none M' :=
  met_v (by decide +kernel) (Nat.le_of_ble_eq_true rfl) (fun C hB0 hR => f_X9_beginWay_ok ⟨hB0, hw⟩ h0 hd M hR _ h rfl)
/-! WindingSquare$Walker.at()I -/
def f_X9_at (a0 : Nat) (M : zM) : Int32 :=
  (((12 : Int32) * (M a0 3)) + (M a0 2))
set_option maxRecDepth 100000 in
theorem f_X9_at_ok {C : zC} {d : Nat} {g : zG} {l : Launch} {w : zW} {r : Int32} {a0 : Nat} (hB : bOK C cX9_at 1 RX9 d g l w true) (h0 : tO true 9 a0) (hd : 1 ≤ d) (M : zM) (hR : RtI C cX9_at w r M) : Sg C w (0, 0) 0 [(0, zr w a0)] [] M (some (f_X9_at a0 M)) (fun q => q = r) := by
  have hC := hB.1.1
  have hq1 : 1 ≤ d := by omega
  unfold f_X9_at
  refine x_bipush (v := (12 : Int32)) hC dX9_at_0 kb_12 ?_
  refine x_aload_n hC dX9_at_2 rfl 0 rfl ?_
  refine r_getI hB dX9_at_3 kf_X9_40 rfl h0 ?_
  refine x_imul hC dX9_at_6 ?_
  refine x_aload_n hC dX9_at_7 rfl 0 rfl ?_
  refine r_getI hB dX9_at_8 kf_X9_37 rfl h0 ?_
  refine x_iadd hC dX9_at_11 ?_
  exact r_retI hR dX9_at_12 (fun h => congrArg (fun q => (q, M)) h)
theorem f_X9_at_met {l : Launch} {d : Nat} {g : zG} {w : zW} {M0 : zM} {a0 : Nat} {M : zM} (hw : wS w) (h0 : tO true 9 a0) (hd : 1 ≤ d) : zMet l yX9_at cX9_at 1 (some .int) d g w (zin true) M0 [zr w a0] M (some (.int (f_X9_at a0 M))) M :=
  met_i (by decide +kernel) (Nat.le_of_ble_eq_true rfl) rfl (fun C hB0 hR => f_X9_at_ok ⟨hB0, hw⟩ h0 hd M hR _ rfl rfl)
/-! WindingSquare$Walker.stand(I)V -/
noncomputable def f_X9_stand (a0 : Nat) (p1 : Int32) (M : zM) : Option (zM) :=
  nm (mset M a0 2 (irem p1 (12 : Int32))) fun M5 =>
  nm (mset M5 a0 3 (p1 / (12 : Int32))) fun M13 =>
  some M13
set_option maxRecDepth 100000 in
theorem f_X9_stand_ok {C : zC} {d : Nat} {g : zG} {l : Launch} {w : zW} {r : zM} {a0 : Nat} {p1 : Int32} (hB : bOK C cX9_stand 2 RX9 d g l w true) (h0 : tO true 9 a0) (hd : 1 ≤ d) (M : zM) (hR : RtV C cX9_stand w r) : Sg C w (0, 0) 0 [(0, zr w a0), (1, .int p1)] [] M (f_X9_stand a0 p1 M) (fun q => q = r) := by
  have hC := hB.1.1
  have hq1 : 1 ≤ d := by omega
  unfold f_X9_stand
  refine x_aload_n hC dX9_stand_0 rfl 0 rfl ?_
  refine x_iload_n hC dX9_stand_1 rfl 1 rfl ?_
  refine x_bipush (v := (12 : Int32)) hC dX9_stand_2 kb_12 ?_
  refine x_irem0 hC dX9_stand_4 nz_12 ?_
  refine r_putI hB dX9_stand_5 kf_X9_37 rfl h0 ?_
  refine x_mem (fun M5 => ?_)
  refine x_aload_n hC dX9_stand_8 rfl 0 rfl ?_
  refine x_iload_n hC dX9_stand_9 rfl 1 rfl ?_
  refine x_bipush (v := (12 : Int32)) hC dX9_stand_10 kb_12 ?_
  refine x_idiv0 hC dX9_stand_12 nz_12 ?_
  refine r_putI hB dX9_stand_13 kf_X9_40 rfl h0 ?_
  refine x_mem (fun M13 => ?_)
  exact r_retV hR dX9_stand_16 (fun h => h)
theorem f_X9_stand_met {l : Launch} {d : Nat} {g : zG} {w : zW} {M0 : zM} {a0 : Nat} {p1 : Int32} {M : zM} (hw : wS w) (h0 : tO true 9 a0) (hd : 1 ≤ d) {M' : zM} (h : f_X9_stand a0 p1 M = some M') : zMet l yX9_stand cX9_stand 2 none d g w (zin true) M0 [zr w a0, .int p1] M none M' :=
  met_v (by decide +kernel) (Nat.le_of_ble_eq_true rfl) (fun C hB0 hR => f_X9_stand_ok ⟨hB0, hw⟩ h0 hd M hR _ h rfl)
/-! WindingSquare$Walker.face(I)V -/
noncomputable def j_X9_face_14 (a0 : Nat) (s1_14 : Int32) (s2_14 : Int32) (M : zM) : Option (zM) :=
  nm (mset M a0 4 ((s1_14 + s2_14) &&& (3 : Int32))) fun M17 =>
  some M17
set_option maxRecDepth 100000 in
theorem j_X9_face_14_ok {C : zC} {d : Nat} {g : zG} {l : Launch} {w : zW} {r : zM} {a0 : Nat} {s1_14 : Int32} {s2_14 : Int32} (hB : bOK C cX9_face 2 RX9 d g l w true) (h0 : tO true 9 a0) (hd : 1 ≤ d) (M : zM) (hR : RtV C cX9_face w r) : Sg C w (0, 0) 14 [] [.int s2_14, .int s1_14, zr w a0] M (j_X9_face_14 a0 s1_14 s2_14 M) (fun q => q = r) := by
  have hC := hB.1.1
  have hq1 : 1 ≤ d := by omega
  unfold j_X9_face_14
  refine x_iadd hC dX9_face_14 ?_
  refine x_iconst (v := (3 : Int32)) hC dX9_face_15 ki_3 ?_
  refine x_iand hC dX9_face_16 ?_
  refine r_putI hB dX9_face_17 kf_X9_43 rfl h0 ?_
  refine x_mem (fun M17 => ?_)
  exact r_retV hR dX9_face_20 (fun h => h)
noncomputable def f_X9_face (a0 : Nat) (p1 : Int32) (M : zM) : Option (zM) :=
  if p1 = 0 then (j_X9_face_14 a0 (M a0 4) (3 : Int32) M)
  else (j_X9_face_14 a0 (M a0 4) p1 M)
set_option maxRecDepth 100000 in
theorem f_X9_face_ok {C : zC} {d : Nat} {g : zG} {l : Launch} {w : zW} {r : zM} {a0 : Nat} {p1 : Int32} (hB : bOK C cX9_face 2 RX9 d g l w true) (h0 : tO true 9 a0) (hd : 1 ≤ d) (M : zM) (hR : RtV C cX9_face w r) : Sg C w (0, 0) 0 [(0, zr w a0), (1, .int p1)] [] M (f_X9_face a0 p1 M) (fun q => q = r) := by
  have hC := hB.1.1
  have hq1 : 1 ≤ d := by omega
  unfold f_X9_face
  refine x_aload_n hC dX9_face_0 rfl 0 rfl ?_
  refine x_aload_n hC dX9_face_1 rfl 0 rfl ?_
  refine r_getI hB dX9_face_2 kf_X9_43 rfl h0 ?_
  refine x_iload_n hC dX9_face_5 rfl 1 rfl ?_
  refine x_if_ne (tgt := 13) hC dX9_face_6 (by decide) ?_ ?_
  · refine x_iconst (v := (3 : Int32)) hC dX9_face_9 ki_3 ?_
    refine x_goto (tgt := 14) hC dX9_face_10 (by decide) ?_
    refine x_sub [] rfl ?_
    exact j_X9_face_14_ok hB h0 hd M hR
  · refine x_iload_n hC dX9_face_13 rfl 1 rfl ?_
    refine x_sub [] rfl ?_
    exact j_X9_face_14_ok hB h0 hd M hR
theorem f_X9_face_met {l : Launch} {d : Nat} {g : zG} {w : zW} {M0 : zM} {a0 : Nat} {p1 : Int32} {M : zM} (hw : wS w) (h0 : tO true 9 a0) (hd : 1 ≤ d) {M' : zM} (h : f_X9_face a0 p1 M = some M') : zMet l yX9_face cX9_face 2 none d g w (zin true) M0 [zr w a0, .int p1] M none M' :=
  met_v (by decide +kernel) (Nat.le_of_ble_eq_true rfl) (fun C hB0 hR => f_X9_face_ok ⟨hB0, hw⟩ h0 hd M hR _ h rfl)
/-! WindingSquare$Walker.copyFrom(LWindingSquare$Walker;)V -/
noncomputable def f_X9_copyFrom (a0 : Nat) (a1 : Nat) (M : zM) : Option (zM) :=
  nm (mset M a0 0 (M a1 0)) fun M5 =>
  grd (isB (M5 a1 1)) (
  nm (mset M5 a0 1 (M5 a1 1)) fun M13 =>
  nm (mset M13 a0 2 (M13 a1 2)) fun M21 =>
  nm (mset M21 a0 3 (M21 a1 3)) fun M29 =>
  nm (mset M29 a0 4 (M29 a1 4)) fun M37 =>
  nm (mset M37 a0 5 (M37 a1 5)) fun M45 =>
  nm (mset M45 a0 6 (M45 a1 6)) fun M53 =>
  nm (mset M53 a0 7 (M53 a1 7)) fun M61 =>
  nm (mset M61 a0 8 (M61 a1 8)) fun M69 =>
  nm (mset M69 a0 9 (M69 a1 9)) fun M77 =>
  nm (mset M77 a0 10 (M77 a1 10)) fun M85 =>
  nm (mset M85 a0 11 (M85 a1 11)) fun M93 =>
  nm (mset M93 a0 12 (M93 a1 12)) fun M101 =>
  some M101)
set_option maxRecDepth 100000 in
theorem f_X9_copyFrom_ok {C : zC} {d : Nat} {g : zG} {l : Launch} {w : zW} {r : zM} {a0 : Nat} {a1 : Nat} (hB : bOK C cX9_copyFrom 2 RX9 d g l w true) (h0 : tO true 9 a0) (h1 : tO true 9 a1) (hd : 1 ≤ d) (M : zM) (hR : RtV C cX9_copyFrom w r) : Sg C w (0, 0) 0 [(0, zr w a0), (1, zr w a1)] [] M (f_X9_copyFrom a0 a1 M) (fun q => q = r) := by
  have hC := hB.1.1
  have hq1 : 1 ≤ d := by omega
  unfold f_X9_copyFrom
  refine x_aload_n hC dX9_copyFrom_0 rfl 0 rfl ?_
  refine x_aload_n hC dX9_copyFrom_1 rfl 1 rfl ?_
  refine r_getI hB dX9_copyFrom_2 kf_X9_9 rfl h1 ?_
  refine r_putI hB dX9_copyFrom_5 kf_X9_9 rfl h0 ?_
  refine x_mem (fun M5 => ?_)
  refine x_aload_n hC dX9_copyFrom_8 rfl 0 rfl ?_
  refine x_aload_n hC dX9_copyFrom_9 rfl 1 rfl ?_
  refine r_getI hB dX9_copyFrom_10 kf_X9_15 rfl h1 ?_
  refine x_grd (fun hb => ?_)
  refine r_putZ hB dX9_copyFrom_13 kf_X9_15 rfl h0 hb ?_
  refine x_mem (fun M13 => ?_)
  refine x_aload_n hC dX9_copyFrom_16 rfl 0 rfl ?_
  refine x_aload_n hC dX9_copyFrom_17 rfl 1 rfl ?_
  refine r_getI hB dX9_copyFrom_18 kf_X9_37 rfl h1 ?_
  refine r_putI hB dX9_copyFrom_21 kf_X9_37 rfl h0 ?_
  refine x_mem (fun M21 => ?_)
  refine x_aload_n hC dX9_copyFrom_24 rfl 0 rfl ?_
  refine x_aload_n hC dX9_copyFrom_25 rfl 1 rfl ?_
  refine r_getI hB dX9_copyFrom_26 kf_X9_40 rfl h1 ?_
  refine r_putI hB dX9_copyFrom_29 kf_X9_40 rfl h0 ?_
  refine x_mem (fun M29 => ?_)
  refine x_aload_n hC dX9_copyFrom_32 rfl 0 rfl ?_
  refine x_aload_n hC dX9_copyFrom_33 rfl 1 rfl ?_
  refine r_getI hB dX9_copyFrom_34 kf_X9_43 rfl h1 ?_
  refine r_putI hB dX9_copyFrom_37 kf_X9_43 rfl h0 ?_
  refine x_mem (fun M37 => ?_)
  refine x_aload_n hC dX9_copyFrom_40 rfl 0 rfl ?_
  refine x_aload_n hC dX9_copyFrom_41 rfl 1 rfl ?_
  refine r_getI hB dX9_copyFrom_42 kf_X9_49 rfl h1 ?_
  refine r_putI hB dX9_copyFrom_45 kf_X9_49 rfl h0 ?_
  refine x_mem (fun M45 => ?_)
  refine x_aload_n hC dX9_copyFrom_48 rfl 0 rfl ?_
  refine x_aload_n hC dX9_copyFrom_49 rfl 1 rfl ?_
  refine r_getI hB dX9_copyFrom_50 kf_X9_52 rfl h1 ?_
  refine r_putI hB dX9_copyFrom_53 kf_X9_52 rfl h0 ?_
  refine x_mem (fun M53 => ?_)
  refine x_aload_n hC dX9_copyFrom_56 rfl 0 rfl ?_
  refine x_aload_n hC dX9_copyFrom_57 rfl 1 rfl ?_
  refine r_getI hB dX9_copyFrom_58 kf_X9_46 rfl h1 ?_
  refine r_putI hB dX9_copyFrom_61 kf_X9_46 rfl h0 ?_
  refine x_mem (fun M61 => ?_)
  refine x_aload_n hC dX9_copyFrom_64 rfl 0 rfl ?_
  refine x_aload_n hC dX9_copyFrom_65 rfl 1 rfl ?_
  refine r_getI hB dX9_copyFrom_66 kf_X9_31 rfl h1 ?_
  refine r_putI hB dX9_copyFrom_69 kf_X9_31 rfl h0 ?_
  refine x_mem (fun M69 => ?_)
  refine x_aload_n hC dX9_copyFrom_72 rfl 0 rfl ?_
  refine x_aload_n hC dX9_copyFrom_73 rfl 1 rfl ?_
  refine r_getI hB dX9_copyFrom_74 kf_X9_34 rfl h1 ?_
  refine r_putI hB dX9_copyFrom_77 kf_X9_34 rfl h0 ?_
  refine x_mem (fun M77 => ?_)
  refine x_aload_n hC dX9_copyFrom_80 rfl 0 rfl ?_
  refine x_aload_n hC dX9_copyFrom_81 rfl 1 rfl ?_
  refine r_getI hB dX9_copyFrom_82 kf_X9_19 rfl h1 ?_
  refine r_putI hB dX9_copyFrom_85 kf_X9_19 rfl h0 ?_
  refine x_mem (fun M85 => ?_)
  refine x_aload_n hC dX9_copyFrom_88 rfl 0 rfl ?_
  refine x_aload_n hC dX9_copyFrom_89 rfl 1 rfl ?_
  refine r_getI hB dX9_copyFrom_90 kf_X9_22 rfl h1 ?_
  refine r_putI hB dX9_copyFrom_93 kf_X9_22 rfl h0 ?_
  refine x_mem (fun M93 => ?_)
  refine x_aload_n hC dX9_copyFrom_96 rfl 0 rfl ?_
  refine x_aload_n hC dX9_copyFrom_97 rfl 1 rfl ?_
  refine r_getI hB dX9_copyFrom_98 kf_X9_25 rfl h1 ?_
  refine r_putI hB dX9_copyFrom_101 kf_X9_25 rfl h0 ?_
  refine x_mem (fun M101 => ?_)
  exact r_retV hR dX9_copyFrom_104 (fun h => h)
theorem f_X9_copyFrom_met {l : Launch} {d : Nat} {g : zG} {w : zW} {M0 : zM} {a0 : Nat} {a1 : Nat} {M : zM} (hw : wS w) (h0 : tO true 9 a0) (h1 : tO true 9 a1) (hd : 1 ≤ d) {M' : zM} (h : f_X9_copyFrom a0 a1 M = some M') : zMet l yX9_copyFrom cX9_copyFrom 2 none d g w (zin true) M0 [zr w a0, zr w a1] M none M' :=
  met_v (by decide +kernel) (Nat.le_of_ble_eq_true rfl) (fun C hB0 hR => f_X9_copyFrom_ok ⟨hB0, hw⟩ h0 h1 hd M hR _ h rfl)
/-! WindingSquare.end(I)Z -/
noncomputable def f_X10_end (p1 : Int32) (M : zM) : Option (Int32 × zM) :=
  if p1 < 0 then (some ((0 : Int32), M))
  else (if p1 ≤ (M 78 0) then (nm (mset M 78 0 p1) fun M22 =>
  some ((1 : Int32), M22))
  else (some ((0 : Int32), M)))
set_option maxRecDepth 100000 in
theorem f_X10_end_ok {C : zC} {d : Nat} {g : zG} {l : Launch} {w : zW} {r : Int32 × zM} {p1 : Int32} (hB : bOK C cX10_end 2 RX10 d g l w true) (hd : 1 ≤ d) (M : zM) (hR : RtZ C cX10_end w r.1 r.2) : Sg C w (0, 0) 0 [(0, zr w 0), (1, .int p1)] [] M (f_X10_end p1 M) (fun q => q = r) := by
  have hC := hB.1.1
  have hq1 : 1 ≤ d := by omega
  unfold f_X10_end
  refine x_iload_n hC dX10_end_0 rfl 1 rfl ?_
  refine x_if_lt (tgt := 15) hC dX10_end_1 (by decide) ?_ ?_
  · refine x_iconst (v := (0 : Int32)) hC dX10_end_15 ki_0 ?_
    exact r_retZ hR dX10_end_16 (Or.inl rfl) (fun h => h)
  · refine x_iload_n hC dX10_end_4 rfl 1 rfl ?_
    refine x_aload_n hC dX10_end_5 rfl 0 rfl ?_
    refine r_getR hB dX10_end_6 kf_X10_50 rfl th_0 rf_0_9 ?_
    refine r_getI hB dX10_end_9 kf_X10_160 rfl th_78 ?_
    refine x_icmp_le (tgt := 17) hC dX10_end_12 (by decide) ?_ ?_
    · refine x_aload_n hC dX10_end_17 rfl 0 rfl ?_
      refine r_getR hB dX10_end_18 kf_X10_50 rfl th_0 rf_0_9 ?_
      refine x_iload_n hC dX10_end_21 rfl 1 rfl ?_
      refine r_putI hB dX10_end_22 kf_X10_160 rfl th_78 ?_
      refine x_mem (fun M22 => ?_)
      refine x_iconst (v := (1 : Int32)) hC dX10_end_25 ki_1 ?_
      exact r_retZ hR dX10_end_26 (Or.inr rfl) (fun h => h)
    · refine x_iconst (v := (0 : Int32)) hC dX10_end_15 ki_0 ?_
      exact r_retZ hR dX10_end_16 (Or.inl rfl) (fun h => h)
theorem f_X10_end_met {l : Launch} {d : Nat} {g : zG} {w : zW} {M0 : zM} {p1 : Int32} {M : zM} (hw : wS w) (hd : 1 ≤ d) {v : Int32} {M' : zM} (h : f_X10_end p1 M = some (v, M')) : zMet l yX10_end cX10_end 2 (some .boolean) d g w (zin true) M0 [zr w 0, .int p1] M (some (.int v)) M' :=
  met_z (by decide +kernel) (Nat.le_of_ble_eq_true rfl) (fun C hB0 hR => f_X10_end_ok (r := (v, M')) ⟨hB0, hw⟩ hd M hR _ h rfl)
/-! WindingSquare.fault(I)I -/
def f_X10_fault (p1 : Int32) (M : zM) : Int32 :=
  if p1 = (0 : Int32) then ((M 78 1))
  else (if p1 = (1 : Int32) then ((M 78 2))
  else ((-1 : Int32)))
set_option maxRecDepth 100000 in
theorem f_X10_fault_ok {C : zC} {d : Nat} {g : zG} {l : Launch} {w : zW} {r : Int32} {p1 : Int32} (hB : bOK C cX10_fault 2 RX10 d g l w true) (hd : 1 ≤ d) (M : zM) (hR : RtI C cX10_fault w r M) : Sg C w (0, 0) 0 [(0, zr w 0), (1, .int p1)] [] M (some (f_X10_fault p1 M)) (fun q => q = r) := by
  have hC := hB.1.1
  have hq1 : 1 ≤ d := by omega
  unfold f_X10_fault
  refine x_iload_n hC dX10_fault_0 rfl 1 rfl ?_
  refine x_si ?_
  refine x_ite (fun hs => ?_) (fun hs0 => ?_)
  · refine x_lsw (tgt := 28) (off := 27) hC dX10_fault_1 (by decide +kernel) (by rw [hs]; decide +kernel) (by decide) ?_
    refine x_aload_n hC dX10_fault_28 rfl 0 rfl ?_
    refine r_getR hB dX10_fault_29 kf_X10_50 rfl th_0 rf_0_9 ?_
    refine r_getI hB dX10_fault_32 kf_X10_192 rfl th_78 ?_
    exact r_retI hR dX10_fault_35 (fun h => congrArg (fun q => (q, M)) h)
  · skip
    refine x_si ?_
    refine x_ite (fun hs => ?_) (fun hs1 => ?_)
    · refine x_lsw (tgt := 36) (off := 35) hC dX10_fault_1 (by decide +kernel) (by rw [hs]; decide +kernel) (by decide) ?_
      refine x_aload_n hC dX10_fault_36 rfl 0 rfl ?_
      refine r_getR hB dX10_fault_37 kf_X10_50 rfl th_0 rf_0_9 ?_
      refine r_getI hB dX10_fault_40 kf_X10_195 rfl th_78 ?_
      exact r_retI hR dX10_fault_43 (fun h => congrArg (fun q => (q, M)) h)
    · skip
      refine x_lsw (tgt := 44) (off := 43) hC dX10_fault_1 (by decide +kernel) (by have q0 := (x_ne (k := 0) hs0 (by decide)).symm; have q1 := (x_ne (k := 1) hs1 (by decide)).symm; simp [Op.lookupswitch.offset, *]; done) (by decide) ?_
      refine x_iconst (v := (-1 : Int32)) hC dX10_fault_44 ki_m1 ?_
      exact r_retI hR dX10_fault_45 (fun h => congrArg (fun q => (q, M)) h)
theorem f_X10_fault_met {l : Launch} {d : Nat} {g : zG} {w : zW} {M0 : zM} {p1 : Int32} {M : zM} (hw : wS w) (hd : 1 ≤ d) : zMet l yX10_fault cX10_fault 2 (some .int) d g w (zin true) M0 [zr w 0, .int p1] M (some (.int (f_X10_fault p1 M))) M :=
  met_i (by decide +kernel) (Nat.le_of_ble_eq_true rfl) rfl (fun C hB0 hR => f_X10_fault_ok ⟨hB0, hw⟩ hd M hR _ rfl rfl)
/-! WindingSquare.whereOf(LWindingSquare$Walker;I)I -/
def f_X10_whereOf (a0 : Nat) (p1 : Int32) (M : zM) : Int32 :=
  if p1 = (2 : Int32) then ((M a0 2))
  else (if p1 = (3 : Int32) then ((M a0 3))
  else (if p1 = (4 : Int32) then ((M a0 4))
  else (if p1 = (5 : Int32) then ((M a0 5))
  else (if p1 = (6 : Int32) then ((M a0 6))
  else ((M a0 7))))))
set_option maxRecDepth 100000 in
theorem f_X10_whereOf_ok {C : zC} {d : Nat} {g : zG} {l : Launch} {w : zW} {r : Int32} {a0 : Nat} {p1 : Int32} (hB : bOK C cX10_whereOf 2 RX10 d g l w true) (h0 : tO true 9 a0) (hd : 1 ≤ d) (M : zM) (hR : RtI C cX10_whereOf w r M) : Sg C w (0, 0) 0 [(0, zr w a0), (1, .int p1)] [] M (some (f_X10_whereOf a0 p1 M)) (fun q => q = r) := by
  have hC := hB.1.1
  have hq1 : 1 ≤ d := by omega
  unfold f_X10_whereOf
  refine x_iload_n hC dX10_whereOf_0 rfl 1 rfl ?_
  refine x_si ?_
  refine x_ite (fun hs => ?_) (fun hs2 => ?_)
  · refine x_tsI (tgt := 36) (off := 35) hC dX10_whereOf_1 (by rw [hs]; decide +kernel) (by rw [hs]; decide +kernel) (by rw [hs]; decide +kernel) (by decide) ?_
    refine x_aload_n hC dX10_whereOf_36 rfl 0 rfl ?_
    refine r_getI hB dX10_whereOf_37 kf_X10_379 rfl h0 ?_
    exact r_retI hR dX10_whereOf_40 (fun h => congrArg (fun q => (q, M)) h)
  · skip
    refine x_si ?_
    refine x_ite (fun hs => ?_) (fun hs3 => ?_)
    · refine x_tsI (tgt := 41) (off := 40) hC dX10_whereOf_1 (by rw [hs]; decide +kernel) (by rw [hs]; decide +kernel) (by rw [hs]; decide +kernel) (by decide) ?_
      refine x_aload_n hC dX10_whereOf_41 rfl 0 rfl ?_
      refine r_getI hB dX10_whereOf_42 kf_X10_382 rfl h0 ?_
      exact r_retI hR dX10_whereOf_45 (fun h => congrArg (fun q => (q, M)) h)
    · skip
      refine x_si ?_
      refine x_ite (fun hs => ?_) (fun hs4 => ?_)
      · refine x_tsI (tgt := 46) (off := 45) hC dX10_whereOf_1 (by rw [hs]; decide +kernel) (by rw [hs]; decide +kernel) (by rw [hs]; decide +kernel) (by decide) ?_
        refine x_aload_n hC dX10_whereOf_46 rfl 0 rfl ?_
        refine r_getI hB dX10_whereOf_47 kf_X10_385 rfl h0 ?_
        exact r_retI hR dX10_whereOf_50 (fun h => congrArg (fun q => (q, M)) h)
      · skip
        refine x_si ?_
        refine x_ite (fun hs => ?_) (fun hs5 => ?_)
        · refine x_tsI (tgt := 51) (off := 50) hC dX10_whereOf_1 (by rw [hs]; decide +kernel) (by rw [hs]; decide +kernel) (by rw [hs]; decide +kernel) (by decide) ?_
          refine x_aload_n hC dX10_whereOf_51 rfl 0 rfl ?_
          refine r_getI hB dX10_whereOf_52 kf_X10_388 rfl h0 ?_
          exact r_retI hR dX10_whereOf_55 (fun h => congrArg (fun q => (q, M)) h)
        · skip
          refine x_si ?_
          refine x_ite (fun hs => ?_) (fun hs6 => ?_)
          · refine x_tsI (tgt := 56) (off := 55) hC dX10_whereOf_1 (by rw [hs]; decide +kernel) (by rw [hs]; decide +kernel) (by rw [hs]; decide +kernel) (by decide) ?_
            refine x_aload_n hC dX10_whereOf_56 rfl 0 rfl ?_
            refine r_getI hB dX10_whereOf_57 kf_X10_391 rfl h0 ?_
            exact r_retI hR dX10_whereOf_60 (fun h => congrArg (fun q => (q, M)) h)
          · skip
            refine x_tsO (tgt := 61) hC dX10_whereOf_1 (by have q0 := x_ne (k := 2) hs2 (by decide); have q1 := x_ne (k := 3) hs3 (by decide); have q2 := x_ne (k := 4) hs4 (by decide); have q3 := x_ne (k := 5) hs5 (by decide); have q4 := x_ne (k := 6) hs6 (by decide); omega) (by decide) ?_
            refine x_aload_n hC dX10_whereOf_61 rfl 0 rfl ?_
            refine r_getI hB dX10_whereOf_62 kf_X10_394 rfl h0 ?_
            exact r_retI hR dX10_whereOf_65 (fun h => congrArg (fun q => (q, M)) h)
theorem f_X10_whereOf_met {l : Launch} {d : Nat} {g : zG} {w : zW} {M0 : zM} {a0 : Nat} {p1 : Int32} {M : zM} (hw : wS w) (h0 : tO true 9 a0) (hd : 1 ≤ d) : zMet l yX10_whereOf cX10_whereOf 2 (some .int) d g w (zin true) M0 [zr w a0, .int p1] M (some (.int (f_X10_whereOf a0 p1 M))) M :=
  met_i (by decide +kernel) (Nat.le_of_ble_eq_true rfl) rfl (fun C hB0 hR => f_X10_whereOf_ok ⟨hB0, hw⟩ h0 hd M hR _ rfl rfl)
/-! WindingSquare.inRow(I)Z -/
def f_X10_inRow (p0 : Int32) : Int32 :=
  if p0 < 0 then ((0 : Int32))
  else (if (12 : Int32) ≤ p0 then ((0 : Int32))
  else ((1 : Int32)))
set_option maxRecDepth 100000 in
theorem f_X10_inRow_ok {C : zC} {d : Nat} {g : zG} {l : Launch} {w : zW} {r : Int32} {p0 : Int32} (hB : bOK C cX10_inRow 1 RX10 d g l w true) (hd : 1 ≤ d) (M : zM) (hR : RtZ C cX10_inRow w r M) : Sg C w (0, 0) 0 [(0, .int p0)] [] M (some (f_X10_inRow p0)) (fun q => q = r) := by
  have hC := hB.1.1
  have hq1 : 1 ≤ d := by omega
  unfold f_X10_inRow
  refine x_iload_n hC dX10_inRow_0 rfl 0 rfl ?_
  refine x_si ?_
  refine x_if_lt (tgt := 14) hC dX10_inRow_1 (by decide) ?_ ?_
  · refine x_iconst (v := (0 : Int32)) hC dX10_inRow_14 ki_0 ?_
    exact r_retZ hR dX10_inRow_15 (Or.inl rfl) (fun h => congrArg (fun q => (q, M)) h)
  · refine x_iload_n hC dX10_inRow_4 rfl 0 rfl ?_
    refine x_bipush (v := (12 : Int32)) hC dX10_inRow_5 kb_12 ?_
    refine x_si ?_
    refine x_icmp_ge (tgt := 14) hC dX10_inRow_7 (by decide) ?_ ?_
    · refine x_iconst (v := (0 : Int32)) hC dX10_inRow_14 ki_0 ?_
      exact r_retZ hR dX10_inRow_15 (Or.inl rfl) (fun h => congrArg (fun q => (q, M)) h)
    · refine x_iconst (v := (1 : Int32)) hC dX10_inRow_10 ki_1 ?_
      refine x_goto (tgt := 15) hC dX10_inRow_11 (by decide) ?_
      exact r_retZ hR dX10_inRow_15 (Or.inr rfl) (fun h => congrArg (fun q => (q, M)) h)
theorem f_X10_inRow_met {l : Launch} {d : Nat} {g : zG} {w : zW} {M0 : zM} {p0 : Int32} {M : zM} (hw : wS w) (hd : 1 ≤ d) : zMet l yX10_inRow cX10_inRow 1 (some .boolean) d g w (zin true) M0 [.int p0] M (some (.int (f_X10_inRow p0))) M :=
  met_z (by decide +kernel) (Nat.le_of_ble_eq_true rfl) (fun C hB0 hR => f_X10_inRow_ok ⟨hB0, hw⟩ hd M hR _ rfl rfl)
/-! WindingSquare.isCell(I)Z -/
def f_X10_isCell (p0 : Int32) : Int32 :=
  if p0 < 0 then ((0 : Int32))
  else (if (144 : Int32) ≤ p0 then ((0 : Int32))
  else ((1 : Int32)))
set_option maxRecDepth 100000 in
theorem f_X10_isCell_ok {C : zC} {d : Nat} {g : zG} {l : Launch} {w : zW} {r : Int32} {p0 : Int32} (hB : bOK C cX10_isCell 1 RX10 d g l w true) (hd : 1 ≤ d) (M : zM) (hR : RtZ C cX10_isCell w r M) : Sg C w (0, 0) 0 [(0, .int p0)] [] M (some (f_X10_isCell p0)) (fun q => q = r) := by
  have hC := hB.1.1
  have hq1 : 1 ≤ d := by omega
  unfold f_X10_isCell
  refine x_iload_n hC dX10_isCell_0 rfl 0 rfl ?_
  refine x_si ?_
  refine x_if_lt (tgt := 15) hC dX10_isCell_1 (by decide) ?_ ?_
  · refine x_iconst (v := (0 : Int32)) hC dX10_isCell_15 ki_0 ?_
    exact r_retZ hR dX10_isCell_16 (Or.inl rfl) (fun h => congrArg (fun q => (q, M)) h)
  · refine x_iload_n hC dX10_isCell_4 rfl 0 rfl ?_
    refine x_sipush (v := (144 : Int32)) hC dX10_isCell_5 kh_144 ?_
    refine x_si ?_
    refine x_icmp_ge (tgt := 15) hC dX10_isCell_8 (by decide) ?_ ?_
    · refine x_iconst (v := (0 : Int32)) hC dX10_isCell_15 ki_0 ?_
      exact r_retZ hR dX10_isCell_16 (Or.inl rfl) (fun h => congrArg (fun q => (q, M)) h)
    · refine x_iconst (v := (1 : Int32)) hC dX10_isCell_11 ki_1 ?_
      refine x_goto (tgt := 16) hC dX10_isCell_12 (by decide) ?_
      exact r_retZ hR dX10_isCell_16 (Or.inr rfl) (fun h => congrArg (fun q => (q, M)) h)
theorem f_X10_isCell_met {l : Launch} {d : Nat} {g : zG} {w : zW} {M0 : zM} {p0 : Int32} {M : zM} (hw : wS w) (hd : 1 ≤ d) : zMet l yX10_isCell cX10_isCell 1 (some .boolean) d g w (zin true) M0 [.int p0] M (some (.int (f_X10_isCell p0))) M :=
  met_z (by decide +kernel) (Nat.le_of_ble_eq_true rfl) (fun C hB0 hR => f_X10_isCell_ok ⟨hB0, hw⟩ hd M hR _ rfl rfl)
/-! WindingSquare.entry(II)I -/
def f_X10_entry (p0 : Int32) (p1 : Int32) : Int32 :=
  if p0 = (0 : Int32) then (p1)
  else (if p0 = (1 : Int32) then (((12 : Int32) * p1))
  else (if p0 = (2 : Int32) then (((132 : Int32) + p1))
  else (((((12 : Int32) * p1) + (12 : Int32)) - (1 : Int32)))))
set_option maxRecDepth 100000 in
theorem f_X10_entry_ok {C : zC} {d : Nat} {g : zG} {l : Launch} {w : zW} {r : Int32} {p0 : Int32} {p1 : Int32} (hB : bOK C cX10_entry 2 RX10 d g l w true) (hd : 1 ≤ d) (M : zM) (hR : RtI C cX10_entry w r M) : Sg C w (0, 0) 0 [(0, .int p0), (1, .int p1)] [] M (some (f_X10_entry p0 p1)) (fun q => q = r) := by
  have hC := hB.1.1
  have hq1 : 1 ≤ d := by omega
  unfold f_X10_entry
  refine x_iload_n hC dX10_entry_0 rfl 0 rfl ?_
  refine x_si ?_
  refine x_ite (fun hs => ?_) (fun hs0 => ?_)
  · refine x_tsI (tgt := 28) (off := 27) hC dX10_entry_1 (by rw [hs]; decide +kernel) (by rw [hs]; decide +kernel) (by rw [hs]; decide +kernel) (by decide) ?_
    refine x_iload_n hC dX10_entry_28 rfl 1 rfl ?_
    exact r_retI hR dX10_entry_29 (fun h => congrArg (fun q => (q, M)) h)
  · skip
    refine x_si ?_
    refine x_ite (fun hs => ?_) (fun hs1 => ?_)
    · refine x_tsI (tgt := 30) (off := 29) hC dX10_entry_1 (by rw [hs]; decide +kernel) (by rw [hs]; decide +kernel) (by rw [hs]; decide +kernel) (by decide) ?_
      refine x_bipush (v := (12 : Int32)) hC dX10_entry_30 kb_12 ?_
      refine x_iload_n hC dX10_entry_32 rfl 1 rfl ?_
      refine x_imul hC dX10_entry_33 ?_
      exact r_retI hR dX10_entry_34 (fun h => congrArg (fun q => (q, M)) h)
    · skip
      refine x_si ?_
      refine x_ite (fun hs => ?_) (fun hs2 => ?_)
      · refine x_tsI (tgt := 35) (off := 34) hC dX10_entry_1 (by rw [hs]; decide +kernel) (by rw [hs]; decide +kernel) (by rw [hs]; decide +kernel) (by decide) ?_
        refine x_sipush (v := (132 : Int32)) hC dX10_entry_35 kh_132 ?_
        refine x_iload_n hC dX10_entry_38 rfl 1 rfl ?_
        refine x_iadd hC dX10_entry_39 ?_
        exact r_retI hR dX10_entry_40 (fun h => congrArg (fun q => (q, M)) h)
      · skip
        refine x_tsO (tgt := 41) hC dX10_entry_1 (by have q0 := x_ne (k := 0) hs0 (by decide); have q1 := x_ne (k := 1) hs1 (by decide); have q2 := x_ne (k := 2) hs2 (by decide); omega) (by decide) ?_
        refine x_bipush (v := (12 : Int32)) hC dX10_entry_41 kb_12 ?_
        refine x_iload_n hC dX10_entry_43 rfl 1 rfl ?_
        refine x_imul hC dX10_entry_44 ?_
        refine x_bipush (v := (12 : Int32)) hC dX10_entry_45 kb_12 ?_
        refine x_iadd hC dX10_entry_47 ?_
        refine x_iconst (v := (1 : Int32)) hC dX10_entry_48 ki_1 ?_
        refine x_isub hC dX10_entry_49 ?_
        exact r_retI hR dX10_entry_50 (fun h => congrArg (fun q => (q, M)) h)
theorem f_X10_entry_met {l : Launch} {d : Nat} {g : zG} {w : zW} {M0 : zM} {p0 : Int32} {p1 : Int32} {M : zM} (hw : wS w) (hd : 1 ≤ d) : zMet l yX10_entry cX10_entry 2 (some .int) d g w (zin true) M0 [.int p0, .int p1] M (some (.int (f_X10_entry p0 p1))) M :=
  met_i (by decide +kernel) (Nat.le_of_ble_eq_true rfl) rfl (fun C hB0 hR => f_X10_entry_ok ⟨hB0, hw⟩ hd M hR _ rfl rfl)
/-! WindingSquare.forget()V -/
noncomputable def f_X10_forget (M : zM) : Option (zM) :=
  nm (mset M 0 4 (0 : Int32)) fun M2 =>
  some M2
set_option maxRecDepth 100000 in
theorem f_X10_forget_ok {C : zC} {d : Nat} {g : zG} {l : Launch} {w : zW} {r : zM} (hB : bOK C cX10_forget 1 RX10 d g l w true) (hd : 1 ≤ d) (M : zM) (hR : RtV C cX10_forget w r) : Sg C w (0, 0) 0 [(0, zr w 0)] [] M (f_X10_forget M) (fun q => q = r) := by
  have hC := hB.1.1
  have hq1 : 1 ≤ d := by omega
  unfold f_X10_forget
  refine x_aload_n hC dX10_forget_0 rfl 0 rfl ?_
  refine x_iconst (v := (0 : Int32)) hC dX10_forget_1 ki_0 ?_
  refine r_putI hB dX10_forget_2 kf_X10_333 rfl th_0 ?_
  refine x_mem (fun M2 => ?_)
  exact r_retV hR dX10_forget_5 (fun h => h)
theorem f_X10_forget_met {l : Launch} {d : Nat} {g : zG} {w : zW} {M0 : zM} {M : zM} (hw : wS w) (hd : 1 ≤ d) {M' : zM} (h : f_X10_forget M = some M') : zMet l yX10_forget cX10_forget 1 none d g w (zin true) M0 [zr w 0] M none M' :=
  met_v (by decide +kernel) (Nat.le_of_ble_eq_true rfl) (fun C hB0 hR => f_X10_forget_ok ⟨hB0, hw⟩ hd M hR _ h rfl)
/-! WindingSquareModel.within(III)Z -/
def f_X11_within (p0 : Int32) (p1 : Int32) (p2 : Int32) : Int32 :=
  if p0 < p1 then ((0 : Int32))
  else (if p2 < p0 then ((0 : Int32))
  else ((1 : Int32)))
set_option maxRecDepth 100000 in
theorem f_X11_within_ok {C : zC} {d : Nat} {g : zG} {l : Launch} {w : zW} {r : Int32} {p0 : Int32} {p1 : Int32} {p2 : Int32} (hB : bOK C cX11_within 3 RX11 d g l w false) (hd : 1 ≤ d) (M : zM) (hR : RtZ C cX11_within w r M) : Sg C w (0, 0) 0 [(0, .int p0), (1, .int p1), (2, .int p2)] [] M (some (f_X11_within p0 p1 p2)) (fun q => q = r) := by
  have hC := hB.1.1
  have hq1 : 1 ≤ d := by omega
  unfold f_X11_within
  refine x_iload_n hC dX11_within_0 rfl 0 rfl ?_
  refine x_iload_n hC dX11_within_1 rfl 1 rfl ?_
  refine x_si ?_
  refine x_icmp_lt (tgt := 14) hC dX11_within_2 (by decide) ?_ ?_
  · refine x_iconst (v := (0 : Int32)) hC dX11_within_14 ki_0 ?_
    exact r_retZ hR dX11_within_15 (Or.inl rfl) (fun h => congrArg (fun q => (q, M)) h)
  · refine x_iload_n hC dX11_within_5 rfl 0 rfl ?_
    refine x_iload_n hC dX11_within_6 rfl 2 rfl ?_
    refine x_si ?_
    refine x_icmp_gt (tgt := 14) hC dX11_within_7 (by decide) ?_ ?_
    · refine x_iconst (v := (0 : Int32)) hC dX11_within_14 ki_0 ?_
      exact r_retZ hR dX11_within_15 (Or.inl rfl) (fun h => congrArg (fun q => (q, M)) h)
    · refine x_iconst (v := (1 : Int32)) hC dX11_within_10 ki_1 ?_
      refine x_goto (tgt := 15) hC dX11_within_11 (by decide) ?_
      exact r_retZ hR dX11_within_15 (Or.inr rfl) (fun h => congrArg (fun q => (q, M)) h)
theorem f_X11_within_met {l : Launch} {d : Nat} {g : zG} {w : zW} {M0 : zM} {p0 : Int32} {p1 : Int32} {p2 : Int32} {M : zM} (hw : wS w) (hd : 1 ≤ d) : zMet l yX11_within cX11_within 3 (some .boolean) d g w (zin false) M0 [.int p0, .int p1, .int p2] M (some (.int (f_X11_within p0 p1 p2))) M :=
  met_z (by decide +kernel) (Nat.le_of_ble_eq_true rfl) (fun C hB0 hR => f_X11_within_ok ⟨hB0, hw⟩ hd M hR _ rfl rfl)
/-! WindingSquareModel.copies([I[II)V -/
noncomputable def b_X11_copies_2 (a0 : Nat) (a1 : Nat) (v2_2 : Int32) (v3_2 : Int32) (M : zM) : Option ((Int32 × zM) ⊕ (zM)) :=
  if v2_2 ≤ v3_2 then (some (.inr M))
  else (grd (inb v3_2 (LN a0)) (
  grd (inb v3_2 (LN a1)) (
  nm (mset M a1 (ix v3_2) (M a0 (ix v3_2))) fun M12_2 =>
  some (.inl ((v3_2 + (1 : Int32)), M12_2)))))
set_option maxRecDepth 100000 in
theorem b_X11_copies_2_ok {C : zC} {d : Nat} {g : zG} {l : Launch} {w : zW} {r : zM} {a0 : Nat} {a1 : Nat} {v2_2 : Int32} {v3_2 : Int32} (hB : bOK C cX11_copies 4 RX11 d g l w false) (h0 : tI false a0) (h1 : tI false a1) (hd : 1 ≤ d) (M : zM) (hR : RtV C cX11_copies w r) : Sg C w (0, 0) 2 [(0, zr w a0), (1, zr w a1), (2, .int v2_2), (3, .int v3_2)] [] M (b_X11_copies_2 a0 a1 v2_2 v3_2 M) (fun o => Sum.elim (fun (s : (Int32 × zM)) => Zs C w (0, 0) 2 [(0, zr w a0), (1, zr w a1), (2, .int v2_2), (3, .int s.1)] [] s.2) (fun (s : (zM)) => Zs C w (0, 0) 19 [] [] s) o) := by
  have hC := hB.1.1
  have hq1 : 1 ≤ d := by omega
  unfold b_X11_copies_2
  refine x_iload_n hC dX11_copies_2 rfl 3 rfl ?_
  refine x_iload_n hC dX11_copies_3 rfl 2 rfl ?_
  refine x_icmp_ge (tgt := 19) hC dX11_copies_4 (by decide) ?_ ?_
  · refine x_sub [] rfl ?_
    exact x_done (fun h => h)
  · refine x_aload_n hC dX11_copies_7 rfl 1 rfl ?_
    refine x_iload_n hC dX11_copies_8 rfl 3 rfl ?_
    refine x_aload_n hC dX11_copies_9 rfl 0 rfl ?_
    refine x_iload_n hC dX11_copies_10 rfl 3 rfl ?_
    refine r_iald hB dX11_copies_11 (tI.of h0) ?_
    refine r_iast hB dX11_copies_12 (tI.of h1) ?_
    refine x_mem (fun M12_2 => ?_)
    refine x_iinc hC dX11_copies_13 ki_1 [(3, .int (v3_2 + (1 : Int32))), (0, zr w a0), (1, zr w a1), (2, .int v2_2)] 3 rfl (by decide) rfl ?_
    refine x_goto (tgt := 2) hC dX11_copies_16 (by decide) ?_
    refine x_sub [1, 2, 3, 0] rfl ?_
    exact x_done (fun h => h)
noncomputable def j_X11_copies_19 (a0 : Nat) (a1 : Nat) (M : zM) : Option (zM) :=
  some M
set_option maxRecDepth 100000 in
theorem j_X11_copies_19_ok {C : zC} {d : Nat} {g : zG} {l : Launch} {w : zW} {r : zM} {a0 : Nat} {a1 : Nat} (hB : bOK C cX11_copies 4 RX11 d g l w false) (h0 : tI false a0) (h1 : tI false a1) (hd : 1 ≤ d) (M : zM) (hR : RtV C cX11_copies w r) : Sg C w (0, 0) 19 [] [] M (j_X11_copies_19 a0 a1 M) (fun q => q = r) := by
  have hC := hB.1.1
  have hq1 : 1 ≤ d := by omega
  unfold j_X11_copies_19
  exact r_retV hR dX11_copies_19 (fun h => h)
noncomputable def f_X11_copies (a0 : Nat) (a1 : Nat) (p2 : Int32) (M : zM) : Option (zM) :=
  (loopW (fun s => b_X11_copies_2 a0 a1 p2 s.1 s.2) ((0 : Int32), M)).bind (fun r => j_X11_copies_19 a0 a1 r)
set_option maxRecDepth 100000 in
theorem f_X11_copies_ok {C : zC} {d : Nat} {g : zG} {l : Launch} {w : zW} {r : zM} {a0 : Nat} {a1 : Nat} {p2 : Int32} (hB : bOK C cX11_copies 4 RX11 d g l w false) (h0 : tI false a0) (h1 : tI false a1) (hd : 1 ≤ d) (M : zM) (hR : RtV C cX11_copies w r) : Sg C w (0, 0) 0 [(0, zr w a0), (1, zr w a1), (2, .int p2)] [] M (f_X11_copies a0 a1 p2 M) (fun q => q = r) := by
  have hC := hB.1.1
  have hq1 : 1 ≤ d := by omega
  unfold f_X11_copies
  refine x_iconst (v := (0 : Int32)) hC dX11_copies_0 ki_0 ?_
  refine x_istore_n hC dX11_copies_1 rfl [(3, .int (0 : Int32)), (0, zr w a0), (1, zr w a1), (2, .int p2)] (by decide) rfl ?_
  refine x_sub [1, 2, 3, 0] rfl ?_
  refine x_loopB (pc2 := 19) (fun (s : (Int32 × zM)) => [(0, zr w a0), (1, zr w a1), (2, .int p2), (3, .int s.1)]) (fun (s : (Int32 × zM)) => s.2) (fun (s : (zM)) => []) (fun (s : (zM)) => s) ((0 : Int32), M) ?_ ?_
  · exact fun s => b_X11_copies_2_ok hB h0 h1 hd s.2 hR
  · intro r9
    exact j_X11_copies_19_ok hB h0 h1 hd r9 hR
theorem f_X11_copies_met {l : Launch} {d : Nat} {g : zG} {w : zW} {M0 : zM} {a0 : Nat} {a1 : Nat} {p2 : Int32} {M : zM} (hw : wS w) (h0 : tI false a0) (h1 : tI false a1) (hd : 1 ≤ d) {M' : zM} (h : f_X11_copies a0 a1 p2 M = some M') : zMet l yX11_copies cX11_copies 4 none d g w (zin false) M0 [zr w a0, zr w a1, .int p2] M none M' :=
  met_v (by decide +kernel) (Nat.le_of_ble_eq_true rfl) (fun C hB0 hR => f_X11_copies_ok ⟨hB0, hw⟩ h0 h1 hd M hR _ h rfl)
/-! WindingSquareModel.keepsPast()V -/
noncomputable def b_X11_keepsPast_11 (v1_11 : Int32) (M : zM) : Option ((Int32 × zM) ⊕ (zM)) :=
  if (4700 : Int32) ≤ v1_11 then (some (.inr M))
  else (grd (inb (v1_11 + (940 : Int32)) 5640) (
  grd (inb v1_11 5640) (
  nm (mset M 261 (ix v1_11) (M 261 (ix (v1_11 + (940 : Int32))))) fun M33_11 =>
  some (.inl ((v1_11 + (1 : Int32)), M33_11)))))
set_option maxRecDepth 100000 in
theorem b_X11_keepsPast_11_ok {C : zC} {d : Nat} {g : zG} {l : Launch} {w : zW} {r : zM} {v1_11 : Int32} (hB : bOK C cX11_keepsPast 2 RX11 d g l w false) (hd : 1 ≤ d) (M : zM) (hR : RtV C cX11_keepsPast w r) : Sg C w (0, 0) 11 [(0, zr w 257), (1, .int v1_11)] [] M (b_X11_keepsPast_11 v1_11 M) (fun o => Sum.elim (fun (s : (Int32 × zM)) => Zs C w (0, 0) 11 [(0, zr w 257), (1, .int s.1)] [] s.2) (fun (s : (zM)) => Zs C w (0, 0) 40 [(0, zr w 257)] [] s) o) := by
  have hC := hB.1.1
  have hq1 : 1 ≤ d := by omega
  unfold b_X11_keepsPast_11
  refine x_iload_n hC dX11_keepsPast_11 rfl 1 rfl ?_
  refine x_sipush (v := (4700 : Int32)) hC dX11_keepsPast_12 kh_4700 ?_
  refine x_icmp_ge (tgt := 40) hC dX11_keepsPast_15 (by decide) ?_ ?_
  · refine x_sub [0] rfl ?_
    exact x_done (fun h => h)
  · refine x_aload_n hC dX11_keepsPast_18 rfl 0 rfl ?_
    refine r_getR hB dX11_keepsPast_19 kf_X11_19 rfl th_257 rf_257_3 ?_
    refine x_iload_n hC dX11_keepsPast_22 rfl 1 rfl ?_
    refine x_aload_n hC dX11_keepsPast_23 rfl 0 rfl ?_
    refine r_getR hB dX11_keepsPast_24 kf_X11_19 rfl th_257 rf_257_3 ?_
    refine x_iload_n hC dX11_keepsPast_27 rfl 1 rfl ?_
    refine x_sipush (v := (940 : Int32)) hC dX11_keepsPast_28 kh_940 ?_
    refine x_iadd hC dX11_keepsPast_31 ?_
    refine r_iald hB dX11_keepsPast_32 th_261 ?_
    refine r_iast hB dX11_keepsPast_33 th_261 ?_
    refine x_mem (fun M33_11 => ?_)
    refine x_iinc hC dX11_keepsPast_34 ki_1 [(1, .int (v1_11 + (1 : Int32))), (0, zr w 257)] 1 rfl (by decide) rfl ?_
    refine x_goto (tgt := 11) hC dX11_keepsPast_37 (by decide) ?_
    refine x_sub [1, 0] rfl ?_
    exact x_done (fun h => h)
noncomputable def b_X11_keepsPast_56 (v1_56 : Int32) (M : zM) : Option ((Int32 × zM) ⊕ (zM)) :=
  if (940 : Int32) ≤ v1_56 then (some (.inr M))
  else (grd (inb v1_56 2425) (
  grd (inb (((940 : Int32) * (M 257 4)) + v1_56) 5640) (
  nm (mset M 261 (ix (((940 : Int32) * (M 257 4)) + v1_56)) (M 258 (ix v1_56))) fun M83_56 =>
  some (.inl ((v1_56 + (1 : Int32)), M83_56)))))
set_option maxRecDepth 100000 in
theorem b_X11_keepsPast_56_ok {C : zC} {d : Nat} {g : zG} {l : Launch} {w : zW} {r : zM} {v1_56 : Int32} (hB : bOK C cX11_keepsPast 2 RX11 d g l w false) (hd : 1 ≤ d) (M : zM) (hR : RtV C cX11_keepsPast w r) : Sg C w (0, 0) 56 [(0, zr w 257), (1, .int v1_56)] [] M (b_X11_keepsPast_56 v1_56 M) (fun o => Sum.elim (fun (s : (Int32 × zM)) => Zs C w (0, 0) 56 [(0, zr w 257), (1, .int s.1)] [] s.2) (fun (s : (zM)) => Zs C w (0, 0) 90 [(0, zr w 257)] [] s) o) := by
  have hC := hB.1.1
  have hq1 : 1 ≤ d := by omega
  unfold b_X11_keepsPast_56
  refine x_iload_n hC dX11_keepsPast_56 rfl 1 rfl ?_
  refine x_sipush (v := (940 : Int32)) hC dX11_keepsPast_57 kh_940 ?_
  refine x_icmp_ge (tgt := 90) hC dX11_keepsPast_60 (by decide) ?_ ?_
  · refine x_sub [0] rfl ?_
    exact x_done (fun h => h)
  · refine x_aload_n hC dX11_keepsPast_63 rfl 0 rfl ?_
    refine r_getR hB dX11_keepsPast_64 kf_X11_19 rfl th_257 rf_257_3 ?_
    refine x_sipush (v := (940 : Int32)) hC dX11_keepsPast_67 kh_940 ?_
    refine x_aload_n hC dX11_keepsPast_70 rfl 0 rfl ?_
    refine r_getI hB dX11_keepsPast_71 kf_X11_94 rfl th_257 ?_
    refine x_imul hC dX11_keepsPast_74 ?_
    refine x_iload_n hC dX11_keepsPast_75 rfl 1 rfl ?_
    refine x_iadd hC dX11_keepsPast_76 ?_
    refine x_aload_n hC dX11_keepsPast_77 rfl 0 rfl ?_
    refine r_getR hB dX11_keepsPast_78 kf_X11_9 rfl th_257 rf_257_0 ?_
    refine x_iload_n hC dX11_keepsPast_81 rfl 1 rfl ?_
    refine r_iald hB dX11_keepsPast_82 th_258 ?_
    refine r_iast hB dX11_keepsPast_83 th_261 ?_
    refine x_mem (fun M83_56 => ?_)
    refine x_iinc hC dX11_keepsPast_84 ki_1 [(1, .int (v1_56 + (1 : Int32))), (0, zr w 257)] 1 rfl (by decide) rfl ?_
    refine x_goto (tgt := 56) hC dX11_keepsPast_87 (by decide) ?_
    refine x_sub [1, 0] rfl ?_
    exact x_done (fun h => h)
noncomputable def j_X11_keepsPast_90 (M : zM) : Option (zM) :=
  nm (mset M 257 4 ((M 257 4) + (1 : Int32))) fun M97 =>
  some M97
set_option maxRecDepth 100000 in
theorem j_X11_keepsPast_90_ok {C : zC} {d : Nat} {g : zG} {l : Launch} {w : zW} {r : zM} (hB : bOK C cX11_keepsPast 2 RX11 d g l w false) (hd : 1 ≤ d) (M : zM) (hR : RtV C cX11_keepsPast w r) : Sg C w (0, 0) 90 [(0, zr w 257)] [] M (j_X11_keepsPast_90 M) (fun q => q = r) := by
  have hC := hB.1.1
  have hq1 : 1 ≤ d := by omega
  unfold j_X11_keepsPast_90
  refine x_aload_n hC dX11_keepsPast_90 rfl 0 rfl ?_
  refine x_dup hC dX11_keepsPast_91 rfl ?_
  refine r_getI hB dX11_keepsPast_92 kf_X11_94 rfl th_257 ?_
  refine x_iconst (v := (1 : Int32)) hC dX11_keepsPast_95 ki_1 ?_
  refine x_iadd hC dX11_keepsPast_96 ?_
  refine r_putI hB dX11_keepsPast_97 kf_X11_94 rfl th_257 ?_
  refine x_mem (fun M97 => ?_)
  exact r_retV hR dX11_keepsPast_100 (fun h => h)
noncomputable def j_X11_keepsPast_54 (M : zM) : Option (zM) :=
  (loopW (fun s => b_X11_keepsPast_56 s.1 s.2) ((0 : Int32), M)).bind (fun r => j_X11_keepsPast_90 r)
set_option maxRecDepth 100000 in
theorem j_X11_keepsPast_54_ok {C : zC} {d : Nat} {g : zG} {l : Launch} {w : zW} {r : zM} (hB : bOK C cX11_keepsPast 2 RX11 d g l w false) (hd : 1 ≤ d) (M : zM) (hR : RtV C cX11_keepsPast w r) : Sg C w (0, 0) 54 [(0, zr w 257)] [] M (j_X11_keepsPast_54 M) (fun q => q = r) := by
  have hC := hB.1.1
  have hq1 : 1 ≤ d := by omega
  unfold j_X11_keepsPast_54
  refine x_iconst (v := (0 : Int32)) hC dX11_keepsPast_54 ki_0 ?_
  refine x_istore_n hC dX11_keepsPast_55 rfl [(1, .int (0 : Int32)), (0, zr w 257)] (by decide) rfl ?_
  refine x_sub [1, 0] rfl ?_
  refine x_loopB (pc2 := 90) (fun (s : (Int32 × zM)) => [(0, zr w 257), (1, .int s.1)]) (fun (s : (Int32 × zM)) => s.2) (fun (s : (zM)) => [(0, zr w 257)]) (fun (s : (zM)) => s) ((0 : Int32), M) ?_ ?_
  · exact fun s => b_X11_keepsPast_56_ok hB hd s.2 hR
  · intro r9
    exact j_X11_keepsPast_90_ok hB hd r9 hR
noncomputable def j_X11_keepsPast_40 (M : zM) : Option (zM) :=
  if (M 257 4) = (6 : Int32) then (nm (mset M 257 4 (5 : Int32)) fun M51 =>
  j_X11_keepsPast_54 M51)
  else (j_X11_keepsPast_54 M)
set_option maxRecDepth 100000 in
theorem j_X11_keepsPast_40_ok {C : zC} {d : Nat} {g : zG} {l : Launch} {w : zW} {r : zM} (hB : bOK C cX11_keepsPast 2 RX11 d g l w false) (hd : 1 ≤ d) (M : zM) (hR : RtV C cX11_keepsPast w r) : Sg C w (0, 0) 40 [(0, zr w 257)] [] M (j_X11_keepsPast_40 M) (fun q => q = r) := by
  have hC := hB.1.1
  have hq1 : 1 ≤ d := by omega
  unfold j_X11_keepsPast_40
  refine x_aload_n hC dX11_keepsPast_40 rfl 0 rfl ?_
  refine r_getI hB dX11_keepsPast_41 kf_X11_94 rfl th_257 ?_
  refine x_bipush (v := (6 : Int32)) hC dX11_keepsPast_44 kb_6 ?_
  refine x_icmp_ne (tgt := 54) hC dX11_keepsPast_46 (by decide) ?_ ?_
  · refine x_aload_n hC dX11_keepsPast_49 rfl 0 rfl ?_
    refine x_iconst (v := (5 : Int32)) hC dX11_keepsPast_50 ki_5 ?_
    refine r_putI hB dX11_keepsPast_51 kf_X11_94 rfl th_257 ?_
    refine x_mem (fun M51 => ?_)
    exact j_X11_keepsPast_54_ok hB hd M51 hR
  · exact j_X11_keepsPast_54_ok hB hd M hR
noncomputable def f_X11_keepsPast (M : zM) : Option (zM) :=
  if (M 257 4) = (6 : Int32) then ((loopW (fun s => b_X11_keepsPast_11 s.1 s.2) ((0 : Int32), M)).bind (fun r => j_X11_keepsPast_40 r))
  else (j_X11_keepsPast_40 M)
set_option maxRecDepth 100000 in
theorem f_X11_keepsPast_ok {C : zC} {d : Nat} {g : zG} {l : Launch} {w : zW} {r : zM} (hB : bOK C cX11_keepsPast 2 RX11 d g l w false) (hd : 1 ≤ d) (M : zM) (hR : RtV C cX11_keepsPast w r) : Sg C w (0, 0) 0 [(0, zr w 257)] [] M (f_X11_keepsPast M) (fun q => q = r) := by
  have hC := hB.1.1
  have hq1 : 1 ≤ d := by omega
  unfold f_X11_keepsPast
  refine x_aload_n hC dX11_keepsPast_0 rfl 0 rfl ?_
  refine r_getI hB dX11_keepsPast_1 kf_X11_94 rfl th_257 ?_
  refine x_bipush (v := (6 : Int32)) hC dX11_keepsPast_4 kb_6 ?_
  refine x_icmp_ne (tgt := 40) hC dX11_keepsPast_6 (by decide) ?_ ?_
  · refine x_iconst (v := (0 : Int32)) hC dX11_keepsPast_9 ki_0 ?_
    refine x_istore_n hC dX11_keepsPast_10 rfl [(1, .int (0 : Int32)), (0, zr w 257)] (by decide) rfl ?_
    refine x_sub [1, 0] rfl ?_
    refine x_loopB (pc2 := 40) (fun (s : (Int32 × zM)) => [(0, zr w 257), (1, .int s.1)]) (fun (s : (Int32 × zM)) => s.2) (fun (s : (zM)) => [(0, zr w 257)]) (fun (s : (zM)) => s) ((0 : Int32), M) ?_ ?_
    · exact fun s => b_X11_keepsPast_11_ok hB hd s.2 hR
    · intro r9
      exact j_X11_keepsPast_40_ok hB hd r9 hR
  · exact j_X11_keepsPast_40_ok hB hd M hR
theorem f_X11_keepsPast_met {l : Launch} {d : Nat} {g : zG} {w : zW} {M0 : zM} {M : zM} (hw : wS w) (hd : 1 ≤ d) {M' : zM} (h : f_X11_keepsPast M = some M') : zMet l yX11_keepsPast cX11_keepsPast 2 none d g w (zin false) M0 [zr w 257] M none M' :=
  met_v (by decide +kernel) (Nat.le_of_ble_eq_true rfl) (fun C hB0 hR => f_X11_keepsPast_ok ⟨hB0, hw⟩ hd M hR _ h rfl)
/-! WindingSquareModel.place(II)I -/
def f_X11_place (p0 : Int32) (p1 : Int32) : Int32 :=
  (((12 : Int32) * p1) + p0)
set_option maxRecDepth 100000 in
theorem f_X11_place_ok {C : zC} {d : Nat} {g : zG} {l : Launch} {w : zW} {r : Int32} {p0 : Int32} {p1 : Int32} (hB : bOK C cX11_place 2 RX11 d g l w false) (hd : 1 ≤ d) (M : zM) (hR : RtI C cX11_place w r M) : Sg C w (0, 0) 0 [(0, .int p0), (1, .int p1)] [] M (some (f_X11_place p0 p1)) (fun q => q = r) := by
  have hC := hB.1.1
  have hq1 : 1 ≤ d := by omega
  unfold f_X11_place
  refine x_bipush (v := (12 : Int32)) hC dX11_place_0 kb_12 ?_
  refine x_iload_n hC dX11_place_2 rfl 1 rfl ?_
  refine x_imul hC dX11_place_3 ?_
  refine x_iload_n hC dX11_place_4 rfl 0 rfl ?_
  refine x_iadd hC dX11_place_5 ?_
  exact r_retI hR dX11_place_6 (fun h => congrArg (fun q => (q, M)) h)
theorem f_X11_place_met {l : Launch} {d : Nat} {g : zG} {w : zW} {M0 : zM} {p0 : Int32} {p1 : Int32} {M : zM} (hw : wS w) (hd : 1 ≤ d) : zMet l yX11_place cX11_place 2 (some .int) d g w (zin false) M0 [.int p0, .int p1] M (some (.int (f_X11_place p0 p1))) M :=
  met_i (by decide +kernel) (Nat.le_of_ble_eq_true rfl) rfl (fun C hB0 hR => f_X11_place_ok ⟨hB0, hw⟩ hd M hR _ rfl rfl)
/-! WindingSquareModel.goesX(I)I -/
def f_X11_goesX (p0 : Int32) : Int32 :=
  if p0 = (1 : Int32) then ((1 : Int32))
  else (if p0 = (3 : Int32) then ((-1 : Int32))
  else ((0 : Int32)))
set_option maxRecDepth 100000 in
theorem f_X11_goesX_ok {C : zC} {d : Nat} {g : zG} {l : Launch} {w : zW} {r : Int32} {p0 : Int32} (hB : bOK C cX11_goesX 1 RX11 d g l w false) (hd : 1 ≤ d) (M : zM) (hR : RtI C cX11_goesX w r M) : Sg C w (0, 0) 0 [(0, .int p0)] [] M (some (f_X11_goesX p0)) (fun q => q = r) := by
  have hC := hB.1.1
  have hq1 : 1 ≤ d := by omega
  unfold f_X11_goesX
  refine x_iload_n hC dX11_goesX_0 rfl 0 rfl ?_
  refine x_iconst (v := (1 : Int32)) hC dX11_goesX_1 ki_1 ?_
  refine x_si ?_
  refine x_icmp_ne (tgt := 9) hC dX11_goesX_2 (by decide) ?_ ?_
  · refine x_iconst (v := (1 : Int32)) hC dX11_goesX_5 ki_1 ?_
    refine x_goto (tgt := 19) hC dX11_goesX_6 (by decide) ?_
    exact r_retI hR dX11_goesX_19 (fun h => congrArg (fun q => (q, M)) h)
  · refine x_iload_n hC dX11_goesX_9 rfl 0 rfl ?_
    refine x_iconst (v := (3 : Int32)) hC dX11_goesX_10 ki_3 ?_
    refine x_si ?_
    refine x_icmp_ne (tgt := 18) hC dX11_goesX_11 (by decide) ?_ ?_
    · refine x_iconst (v := (-1 : Int32)) hC dX11_goesX_14 ki_m1 ?_
      refine x_goto (tgt := 19) hC dX11_goesX_15 (by decide) ?_
      exact r_retI hR dX11_goesX_19 (fun h => congrArg (fun q => (q, M)) h)
    · refine x_iconst (v := (0 : Int32)) hC dX11_goesX_18 ki_0 ?_
      exact r_retI hR dX11_goesX_19 (fun h => congrArg (fun q => (q, M)) h)
theorem f_X11_goesX_met {l : Launch} {d : Nat} {g : zG} {w : zW} {M0 : zM} {p0 : Int32} {M : zM} (hw : wS w) (hd : 1 ≤ d) : zMet l yX11_goesX cX11_goesX 1 (some .int) d g w (zin false) M0 [.int p0] M (some (.int (f_X11_goesX p0))) M :=
  met_i (by decide +kernel) (Nat.le_of_ble_eq_true rfl) rfl (fun C hB0 hR => f_X11_goesX_ok ⟨hB0, hw⟩ hd M hR _ rfl rfl)
/-! WindingSquareModel.goesY(I)I -/
def f_X11_goesY (p0 : Int32) : Int32 :=
  if p0 = 0 then ((1 : Int32))
  else (if p0 = (2 : Int32) then ((-1 : Int32))
  else ((0 : Int32)))
set_option maxRecDepth 100000 in
theorem f_X11_goesY_ok {C : zC} {d : Nat} {g : zG} {l : Launch} {w : zW} {r : Int32} {p0 : Int32} (hB : bOK C cX11_goesY 1 RX11 d g l w false) (hd : 1 ≤ d) (M : zM) (hR : RtI C cX11_goesY w r M) : Sg C w (0, 0) 0 [(0, .int p0)] [] M (some (f_X11_goesY p0)) (fun q => q = r) := by
  have hC := hB.1.1
  have hq1 : 1 ≤ d := by omega
  unfold f_X11_goesY
  refine x_iload_n hC dX11_goesY_0 rfl 0 rfl ?_
  refine x_si ?_
  refine x_if_ne (tgt := 8) hC dX11_goesY_1 (by decide) ?_ ?_
  · refine x_iconst (v := (1 : Int32)) hC dX11_goesY_4 ki_1 ?_
    refine x_goto (tgt := 18) hC dX11_goesY_5 (by decide) ?_
    exact r_retI hR dX11_goesY_18 (fun h => congrArg (fun q => (q, M)) h)
  · refine x_iload_n hC dX11_goesY_8 rfl 0 rfl ?_
    refine x_iconst (v := (2 : Int32)) hC dX11_goesY_9 ki_2 ?_
    refine x_si ?_
    refine x_icmp_ne (tgt := 17) hC dX11_goesY_10 (by decide) ?_ ?_
    · refine x_iconst (v := (-1 : Int32)) hC dX11_goesY_13 ki_m1 ?_
      refine x_goto (tgt := 18) hC dX11_goesY_14 (by decide) ?_
      exact r_retI hR dX11_goesY_18 (fun h => congrArg (fun q => (q, M)) h)
    · refine x_iconst (v := (0 : Int32)) hC dX11_goesY_17 ki_0 ?_
      exact r_retI hR dX11_goesY_18 (fun h => congrArg (fun q => (q, M)) h)
theorem f_X11_goesY_met {l : Launch} {d : Nat} {g : zG} {w : zW} {M0 : zM} {p0 : Int32} {M : zM} (hw : wS w) (hd : 1 ≤ d) : zMet l yX11_goesY cX11_goesY 1 (some .int) d g w (zin false) M0 [.int p0] M (some (.int (f_X11_goesY p0))) M :=
  met_i (by decide +kernel) (Nat.le_of_ble_eq_true rfl) rfl (fun C hB0 hR => f_X11_goesY_ok ⟨hB0, hw⟩ hd M hR _ rfl rfl)
/-! WindingSquareModel.has(II)I -/
noncomputable def f_X11_has (p1 : Int32) (p2 : Int32) (M : zM) : Option (Int32) :=
  grd (inb (((144 : Int32) + ((12 : Int32) * p1)) + p2) 2425) (
  some (M 259 (ix (((144 : Int32) + ((12 : Int32) * p1)) + p2))))
set_option maxRecDepth 100000 in
theorem f_X11_has_ok {C : zC} {d : Nat} {g : zG} {l : Launch} {w : zW} {r : Int32} {p1 : Int32} {p2 : Int32} (hB : bOK C cX11_has 3 RX11 d g l w false) (hd : 1 ≤ d) (M : zM) (hR : RtI C cX11_has w r M) : Sg C w (0, 0) 0 [(0, zr w 257), (1, .int p1), (2, .int p2)] [] M (f_X11_has p1 p2 M) (fun q => q = r) := by
  have hC := hB.1.1
  have hq1 : 1 ≤ d := by omega
  unfold f_X11_has
  refine x_aload_n hC dX11_has_0 rfl 0 rfl ?_
  refine r_getR hB dX11_has_1 kf_X11_13 rfl th_257 rf_257_1 ?_
  refine x_sipush (v := (144 : Int32)) hC dX11_has_4 kh_144 ?_
  refine x_bipush (v := (12 : Int32)) hC dX11_has_7 kb_12 ?_
  refine x_iload_n hC dX11_has_9 rfl 1 rfl ?_
  refine x_imul hC dX11_has_10 ?_
  refine x_iadd hC dX11_has_11 ?_
  refine x_iload_n hC dX11_has_12 rfl 2 rfl ?_
  refine x_iadd hC dX11_has_13 ?_
  refine r_iald hB dX11_has_14 th_259 ?_
  exact r_retI hR dX11_has_15 (fun h => congrArg (fun q => (q, M)) h)
theorem f_X11_has_met {l : Launch} {d : Nat} {g : zG} {w : zW} {M0 : zM} {p1 : Int32} {p2 : Int32} {M : zM} (hw : wS w) (hd : 1 ≤ d) {v : Int32} (h : f_X11_has p1 p2 M = some v) : zMet l yX11_has cX11_has 3 (some .int) d g w (zin false) M0 [zr w 257, .int p1, .int p2] M (some (.int v)) M :=
  met_i (by decide +kernel) (Nat.le_of_ble_eq_true rfl) rfl (fun C hB0 hR => f_X11_has_ok ⟨hB0, hw⟩ hd M hR _ h rfl)
/-! WindingSquareModel.sets(III)V -/
noncomputable def f_X11_sets (p1 : Int32) (p2 : Int32) (p3 : Int32) (M : zM) : Option (zM) :=
  grd (inb (((144 : Int32) + ((12 : Int32) * p1)) + p2) 2425) (
  nm (mset M 259 (ix (((144 : Int32) + ((12 : Int32) * p1)) + p2)) p3) fun M15 =>
  some M15)
set_option maxRecDepth 100000 in
theorem f_X11_sets_ok {C : zC} {d : Nat} {g : zG} {l : Launch} {w : zW} {r : zM} {p1 : Int32} {p2 : Int32} {p3 : Int32} (hB : bOK C cX11_sets 4 RX11 d g l w false) (hd : 1 ≤ d) (M : zM) (hR : RtV C cX11_sets w r) : Sg C w (0, 0) 0 [(0, zr w 257), (1, .int p1), (2, .int p2), (3, .int p3)] [] M (f_X11_sets p1 p2 p3 M) (fun q => q = r) := by
  have hC := hB.1.1
  have hq1 : 1 ≤ d := by omega
  unfold f_X11_sets
  refine x_aload_n hC dX11_sets_0 rfl 0 rfl ?_
  refine r_getR hB dX11_sets_1 kf_X11_13 rfl th_257 rf_257_1 ?_
  refine x_sipush (v := (144 : Int32)) hC dX11_sets_4 kh_144 ?_
  refine x_bipush (v := (12 : Int32)) hC dX11_sets_7 kb_12 ?_
  refine x_iload_n hC dX11_sets_9 rfl 1 rfl ?_
  refine x_imul hC dX11_sets_10 ?_
  refine x_iadd hC dX11_sets_11 ?_
  refine x_iload_n hC dX11_sets_12 rfl 2 rfl ?_
  refine x_iadd hC dX11_sets_13 ?_
  refine x_iload_n hC dX11_sets_14 rfl 3 rfl ?_
  refine r_iast hB dX11_sets_15 th_259 ?_
  refine x_mem (fun M15 => ?_)
  exact r_retV hR dX11_sets_16 (fun h => h)
theorem f_X11_sets_met {l : Launch} {d : Nat} {g : zG} {w : zW} {M0 : zM} {p1 : Int32} {p2 : Int32} {p3 : Int32} {M : zM} (hw : wS w) (hd : 1 ≤ d) {M' : zM} (h : f_X11_sets p1 p2 p3 M = some M') : zMet l yX11_sets cX11_sets 4 none d g w (zin false) M0 [zr w 257, .int p1, .int p2, .int p3] M none M' :=
  met_v (by decide +kernel) (Nat.le_of_ble_eq_true rfl) (fun C hB0 hR => f_X11_sets_ok ⟨hB0, hw⟩ hd M hR _ h rfl)
/-! WindingSquareModel.adds(III)V -/
noncomputable def f_X11_adds (p1 : Int32) (p2 : Int32) (p3 : Int32) (M : zM) : Option (zM) :=
  grd (inb (((144 : Int32) + ((12 : Int32) * p1)) + p2) 2425) (
  grd (inb (((144 : Int32) + ((12 : Int32) * p1)) + p2) 2425) (
  nm (mset M 259 (ix (((144 : Int32) + ((12 : Int32) * p1)) + p2)) ((M 259 (ix (((144 : Int32) + ((12 : Int32) * p1)) + p2))) + p3)) fun M18 =>
  some M18))
set_option maxRecDepth 100000 in
theorem f_X11_adds_ok {C : zC} {d : Nat} {g : zG} {l : Launch} {w : zW} {r : zM} {p1 : Int32} {p2 : Int32} {p3 : Int32} (hB : bOK C cX11_adds 4 RX11 d g l w false) (hd : 1 ≤ d) (M : zM) (hR : RtV C cX11_adds w r) : Sg C w (0, 0) 0 [(0, zr w 257), (1, .int p1), (2, .int p2), (3, .int p3)] [] M (f_X11_adds p1 p2 p3 M) (fun q => q = r) := by
  have hC := hB.1.1
  have hq1 : 1 ≤ d := by omega
  unfold f_X11_adds
  refine x_aload_n hC dX11_adds_0 rfl 0 rfl ?_
  refine r_getR hB dX11_adds_1 kf_X11_13 rfl th_257 rf_257_1 ?_
  refine x_sipush (v := (144 : Int32)) hC dX11_adds_4 kh_144 ?_
  refine x_bipush (v := (12 : Int32)) hC dX11_adds_7 kb_12 ?_
  refine x_iload_n hC dX11_adds_9 rfl 1 rfl ?_
  refine x_imul hC dX11_adds_10 ?_
  refine x_iadd hC dX11_adds_11 ?_
  refine x_iload_n hC dX11_adds_12 rfl 2 rfl ?_
  refine x_iadd hC dX11_adds_13 ?_
  refine x_dup2 hC dX11_adds_14 rfl rfl ?_
  refine r_iald hB dX11_adds_15 th_259 ?_
  refine x_iload_n hC dX11_adds_16 rfl 3 rfl ?_
  refine x_iadd hC dX11_adds_17 ?_
  refine r_iast hB dX11_adds_18 th_259 ?_
  refine x_mem (fun M18 => ?_)
  exact r_retV hR dX11_adds_19 (fun h => h)
theorem f_X11_adds_met {l : Launch} {d : Nat} {g : zG} {w : zW} {M0 : zM} {p1 : Int32} {p2 : Int32} {p3 : Int32} {M : zM} (hw : wS w) (hd : 1 ≤ d) {M' : zM} (h : f_X11_adds p1 p2 p3 M = some M') : zMet l yX11_adds cX11_adds 4 none d g w (zin false) M0 [zr w 257, .int p1, .int p2, .int p3] M none M' :=
  met_v (by decide +kernel) (Nat.le_of_ble_eq_true rfl) (fun C hB0 hR => f_X11_adds_ok ⟨hB0, hw⟩ hd M hR _ h rfl)
/-! WindingSquareModel.writes(III)V -/
noncomputable def f_X11_writes (p1 : Int32) (p2 : Int32) (p3 : Int32) (M : zM) : Option (zM) :=
  if (M 259 (ix (939 : Int32))) = (150 : Int32) then (some M)
  else (nm ((336 : Int32) + ((4 : Int32) * (M 259 (ix (939 : Int32))))) fun v4_29 =>
  grd (inb v4_29 2425) (
  nm (mset M 259 (ix v4_29) (M 259 (ix (936 : Int32)))) fun M45 =>
  grd (inb (v4_29 + (1 : Int32)) 2425) (
  nm (mset M45 259 (ix (v4_29 + (1 : Int32))) p1) fun M55 =>
  grd (inb (v4_29 + (2 : Int32)) 2425) (
  nm (mset M55 259 (ix (v4_29 + (2 : Int32))) p2) fun M65 =>
  grd (inb (v4_29 + (3 : Int32)) 2425) (
  nm (mset M65 259 (ix (v4_29 + (3 : Int32))) p3) fun M75 =>
  nm (mset M75 259 (ix (939 : Int32)) ((M75 259 (ix (939 : Int32))) + (1 : Int32))) fun M87 =>
  some M87)))))
set_option maxRecDepth 100000 in
theorem f_X11_writes_ok {C : zC} {d : Nat} {g : zG} {l : Launch} {w : zW} {r : zM} {p1 : Int32} {p2 : Int32} {p3 : Int32} (hB : bOK C cX11_writes 5 RX11 d g l w false) (hd : 1 ≤ d) (M : zM) (hR : RtV C cX11_writes w r) : Sg C w (0, 0) 0 [(0, zr w 257), (1, .int p1), (2, .int p2), (3, .int p3)] [] M (f_X11_writes p1 p2 p3 M) (fun q => q = r) := by
  have hC := hB.1.1
  have hq1 : 1 ≤ d := by omega
  unfold f_X11_writes
  refine x_aload_n hC dX11_writes_0 rfl 0 rfl ?_
  refine r_getR hB dX11_writes_1 kf_X11_13 rfl th_257 rf_257_1 ?_
  refine x_sipush (v := (939 : Int32)) hC dX11_writes_4 kh_939 ?_
  refine r_iald0 hB dX11_writes_7 th_259 ib_939_2425 ?_
  refine x_sipush (v := (150 : Int32)) hC dX11_writes_8 kh_150 ?_
  refine x_icmp_ne (tgt := 15) hC dX11_writes_11 (by decide) ?_ ?_
  · exact r_retV hR dX11_writes_14 (fun h => h)
  · refine x_sipush (v := (336 : Int32)) hC dX11_writes_15 kh_336 ?_
    refine x_iconst (v := (4 : Int32)) hC dX11_writes_18 ki_4 ?_
    refine x_aload_n hC dX11_writes_19 rfl 0 rfl ?_
    refine r_getR hB dX11_writes_20 kf_X11_13 rfl th_257 rf_257_1 ?_
    refine x_sipush (v := (939 : Int32)) hC dX11_writes_23 kh_939 ?_
    refine r_iald0 hB dX11_writes_26 th_259 ib_939_2425 ?_
    refine x_imul hC dX11_writes_27 ?_
    refine x_iadd hC dX11_writes_28 ?_
    refine x_top (fun v4_29 => ?_)
    refine x_istore (f := 0) hC dX11_writes_29 [(4, .int v4_29), (0, zr w 257), (1, .int p1), (2, .int p2), (3, .int p3)] (by decide) rfl ?_
    refine x_aload_n hC dX11_writes_31 rfl 1 rfl ?_
    refine r_getR hB dX11_writes_32 kf_X11_13 rfl th_257 rf_257_1 ?_
    refine x_iload hC dX11_writes_35 0 rfl ?_
    refine x_aload_n hC dX11_writes_37 rfl 1 rfl ?_
    refine r_getR hB dX11_writes_38 kf_X11_13 rfl th_257 rf_257_1 ?_
    refine x_sipush (v := (936 : Int32)) hC dX11_writes_41 kh_936 ?_
    refine r_iald0 hB dX11_writes_44 th_259 ib_936_2425 ?_
    refine r_iast hB dX11_writes_45 th_259 ?_
    refine x_mem (fun M45 => ?_)
    refine x_aload_n hC dX11_writes_46 rfl 1 rfl ?_
    refine r_getR hB dX11_writes_47 kf_X11_13 rfl th_257 rf_257_1 ?_
    refine x_iload hC dX11_writes_50 0 rfl ?_
    refine x_iconst (v := (1 : Int32)) hC dX11_writes_52 ki_1 ?_
    refine x_iadd hC dX11_writes_53 ?_
    refine x_iload_n hC dX11_writes_54 rfl 2 rfl ?_
    refine r_iast hB dX11_writes_55 th_259 ?_
    refine x_mem (fun M55 => ?_)
    refine x_aload_n hC dX11_writes_56 rfl 1 rfl ?_
    refine r_getR hB dX11_writes_57 kf_X11_13 rfl th_257 rf_257_1 ?_
    refine x_iload hC dX11_writes_60 0 rfl ?_
    refine x_iconst (v := (2 : Int32)) hC dX11_writes_62 ki_2 ?_
    refine x_iadd hC dX11_writes_63 ?_
    refine x_iload_n hC dX11_writes_64 rfl 3 rfl ?_
    refine r_iast hB dX11_writes_65 th_259 ?_
    refine x_mem (fun M65 => ?_)
    refine x_aload_n hC dX11_writes_66 rfl 1 rfl ?_
    refine r_getR hB dX11_writes_67 kf_X11_13 rfl th_257 rf_257_1 ?_
    refine x_iload hC dX11_writes_70 0 rfl ?_
    refine x_iconst (v := (3 : Int32)) hC dX11_writes_72 ki_3 ?_
    refine x_iadd hC dX11_writes_73 ?_
    refine x_iload_n hC dX11_writes_74 rfl 4 rfl ?_
    refine r_iast hB dX11_writes_75 th_259 ?_
    refine x_mem (fun M75 => ?_)
    refine x_aload_n hC dX11_writes_76 rfl 1 rfl ?_
    refine r_getR hB dX11_writes_77 kf_X11_13 rfl th_257 rf_257_1 ?_
    refine x_sipush (v := (939 : Int32)) hC dX11_writes_80 kh_939 ?_
    refine x_dup2 hC dX11_writes_83 rfl rfl ?_
    refine r_iald0 hB dX11_writes_84 th_259 ib_939_2425 ?_
    refine x_iconst (v := (1 : Int32)) hC dX11_writes_85 ki_1 ?_
    refine x_iadd hC dX11_writes_86 ?_
    refine r_iast0 hB dX11_writes_87 th_259 ib_939_2425 ?_
    refine x_mem (fun M87 => ?_)
    exact r_retV hR dX11_writes_88 (fun h => h)
theorem f_X11_writes_met {l : Launch} {d : Nat} {g : zG} {w : zW} {M0 : zM} {p1 : Int32} {p2 : Int32} {p3 : Int32} {M : zM} (hw : wS w) (hd : 1 ≤ d) {M' : zM} (h : f_X11_writes p1 p2 p3 M = some M') : zMet l yX11_writes cX11_writes 5 none d g w (zin false) M0 [zr w 257, .int p1, .int p2, .int p3] M none M' :=
  met_v (by decide +kernel) (Nat.le_of_ble_eq_true rfl) (fun C hB0 hR => f_X11_writes_ok ⟨hB0, hw⟩ hd M hR _ h rfl)
/-! WindingSquareModel.draws(I)I -/
noncomputable def f_X11_draws (p1 : Int32) (M : zM) : Option (Int32 × zM) :=
  nm (mset M 259 (ix (938 : Int32)) (((1664525 : Int32) * (M 259 (ix (938 : Int32)))) + (1013904223 : Int32))) fun M21 =>
  grd (¬ p1 = 0) (
  some ((irem (iush (M21 259 (ix (938 : Int32))) (8 : Int32)) p1), M21))
set_option maxRecDepth 100000 in
theorem f_X11_draws_ok {C : zC} {d : Nat} {g : zG} {l : Launch} {w : zW} {r : Int32 × zM} {p1 : Int32} (hB : bOK C cX11_draws 2 RX11 d g l w false) (hd : 1 ≤ d) (M : zM) (hR : RtI C cX11_draws w r.1 r.2) : Sg C w (0, 0) 0 [(0, zr w 257), (1, .int p1)] [] M (f_X11_draws p1 M) (fun q => q = r) := by
  have hC := hB.1.1
  have hq1 : 1 ≤ d := by omega
  unfold f_X11_draws
  refine x_aload_n hC dX11_draws_0 rfl 0 rfl ?_
  refine r_getR hB dX11_draws_1 kf_X11_13 rfl th_257 rf_257_1 ?_
  refine x_sipush (v := (938 : Int32)) hC dX11_draws_4 kh_938 ?_
  refine x_ldc hC dX11_draws_7 wd_1725 ?_
  refine x_aload_n hC dX11_draws_9 rfl 0 rfl ?_
  refine r_getR hB dX11_draws_10 kf_X11_13 rfl th_257 rf_257_1 ?_
  refine x_sipush (v := (938 : Int32)) hC dX11_draws_13 kh_938 ?_
  refine r_iald0 hB dX11_draws_16 th_259 ib_938_2425 ?_
  refine x_imul hC dX11_draws_17 ?_
  refine x_ldc hC dX11_draws_18 wd_1726 ?_
  refine x_iadd hC dX11_draws_20 ?_
  refine r_iast0 hB dX11_draws_21 th_259 ib_938_2425 ?_
  refine x_mem (fun M21 => ?_)
  refine x_aload_n hC dX11_draws_22 rfl 0 rfl ?_
  refine r_getR hB dX11_draws_23 kf_X11_13 rfl th_257 rf_257_1 ?_
  refine x_sipush (v := (938 : Int32)) hC dX11_draws_26 kh_938 ?_
  refine r_iald0 hB dX11_draws_29 th_259 ib_938_2425 ?_
  refine x_bipush (v := (8 : Int32)) hC dX11_draws_30 kb_8 ?_
  refine x_iushr hC dX11_draws_32 ?_
  refine x_iload_n hC dX11_draws_33 rfl 1 rfl ?_
  refine x_grd (fun hne => ?_)
  refine x_irem0 hC dX11_draws_34 hne ?_
  exact r_retI hR dX11_draws_35 (fun h => h)
theorem f_X11_draws_met {l : Launch} {d : Nat} {g : zG} {w : zW} {M0 : zM} {p1 : Int32} {M : zM} (hw : wS w) (hd : 1 ≤ d) {v : Int32} {M' : zM} (h : f_X11_draws p1 M = some (v, M')) : zMet l yX11_draws cX11_draws 2 (some .int) d g w (zin false) M0 [zr w 257, .int p1] M (some (.int v)) M' :=
  met_i (by decide +kernel) (Nat.le_of_ble_eq_true rfl) rfl (fun C hB0 hR => f_X11_draws_ok (r := (v, M')) ⟨hB0, hw⟩ hd M hR _ h rfl)
/-! WindingSquareModel.feed(IIIII)I -/
noncomputable def j_X11_feed_71_18 (v1_18 : Int32) (v2_18 : Int32) (v3_18 : Int32) (v4_18 : Int32) (v5_18 : Int32) (v6_71_18 : Int32) (s0_71_18 : Int32) (M : zM) : Option ((Int32 × zM) ⊕ (zM)) :=
  grd (inb (M 257 7) 400) (
  nm (mset M 262 (ix (M 257 7)) ((s0_71_18 >>> (((24 : Int32) - ((8 : Int32) * (irem v6_71_18 (4 : Int32)))) &&& 31)) &&& (255 : Int32))) fun M98_18 =>
  nm (mset M98_18 257 7 ((M98_18 257 7) + (1 : Int32))) fun M106_18 =>
  some (.inl ((v6_71_18 + (1 : Int32)), M106_18)))
set_option maxRecDepth 100000 in
theorem j_X11_feed_71_18_ok {C : zC} {d : Nat} {g : zG} {l : Launch} {w : zW} {r : Int32 × zM} {v1_18 : Int32} {v2_18 : Int32} {v3_18 : Int32} {v4_18 : Int32} {v5_18 : Int32} {v6_71_18 : Int32} {s0_71_18 : Int32} (hB : bOK C cX11_feed 8 RX11 d g l w false) (hd : 1 ≤ d) (M : zM) (hR : RtI C cX11_feed w r.1 r.2) : Sg C w (0, 0) 71 [(0, zr w 257), (1, .int v1_18), (2, .int v2_18), (3, .int v3_18), (4, .int v4_18), (5, .int v5_18), (6, .int v6_71_18)] [.int s0_71_18] M (j_X11_feed_71_18 v1_18 v2_18 v3_18 v4_18 v5_18 v6_71_18 s0_71_18 M) (fun o => Sum.elim (fun (s : (Int32 × zM)) => Zs C w (0, 0) 18 [(0, zr w 257), (1, .int v1_18), (2, .int v2_18), (3, .int v3_18), (4, .int v4_18), (5, .int v5_18), (6, .int s.1)] [] s.2) (fun (s : (zM)) => Zs C w (0, 0) 115 [(0, zr w 257)] [] s) o) := by
  have hC := hB.1.1
  have hq1 : 1 ≤ d := by omega
  unfold j_X11_feed_71_18
  refine x_istore (f := 0) hC dX11_feed_71 [(7, .int s0_71_18), (0, zr w 257), (1, .int v1_18), (2, .int v2_18), (3, .int v3_18), (4, .int v4_18), (5, .int v5_18), (6, .int v6_71_18)] (by decide) rfl ?_
  refine x_aload_n hC dX11_feed_73 rfl 1 rfl ?_
  refine r_getR hB dX11_feed_74 kf_X11_26 rfl th_257 rf_257_15 ?_
  refine x_aload_n hC dX11_feed_77 rfl 1 rfl ?_
  refine r_getI hB dX11_feed_78 kf_X11_123 rfl th_257 ?_
  refine x_iload hC dX11_feed_81 0 rfl ?_
  refine x_bipush (v := (24 : Int32)) hC dX11_feed_83 kb_24 ?_
  refine x_bipush (v := (8 : Int32)) hC dX11_feed_85 kb_8 ?_
  refine x_iload hC dX11_feed_87 7 rfl ?_
  refine x_iconst (v := (4 : Int32)) hC dX11_feed_89 ki_4 ?_
  refine x_irem0 hC dX11_feed_90 nz_4 ?_
  refine x_imul hC dX11_feed_91 ?_
  refine x_isub hC dX11_feed_92 ?_
  refine x_ishr hC dX11_feed_93 ?_
  refine x_sipush (v := (255 : Int32)) hC dX11_feed_94 kh_255 ?_
  refine x_iand hC dX11_feed_97 ?_
  refine r_iast hB dX11_feed_98 th_262 ?_
  refine x_mem (fun M98_18 => ?_)
  refine x_aload_n hC dX11_feed_99 rfl 1 rfl ?_
  refine x_dup hC dX11_feed_100 rfl ?_
  refine r_getI hB dX11_feed_101 kf_X11_123 rfl th_257 ?_
  refine x_iconst (v := (1 : Int32)) hC dX11_feed_104 ki_1 ?_
  refine x_iadd hC dX11_feed_105 ?_
  refine r_putI hB dX11_feed_106 kf_X11_123 rfl th_257 ?_
  refine x_mem (fun M106_18 => ?_)
  refine x_iinc hC dX11_feed_109 ki_1 [(6, .int (v6_71_18 + (1 : Int32))), (7, .int s0_71_18), (0, zr w 257), (1, .int v1_18), (2, .int v2_18), (3, .int v3_18), (4, .int v4_18), (5, .int v5_18)] 7 rfl (by decide) rfl ?_
  refine x_goto (tgt := 18) hC dX11_feed_112 (by decide) ?_
  refine x_sub [2, 3, 4, 5, 6, 7, 0] rfl ?_
  exact x_done (fun h => h)
noncomputable def b_X11_feed_18 (v1_18 : Int32) (v2_18 : Int32) (v3_18 : Int32) (v4_18 : Int32) (v5_18 : Int32) (v6_18 : Int32) (M : zM) : Option ((Int32 × zM) ⊕ (zM)) :=
  if (20 : Int32) ≤ v6_18 then (some (.inr M))
  else (if (4 : Int32) ≤ v6_18 then (if (8 : Int32) ≤ v6_18 then (if (12 : Int32) ≤ v6_18 then (if (16 : Int32) ≤ v6_18 then (j_X11_feed_71_18 v1_18 v2_18 v3_18 v4_18 v5_18 v6_18 v5_18 M)
  else (j_X11_feed_71_18 v1_18 v2_18 v3_18 v4_18 v5_18 v6_18 v4_18 M))
  else (j_X11_feed_71_18 v1_18 v2_18 v3_18 v4_18 v5_18 v6_18 v3_18 M))
  else (j_X11_feed_71_18 v1_18 v2_18 v3_18 v4_18 v5_18 v6_18 v2_18 M))
  else (j_X11_feed_71_18 v1_18 v2_18 v3_18 v4_18 v5_18 v6_18 v1_18 M))
set_option maxRecDepth 100000 in
theorem b_X11_feed_18_ok {C : zC} {d : Nat} {g : zG} {l : Launch} {w : zW} {r : Int32 × zM} {v1_18 : Int32} {v2_18 : Int32} {v3_18 : Int32} {v4_18 : Int32} {v5_18 : Int32} {v6_18 : Int32} (hB : bOK C cX11_feed 8 RX11 d g l w false) (hd : 1 ≤ d) (M : zM) (hR : RtI C cX11_feed w r.1 r.2) : Sg C w (0, 0) 18 [(0, zr w 257), (1, .int v1_18), (2, .int v2_18), (3, .int v3_18), (4, .int v4_18), (5, .int v5_18), (6, .int v6_18)] [] M (b_X11_feed_18 v1_18 v2_18 v3_18 v4_18 v5_18 v6_18 M) (fun o => Sum.elim (fun (s : (Int32 × zM)) => Zs C w (0, 0) 18 [(0, zr w 257), (1, .int v1_18), (2, .int v2_18), (3, .int v3_18), (4, .int v4_18), (5, .int v5_18), (6, .int s.1)] [] s.2) (fun (s : (zM)) => Zs C w (0, 0) 115 [(0, zr w 257)] [] s) o) := by
  have hC := hB.1.1
  have hq1 : 1 ≤ d := by omega
  unfold b_X11_feed_18
  refine x_iload hC dX11_feed_18 6 rfl ?_
  refine x_bipush (v := (20 : Int32)) hC dX11_feed_20 kb_20 ?_
  refine x_icmp_ge (tgt := 115) hC dX11_feed_22 (by decide) ?_ ?_
  · refine x_sub [0] rfl ?_
    exact x_done (fun h => h)
  · refine x_iload hC dX11_feed_25 6 rfl ?_
    refine x_iconst (v := (4 : Int32)) hC dX11_feed_27 ki_4 ?_
    refine x_icmp_ge (tgt := 35) hC dX11_feed_28 (by decide) ?_ ?_
    · refine x_iload hC dX11_feed_35 6 rfl ?_
      refine x_bipush (v := (8 : Int32)) hC dX11_feed_37 kb_8 ?_
      refine x_icmp_ge (tgt := 46) hC dX11_feed_39 (by decide) ?_ ?_
      · refine x_iload hC dX11_feed_46 6 rfl ?_
        refine x_bipush (v := (12 : Int32)) hC dX11_feed_48 kb_12 ?_
        refine x_icmp_ge (tgt := 57) hC dX11_feed_50 (by decide) ?_ ?_
        · refine x_iload hC dX11_feed_57 6 rfl ?_
          refine x_bipush (v := (16 : Int32)) hC dX11_feed_59 kb_16 ?_
          refine x_icmp_ge (tgt := 69) hC dX11_feed_61 (by decide) ?_ ?_
          · refine x_iload hC dX11_feed_69 5 rfl ?_
            exact j_X11_feed_71_18_ok hB hd M hR
          · refine x_iload hC dX11_feed_64 4 rfl ?_
            refine x_goto (tgt := 71) hC dX11_feed_66 (by decide) ?_
            exact j_X11_feed_71_18_ok hB hd M hR
        · refine x_iload_n hC dX11_feed_53 rfl 3 rfl ?_
          refine x_goto (tgt := 71) hC dX11_feed_54 (by decide) ?_
          exact j_X11_feed_71_18_ok hB hd M hR
      · refine x_iload_n hC dX11_feed_42 rfl 2 rfl ?_
        refine x_goto (tgt := 71) hC dX11_feed_43 (by decide) ?_
        exact j_X11_feed_71_18_ok hB hd M hR
    · refine x_iload_n hC dX11_feed_31 rfl 1 rfl ?_
      refine x_goto (tgt := 71) hC dX11_feed_32 (by decide) ?_
      exact j_X11_feed_71_18_ok hB hd M hR
noncomputable def j_X11_feed_115 (M : zM) : Option (Int32 × zM) :=
  some ((M 257 7), M)
set_option maxRecDepth 100000 in
theorem j_X11_feed_115_ok {C : zC} {d : Nat} {g : zG} {l : Launch} {w : zW} {r : Int32 × zM} (hB : bOK C cX11_feed 8 RX11 d g l w false) (hd : 1 ≤ d) (M : zM) (hR : RtI C cX11_feed w r.1 r.2) : Sg C w (0, 0) 115 [(0, zr w 257)] [] M (j_X11_feed_115 M) (fun q => q = r) := by
  have hC := hB.1.1
  have hq1 : 1 ≤ d := by omega
  unfold j_X11_feed_115
  refine x_aload_n hC dX11_feed_115 rfl 0 rfl ?_
  refine r_getI hB dX11_feed_116 kf_X11_123 rfl th_257 ?_
  exact r_retI hR dX11_feed_119 (fun h => h)
noncomputable def f_X11_feed (p1 : Int32) (p2 : Int32) (p3 : Int32) (p4 : Int32) (p5 : Int32) (M : zM) : Option (Int32 × zM) :=
  if ((M 257 7) + (20 : Int32)) ≤ (400 : Int32) then ((loopW (fun s => b_X11_feed_18 p1 p2 p3 p4 p5 s.1 s.2) ((0 : Int32), M)).bind (fun r => j_X11_feed_115 r))
  else (some ((-1 : Int32), M))
set_option maxRecDepth 100000 in
theorem f_X11_feed_ok {C : zC} {d : Nat} {g : zG} {l : Launch} {w : zW} {r : Int32 × zM} {p1 : Int32} {p2 : Int32} {p3 : Int32} {p4 : Int32} {p5 : Int32} (hB : bOK C cX11_feed 8 RX11 d g l w false) (hd : 1 ≤ d) (M : zM) (hR : RtI C cX11_feed w r.1 r.2) : Sg C w (0, 0) 0 [(0, zr w 257), (1, .int p1), (2, .int p2), (3, .int p3), (4, .int p4), (5, .int p5)] [] M (f_X11_feed p1 p2 p3 p4 p5 M) (fun q => q = r) := by
  have hC := hB.1.1
  have hq1 : 1 ≤ d := by omega
  unfold f_X11_feed
  refine x_aload_n hC dX11_feed_0 rfl 0 rfl ?_
  refine r_getI hB dX11_feed_1 kf_X11_123 rfl th_257 ?_
  refine x_bipush (v := (20 : Int32)) hC dX11_feed_4 kb_20 ?_
  refine x_iadd hC dX11_feed_6 ?_
  refine x_sipush (v := (400 : Int32)) hC dX11_feed_7 kh_400 ?_
  refine x_icmp_le (tgt := 15) hC dX11_feed_10 (by decide) ?_ ?_
  · refine x_iconst (v := (0 : Int32)) hC dX11_feed_15 ki_0 ?_
    refine x_istore (f := 0) hC dX11_feed_16 [(6, .int (0 : Int32)), (0, zr w 257), (1, .int p1), (2, .int p2), (3, .int p3), (4, .int p4), (5, .int p5)] (by decide) rfl ?_
    refine x_sub [1, 2, 3, 4, 5, 6, 0] rfl ?_
    refine x_loopB (pc2 := 115) (fun (s : (Int32 × zM)) => [(0, zr w 257), (1, .int p1), (2, .int p2), (3, .int p3), (4, .int p4), (5, .int p5), (6, .int s.1)]) (fun (s : (Int32 × zM)) => s.2) (fun (s : (zM)) => [(0, zr w 257)]) (fun (s : (zM)) => s) ((0 : Int32), M) ?_ ?_
    · exact fun s => b_X11_feed_18_ok hB hd s.2 hR
    · intro r9
      exact j_X11_feed_115_ok hB hd r9 hR
  · refine x_iconst (v := (-1 : Int32)) hC dX11_feed_13 ki_m1 ?_
    exact r_retI hR dX11_feed_14 (fun h => h)
theorem f_X11_feed_met {l : Launch} {d : Nat} {g : zG} {w : zW} {M0 : zM} {p1 : Int32} {p2 : Int32} {p3 : Int32} {p4 : Int32} {p5 : Int32} {M : zM} (hw : wS w) (hd : 1 ≤ d) {v : Int32} {M' : zM} (h : f_X11_feed p1 p2 p3 p4 p5 M = some (v, M')) : zMet l yX11_feed cX11_feed 8 (some .int) d g w (zin false) M0 [zr w 257, .int p1, .int p2, .int p3, .int p4, .int p5] M (some (.int v)) M' :=
  met_i (by decide +kernel) (Nat.le_of_ble_eq_true rfl) rfl (fun C hB0 hR => f_X11_feed_ok (r := (v, M')) ⟨hB0, hw⟩ hd M hR _ h rfl)
/-! WindingSquareModel.fine()Z -/
def f_X11_fine (M : zM) : Int32 :=
  if (M 257 10) = (-1 : Int32) then ((1 : Int32))
  else ((0 : Int32))
set_option maxRecDepth 100000 in
theorem f_X11_fine_ok {C : zC} {d : Nat} {g : zG} {l : Launch} {w : zW} {r : Int32} (hB : bOK C cX11_fine 1 RX11 d g l w false) (hd : 1 ≤ d) (M : zM) (hR : RtZ C cX11_fine w r M) : Sg C w (0, 0) 0 [(0, zr w 257)] [] M (some (f_X11_fine M)) (fun q => q = r) := by
  have hC := hB.1.1
  have hq1 : 1 ≤ d := by omega
  unfold f_X11_fine
  refine x_aload_n hC dX11_fine_0 rfl 0 rfl ?_
  refine r_getI hB dX11_fine_1 kf_X11_126 rfl th_257 ?_
  refine x_iconst (v := (-1 : Int32)) hC dX11_fine_4 ki_m1 ?_
  refine x_si ?_
  refine x_icmp_ne (tgt := 12) hC dX11_fine_5 (by decide) ?_ ?_
  · refine x_iconst (v := (1 : Int32)) hC dX11_fine_8 ki_1 ?_
    refine x_goto (tgt := 13) hC dX11_fine_9 (by decide) ?_
    exact r_retZ hR dX11_fine_13 (Or.inr rfl) (fun h => congrArg (fun q => (q, M)) h)
  · refine x_iconst (v := (0 : Int32)) hC dX11_fine_12 ki_0 ?_
    exact r_retZ hR dX11_fine_13 (Or.inl rfl) (fun h => congrArg (fun q => (q, M)) h)
theorem f_X11_fine_met {l : Launch} {d : Nat} {g : zG} {w : zW} {M0 : zM} {M : zM} (hw : wS w) (hd : 1 ≤ d) : zMet l yX11_fine cX11_fine 1 (some .boolean) d g w (zin false) M0 [zr w 257] M (some (.int (f_X11_fine M))) M :=
  met_z (by decide +kernel) (Nat.le_of_ble_eq_true rfl) (fun C hB0 hR => f_X11_fine_ok ⟨hB0, hw⟩ hd M hR _ rfl rfl)
/-! WindingSquareModel.wrong(II)V -/
noncomputable def f_X11_wrong (p1 : Int32) (p2 : Int32) (M : zM) : Option (zM) :=
  if (M 257 10) = (-1 : Int32) then (nm (mset M 257 10 p2) fun M11 =>
  nm (mset M11 257 11 p1) fun M16 =>
  some M16)
  else (some M)
set_option maxRecDepth 100000 in
theorem f_X11_wrong_ok {C : zC} {d : Nat} {g : zG} {l : Launch} {w : zW} {r : zM} {p1 : Int32} {p2 : Int32} (hB : bOK C cX11_wrong 3 RX11 d g l w false) (hd : 1 ≤ d) (M : zM) (hR : RtV C cX11_wrong w r) : Sg C w (0, 0) 0 [(0, zr w 257), (1, .int p1), (2, .int p2)] [] M (f_X11_wrong p1 p2 M) (fun q => q = r) := by
  have hC := hB.1.1
  have hq1 : 1 ≤ d := by omega
  unfold f_X11_wrong
  refine x_aload_n hC dX11_wrong_0 rfl 0 rfl ?_
  refine r_getI hB dX11_wrong_1 kf_X11_126 rfl th_257 ?_
  refine x_iconst (v := (-1 : Int32)) hC dX11_wrong_4 ki_m1 ?_
  refine x_icmp_eq (tgt := 9) hC dX11_wrong_5 (by decide) ?_ ?_
  · refine x_aload_n hC dX11_wrong_9 rfl 0 rfl ?_
    refine x_iload_n hC dX11_wrong_10 rfl 2 rfl ?_
    refine r_putI hB dX11_wrong_11 kf_X11_126 rfl th_257 ?_
    refine x_mem (fun M11 => ?_)
    refine x_aload_n hC dX11_wrong_14 rfl 0 rfl ?_
    refine x_iload_n hC dX11_wrong_15 rfl 1 rfl ?_
    refine r_putI hB dX11_wrong_16 kf_X11_129 rfl th_257 ?_
    refine x_mem (fun M16 => ?_)
    exact r_retV hR dX11_wrong_19 (fun h => h)
  · exact r_retV hR dX11_wrong_8 (fun h => h)
theorem f_X11_wrong_met {l : Launch} {d : Nat} {g : zG} {w : zW} {M0 : zM} {p1 : Int32} {p2 : Int32} {M : zM} (hw : wS w) (hd : 1 ≤ d) {M' : zM} (h : f_X11_wrong p1 p2 M = some M') : zMet l yX11_wrong cX11_wrong 3 none d g w (zin false) M0 [zr w 257, .int p1, .int p2] M none M' :=
  met_v (by decide +kernel) (Nat.le_of_ble_eq_true rfl) (fun C hB0 hR => f_X11_wrong_ok ⟨hB0, hw⟩ hd M hR _ h rfl)
