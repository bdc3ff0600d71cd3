/-! WindingSquare$Square.pave([I)V -/
noncomputable def j_X7_pave_63_15 (a0 : Nat) (a1 : Nat) (v2_63_15 : Int32) (M : zM) : Option ((Int32 × zM) ⊕ (zM)) :=
  some (.inl ((v2_63_15 + (1 : Int32)), M))
set_option maxRecDepth 100000 in
theorem j_X7_pave_63_15_ok {C : zC} {d : Nat} {g : zG} {l : Launch} {w : zW} {r : zM} {a0 : Nat} {a1 : Nat} {v2_63_15 : Int32} (hB : bOK C cX7_pave 3 RX7 d g l w true) (h0 : tO true 7 a0) (h1 : tA true 144 a1) (hd : 3 ≤ d) (M : zM) (hR : RtV C cX7_pave w r) : Sg C w (0, 0) 63 [(0, zr w a0), (2, .int v2_63_15)] [] M (j_X7_pave_63_15 a0 a1 v2_63_15 M) (fun o => Sum.elim (fun (s : (Int32 × zM)) => Zs C w (0, 0) 15 [(0, zr w a0), (2, .int s.1)] [] s.2) (fun (s : (zM)) => Zs C w (0, 0) 69 [] [] s) o) := by
  have hC := hB.1.1
  have hq1 : 1 ≤ d := by omega
  unfold j_X7_pave_63_15
  refine x_iinc hC dX7_pave_63 ki_1 [(2, .int (v2_63_15 + (1 : Int32))), (0, zr w a0)] 1 rfl (by decide) rfl ?_
  refine x_goto (tgt := 15) hC dX7_pave_66 (by decide) ?_
  refine x_sub [1, 0] rfl ?_
  exact x_done (fun h => h)
noncomputable def b_X7_pave_15 (a0 : Nat) (a1 : Nat) (v2_15 : Int32) (M : zM) : Option ((Int32 × zM) ⊕ (zM)) :=
  if (M a0 2) ≤ v2_15 then (some (.inr M))
  else (grd (inb v2_15 16) (
  if (M (a0 + 3 + ix v2_15) 1) = 0 then (j_X7_pave_63_15 a0 a1 v2_15 M)
  else (grd (inb v2_15 16) (
  grd (inb (f_X9_at (a0 + 3 + ix v2_15) M) 144) (
  if (M (a0 + 2) (ix (f_X9_at (a0 + 3 + ix v2_15) M))) = (1 : Int32) then (grd (inb v2_15 16) (
  nm (mset M (a0 + 3 + ix v2_15) 1 (0 : Int32)) fun M60_15 =>
  j_X7_pave_63_15 a0 a1 v2_15 M60_15))
  else (j_X7_pave_63_15 a0 a1 v2_15 M))))))
set_option maxRecDepth 100000 in
theorem b_X7_pave_15_ok {C : zC} {d : Nat} {g : zG} {l : Launch} {w : zW} {r : zM} {a0 : Nat} {a1 : Nat} {v2_15 : Int32} (hB : bOK C cX7_pave 3 RX7 d g l w true) (h0 : tO true 7 a0) (h1 : tA true 144 a1) (hd : 3 ≤ d) (M : zM) (hR : RtV C cX7_pave w r) : Sg C w (0, 0) 15 [(0, zr w a0), (2, .int v2_15)] [] M (b_X7_pave_15 a0 a1 v2_15 M) (fun o => Sum.elim (fun (s : (Int32 × zM)) => Zs C w (0, 0) 15 [(0, zr w a0), (2, .int s.1)] [] s.2) (fun (s : (zM)) => Zs C w (0, 0) 69 [] [] s) o) := by
  have hC := hB.1.1
  have hq1 : 1 ≤ d := by omega
  unfold b_X7_pave_15
  refine x_iload_n hC dX7_pave_15 rfl 1 rfl ?_
  refine x_aload_n hC dX7_pave_16 rfl 0 rfl ?_
  refine r_getI hB dX7_pave_17 kf_X7_28 rfl h0 ?_
  refine x_icmp_ge (tgt := 69) hC dX7_pave_20 (by decide) ?_ ?_
  · refine x_sub [] rfl ?_
    exact x_done (fun h => h)
  · refine x_aload_n hC dX7_pave_23 rfl 0 rfl ?_
    refine r_getR hB dX7_pave_24 kf_X7_11 rfl h0 (nv_7_0 h0).1 ?_
    refine x_iload_n hC dX7_pave_27 rfl 1 rfl ?_
    refine r_aaW (a := a0) hB dX7_pave_28 h0 (fun hg28 => ?_)
    refine r_getI hB dX7_pave_29 kf_X7_52 rfl (nv_wk h0 hg28).2 ?_
    refine x_if_eq (tgt := 63) hC dX7_pave_32 (by decide) ?_ ?_
    · exact j_X7_pave_63_15_ok hB h0 h1 hd M hR
    · refine x_aload_n hC dX7_pave_35 rfl 0 rfl ?_
      refine r_getR hB dX7_pave_36 kf_X7_17 rfl h0 (nv_7_1 h0).1 ?_
      refine x_aload_n hC dX7_pave_39 rfl 0 rfl ?_
      refine r_getR hB dX7_pave_40 kf_X7_11 rfl h0 (nv_7_0 h0).1 ?_
      refine x_iload_n hC dX7_pave_43 rfl 1 rfl ?_
      refine r_aaW (a := a0) hB dX7_pave_44 h0 (fun hg44 => ?_)
      refine r_cV0 (as := []) (rest := [zr w (a0 + 2)]) hB dX7_pave_45 kv_X7_56 (nv_wk h0 hg44).2 hq1 rfl rfl (Nat.le_of_ble_eq_true rfl) (f_X9_at_met hB.2 (nv_wk h0 hg44).2 (by omega)) ?_
      refine r_iald hB dX7_pave_48 (nv_7_1 h0).2 ?_
      refine x_iconst (v := (1 : Int32)) hC dX7_pave_49 ki_1 ?_
      refine x_icmp_ne (tgt := 63) hC dX7_pave_50 (by decide) ?_ ?_
      · refine x_aload_n hC dX7_pave_53 rfl 0 rfl ?_
        refine r_getR hB dX7_pave_54 kf_X7_11 rfl h0 (nv_7_0 h0).1 ?_
        refine x_iload_n hC dX7_pave_57 rfl 1 rfl ?_
        refine r_aaW (a := a0) hB dX7_pave_58 h0 (fun hg58 => ?_)
        refine x_iconst (v := (0 : Int32)) hC dX7_pave_59 ki_0 ?_
        refine r_putZ hB dX7_pave_60 kf_X7_52 rfl (nv_wk h0 hg58).2 (Or.inl rfl) ?_
        refine x_mem (fun M60_15 => ?_)
        exact j_X7_pave_63_15_ok hB h0 h1 hd M60_15 hR
      · exact j_X7_pave_63_15_ok hB h0 h1 hd M hR
noncomputable def j_X7_pave_69 (a0 : Nat) (a1 : Nat) (M : zM) : Option (zM) :=
  some M
set_option maxRecDepth 100000 in
theorem j_X7_pave_69_ok {C : zC} {d : Nat} {g : zG} {l : Launch} {w : zW} {r : zM} {a0 : Nat} {a1 : Nat} (hB : bOK C cX7_pave 3 RX7 d g l w true) (h0 : tO true 7 a0) (h1 : tA true 144 a1) (hd : 3 ≤ d) (M : zM) (hR : RtV C cX7_pave w r) : Sg C w (0, 0) 69 [] [] M (j_X7_pave_69 a0 a1 M) (fun q => q = r) := by
  have hC := hB.1.1
  have hq1 : 1 ≤ d := by omega
  unfold j_X7_pave_69
  exact r_retV hR dX7_pave_69 (fun h => h)
noncomputable def f_X7_pave (a0 : Nat) (a1 : Nat) (M : zM) : Option (zM) :=
  nm (mrow M (a0 + 2) (va_cpy (M a1) (M (a0 + 2)) (ix (0 : Int32)) (ix (0 : Int32)) (ix (144 : Int32)))) fun M10 =>
  (loopW (fun s => b_X7_pave_15 a0 a1 s.1 s.2) ((0 : Int32), M10)).bind (fun r => j_X7_pave_69 a0 a1 r)
set_option maxRecDepth 100000 in
theorem f_X7_pave_ok {C : zC} {d : Nat} {g : zG} {l : Launch} {w : zW} {r : zM} {a0 : Nat} {a1 : Nat} (hB : bOK C cX7_pave 3 RX7 d g l w true) (h0 : tO true 7 a0) (h1 : tA true 144 a1) (hd : 3 ≤ d) (M : zM) (hR : RtV C cX7_pave w r) : Sg C w (0, 0) 0 [(0, zr w a0), (1, zr w a1)] [] M (f_X7_pave a0 a1 M) (fun q => q = r) := by
  have hC := hB.1.1
  have hq1 : 1 ≤ d := by omega
  unfold f_X7_pave
  refine x_aload_n hC dX7_pave_0 rfl 1 rfl ?_
  refine x_iconst (v := (0 : Int32)) hC dX7_pave_1 ki_0 ?_
  refine x_aload_n hC dX7_pave_2 rfl 0 rfl ?_
  refine r_getR hB dX7_pave_3 kf_X7_17 rfl h0 (nv_7_1 h0).1 ?_
  refine x_iconst (v := (0 : Int32)) hC dX7_pave_6 ki_0 ?_
  refine x_sipush (v := (144 : Int32)) hC dX7_pave_7 kh_144 ?_
  refine r_acp hB dX7_pave_10 kac_X7_22 (Nat.le_trans (by decide) hd) h1 (nv_7_1 h0).2 (by decide) (by decide) (by decide) (by decide +kernel) (by decide +kernel) (Nat.le_of_ble_eq_true rfl) ?_
  refine x_mem (fun M10 => ?_)
  refine x_iconst (v := (0 : Int32)) hC dX7_pave_13 ki_0 ?_
  refine x_istore_n hC dX7_pave_14 rfl [(2, .int (0 : Int32)), (0, zr w a0), (1, zr w a1)] (by decide) rfl ?_
  refine x_sub [1, 0] rfl ?_
  refine x_loopB (pc2 := 69) (fun (s : (Int32 × zM)) => [(0, zr w a0), (2, .int s.1)]) (fun (s : (Int32 × zM)) => s.2) (fun (s : (zM)) => []) (fun (s : (zM)) => s) ((0 : Int32), M10) ?_ ?_
  · exact fun s => b_X7_pave_15_ok hB h0 h1 hd s.2 hR
  · intro r9
    exact j_X7_pave_69_ok hB h0 h1 hd r9 hR
theorem f_X7_pave_met {l : Launch} {d : Nat} {g : zG} {w : zW} {M0 : zM} {a0 : Nat} {a1 : Nat} {M : zM} (hw : wS w) (h0 : tO true 7 a0) (h1 : tA true 144 a1) (hd : 3 ≤ d) {M' : zM} (h : f_X7_pave a0 a1 M = some M') : zMet l yX7_pave cX7_pave 3 none d g w (zin true) M0 [zr w a0, zr w a1] M none M' :=
  met_v (by decide +kernel) (Nat.le_of_ble_eq_true rfl) (fun C hB0 hR => f_X7_pave_ok ⟨hB0, hw⟩ h0 h1 hd M hR _ h rfl)
/-! WindingSquare$Texts.readPlace(LWindingSquare$Reader;)I -/
noncomputable def j_X8_readPlace_24 (a0 : Nat) (v2_24 : Int32) (s0_24 : Int32) (M : zM) : Option (Int32 × zM) :=
  if s0_24 = (-1 : Int32) then (some ((-1 : Int32), M))
  else (some ((((12 : Int32) * s0_24) + v2_24), M))
set_option maxRecDepth 100000 in
theorem j_X8_readPlace_24_ok {C : zC} {d : Nat} {g : zG} {l : Launch} {w : zW} {r : Int32 × zM} {a0 : Nat} {v2_24 : Int32} {s0_24 : Int32} (hB : bOK C cX8_readPlace 4 RX8 d g l w true) (h0 : tO true 8 a0) (hd : 3 ≤ d) (M : zM) (hR : RtI C cX8_readPlace w r.1 r.2) : Sg C w (0, 0) 24 [(2, .int v2_24)] [.int s0_24] M (j_X8_readPlace_24 a0 v2_24 s0_24 M) (fun q => q = r) := by
  have hC := hB.1.1
  have hq1 : 1 ≤ d := by omega
  unfold j_X8_readPlace_24
  refine x_istore_n hC dX8_readPlace_24 rfl [(3, .int s0_24), (2, .int v2_24)] (by decide) rfl ?_
  refine x_iload_n hC dX8_readPlace_25 rfl 0 rfl ?_
  refine x_iconst (v := (-1 : Int32)) hC dX8_readPlace_26 ki_m1 ?_
  refine x_icmp_ne (tgt := 34) hC dX8_readPlace_27 (by decide) ?_ ?_
  · refine x_iconst (v := (-1 : Int32)) hC dX8_readPlace_30 ki_m1 ?_
    refine x_goto (tgt := 40) hC dX8_readPlace_31 (by decide) ?_
    exact r_retI hR dX8_readPlace_40 (fun h => h)
  · refine x_bipush (v := (12 : Int32)) hC dX8_readPlace_34 kb_12 ?_
    refine x_iload_n hC dX8_readPlace_36 rfl 0 rfl ?_
    refine x_imul hC dX8_readPlace_37 ?_
    refine x_iload_n hC dX8_readPlace_38 rfl 1 rfl ?_
    refine x_iadd hC dX8_readPlace_39 ?_
    exact r_retI hR dX8_readPlace_40 (fun h => h)
noncomputable def f_X8_readPlace (a0 : Nat) (M : zM) : Option (Int32 × zM) :=
  bnd2 (f_X5_number (0 : Int32) (11 : Int32) M) fun u4 M4 =>
  if u4 = (-1 : Int32) then (j_X8_readPlace_24 a0 u4 (-1 : Int32) M4)
  else (bnd2 (f_X5_number (0 : Int32) (11 : Int32) M4) fun u21 M21 =>
  j_X8_readPlace_24 a0 u4 u21 M21)
set_option maxRecDepth 100000 in
theorem f_X8_readPlace_ok {C : zC} {d : Nat} {g : zG} {l : Launch} {w : zW} {r : Int32 × zM} {a0 : Nat} (hB : bOK C cX8_readPlace 4 RX8 d g l w true) (h0 : tO true 8 a0) (hd : 3 ≤ d) (M : zM) (hR : RtI C cX8_readPlace w r.1 r.2) : Sg C w (0, 0) 0 [(0, zr w a0), (1, zr w 78)] [] M (f_X8_readPlace a0 M) (fun q => q = r) := by
  have hC := hB.1.1
  have hq1 : 1 ≤ d := by omega
  unfold f_X8_readPlace
  refine x_aload_n hC dX8_readPlace_0 rfl 1 rfl ?_
  refine x_iconst (v := (0 : Int32)) hC dX8_readPlace_1 ki_0 ?_
  refine x_bipush (v := (11 : Int32)) hC dX8_readPlace_2 kb_11 ?_
  refine r_cV2 (as := [.int (0 : Int32), .int (11 : Int32)]) (rest := []) hB dX8_readPlace_4 kv_X8_71 th_78 hq1 rfl rfl (Nat.le_of_ble_eq_true rfl) (fun v M' hv => f_X5_number_met hB.2 (by omega) hv) (fun u4 M4 => ?_)
  refine x_istore_n hC dX8_readPlace_7 rfl [(2, .int u4), (0, zr w a0), (1, zr w 78)] (by decide) rfl ?_
  refine x_iload_n hC dX8_readPlace_8 rfl 0 rfl ?_
  refine x_iconst (v := (-1 : Int32)) hC dX8_readPlace_9 ki_m1 ?_
  refine x_icmp_ne (tgt := 17) hC dX8_readPlace_10 (by decide) ?_ ?_
  · refine x_iconst (v := (-1 : Int32)) hC dX8_readPlace_13 ki_m1 ?_
    refine x_goto (tgt := 24) hC dX8_readPlace_14 (by decide) ?_
    refine x_sub [0] rfl ?_
    exact j_X8_readPlace_24_ok hB h0 hd M4 hR
  · refine x_aload_n hC dX8_readPlace_17 rfl 2 rfl ?_
    refine x_iconst (v := (0 : Int32)) hC dX8_readPlace_18 ki_0 ?_
    refine x_bipush (v := (11 : Int32)) hC dX8_readPlace_19 kb_11 ?_
    refine r_cV2 (as := [.int (0 : Int32), .int (11 : Int32)]) (rest := []) hB dX8_readPlace_21 kv_X8_71 th_78 hq1 rfl rfl (Nat.le_of_ble_eq_true rfl) (fun v M' hv => f_X5_number_met hB.2 (by omega) hv) (fun u21 M21 => ?_)
    refine x_sub [0] rfl ?_
    exact j_X8_readPlace_24_ok hB h0 hd M21 hR
theorem f_X8_readPlace_met {l : Launch} {d : Nat} {g : zG} {w : zW} {M0 : zM} {a0 : Nat} {M : zM} (hw : wS w) (h0 : tO true 8 a0) (hd : 3 ≤ d) {v : Int32} {M' : zM} (h : f_X8_readPlace a0 M = some (v, M')) : zMet l yX8_readPlace cX8_readPlace 4 (some .int) d g w (zin true) M0 [zr w a0, zr w 78] M (some (.int v)) M' :=
  met_i (by decide +kernel) (Nat.le_of_ble_eq_true rfl) rfl (fun C hB0 hR => f_X8_readPlace_ok (r := (v, M')) ⟨hB0, hw⟩ h0 hd M hR _ h rfl)
/-! WindingSquare$Texts.readWay(LWindingSquare$Reader;I)Z -/
noncomputable def j_X8_readWay_87_2 (a0 : Nat) (v2_2 : Int32) (v3_87_2 : Int32) (v4_87_2 : Int32) (s0_87_2 : Int32) (M : zM) : Option ((Int32 × zM) ⊕ ((Int32 × zM) ⊕ (Int32 × zM))) :=
  if s0_87_2 = (-1 : Int32) then (some (.inr (.inr ((0 : Int32), M))))
  else (grd (inb (((12 : Int32) * v2_2) + v3_87_2) 192) (
  nm (mset M (a0 + 10) (ix (((12 : Int32) * v2_2) + v3_87_2)) v4_87_2) fun M109_2 =>
  grd (inb (((12 : Int32) * v2_2) + v3_87_2) 192) (
  nm (mset M109_2 (a0 + 11) (ix (((12 : Int32) * v2_2) + v3_87_2)) s0_87_2) fun M122_2 =>
  some (.inl ((v3_87_2 + (1 : Int32)), M122_2)))))
set_option maxRecDepth 100000 in
theorem j_X8_readWay_87_2_ok {C : zC} {d : Nat} {g : zG} {l : Launch} {w : zW} {r : Int32 × zM} {a0 : Nat} {v2_2 : Int32} {v3_87_2 : Int32} {v4_87_2 : Int32} {s0_87_2 : Int32} (hB : bOK C cX8_readWay 6 RX8 d g l w true) (h0 : tO true 8 a0) (hd : 3 ≤ d) (M : zM) (hR : RtZ C cX8_readWay w r.1 r.2) : Sg C w (0, 0) 87 [(0, zr w a0), (1, zr w 78), (2, .int v2_2), (3, .int v3_87_2), (4, .int v4_87_2)] [.int s0_87_2] M (j_X8_readWay_87_2 a0 v2_2 v3_87_2 v4_87_2 s0_87_2 M) (fun o => Sum.elim (fun (s : (Int32 × zM)) => Zs C w (0, 0) 2 [(0, zr w a0), (1, zr w 78), (2, .int v2_2), (3, .int s.1)] [] s.2) (fun q => Sum.elim (fun (s : (Int32 × zM)) => Zs C w (0, 0) 129 [(0, zr w a0), (1, zr w 78), (2, .int v2_2), (3, .int s.1)] [] s.2) (fun q => q = r) q) o) := by
  have hC := hB.1.1
  have hq1 : 1 ≤ d := by omega
  unfold j_X8_readWay_87_2
  refine x_istore (f := 0) hC dX8_readWay_87 [(5, .int s0_87_2), (0, zr w a0), (1, zr w 78), (2, .int v2_2), (3, .int v3_87_2), (4, .int v4_87_2)] (by decide) rfl ?_
  refine x_iload hC dX8_readWay_89 0 rfl ?_
  refine x_iconst (v := (-1 : Int32)) hC dX8_readWay_91 ki_m1 ?_
  refine x_icmp_ne (tgt := 97) hC dX8_readWay_92 (by decide) ?_ ?_
  · refine x_iconst (v := (0 : Int32)) hC dX8_readWay_95 ki_0 ?_
    exact r_retZ hR dX8_readWay_96 (Or.inl rfl) (fun h => h)
  · refine x_aload_n hC dX8_readWay_97 rfl 1 rfl ?_
    refine r_getR hB dX8_readWay_98 kf_X8_28 rfl h0 (nv_8_4 h0).1 ?_
    refine x_bipush (v := (12 : Int32)) hC dX8_readWay_101 kb_12 ?_
    refine x_iload_n hC dX8_readWay_103 rfl 3 rfl ?_
    refine x_imul hC dX8_readWay_104 ?_
    refine x_iload_n hC dX8_readWay_105 rfl 4 rfl ?_
    refine x_iadd hC dX8_readWay_106 ?_
    refine x_iload hC dX8_readWay_107 5 rfl ?_
    refine r_iast hB dX8_readWay_109 (nv_8_4 h0).2 ?_
    refine x_mem (fun M109_2 => ?_)
    refine x_aload_n hC dX8_readWay_110 rfl 1 rfl ?_
    refine r_getR hB dX8_readWay_111 kf_X8_31 rfl h0 (nv_8_5 h0).1 ?_
    refine x_bipush (v := (12 : Int32)) hC dX8_readWay_114 kb_12 ?_
    refine x_iload_n hC dX8_readWay_116 rfl 3 rfl ?_
    refine x_imul hC dX8_readWay_117 ?_
    refine x_iload_n hC dX8_readWay_118 rfl 4 rfl ?_
    refine x_iadd hC dX8_readWay_119 ?_
    refine x_iload hC dX8_readWay_120 0 rfl ?_
    refine r_iast hB dX8_readWay_122 (nv_8_5 h0).2 ?_
    refine x_mem (fun M122_2 => ?_)
    refine x_iinc hC dX8_readWay_123 ki_1 [(3, .int (v3_87_2 + (1 : Int32))), (5, .int s0_87_2), (0, zr w a0), (1, zr w 78), (2, .int v2_2), (4, .int v4_87_2)] 4 rfl (by decide) rfl ?_
    refine x_goto (tgt := 2) hC dX8_readWay_126 (by decide) ?_
    refine x_sub [2, 3, 4, 0] rfl ?_
    exact x_done (fun h => h)
noncomputable def j_X8_readWay_76_2 (a0 : Nat) (v2_2 : Int32) (v3_76_2 : Int32) (v4_76_2 : Int32) (M : zM) : Option ((Int32 × zM) ⊕ ((Int32 × zM) ⊕ (Int32 × zM))) :=
  bnd2 (f_X5_number (1 : Int32) (11 : Int32) M) fun u80_2 M80_2 =>
  j_X8_readWay_87_2 a0 v2_2 v3_76_2 v4_76_2 u80_2 M80_2
set_option maxRecDepth 100000 in
theorem j_X8_readWay_76_2_ok {C : zC} {d : Nat} {g : zG} {l : Launch} {w : zW} {r : Int32 × zM} {a0 : Nat} {v2_2 : Int32} {v3_76_2 : Int32} {v4_76_2 : Int32} (hB : bOK C cX8_readWay 6 RX8 d g l w true) (h0 : tO true 8 a0) (hd : 3 ≤ d) (M : zM) (hR : RtZ C cX8_readWay w r.1 r.2) : Sg C w (0, 0) 76 [(0, zr w a0), (1, zr w 78), (2, .int v2_2), (3, .int v3_76_2), (4, .int v4_76_2)] [] M (j_X8_readWay_76_2 a0 v2_2 v3_76_2 v4_76_2 M) (fun o => Sum.elim (fun (s : (Int32 × zM)) => Zs C w (0, 0) 2 [(0, zr w a0), (1, zr w 78), (2, .int v2_2), (3, .int s.1)] [] s.2) (fun q => Sum.elim (fun (s : (Int32 × zM)) => Zs C w (0, 0) 129 [(0, zr w a0), (1, zr w 78), (2, .int v2_2), (3, .int s.1)] [] s.2) (fun q => q = r) q) o) := by
  have hC := hB.1.1
  have hq1 : 1 ≤ d := by omega
  unfold j_X8_readWay_76_2
  refine x_aload_n hC dX8_readWay_76 rfl 1 rfl ?_
  refine x_iconst (v := (1 : Int32)) hC dX8_readWay_77 ki_1 ?_
  refine x_bipush (v := (11 : Int32)) hC dX8_readWay_78 kb_11 ?_
  refine r_cV2 (as := [.int (1 : Int32), .int (11 : Int32)]) (rest := []) hB dX8_readWay_80 kv_X8_71 th_78 hq1 rfl rfl (Nat.le_of_ble_eq_true rfl) (fun v M' hv => f_X5_number_met hB.2 (by omega) hv) (fun u80_2 M80_2 => ?_)
  refine x_goto (tgt := 87) hC dX8_readWay_83 (by decide) ?_
  exact j_X8_readWay_87_2_ok hB h0 hd M80_2 hR
noncomputable def j_X8_readWay_45_2 (a0 : Nat) (v2_2 : Int32) (v3_45_2 : Int32) (v4_45_2 : Int32) (s1_45_2 : Int32) (M : zM) : Option ((Int32 × zM) ⊕ ((Int32 × zM) ⊕ (Int32 × zM))) :=
  bnd2 (f_X5_opens s1_45_2 v3_45_2 (12 : Int32) M) fun u48_2 M48_2 =>
  if u48_2 = 0 then (some (.inr (.inr ((0 : Int32), M48_2))))
  else ((f_X5_next M48_2).bind fun M57_2 =>
  if v4_45_2 = (150 : Int32) then (j_X8_readWay_76_2 a0 v2_2 v3_45_2 v4_45_2 M57_2)
  else (if v4_45_2 = (154 : Int32) then (j_X8_readWay_76_2 a0 v2_2 v3_45_2 v4_45_2 M57_2)
  else (j_X8_readWay_87_2 a0 v2_2 v3_45_2 v4_45_2 (1 : Int32) M57_2)))
set_option maxRecDepth 100000 in
theorem j_X8_readWay_45_2_ok {C : zC} {d : Nat} {g : zG} {l : Launch} {w : zW} {r : Int32 × zM} {a0 : Nat} {v2_2 : Int32} {v3_45_2 : Int32} {v4_45_2 : Int32} {s1_45_2 : Int32} (hB : bOK C cX8_readWay 6 RX8 d g l w true) (h0 : tO true 8 a0) (hd : 3 ≤ d) (M : zM) (hR : RtZ C cX8_readWay w r.1 r.2) : Sg C w (0, 0) 45 [(0, zr w a0), (1, zr w 78), (2, .int v2_2), (3, .int v3_45_2), (4, .int v4_45_2)] [.int s1_45_2, zr w 78] M (j_X8_readWay_45_2 a0 v2_2 v3_45_2 v4_45_2 s1_45_2 M) (fun o => Sum.elim (fun (s : (Int32 × zM)) => Zs C w (0, 0) 2 [(0, zr w a0), (1, zr w 78), (2, .int v2_2), (3, .int s.1)] [] s.2) (fun q => Sum.elim (fun (s : (Int32 × zM)) => Zs C w (0, 0) 129 [(0, zr w a0), (1, zr w 78), (2, .int v2_2), (3, .int s.1)] [] s.2) (fun q => q = r) q) o) := by
  have hC := hB.1.1
  have hq1 : 1 ≤ d := by omega
  unfold j_X8_readWay_45_2
  refine x_iload_n hC dX8_readWay_45 rfl 3 rfl ?_
  refine x_bipush (v := (12 : Int32)) hC dX8_readWay_46 kb_12 ?_
  refine r_cV2 (as := [.int s1_45_2, .int v3_45_2, .int (12 : Int32)]) (rest := []) hB dX8_readWay_48 kv_X8_56 th_78 hq1 rfl rfl (Nat.le_of_ble_eq_true rfl) (fun v M' hv => f_X5_opens_met hB.2 (by omega) hv) (fun u48_2 M48_2 => ?_)
  refine x_if_ne (tgt := 56) hC dX8_readWay_51 (by decide) ?_ ?_
  · refine x_iconst (v := (0 : Int32)) hC dX8_readWay_54 ki_0 ?_
    exact r_retZ hR dX8_readWay_55 (Or.inl rfl) (fun h => h)
  · refine x_aload_n hC dX8_readWay_56 rfl 1 rfl ?_
    refine r_cVv (as := []) (rest := []) hB dX8_readWay_57 kv_X8_60 th_78 hq1 rfl rfl (Nat.le_of_ble_eq_true rfl) (fun M' hv => f_X5_next_met hB.2 (by omega) hv) (fun M57_2 => ?_)
    refine x_iload hC dX8_readWay_60 4 rfl ?_
    refine x_sipush (v := (150 : Int32)) hC dX8_readWay_62 kh_150 ?_
    refine x_icmp_eq (tgt := 76) hC dX8_readWay_65 (by decide) ?_ ?_
    · exact j_X8_readWay_76_2_ok hB h0 hd M57_2 hR
    · refine x_iload hC dX8_readWay_68 4 rfl ?_
      refine x_sipush (v := (154 : Int32)) hC dX8_readWay_70 kh_154 ?_
      refine x_icmp_ne (tgt := 86) hC dX8_readWay_73 (by decide) ?_ ?_
      · exact j_X8_readWay_76_2_ok hB h0 hd M57_2 hR
      · refine x_iconst (v := (1 : Int32)) hC dX8_readWay_86 ki_1 ?_
        exact j_X8_readWay_87_2_ok hB h0 hd M57_2 hR
noncomputable def j_X8_readWay_44_2 (a0 : Nat) (v2_2 : Int32) (v3_44_2 : Int32) (v4_44_2 : Int32) (M : zM) : Option ((Int32 × zM) ⊕ ((Int32 × zM) ⊕ (Int32 × zM))) :=
  j_X8_readWay_45_2 a0 v2_2 v3_44_2 v4_44_2 (0 : Int32) M
set_option maxRecDepth 100000 in
theorem j_X8_readWay_44_2_ok {C : zC} {d : Nat} {g : zG} {l : Launch} {w : zW} {r : Int32 × zM} {a0 : Nat} {v2_2 : Int32} {v3_44_2 : Int32} {v4_44_2 : Int32} (hB : bOK C cX8_readWay 6 RX8 d g l w true) (h0 : tO true 8 a0) (hd : 3 ≤ d) (M : zM) (hR : RtZ C cX8_readWay w r.1 r.2) : Sg C w (0, 0) 44 [(0, zr w a0), (1, zr w 78), (2, .int v2_2), (3, .int v3_44_2), (4, .int v4_44_2)] [zr w 78] M (j_X8_readWay_44_2 a0 v2_2 v3_44_2 v4_44_2 M) (fun o => Sum.elim (fun (s : (Int32 × zM)) => Zs C w (0, 0) 2 [(0, zr w a0), (1, zr w 78), (2, .int v2_2), (3, .int s.1)] [] s.2) (fun q => Sum.elim (fun (s : (Int32 × zM)) => Zs C w (0, 0) 129 [(0, zr w a0), (1, zr w 78), (2, .int v2_2), (3, .int s.1)] [] s.2) (fun q => q = r) q) o) := by
  have hC := hB.1.1
  have hq1 : 1 ≤ d := by omega
  unfold j_X8_readWay_44_2
  refine x_iconst (v := (0 : Int32)) hC dX8_readWay_44 ki_0 ?_
  exact j_X8_readWay_45_2_ok hB h0 hd M hR
noncomputable def b_X8_readWay_2 (a0 : Nat) (v2_2 : Int32) (v3_2 : Int32) (M : zM) : Option ((Int32 × zM) ⊕ ((Int32 × zM) ⊕ (Int32 × zM))) :=
  if (12 : Int32) < v3_2 then (some (.inr (.inl (v3_2, M))))
  else ((f_X5_kind M).bind fun u9_2 =>
  if u9_2 = (59 : Int32) then (some (.inr (.inl (v3_2, M))))
  else ((f_X5_kind M).bind fun u18_2 =>
  if u18_2 < (150 : Int32) then (j_X8_readWay_44_2 a0 v2_2 v3_2 u18_2 M)
  else (if (154 : Int32) < u18_2 then (j_X8_readWay_44_2 a0 v2_2 v3_2 u18_2 M)
  else (j_X8_readWay_45_2 a0 v2_2 v3_2 u18_2 (1 : Int32) M))))
set_option maxRecDepth 100000 in
theorem b_X8_readWay_2_ok {C : zC} {d : Nat} {g : zG} {l : Launch} {w : zW} {r : Int32 × zM} {a0 : Nat} {v2_2 : Int32} {v3_2 : Int32} (hB : bOK C cX8_readWay 6 RX8 d g l w true) (h0 : tO true 8 a0) (hd : 3 ≤ d) (M : zM) (hR : RtZ C cX8_readWay w r.1 r.2) : Sg C w (0, 0) 2 [(0, zr w a0), (1, zr w 78), (2, .int v2_2), (3, .int v3_2)] [] M (b_X8_readWay_2 a0 v2_2 v3_2 M) (fun o => Sum.elim (fun (s : (Int32 × zM)) => Zs C w (0, 0) 2 [(0, zr w a0), (1, zr w 78), (2, .int v2_2), (3, .int s.1)] [] s.2) (fun q => Sum.elim (fun (s : (Int32 × zM)) => Zs C w (0, 0) 129 [(0, zr w a0), (1, zr w 78), (2, .int v2_2), (3, .int s.1)] [] s.2) (fun q => q = r) q) o) := by
  have hC := hB.1.1
  have hq1 : 1 ≤ d := by omega
  unfold b_X8_readWay_2
  refine x_iload_n hC dX8_readWay_2 rfl 3 rfl ?_
  refine x_bipush (v := (12 : Int32)) hC dX8_readWay_3 kb_12 ?_
  refine x_icmp_gt (tgt := 129) hC dX8_readWay_5 (by decide) ?_ ?_
  · exact x_done (fun h => h)
  · refine x_aload_n hC dX8_readWay_8 rfl 1 rfl ?_
    refine r_cV1 (as := []) (rest := []) hB dX8_readWay_9 kv_X8_46 th_78 hq1 rfl rfl (Nat.le_of_ble_eq_true rfl) (fun v hv => f_X5_kind_met hB.2 (by omega) hv) (fun u9_2 => ?_)
    refine x_bipush (v := (59 : Int32)) hC dX8_readWay_12 kb_59 ?_
    refine x_icmp_eq (tgt := 129) hC dX8_readWay_14 (by decide) ?_ ?_
    · exact x_done (fun h => h)
    · refine x_aload_n hC dX8_readWay_17 rfl 1 rfl ?_
      refine r_cV1 (as := []) (rest := []) hB dX8_readWay_18 kv_X8_46 th_78 hq1 rfl rfl (Nat.le_of_ble_eq_true rfl) (fun v hv => f_X5_kind_met hB.2 (by omega) hv) (fun u18_2 => ?_)
      refine x_istore (f := 0) hC dX8_readWay_21 [(4, .int u18_2), (0, zr w a0), (1, zr w 78), (2, .int v2_2), (3, .int v3_2)] (by decide) rfl ?_
      refine x_aload_n hC dX8_readWay_23 rfl 2 rfl ?_
      refine x_iload hC dX8_readWay_24 0 rfl ?_
      refine x_sipush (v := (150 : Int32)) hC dX8_readWay_26 kh_150 ?_
      refine x_icmp_lt (tgt := 44) hC dX8_readWay_29 (by decide) ?_ ?_
      · refine x_sub [1, 2, 3, 4, 0] rfl ?_
        exact j_X8_readWay_44_2_ok hB h0 hd M hR
      · refine x_iload hC dX8_readWay_32 0 rfl ?_
        refine x_sipush (v := (154 : Int32)) hC dX8_readWay_34 kh_154 ?_
        refine x_icmp_gt (tgt := 44) hC dX8_readWay_37 (by decide) ?_ ?_
        · refine x_sub [1, 2, 3, 4, 0] rfl ?_
          exact j_X8_readWay_44_2_ok hB h0 hd M hR
        · refine x_iconst (v := (1 : Int32)) hC dX8_readWay_40 ki_1 ?_
          refine x_goto (tgt := 45) hC dX8_readWay_41 (by decide) ?_
          refine x_sub [1, 2, 3, 4, 0] rfl ?_
          exact j_X8_readWay_45_2_ok hB h0 hd M hR
noncomputable def j_X8_readWay_129 (a0 : Nat) (v2_129 : Int32) (v3_129 : Int32) (M : zM) : Option (Int32 × zM) :=
  grd (inb v2_129 16) (
  nm (mset M (a0 + 9) (ix v2_129) v3_129) fun M135 =>
  bnd2 (f_X5_take (59 : Int32) M135) fun u139 M139 =>
  grd (isB u139) (some (u139, M139)))
set_option maxRecDepth 100000 in
theorem j_X8_readWay_129_ok {C : zC} {d : Nat} {g : zG} {l : Launch} {w : zW} {r : Int32 × zM} {a0 : Nat} {v2_129 : Int32} {v3_129 : Int32} (hB : bOK C cX8_readWay 6 RX8 d g l w true) (h0 : tO true 8 a0) (hd : 3 ≤ d) (M : zM) (hR : RtZ C cX8_readWay w r.1 r.2) : Sg C w (0, 0) 129 [(0, zr w a0), (1, zr w 78), (2, .int v2_129), (3, .int v3_129)] [] M (j_X8_readWay_129 a0 v2_129 v3_129 M) (fun q => q = r) := by
  have hC := hB.1.1
  have hq1 : 1 ≤ d := by omega
  unfold j_X8_readWay_129
  refine x_aload_n hC dX8_readWay_129 rfl 0 rfl ?_
  refine r_getR hB dX8_readWay_130 kf_X8_25 rfl h0 (nv_8_3 h0).1 ?_
  refine x_iload_n hC dX8_readWay_133 rfl 2 rfl ?_
  refine x_iload_n hC dX8_readWay_134 rfl 3 rfl ?_
  refine r_iast hB dX8_readWay_135 (nv_8_3 h0).2 ?_
  refine x_mem (fun M135 => ?_)
  refine x_aload_n hC dX8_readWay_136 rfl 1 rfl ?_
  refine x_bipush (v := (59 : Int32)) hC dX8_readWay_137 kb_59 ?_
  refine r_cV2 (as := [.int (59 : Int32)]) (rest := []) hB dX8_readWay_139 kv_X8_67 th_78 hq1 rfl rfl (Nat.le_of_ble_eq_true rfl) (fun v M' hv => f_X5_take_met hB.2 (by omega) hv) (fun u139 M139 => ?_)
  refine x_grd (fun hb => ?_)
  exact r_retZ hR dX8_readWay_142 hb (fun h => h)
noncomputable def f_X8_readWay (a0 : Nat) (p2 : Int32) (M : zM) : Option (Int32 × zM) :=
  (loopW (fun s => b_X8_readWay_2 a0 p2 s.1 s.2) ((0 : Int32), M)).bind (fun q => Sum.elim (fun r => j_X8_readWay_129 a0 p2 r.1 r.2) some q)
set_option maxRecDepth 100000 in
theorem f_X8_readWay_ok {C : zC} {d : Nat} {g : zG} {l : Launch} {w : zW} {r : Int32 × zM} {a0 : Nat} {p2 : Int32} (hB : bOK C cX8_readWay 6 RX8 d g l w true) (h0 : tO true 8 a0) (hd : 3 ≤ d) (M : zM) (hR : RtZ C cX8_readWay w r.1 r.2) : Sg C w (0, 0) 0 [(0, zr w a0), (1, zr w 78), (2, .int p2)] [] M (f_X8_readWay a0 p2 M) (fun q => q = r) := by
  have hC := hB.1.1
  have hq1 : 1 ≤ d := by omega
  unfold f_X8_readWay
  refine x_iconst (v := (0 : Int32)) hC dX8_readWay_0 ki_0 ?_
  refine x_istore_n hC dX8_readWay_1 rfl [(3, .int (0 : Int32)), (0, zr w a0), (1, zr w 78), (2, .int p2)] (by decide) rfl ?_
  refine x_sub [1, 2, 3, 0] rfl ?_
  refine x_loopR (pc2 := 129) (fun (s : (Int32 × zM)) => [(0, zr w a0), (1, zr w 78), (2, .int p2), (3, .int s.1)]) (fun (s : (Int32 × zM)) => s.2) (fun (s : (Int32 × zM)) => [(0, zr w a0), (1, zr w 78), (2, .int p2), (3, .int s.1)]) (fun (s : (Int32 × zM)) => s.2) ((0 : Int32), M) ?_ ?_
  · exact fun s => b_X8_readWay_2_ok hB h0 hd s.2 hR
  · intro r9
    exact j_X8_readWay_129_ok hB h0 hd r9.2 hR
theorem f_X8_readWay_met {l : Launch} {d : Nat} {g : zG} {w : zW} {M0 : zM} {a0 : Nat} {p2 : Int32} {M : zM} (hw : wS w) (h0 : tO true 8 a0) (hd : 3 ≤ d) {v : Int32} {M' : zM} (h : f_X8_readWay a0 p2 M = some (v, M')) : zMet l yX8_readWay cX8_readWay 6 (some .boolean) d g w (zin true) M0 [zr w a0, zr w 78, .int p2] M (some (.int v)) M' :=
  met_z (by decide +kernel) (Nat.le_of_ble_eq_true rfl) (fun C hB0 hR => f_X8_readWay_ok (r := (v, M')) ⟨hB0, hw⟩ h0 hd M hR _ h rfl)
/-! WindingSquare$Texts.readWatchers(LWindingSquare$Reader;)I -/
noncomputable def f_X8_readWatchers (a0 : Nat) (M : zM) : Option (Int32 × zM) :=
  (f_X5_kind M).bind fun u1 =>
  if u1 = (156 : Int32) then ((f_X5_next M).bind fun M11 =>
  some ((0 : Int32), M11))
  else (bnd2 (f_X5_take (143 : Int32) M) fun u20 M20 =>
  if u20 = 0 then (some ((-1 : Int32), M20))
  else (bnd2 (f_X5_number (1 : Int32) (9 : Int32) M20) fun u30 M30 =>
  some (u30, M30)))
set_option maxRecDepth 100000 in
theorem f_X8_readWatchers_ok {C : zC} {d : Nat} {g : zG} {l : Launch} {w : zW} {r : Int32 × zM} {a0 : Nat} (hB : bOK C cX8_readWatchers 2 RX8 d g l w true) (h0 : tO true 8 a0) (hd : 3 ≤ d) (M : zM) (hR : RtI C cX8_readWatchers w r.1 r.2) : Sg C w (0, 0) 0 [(0, zr w a0), (1, zr w 78)] [] M (f_X8_readWatchers a0 M) (fun q => q = r) := by
  have hC := hB.1.1
  have hq1 : 1 ≤ d := by omega
  unfold f_X8_readWatchers
  refine x_aload_n hC dX8_readWatchers_0 rfl 1 rfl ?_
  refine r_cV1 (as := []) (rest := []) hB dX8_readWatchers_1 kv_X8_46 th_78 hq1 rfl rfl (Nat.le_of_ble_eq_true rfl) (fun v hv => f_X5_kind_met hB.2 (by omega) hv) (fun u1 => ?_)
  refine x_sipush (v := (156 : Int32)) hC dX8_readWatchers_4 kh_156 ?_
  refine x_icmp_ne (tgt := 16) hC dX8_readWatchers_7 (by decide) ?_ ?_
  · refine x_aload_n hC dX8_readWatchers_10 rfl 1 rfl ?_
    refine r_cVv (as := []) (rest := []) hB dX8_readWatchers_11 kv_X8_60 th_78 hq1 rfl rfl (Nat.le_of_ble_eq_true rfl) (fun M' hv => f_X5_next_met hB.2 (by omega) hv) (fun M11 => ?_)
    refine x_iconst (v := (0 : Int32)) hC dX8_readWatchers_14 ki_0 ?_
    exact r_retI hR dX8_readWatchers_15 (fun h => h)
  · refine x_aload_n hC dX8_readWatchers_16 rfl 1 rfl ?_
    refine x_sipush (v := (143 : Int32)) hC dX8_readWatchers_17 kh_143 ?_
    refine r_cV2 (as := [.int (143 : Int32)]) (rest := []) hB dX8_readWatchers_20 kv_X8_67 th_78 hq1 rfl rfl (Nat.le_of_ble_eq_true rfl) (fun v M' hv => f_X5_take_met hB.2 (by omega) hv) (fun u20 M20 => ?_)
    refine x_if_eq (tgt := 36) hC dX8_readWatchers_23 (by decide) ?_ ?_
    · refine x_iconst (v := (-1 : Int32)) hC dX8_readWatchers_36 ki_m1 ?_
      exact r_retI hR dX8_readWatchers_37 (fun h => h)
    · refine x_aload_n hC dX8_readWatchers_26 rfl 1 rfl ?_
      refine x_iconst (v := (1 : Int32)) hC dX8_readWatchers_27 ki_1 ?_
      refine x_bipush (v := (9 : Int32)) hC dX8_readWatchers_28 kb_9 ?_
      refine r_cV2 (as := [.int (1 : Int32), .int (9 : Int32)]) (rest := []) hB dX8_readWatchers_30 kv_X8_71 th_78 hq1 rfl rfl (Nat.le_of_ble_eq_true rfl) (fun v M' hv => f_X5_number_met hB.2 (by omega) hv) (fun u30 M30 => ?_)
      refine x_goto (tgt := 37) hC dX8_readWatchers_33 (by decide) ?_
      exact r_retI hR dX8_readWatchers_37 (fun h => h)
theorem f_X8_readWatchers_met {l : Launch} {d : Nat} {g : zG} {w : zW} {M0 : zM} {a0 : Nat} {M : zM} (hw : wS w) (h0 : tO true 8 a0) (hd : 3 ≤ d) {v : Int32} {M' : zM} (h : f_X8_readWatchers a0 M = some (v, M')) : zMet l yX8_readWatchers cX8_readWatchers 2 (some .int) d g w (zin true) M0 [zr w a0, zr w 78] M (some (.int v)) M' :=
  met_i (by decide +kernel) (Nat.le_of_ble_eq_true rfl) rfl (fun C hB0 hR => f_X8_readWatchers_ok (r := (v, M')) ⟨hB0, hw⟩ h0 hd M hR _ h rfl)
/-! WindingSquare.walker(I)I -/
noncomputable def f_X10_walker (p1 : Int32) (M : zM) : Option (Int32 × zM) :=
  if p1 < 0 then (some ((-1 : Int32), M))
  else (if (9 : Int32) < p1 then (some ((-1 : Int32), M))
  else (if (M 1 2) < (16 : Int32) then (nm (M 1 2) fun v2_31 =>
  grd (inb v2_31 16) (
  (f_X9_begin (1 + 3 + ix v2_31) p1 M).bind fun M42 =>
  nm (mset M42 1 2 ((M42 1 2) + (1 : Int32))) fun M55 =>
  (f_X10_forget M55).bind fun M59 =>
  some (v2_31, M59)))
  else (some ((-1 : Int32), M))))
set_option maxRecDepth 100000 in
theorem f_X10_walker_ok {C : zC} {d : Nat} {g : zG} {l : Launch} {w : zW} {r : Int32 × zM} {p1 : Int32} (hB : bOK C cX10_walker 3 RX10 d g l w true) (hd : 3 ≤ d) (M : zM) (hR : RtI C cX10_walker w r.1 r.2) : Sg C w (0, 0) 0 [(0, zr w 0), (1, .int p1)] [] M (f_X10_walker p1 M) (fun q => q = r) := by
  have hC := hB.1.1
  have hq1 : 1 ≤ d := by omega
  unfold f_X10_walker
  refine x_iload_n hC dX10_walker_0 rfl 1 rfl ?_
  refine x_if_lt (tgt := 22) hC dX10_walker_1 (by decide) ?_ ?_
  · refine x_iconst (v := (-1 : Int32)) hC dX10_walker_22 ki_m1 ?_
    exact r_retI hR dX10_walker_23 (fun h => h)
  · refine x_iload_n hC dX10_walker_4 rfl 1 rfl ?_
    refine x_bipush (v := (9 : Int32)) hC dX10_walker_5 kb_9 ?_
    refine x_icmp_gt (tgt := 22) hC dX10_walker_7 (by decide) ?_ ?_
    · refine x_iconst (v := (-1 : Int32)) hC dX10_walker_22 ki_m1 ?_
      exact r_retI hR dX10_walker_23 (fun h => h)
    · refine x_aload_n hC dX10_walker_10 rfl 0 rfl ?_
      refine r_getR hB dX10_walker_11 kf_X10_10 rfl th_0 rf_0_0 ?_
      refine r_getI hB dX10_walker_14 kf_X10_102 rfl th_1 ?_
      refine x_bipush (v := (16 : Int32)) hC dX10_walker_17 kb_16 ?_
      refine x_icmp_lt (tgt := 24) hC dX10_walker_19 (by decide) ?_ ?_
      · refine x_aload_n hC dX10_walker_24 rfl 0 rfl ?_
        refine r_getR hB dX10_walker_25 kf_X10_10 rfl th_0 rf_0_0 ?_
        refine r_getI hB dX10_walker_28 kf_X10_102 rfl th_1 ?_
        refine x_top (fun v2_31 => ?_)
        refine x_istore_n hC dX10_walker_31 rfl [(2, .int v2_31), (0, zr w 0), (1, .int p1)] (by decide) rfl ?_
        refine x_aload_n hC dX10_walker_32 rfl 1 rfl ?_
        refine r_getR hB dX10_walker_33 kf_X10_10 rfl th_0 rf_0_0 ?_
        refine r_getR hB dX10_walker_36 kf_X10_105 rfl th_1 rf_1_0 ?_
        refine x_iload_n hC dX10_walker_39 rfl 0 rfl ?_
        refine r_aaW (a := 1) hB dX10_walker_40 th_1 (fun hg40 => ?_)
        refine x_iload_n hC dX10_walker_41 rfl 2 rfl ?_
        refine r_cVv (as := [.int p1]) (rest := []) hB dX10_walker_42 kv_X10_109 (nv_wk th_1 hg40).2 hq1 rfl rfl (Nat.le_of_ble_eq_true rfl) (fun M' hv => f_X9_begin_met hB.2 (nv_wk th_1 hg40).2 (by omega) hv) (fun M42 => ?_)
        refine x_aload_n hC dX10_walker_45 rfl 1 rfl ?_
        refine r_getR hB dX10_walker_46 kf_X10_10 rfl th_0 rf_0_0 ?_
        refine x_dup hC dX10_walker_49 rfl ?_
        refine r_getI hB dX10_walker_50 kf_X10_102 rfl th_1 ?_
        refine x_iconst (v := (1 : Int32)) hC dX10_walker_53 ki_1 ?_
        refine x_iadd hC dX10_walker_54 ?_
        refine r_putI hB dX10_walker_55 kf_X10_102 rfl th_1 ?_
        refine x_mem (fun M55 => ?_)
        refine x_aload_n hC dX10_walker_58 rfl 1 rfl ?_
        refine r_cVv (as := []) (rest := []) hB dX10_walker_59 kv_X10_99 th_0 hq1 rfl rfl (Nat.le_of_ble_eq_true rfl) (fun M' hv => f_X10_forget_met hB.2 (by omega) hv) (fun M59 => ?_)
        refine x_iload_n hC dX10_walker_62 rfl 0 rfl ?_
        exact r_retI hR dX10_walker_63 (fun h => h)
      · refine x_iconst (v := (-1 : Int32)) hC dX10_walker_22 ki_m1 ?_
        exact r_retI hR dX10_walker_23 (fun h => h)
theorem f_X10_walker_met {l : Launch} {d : Nat} {g : zG} {w : zW} {M0 : zM} {p1 : Int32} {M : zM} (hw : wS w) (hd : 3 ≤ d) {v : Int32} {M' : zM} (h : f_X10_walker p1 M = some (v, M')) : zMet l yX10_walker cX10_walker 3 (some .int) d g w (zin true) M0 [zr w 0, .int p1] M (some (.int v)) M' :=
  met_i (by decide +kernel) (Nat.le_of_ble_eq_true rfl) rfl (fun C hB0 hR => f_X10_walker_ok (r := (v, M')) ⟨hB0, hw⟩ hd M hR _ h rfl)
/-! WindingSquare.cell(III)I -/
noncomputable def f_X10_cell (p1 : Int32) (p2 : Int32) (p3 : Int32) (M : zM) : Option (Int32) :=
  if (f_X10_inRow p1) = 0 then (some (-2 : Int32))
  else (if (f_X10_inRow p2) = 0 then (some (-2 : Int32))
  else (nm (((12 : Int32) * p2) + p1) fun v4_23 =>
  if p3 = (0 : Int32) then (grd (inb v4_23 144) (
  some (M 3 (ix v4_23))))
  else (if p3 = (1 : Int32) then ((f_X7_whoAt 1 v4_23 M).bind fun u69 =>
  some u69)
  else (some (-2 : Int32)))))
set_option maxRecDepth 100000 in
theorem f_X10_cell_ok {C : zC} {d : Nat} {g : zG} {l : Launch} {w : zW} {r : Int32} {p1 : Int32} {p2 : Int32} {p3 : Int32} (hB : bOK C cX10_cell 5 RX10 d g l w true) (hd : 3 ≤ d) (M : zM) (hR : RtI C cX10_cell w r M) : Sg C w (0, 0) 0 [(0, zr w 0), (1, .int p1), (2, .int p2), (3, .int p3)] [] M (f_X10_cell p1 p2 p3 M) (fun q => q = r) := by
  have hC := hB.1.1
  have hq1 : 1 ≤ d := by omega
  unfold f_X10_cell
  refine x_iload_n hC dX10_cell_0 rfl 1 rfl ?_
  refine r_cS0 (as := [.int p1]) (rest := []) hB dX10_cell_1 ks_X10_123 hq1 rfl rfl (Nat.le_of_ble_eq_true rfl) (f_X10_inRow_met hB.2 (by omega)) ?_
  refine x_if_eq (tgt := 14) hC dX10_cell_4 (by decide) ?_ ?_
  · refine x_bipush (v := (-2 : Int32)) hC dX10_cell_14 kb_m2 ?_
    exact r_retI hR dX10_cell_16 (fun h => congrArg (fun q => (q, M)) h)
  · refine x_iload_n hC dX10_cell_7 rfl 2 rfl ?_
    refine r_cS0 (as := [.int p2]) (rest := []) hB dX10_cell_8 ks_X10_123 hq1 rfl rfl (Nat.le_of_ble_eq_true rfl) (f_X10_inRow_met hB.2 (by omega)) ?_
    refine x_if_ne (tgt := 17) hC dX10_cell_11 (by decide) ?_ ?_
    · refine x_bipush (v := (-2 : Int32)) hC dX10_cell_14 kb_m2 ?_
      exact r_retI hR dX10_cell_16 (fun h => congrArg (fun q => (q, M)) h)
    · refine x_bipush (v := (12 : Int32)) hC dX10_cell_17 kb_12 ?_
      refine x_iload_n hC dX10_cell_19 rfl 2 rfl ?_
      refine x_imul hC dX10_cell_20 ?_
      refine x_iload_n hC dX10_cell_21 rfl 1 rfl ?_
      refine x_iadd hC dX10_cell_22 ?_
      refine x_top (fun v4_23 => ?_)
      refine x_istore (f := 0) hC dX10_cell_23 [(4, .int v4_23), (0, zr w 0), (1, .int p1), (2, .int p2), (3, .int p3)] (by decide) rfl ?_
      refine x_iload_n hC dX10_cell_25 rfl 4 rfl ?_
      refine x_ite (fun hs => ?_) (fun hs0 => ?_)
      · refine x_lsw (tgt := 52) (off := 26) hC dX10_cell_26 (by decide +kernel) (by rw [hs]; decide +kernel) (by decide) ?_
        refine x_aload_n hC dX10_cell_52 rfl 1 rfl ?_
        refine r_getR hB dX10_cell_53 kf_X10_10 rfl th_0 rf_0_0 ?_
        refine r_getR hB dX10_cell_56 kf_X10_65 rfl th_1 rf_1_1 ?_
        refine x_iload hC dX10_cell_59 0 rfl ?_
        refine r_iald hB dX10_cell_61 th_3 ?_
        exact r_retI hR dX10_cell_62 (fun h => congrArg (fun q => (q, M)) h)
      · skip
        refine x_ite (fun hs => ?_) (fun hs1 => ?_)
        · refine x_lsw (tgt := 63) (off := 37) hC dX10_cell_26 (by decide +kernel) (by rw [hs]; decide +kernel) (by decide) ?_
          refine x_aload_n hC dX10_cell_63 rfl 1 rfl ?_
          refine r_getR hB dX10_cell_64 kf_X10_10 rfl th_0 rf_0_0 ?_
          refine x_iload hC dX10_cell_67 0 rfl ?_
          refine r_cV1 (as := [.int v4_23]) (rest := []) hB dX10_cell_69 kv_X10_130 th_1 hq1 rfl rfl (Nat.le_of_ble_eq_true rfl) (fun v hv => f_X7_whoAt_met hB.2 th_1 (by omega) hv) (fun u69 => ?_)
          exact r_retI hR dX10_cell_72 (fun h => congrArg (fun q => (q, M)) h)
        · skip
          refine x_lsw (tgt := 73) (off := 47) hC dX10_cell_26 (by decide +kernel) (by have q0 := (x_ne (k := 0) hs0 (by decide)).symm; have q1 := (x_ne (k := 1) hs1 (by decide)).symm; simp [Op.lookupswitch.offset, *]; done) (by decide) ?_
          refine x_bipush (v := (-2 : Int32)) hC dX10_cell_73 kb_m2 ?_
          exact r_retI hR dX10_cell_75 (fun h => congrArg (fun q => (q, M)) h)
theorem f_X10_cell_met {l : Launch} {d : Nat} {g : zG} {w : zW} {M0 : zM} {p1 : Int32} {p2 : Int32} {p3 : Int32} {M : zM} (hw : wS w) (hd : 3 ≤ d) {v : Int32} (h : f_X10_cell p1 p2 p3 M = some v) : zMet l yX10_cell cX10_cell 5 (some .int) d g w (zin true) M0 [zr w 0, .int p1, .int p2, .int p3] M (some (.int v)) M :=
  met_i (by decide +kernel) (Nat.le_of_ble_eq_true rfl) rfl (fun C hB0 hR => f_X10_cell_ok ⟨hB0, hw⟩ hd M hR _ h rfl)
/-! WindingSquare.round(I)I -/
noncomputable def f_X10_round (p1 : Int32) (M : zM) : Option (Int32 × zM) :=
  if p1 = (0 : Int32) then ((f_X6_wound 70 M).bind fun u36 =>
  some (u36, M))
  else (if p1 = (1 : Int32) then (bnd2 (f_X6_home 70 M) fun u44 M44 =>
  some (u44, M44))
  else (if p1 = (2 : Int32) then (bnd2 (f_X6_again 70 M) fun u52 M52 =>
  some (u52, M52))
  else (if p1 = (3 : Int32) then (bnd2 (f_X6_about 70 M) fun u60 M60 =>
  some (u60, M60))
  else (some ((-100 : Int32), M)))))
set_option maxRecDepth 100000 in
theorem f_X10_round_ok {C : zC} {d : Nat} {g : zG} {l : Launch} {w : zW} {r : Int32 × zM} {p1 : Int32} (hB : bOK C cX10_round 2 RX10 d g l w true) (hd : 3 ≤ d) (M : zM) (hR : RtI C cX10_round w r.1 r.2) : Sg C w (0, 0) 0 [(0, zr w 0), (1, .int p1)] [] M (f_X10_round p1 M) (fun q => q = r) := by
  have hC := hB.1.1
  have hq1 : 1 ≤ d := by omega
  unfold f_X10_round
  refine x_iload_n hC dX10_round_0 rfl 1 rfl ?_
  refine x_ite (fun hs => ?_) (fun hs0 => ?_)
  · refine x_tsI (tgt := 32) (off := 31) hC dX10_round_1 (by rw [hs]; decide +kernel) (by rw [hs]; decide +kernel) (by rw [hs]; decide +kernel) (by decide) ?_
    refine x_aload_n hC dX10_round_32 rfl 0 rfl ?_
    refine r_getR hB dX10_round_33 kf_X10_43 rfl th_0 rf_0_8 ?_
    refine r_cV1 (as := []) (rest := []) hB dX10_round_36 kv_X10_269 th_70 hq1 rfl rfl (Nat.le_of_ble_eq_true rfl) (fun v hv => f_X6_wound_met hB.2 th_70 (by omega) hv) (fun u36 => ?_)
    exact r_retI hR dX10_round_39 (fun h => h)
  · skip
    refine x_ite (fun hs => ?_) (fun hs1 => ?_)
    · refine x_tsI (tgt := 40) (off := 39) hC dX10_round_1 (by rw [hs]; decide +kernel) (by rw [hs]; decide +kernel) (by rw [hs]; decide +kernel) (by decide) ?_
      refine x_aload_n hC dX10_round_40 rfl 0 rfl ?_
      refine r_getR hB dX10_round_41 kf_X10_43 rfl th_0 rf_0_8 ?_
      refine r_cV2 (as := []) (rest := []) hB dX10_round_44 kv_X10_272 th_70 hq1 rfl rfl (Nat.le_of_ble_eq_true rfl) (fun v M' hv => f_X6_home_met hB.2 th_70 (by omega) hv) (fun u44 M44 => ?_)
      exact r_retI hR dX10_round_47 (fun h => h)
    · skip
      refine x_ite (fun hs => ?_) (fun hs2 => ?_)
      · refine x_tsI (tgt := 48) (off := 47) hC dX10_round_1 (by rw [hs]; decide +kernel) (by rw [hs]; decide +kernel) (by rw [hs]; decide +kernel) (by decide) ?_
        refine x_aload_n hC dX10_round_48 rfl 0 rfl ?_
        refine r_getR hB dX10_round_49 kf_X10_43 rfl th_0 rf_0_8 ?_
        refine r_cV2 (as := []) (rest := []) hB dX10_round_52 kv_X10_275 th_70 hq1 rfl rfl (Nat.le_of_ble_eq_true rfl) (fun v M' hv => f_X6_again_met hB.2 th_70 (by omega) hv) (fun u52 M52 => ?_)
        exact r_retI hR dX10_round_55 (fun h => h)
      · skip
        refine x_ite (fun hs => ?_) (fun hs3 => ?_)
        · refine x_tsI (tgt := 56) (off := 55) hC dX10_round_1 (by rw [hs]; decide +kernel) (by rw [hs]; decide +kernel) (by rw [hs]; decide +kernel) (by decide) ?_
          refine x_aload_n hC dX10_round_56 rfl 0 rfl ?_
          refine r_getR hB dX10_round_57 kf_X10_43 rfl th_0 rf_0_8 ?_
          refine r_cV2 (as := []) (rest := []) hB dX10_round_60 kv_X10_278 th_70 hq1 rfl rfl (Nat.le_of_ble_eq_true rfl) (fun v M' hv => f_X6_about_met hB.2 th_70 (by omega) hv) (fun u60 M60 => ?_)
          exact r_retI hR dX10_round_63 (fun h => h)
        · skip
          refine x_tsO (tgt := 64) hC dX10_round_1 (by have q0 := x_ne (k := 0) hs0 (by decide); have q1 := x_ne (k := 1) hs1 (by decide); have q2 := x_ne (k := 2) hs2 (by decide); have q3 := x_ne (k := 3) hs3 (by decide); omega) (by decide) ?_
          refine x_bipush (v := (-100 : Int32)) hC dX10_round_64 kb_m100 ?_
          exact r_retI hR dX10_round_66 (fun h => h)
theorem f_X10_round_met {l : Launch} {d : Nat} {g : zG} {w : zW} {M0 : zM} {p1 : Int32} {M : zM} (hw : wS w) (hd : 3 ≤ d) {v : Int32} {M' : zM} (h : f_X10_round p1 M = some (v, M')) : zMet l yX10_round cX10_round 2 (some .int) d g w (zin true) M0 [zr w 0, .int p1] M (some (.int v)) M' :=
  met_i (by decide +kernel) (Nat.le_of_ble_eq_true rfl) rfl (fun C hB0 hR => f_X10_round_ok (r := (v, M')) ⟨hB0, hw⟩ hd M hR _ h rfl)
/-! WindingSquareModel.whoIsAt(I)I -/
noncomputable def j_X11_whoIsAt_35_2 (v1_2 : Int32) (v2_35_2 : Int32) (M : zM) : Option ((Int32) ⊕ (Unit ⊕ (Int32))) :=
  some (.inl (v2_35_2 + (1 : Int32)))
set_option maxRecDepth 100000 in
theorem j_X11_whoIsAt_35_2_ok {C : zC} {d : Nat} {g : zG} {l : Launch} {w : zW} {r : Int32} {v1_2 : Int32} {v2_35_2 : Int32} (hB : bOK C cX11_whoIsAt 3 RX11 d g l w false) (hd : 3 ≤ d) (M : zM) (hR : RtI C cX11_whoIsAt w r M) : Sg C w (0, 0) 35 [(0, zr w 257), (1, .int v1_2), (2, .int v2_35_2)] [] M (j_X11_whoIsAt_35_2 v1_2 v2_35_2 M) (fun o => Sum.elim (fun (s : (Int32)) => Zs C w (0, 0) 2 [(0, zr w 257), (1, .int v1_2), (2, .int s)] [] M) (fun q => Sum.elim (fun (s : Unit) => Zs C w (0, 0) 41 [] [] M) (fun q => q = r) q) o) := by
  have hC := hB.1.1
  have hq1 : 1 ≤ d := by omega
  unfold j_X11_whoIsAt_35_2
  refine x_iinc hC dX11_whoIsAt_35 ki_1 [(2, .int (v2_35_2 + (1 : Int32))), (0, zr w 257), (1, .int v1_2)] 2 rfl (by decide) rfl ?_
  refine x_goto (tgt := 2) hC dX11_whoIsAt_38 (by decide) ?_
  refine x_sub [1, 2, 0] rfl ?_
  exact x_done (fun h => h)
noncomputable def b_X11_whoIsAt_2 (v1_2 : Int32) (v2_2 : Int32) (M : zM) : Option ((Int32) ⊕ (Unit ⊕ (Int32))) :=
  if (M 259 (ix (940 : Int32))) ≤ v2_2 then (some (.inr (.inl ())))
  else ((f_X11_has v2_2 (1 : Int32) M).bind fun u17_2 =>
  if u17_2 = (1 : Int32) then ((f_X11_standsAt v2_2 M).bind fun u26_2 =>
  if u26_2 = v1_2 then (some (.inr (.inr v2_2)))
  else (j_X11_whoIsAt_35_2 v1_2 v2_2 M))
  else (j_X11_whoIsAt_35_2 v1_2 v2_2 M))
set_option maxRecDepth 100000 in
theorem b_X11_whoIsAt_2_ok {C : zC} {d : Nat} {g : zG} {l : Launch} {w : zW} {r : Int32} {v1_2 : Int32} {v2_2 : Int32} (hB : bOK C cX11_whoIsAt 3 RX11 d g l w false) (hd : 3 ≤ d) (M : zM) (hR : RtI C cX11_whoIsAt w r M) : Sg C w (0, 0) 2 [(0, zr w 257), (1, .int v1_2), (2, .int v2_2)] [] M (b_X11_whoIsAt_2 v1_2 v2_2 M) (fun o => Sum.elim (fun (s : (Int32)) => Zs C w (0, 0) 2 [(0, zr w 257), (1, .int v1_2), (2, .int s)] [] M) (fun q => Sum.elim (fun (s : Unit) => Zs C w (0, 0) 41 [] [] M) (fun q => q = r) q) o) := by
  have hC := hB.1.1
  have hq1 : 1 ≤ d := by omega
  unfold b_X11_whoIsAt_2
  refine x_iload_n hC dX11_whoIsAt_2 rfl 2 rfl ?_
  refine x_aload_n hC dX11_whoIsAt_3 rfl 0 rfl ?_
  refine r_getR hB dX11_whoIsAt_4 kf_X11_13 rfl th_257 rf_257_1 ?_
  refine x_sipush (v := (940 : Int32)) hC dX11_whoIsAt_7 kh_940 ?_
  refine r_iald0 hB dX11_whoIsAt_10 th_259 ib_940_2425 ?_
  refine x_icmp_ge (tgt := 41) hC dX11_whoIsAt_11 (by decide) ?_ ?_
  · refine x_sub [] rfl ?_
    exact x_done (fun h => h)
  · refine x_aload_n hC dX11_whoIsAt_14 rfl 0 rfl ?_
    refine x_iload_n hC dX11_whoIsAt_15 rfl 2 rfl ?_
    refine x_iconst (v := (1 : Int32)) hC dX11_whoIsAt_16 ki_1 ?_
    refine r_cV1 (as := [.int v2_2, .int (1 : Int32)]) (rest := []) hB dX11_whoIsAt_17 kv_X11_104 th_257 hq1 rfl rfl (Nat.le_of_ble_eq_true rfl) (fun v hv => f_X11_has_met hB.2 (by omega) hv) (fun u17_2 => ?_)
    refine x_iconst (v := (1 : Int32)) hC dX11_whoIsAt_20 ki_1 ?_
    refine x_icmp_ne (tgt := 35) hC dX11_whoIsAt_21 (by decide) ?_ ?_
    · refine x_aload_n hC dX11_whoIsAt_24 rfl 0 rfl ?_
      refine x_iload_n hC dX11_whoIsAt_25 rfl 2 rfl ?_
      refine r_cV1 (as := [.int v2_2]) (rest := []) hB dX11_whoIsAt_26 kv_X11_111 th_257 hq1 rfl rfl (Nat.le_of_ble_eq_true rfl) (fun v hv => f_X11_standsAt_met hB.2 (by omega) hv) (fun u26_2 => ?_)
      refine x_iload_n hC dX11_whoIsAt_29 rfl 1 rfl ?_
      refine x_icmp_ne (tgt := 35) hC dX11_whoIsAt_30 (by decide) ?_ ?_
      · refine x_iload_n hC dX11_whoIsAt_33 rfl 2 rfl ?_
        exact r_retI hR dX11_whoIsAt_34 (fun h => congrArg (fun q => (q, M)) h)
      · exact j_X11_whoIsAt_35_2_ok hB hd M hR
    · exact j_X11_whoIsAt_35_2_ok hB hd M hR
noncomputable def j_X11_whoIsAt_41 (M : zM) : Option (Int32) :=
  some (-1 : Int32)
set_option maxRecDepth 100000 in
theorem j_X11_whoIsAt_41_ok {C : zC} {d : Nat} {g : zG} {l : Launch} {w : zW} {r : Int32} (hB : bOK C cX11_whoIsAt 3 RX11 d g l w false) (hd : 3 ≤ d) (M : zM) (hR : RtI C cX11_whoIsAt w r M) : Sg C w (0, 0) 41 [] [] M (j_X11_whoIsAt_41 M) (fun q => q = r) := by
  have hC := hB.1.1
  have hq1 : 1 ≤ d := by omega
  unfold j_X11_whoIsAt_41
  refine x_iconst (v := (-1 : Int32)) hC dX11_whoIsAt_41 ki_m1 ?_
  exact r_retI hR dX11_whoIsAt_42 (fun h => congrArg (fun q => (q, M)) h)
noncomputable def f_X11_whoIsAt (p1 : Int32) (M : zM) : Option (Int32) :=
  (loopW (fun s => b_X11_whoIsAt_2 p1 s M) (0 : Int32)).bind (fun q => Sum.elim (fun r => j_X11_whoIsAt_41 M) some q)
set_option maxRecDepth 100000 in
theorem f_X11_whoIsAt_ok {C : zC} {d : Nat} {g : zG} {l : Launch} {w : zW} {r : Int32} {p1 : Int32} (hB : bOK C cX11_whoIsAt 3 RX11 d g l w false) (hd : 3 ≤ d) (M : zM) (hR : RtI C cX11_whoIsAt w r M) : Sg C w (0, 0) 0 [(0, zr w 257), (1, .int p1)] [] M (f_X11_whoIsAt p1 M) (fun q => q = r) := by
  have hC := hB.1.1
  have hq1 : 1 ≤ d := by omega
  unfold f_X11_whoIsAt
  refine x_iconst (v := (0 : Int32)) hC dX11_whoIsAt_0 ki_0 ?_
  refine x_istore_n hC dX11_whoIsAt_1 rfl [(2, .int (0 : Int32)), (0, zr w 257), (1, .int p1)] (by decide) rfl ?_
  refine x_sub [1, 2, 0] rfl ?_
  refine x_loopR (pc2 := 41) (fun (s : (Int32)) => [(0, zr w 257), (1, .int p1), (2, .int s)]) (fun (s : (Int32)) => M) (fun (s : Unit) => []) (fun (s : Unit) => M) (0 : Int32) ?_ ?_
  · exact fun s => b_X11_whoIsAt_2_ok hB hd M hR
  · intro r9
    exact j_X11_whoIsAt_41_ok hB hd M hR
theorem f_X11_whoIsAt_met {l : Launch} {d : Nat} {g : zG} {w : zW} {M0 : zM} {p1 : Int32} {M : zM} (hw : wS w) (hd : 3 ≤ d) {v : Int32} (h : f_X11_whoIsAt p1 M = some v) : zMet l yX11_whoIsAt cX11_whoIsAt 3 (some .int) d g w (zin false) M0 [zr w 257, .int p1] M (some (.int v)) M :=
  met_i (by decide +kernel) (Nat.le_of_ble_eq_true rfl) rfl (fun C hB0 hR => f_X11_whoIsAt_ok ⟨hB0, hw⟩ hd M hR _ h rfl)
/-! WindingSquareModel.mayBegin(ZZ)V -/
noncomputable def j_X11_mayBegin_29 (M : zM) : Option (zM) :=
  if (f_X11_fine M) = 0 then (some M)
  else ((f_X11_pass M).bind fun M37 =>
  some M37)
set_option maxRecDepth 100000 in
theorem j_X11_mayBegin_29_ok {C : zC} {d : Nat} {g : zG} {l : Launch} {w : zW} {r : zM} (hB : bOK C cX11_mayBegin 3 RX11 d g l w false) (hd : 3 ≤ d) (M : zM) (hR : RtV C cX11_mayBegin w r) : Sg C w (0, 0) 29 [(0, zr w 257)] [] M (j_X11_mayBegin_29 M) (fun q => q = r) := by
  have hC := hB.1.1
  have hq1 : 1 ≤ d := by omega
  unfold j_X11_mayBegin_29
  refine x_aload_n hC dX11_mayBegin_29 rfl 0 rfl ?_
  refine r_cV0 (as := []) (rest := []) hB dX11_mayBegin_30 kv_X11_149 th_257 hq1 rfl rfl (Nat.le_of_ble_eq_true rfl) (f_X11_fine_met hB.2 (by omega)) ?_
  refine x_if_eq (tgt := 40) hC dX11_mayBegin_33 (by decide) ?_ ?_
  · exact r_retV hR dX11_mayBegin_40 (fun h => h)
  · refine x_aload_n hC dX11_mayBegin_36 rfl 0 rfl ?_
    refine r_cVv (as := []) (rest := []) hB dX11_mayBegin_37 kv_X11_163 th_257 hq1 rfl rfl (Nat.le_of_ble_eq_true rfl) (fun M' hv => f_X11_pass_met hB.2 (by omega) hv) (fun M37 => ?_)
    exact r_retV hR dX11_mayBegin_40 (fun h => h)
noncomputable def f_X11_mayBegin (p1 : Int32) (p2 : Int32) (M : zM) : Option (zM) :=
  if p1 = 0 then ((f_X11_wrong (1 : Int32) (M 257 9) M).bind fun M10 =>
  j_X11_mayBegin_29 M10)
  else (if p2 = 0 then (j_X11_mayBegin_29 M)
  else ((f_X11_wrong (3 : Int32) (M 257 9) M).bind fun M26 =>
  j_X11_mayBegin_29 M26))
set_option maxRecDepth 100000 in
theorem f_X11_mayBegin_ok {C : zC} {d : Nat} {g : zG} {l : Launch} {w : zW} {r : zM} {p1 : Int32} {p2 : Int32} (hB : bOK C cX11_mayBegin 3 RX11 d g l w false) (hd : 3 ≤ d) (M : zM) (hR : RtV C cX11_mayBegin w r) : Sg C w (0, 0) 0 [(0, zr w 257), (1, .int p1), (2, .int p2)] [] M (f_X11_mayBegin p1 p2 M) (fun q => q = r) := by
  have hC := hB.1.1
  have hq1 : 1 ≤ d := by omega
  unfold f_X11_mayBegin
  refine x_iload_n hC dX11_mayBegin_0 rfl 1 rfl ?_
  refine x_if_ne (tgt := 16) hC dX11_mayBegin_1 (by decide) ?_ ?_
  · refine x_aload_n hC dX11_mayBegin_4 rfl 0 rfl ?_
    refine x_iconst (v := (1 : Int32)) hC dX11_mayBegin_5 ki_1 ?_
    refine x_aload_n hC dX11_mayBegin_6 rfl 0 rfl ?_
    refine r_getI hB dX11_mayBegin_7 kf_X11_132 rfl th_257 ?_
    refine r_cVv (as := [.int (1 : Int32), .int (M 257 9)]) (rest := []) hB dX11_mayBegin_10 kv_X11_156 th_257 hq1 rfl rfl (Nat.le_of_ble_eq_true rfl) (fun M' hv => f_X11_wrong_met hB.2 (by omega) hv) (fun M10 => ?_)
    refine x_goto (tgt := 29) hC dX11_mayBegin_13 (by decide) ?_
    refine x_sub [0] rfl ?_
    exact j_X11_mayBegin_29_ok hB hd M10 hR
  · refine x_iload_n hC dX11_mayBegin_16 rfl 2 rfl ?_
    refine x_if_eq (tgt := 29) hC dX11_mayBegin_17 (by decide) ?_ ?_
    · refine x_sub [0] rfl ?_
      exact j_X11_mayBegin_29_ok hB hd M hR
    · refine x_aload_n hC dX11_mayBegin_20 rfl 0 rfl ?_
      refine x_iconst (v := (3 : Int32)) hC dX11_mayBegin_21 ki_3 ?_
      refine x_aload_n hC dX11_mayBegin_22 rfl 0 rfl ?_
      refine r_getI hB dX11_mayBegin_23 kf_X11_132 rfl th_257 ?_
      refine r_cVv (as := [.int (3 : Int32), .int (M 257 9)]) (rest := []) hB dX11_mayBegin_26 kv_X11_156 th_257 hq1 rfl rfl (Nat.le_of_ble_eq_true rfl) (fun M' hv => f_X11_wrong_met hB.2 (by omega) hv) (fun M26 => ?_)
      refine x_sub [0] rfl ?_
      exact j_X11_mayBegin_29_ok hB hd M26 hR
theorem f_X11_mayBegin_met {l : Launch} {d : Nat} {g : zG} {w : zW} {M0 : zM} {p1 : Int32} {p2 : Int32} {M : zM} (hw : wS w) (hd : 3 ≤ d) {M' : zM} (h : f_X11_mayBegin p1 p2 M = some M') : zMet l yX11_mayBegin cX11_mayBegin 3 none d g w (zin false) M0 [zr w 257, .int p1, .int p2] M none M' :=
  met_v (by decide +kernel) (Nat.le_of_ble_eq_true rfl) (fun C hB0 hR => f_X11_mayBegin_ok ⟨hB0, hw⟩ hd M hR _ h rfl)
/-! WindingSquareModel.wayWord(I)I -/
def f_X11_wayWord (p0 : Int32) : Int32 :=
  if p0 = (f_X11_spelt (108 : Int32) (101 : Int32) (102 : Int32) (116 : Int32) (0 : Int32) (0 : Int32)) then ((0 : Int32))
  else (if p0 = (f_X11_spelt (114 : Int32) (105 : Int32) (103 : Int32) (104 : Int32) (116 : Int32) (0 : Int32)) then ((1 : Int32))
  else (if p0 = (f_X11_spelt (98 : Int32) (97 : Int32) (99 : Int32) (107 : Int32) (0 : Int32) (0 : Int32)) then ((2 : Int32))
  else (if p0 = (f_X11_spelt (97 : Int32) (104 : Int32) (101 : Int32) (97 : Int32) (100 : Int32) (0 : Int32)) then ((3 : Int32))
  else (if p0 = (f_X11_spelt (119 : Int32) (97 : Int32) (105 : Int32) (116 : Int32) (0 : Int32) (0 : Int32)) then ((4 : Int32))
  else ((-1 : Int32))))))
set_option maxRecDepth 100000 in
theorem f_X11_wayWord_ok {C : zC} {d : Nat} {g : zG} {l : Launch} {w : zW} {r : Int32} {p0 : Int32} (hB : bOK C cX11_wayWord 1 RX11 d g l w false) (hd : 3 ≤ d) (M : zM) (hR : RtI C cX11_wayWord w r M) : Sg C w (0, 0) 0 [(0, .int p0)] [] M (some (f_X11_wayWord p0)) (fun q => q = r) := by
  have hC := hB.1.1
  have hq1 : 1 ≤ d := by omega
  unfold f_X11_wayWord
  refine x_iload_n hC dX11_wayWord_0 rfl 0 rfl ?_
  refine x_bipush (v := (108 : Int32)) hC dX11_wayWord_1 kb_108 ?_
  refine x_bipush (v := (101 : Int32)) hC dX11_wayWord_3 kb_101 ?_
  refine x_bipush (v := (102 : Int32)) hC dX11_wayWord_5 kb_102 ?_
  refine x_bipush (v := (116 : Int32)) hC dX11_wayWord_7 kb_116 ?_
  refine x_iconst (v := (0 : Int32)) hC dX11_wayWord_9 ki_0 ?_
  refine x_iconst (v := (0 : Int32)) hC dX11_wayWord_10 ki_0 ?_
  refine r_cS0 (as := [.int (108 : Int32), .int (101 : Int32), .int (102 : Int32), .int (116 : Int32), .int (0 : Int32), .int (0 : Int32)]) (rest := [.int p0]) hB dX11_wayWord_11 ks_X11_194 hq1 rfl rfl (Nat.le_of_ble_eq_true rfl) (f_X11_spelt_met hB.2 (by omega)) ?_
  refine x_si ?_
  refine x_icmp_ne (tgt := 21) hC dX11_wayWord_14 (by decide) ?_ ?_
  · refine x_iconst (v := (0 : Int32)) hC dX11_wayWord_17 ki_0 ?_
    refine x_goto (tgt := 108) hC dX11_wayWord_18 (by decide) ?_
    exact r_retI hR dX11_wayWord_108 (fun h => congrArg (fun q => (q, M)) h)
  · refine x_iload_n hC dX11_wayWord_21 rfl 0 rfl ?_
    refine x_bipush (v := (114 : Int32)) hC dX11_wayWord_22 kb_114 ?_
    refine x_bipush (v := (105 : Int32)) hC dX11_wayWord_24 kb_105 ?_
    refine x_bipush (v := (103 : Int32)) hC dX11_wayWord_26 kb_103 ?_
    refine x_bipush (v := (104 : Int32)) hC dX11_wayWord_28 kb_104 ?_
    refine x_bipush (v := (116 : Int32)) hC dX11_wayWord_30 kb_116 ?_
    refine x_iconst (v := (0 : Int32)) hC dX11_wayWord_32 ki_0 ?_
    refine r_cS0 (as := [.int (114 : Int32), .int (105 : Int32), .int (103 : Int32), .int (104 : Int32), .int (116 : Int32), .int (0 : Int32)]) (rest := [.int p0]) hB dX11_wayWord_33 ks_X11_194 hq1 rfl rfl (Nat.le_of_ble_eq_true rfl) (f_X11_spelt_met hB.2 (by omega)) ?_
    refine x_si ?_
    refine x_icmp_ne (tgt := 43) hC dX11_wayWord_36 (by decide) ?_ ?_
    · refine x_iconst (v := (1 : Int32)) hC dX11_wayWord_39 ki_1 ?_
      refine x_goto (tgt := 108) hC dX11_wayWord_40 (by decide) ?_
      exact r_retI hR dX11_wayWord_108 (fun h => congrArg (fun q => (q, M)) h)
    · refine x_iload_n hC dX11_wayWord_43 rfl 0 rfl ?_
      refine x_bipush (v := (98 : Int32)) hC dX11_wayWord_44 kb_98 ?_
      refine x_bipush (v := (97 : Int32)) hC dX11_wayWord_46 kb_97 ?_
      refine x_bipush (v := (99 : Int32)) hC dX11_wayWord_48 kb_99 ?_
      refine x_bipush (v := (107 : Int32)) hC dX11_wayWord_50 kb_107 ?_
      refine x_iconst (v := (0 : Int32)) hC dX11_wayWord_52 ki_0 ?_
      refine x_iconst (v := (0 : Int32)) hC dX11_wayWord_53 ki_0 ?_
      refine r_cS0 (as := [.int (98 : Int32), .int (97 : Int32), .int (99 : Int32), .int (107 : Int32), .int (0 : Int32), .int (0 : Int32)]) (rest := [.int p0]) hB dX11_wayWord_54 ks_X11_194 hq1 rfl rfl (Nat.le_of_ble_eq_true rfl) (f_X11_spelt_met hB.2 (by omega)) ?_
      refine x_si ?_
      refine x_icmp_ne (tgt := 64) hC dX11_wayWord_57 (by decide) ?_ ?_
      · refine x_iconst (v := (2 : Int32)) hC dX11_wayWord_60 ki_2 ?_
        refine x_goto (tgt := 108) hC dX11_wayWord_61 (by decide) ?_
        exact r_retI hR dX11_wayWord_108 (fun h => congrArg (fun q => (q, M)) h)
      · refine x_iload_n hC dX11_wayWord_64 rfl 0 rfl ?_
        refine x_bipush (v := (97 : Int32)) hC dX11_wayWord_65 kb_97 ?_
        refine x_bipush (v := (104 : Int32)) hC dX11_wayWord_67 kb_104 ?_
        refine x_bipush (v := (101 : Int32)) hC dX11_wayWord_69 kb_101 ?_
        refine x_bipush (v := (97 : Int32)) hC dX11_wayWord_71 kb_97 ?_
        refine x_bipush (v := (100 : Int32)) hC dX11_wayWord_73 kb_100 ?_
        refine x_iconst (v := (0 : Int32)) hC dX11_wayWord_75 ki_0 ?_
        refine r_cS0 (as := [.int (97 : Int32), .int (104 : Int32), .int (101 : Int32), .int (97 : Int32), .int (100 : Int32), .int (0 : Int32)]) (rest := [.int p0]) hB dX11_wayWord_76 ks_X11_194 hq1 rfl rfl (Nat.le_of_ble_eq_true rfl) (f_X11_spelt_met hB.2 (by omega)) ?_
        refine x_si ?_
        refine x_icmp_ne (tgt := 86) hC dX11_wayWord_79 (by decide) ?_ ?_
        · refine x_iconst (v := (3 : Int32)) hC dX11_wayWord_82 ki_3 ?_
          refine x_goto (tgt := 108) hC dX11_wayWord_83 (by decide) ?_
          exact r_retI hR dX11_wayWord_108 (fun h => congrArg (fun q => (q, M)) h)
        · refine x_iload_n hC dX11_wayWord_86 rfl 0 rfl ?_
          refine x_bipush (v := (119 : Int32)) hC dX11_wayWord_87 kb_119 ?_
          refine x_bipush (v := (97 : Int32)) hC dX11_wayWord_89 kb_97 ?_
          refine x_bipush (v := (105 : Int32)) hC dX11_wayWord_91 kb_105 ?_
          refine x_bipush (v := (116 : Int32)) hC dX11_wayWord_93 kb_116 ?_
          refine x_iconst (v := (0 : Int32)) hC dX11_wayWord_95 ki_0 ?_
          refine x_iconst (v := (0 : Int32)) hC dX11_wayWord_96 ki_0 ?_
          refine r_cS0 (as := [.int (119 : Int32), .int (97 : Int32), .int (105 : Int32), .int (116 : Int32), .int (0 : Int32), .int (0 : Int32)]) (rest := [.int p0]) hB dX11_wayWord_97 ks_X11_194 hq1 rfl rfl (Nat.le_of_ble_eq_true rfl) (f_X11_spelt_met hB.2 (by omega)) ?_
          refine x_si ?_
          refine x_icmp_ne (tgt := 107) hC dX11_wayWord_100 (by decide) ?_ ?_
          · refine x_iconst (v := (4 : Int32)) hC dX11_wayWord_103 ki_4 ?_
            refine x_goto (tgt := 108) hC dX11_wayWord_104 (by decide) ?_
            exact r_retI hR dX11_wayWord_108 (fun h => congrArg (fun q => (q, M)) h)
          · refine x_iconst (v := (-1 : Int32)) hC dX11_wayWord_107 ki_m1 ?_
            exact r_retI hR dX11_wayWord_108 (fun h => congrArg (fun q => (q, M)) h)
theorem f_X11_wayWord_met {l : Launch} {d : Nat} {g : zG} {w : zW} {M0 : zM} {p0 : Int32} {M : zM} (hw : wS w) (hd : 3 ≤ d) : zMet l yX11_wayWord cX11_wayWord 1 (some .int) d g w (zin false) M0 [.int p0] M (some (.int (f_X11_wayWord p0))) M :=
  met_i (by decide +kernel) (Nat.le_of_ble_eq_true rfl) rfl (fun C hB0 hR => f_X11_wayWord_ok ⟨hB0, hw⟩ hd M hR _ rfl rfl)
/-! WindingSquareModel.closes(I)V -/
noncomputable def j_X11_closes_74_0 (v1_0 : Int32) (s1_74_0 : Int32) (M : zM) : Option ((zM) ⊕ (zM)) :=
  (f_X11_codes s1_74_0 (0 : Int32) M).bind fun M75_0 =>
  some (.inl M75_0)
set_option maxRecDepth 100000 in
theorem j_X11_closes_74_0_ok {C : zC} {d : Nat} {g : zG} {l : Launch} {w : zW} {r : zM} {v1_0 : Int32} {s1_74_0 : Int32} (hB : bOK C cX11_closes 2 RX11 d g l w false) (hd : 3 ≤ d) (M : zM) (hR : RtV C cX11_closes w r) : Sg C w (0, 0) 74 [(0, zr w 257), (1, .int v1_0)] [.int s1_74_0, zr w 257] M (j_X11_closes_74_0 v1_0 s1_74_0 M) (fun o => Sum.elim (fun (s : (zM)) => Zs C w (0, 0) 0 [(0, zr w 257), (1, .int v1_0)] [] s) (fun (s : (zM)) => Zs C w (0, 0) 81 [] [] s) o) := by
  have hC := hB.1.1
  have hq1 : 1 ≤ d := by omega
  unfold j_X11_closes_74_0
  refine x_iconst (v := (0 : Int32)) hC dX11_closes_74 ki_0 ?_
  refine r_cVv (as := [.int s1_74_0, .int (0 : Int32)]) (rest := []) hB dX11_closes_75 kv_X11_217 th_257 hq1 rfl rfl (Nat.le_of_ble_eq_true rfl) (fun M' hv => f_X11_codes_met hB.2 (by omega) hv) (fun M75_0 => ?_)
  refine x_goto (tgt := 0) hC dX11_closes_78 (by decide) ?_
  exact x_done (fun h => h)
noncomputable def j_X11_closes_47_0 (v1_0 : Int32) (s1_47_0 : Int32) (s2_47_0 : Int32) (M : zM) : Option ((zM) ⊕ (zM)) :=
  nm (mset M 257 12 (s1_47_0 - s2_47_0)) fun M48_0 =>
  if v1_0 = (2 : Int32) then (j_X11_closes_74_0 v1_0 (9 : Int32) M48_0)
  else (if v1_0 = (3 : Int32) then (j_X11_closes_74_0 v1_0 (10 : Int32) M48_0)
  else (j_X11_closes_74_0 v1_0 (11 : Int32) M48_0))
set_option maxRecDepth 100000 in
theorem j_X11_closes_47_0_ok {C : zC} {d : Nat} {g : zG} {l : Launch} {w : zW} {r : zM} {v1_0 : Int32} {s1_47_0 : Int32} {s2_47_0 : Int32} (hB : bOK C cX11_closes 2 RX11 d g l w false) (hd : 3 ≤ d) (M : zM) (hR : RtV C cX11_closes w r) : Sg C w (0, 0) 47 [(0, zr w 257), (1, .int v1_0)] [.int s2_47_0, .int s1_47_0, zr w 257] M (j_X11_closes_47_0 v1_0 s1_47_0 s2_47_0 M) (fun o => Sum.elim (fun (s : (zM)) => Zs C w (0, 0) 0 [(0, zr w 257), (1, .int v1_0)] [] s) (fun (s : (zM)) => Zs C w (0, 0) 81 [] [] s) o) := by
  have hC := hB.1.1
  have hq1 : 1 ≤ d := by omega
  unfold j_X11_closes_47_0
  refine x_isub hC dX11_closes_47 ?_
  refine r_putI hB dX11_closes_48 kf_X11_166 rfl th_257 ?_
  refine x_mem (fun M48_0 => ?_)
  refine x_aload_n hC dX11_closes_51 rfl 0 rfl ?_
  refine x_iload_n hC dX11_closes_52 rfl 1 rfl ?_
  refine x_iconst (v := (2 : Int32)) hC dX11_closes_53 ki_2 ?_
  refine x_icmp_ne (tgt := 62) hC dX11_closes_54 (by decide) ?_ ?_
  · refine x_bipush (v := (9 : Int32)) hC dX11_closes_57 kb_9 ?_
    refine x_goto (tgt := 74) hC dX11_closes_59 (by decide) ?_
    exact j_X11_closes_74_0_ok hB hd M48_0 hR
  · refine x_iload_n hC dX11_closes_62 rfl 1 rfl ?_
    refine x_iconst (v := (3 : Int32)) hC dX11_closes_63 ki_3 ?_
    refine x_icmp_ne (tgt := 72) hC dX11_closes_64 (by decide) ?_ ?_
    · refine x_bipush (v := (10 : Int32)) hC dX11_closes_67 kb_10 ?_
      refine x_goto (tgt := 74) hC dX11_closes_69 (by decide) ?_
      exact j_X11_closes_74_0_ok hB hd M48_0 hR
    · refine x_bipush (v := (11 : Int32)) hC dX11_closes_72 kb_11 ?_
      exact j_X11_closes_74_0_ok hB hd M48_0 hR
noncomputable def b_X11_closes_0 (v1_0 : Int32) (M : zM) : Option ((zM) ⊕ (zM)) :=
  if (M 257 19) ≤ 0 then (some (.inr M))
  else (grd (inb ((M 257 19) - (1 : Int32)) 420) (
  if (M 264 (ix ((M 257 19) - (1 : Int32)))) = v1_0 then (nm (mset M 257 19 ((M 257 19) - (1 : Int32))) fun M29_0 =>
  if v1_0 = (2 : Int32) then (j_X11_closes_47_0 v1_0 (M29_0 257 12) (1 : Int32) M29_0)
  else (j_X11_closes_47_0 v1_0 (M29_0 257 12) (0 : Int32) M29_0))
  else (some (.inr M))))
set_option maxRecDepth 100000 in
theorem b_X11_closes_0_ok {C : zC} {d : Nat} {g : zG} {l : Launch} {w : zW} {r : zM} {v1_0 : Int32} (hB : bOK C cX11_closes 2 RX11 d g l w false) (hd : 3 ≤ d) (M : zM) (hR : RtV C cX11_closes w r) : Sg C w (0, 0) 0 [(0, zr w 257), (1, .int v1_0)] [] M (b_X11_closes_0 v1_0 M) (fun o => Sum.elim (fun (s : (zM)) => Zs C w (0, 0) 0 [(0, zr w 257), (1, .int v1_0)] [] s) (fun (s : (zM)) => Zs C w (0, 0) 81 [] [] s) o) := by
  have hC := hB.1.1
  have hq1 : 1 ≤ d := by omega
  unfold b_X11_closes_0
  refine x_aload_n hC dX11_closes_0 rfl 0 rfl ?_
  refine r_getI hB dX11_closes_1 kf_X11_214 rfl th_257 ?_
  refine x_if_le (tgt := 81) hC dX11_closes_4 (by decide) ?_ ?_
  · refine x_sub [] rfl ?_
    exact x_done (fun h => h)
  · refine x_aload_n hC dX11_closes_7 rfl 0 rfl ?_
    refine r_getR hB dX11_closes_8 kf_X11_32 rfl th_257 rf_257_18 ?_
    refine x_aload_n hC dX11_closes_11 rfl 0 rfl ?_
    refine r_getI hB dX11_closes_12 kf_X11_214 rfl th_257 ?_
    refine x_iconst (v := (1 : Int32)) hC dX11_closes_15 ki_1 ?_
    refine x_isub hC dX11_closes_16 ?_
    refine r_iald hB dX11_closes_17 th_264 ?_
    refine x_iload_n hC dX11_closes_18 rfl 1 rfl ?_
    refine x_icmp_ne (tgt := 81) hC dX11_closes_19 (by decide) ?_ ?_
    · refine x_aload_n hC dX11_closes_22 rfl 0 rfl ?_
      refine x_dup hC dX11_closes_23 rfl ?_
      refine r_getI hB dX11_closes_24 kf_X11_214 rfl th_257 ?_
      refine x_iconst (v := (1 : Int32)) hC dX11_closes_27 ki_1 ?_
      refine x_isub hC dX11_closes_28 ?_
      refine r_putI hB dX11_closes_29 kf_X11_214 rfl th_257 ?_
      refine x_mem (fun M29_0 => ?_)
      refine x_aload_n hC dX11_closes_32 rfl 0 rfl ?_
      refine x_dup hC dX11_closes_33 rfl ?_
      refine r_getI hB dX11_closes_34 kf_X11_166 rfl th_257 ?_
      refine x_iload_n hC dX11_closes_37 rfl 1 rfl ?_
      refine x_iconst (v := (2 : Int32)) hC dX11_closes_38 ki_2 ?_
      refine x_icmp_ne (tgt := 46) hC dX11_closes_39 (by decide) ?_ ?_
      · refine x_iconst (v := (1 : Int32)) hC dX11_closes_42 ki_1 ?_
        refine x_goto (tgt := 47) hC dX11_closes_43 (by decide) ?_
        exact j_X11_closes_47_0_ok hB hd M29_0 hR
      · refine x_iconst (v := (0 : Int32)) hC dX11_closes_46 ki_0 ?_
        exact j_X11_closes_47_0_ok hB hd M29_0 hR
    · refine x_sub [] rfl ?_
      exact x_done (fun h => h)
noncomputable def j_X11_closes_81 (M : zM) : Option (zM) :=
  some M
set_option maxRecDepth 100000 in
theorem j_X11_closes_81_ok {C : zC} {d : Nat} {g : zG} {l : Launch} {w : zW} {r : zM} (hB : bOK C cX11_closes 2 RX11 d g l w false) (hd : 3 ≤ d) (M : zM) (hR : RtV C cX11_closes w r) : Sg C w (0, 0) 81 [] [] M (j_X11_closes_81 M) (fun q => q = r) := by
  have hC := hB.1.1
  have hq1 : 1 ≤ d := by omega
  unfold j_X11_closes_81
  exact r_retV hR dX11_closes_81 (fun h => h)
noncomputable def f_X11_closes (p1 : Int32) (M : zM) : Option (zM) :=
  (loopW (fun s => b_X11_closes_0 p1 s) M).bind (fun r => j_X11_closes_81 r)
set_option maxRecDepth 100000 in
theorem f_X11_closes_ok {C : zC} {d : Nat} {g : zG} {l : Launch} {w : zW} {r : zM} {p1 : Int32} (hB : bOK C cX11_closes 2 RX11 d g l w false) (hd : 3 ≤ d) (M : zM) (hR : RtV C cX11_closes w r) : Sg C w (0, 0) 0 [(0, zr w 257), (1, .int p1)] [] M (f_X11_closes p1 M) (fun q => q = r) := by
  have hC := hB.1.1
  have hq1 : 1 ≤ d := by omega
  unfold f_X11_closes
  refine x_loopB (pc2 := 81) (fun (s : (zM)) => [(0, zr w 257), (1, .int p1)]) (fun (s : (zM)) => s) (fun (s : (zM)) => []) (fun (s : (zM)) => s) M ?_ ?_
  · exact fun s => b_X11_closes_0_ok hB hd s hR
  · intro r9
    exact j_X11_closes_81_ok hB hd r9 hR
theorem f_X11_closes_met {l : Launch} {d : Nat} {g : zG} {w : zW} {M0 : zM} {p1 : Int32} {M : zM} (hw : wS w) (hd : 3 ≤ d) {M' : zM} (h : f_X11_closes p1 M = some M') : zMet l yX11_closes cX11_closes 2 none d g w (zin false) M0 [zr w 257, .int p1] M none M' :=
  met_v (by decide +kernel) (Nat.le_of_ble_eq_true rfl) (fun C hB0 hR => f_X11_closes_ok ⟨hB0, hw⟩ hd M hR _ h rfl)
/-! WindingSquareModel.readOpening()V -/
noncomputable def j_X11_readOpening_50_2 (M : zM) : Option ((Int32 × zM) ⊕ (zM)) :=
  some (.inl ((1 : Int32), M))
set_option maxRecDepth 100000 in
theorem j_X11_readOpening_50_2_ok {C : zC} {d : Nat} {g : zG} {l : Launch} {w : zW} {r : zM} (hB : bOK C cX11_readOpening 2 RX11 d g l w false) (hd : 3 ≤ d) (M : zM) (hR : RtV C cX11_readOpening w r) : Sg C w (0, 0) 50 [(0, zr w 257)] [] M (j_X11_readOpening_50_2 M) (fun o => Sum.elim (fun (s : (Int32 × zM)) => Zs C w (0, 0) 2 [(0, zr w 257), (1, .int s.1)] [] s.2) (fun (s : (zM)) => Zs C w (0, 0) 80 [] [] s) o) := by
  have hC := hB.1.1
  have hq1 : 1 ≤ d := by omega
  unfold j_X11_readOpening_50_2
  refine x_iconst (v := (1 : Int32)) hC dX11_readOpening_50 ki_1 ?_
  refine x_istore_n hC dX11_readOpening_51 rfl [(1, .int (1 : Int32)), (0, zr w 257)] (by decide) rfl ?_
  refine x_goto (tgt := 2) hC dX11_readOpening_52 (by decide) ?_
  refine x_sub [1, 0] rfl ?_
  exact x_done (fun h => h)
noncomputable def b_X11_readOpening_2 (v1_2 : Int32) (M : zM) : Option ((Int32 × zM) ⊕ (zM)) :=
  if v1_2 = 0 then (some (.inr M))
  else (if (f_X11_fine M) = 0 then (some (.inr M))
  else (bnd2 (f_X11_word M) fun u16_2 M16_2 =>
  if u16_2 = (f_X11_spelt (110 : Int32) (111 : Int32) (116 : Int32) (0 : Int32) (0 : Int32) (0 : Int32)) then ((f_X11_opensOne (2 : Int32) M16_2).bind fun M36_2 =>
  if (f_X11_fine M36_2) = 0 then (j_X11_readOpening_50_2 M36_2)
  else ((f_X11_pass M36_2).bind fun M47_2 =>
  j_X11_readOpening_50_2 M47_2))
  else (bnd2 (f_X11_here M16_2) fun u56_2 M56_2 =>
  if u56_2 = (40 : Int32) then ((f_X11_opensOne (1 : Int32) M56_2).bind fun M66_2 =>
  (f_X11_sign (40 : Int32) M66_2).bind fun M72_2 =>
  some (.inl ((1 : Int32), M72_2)))
  else (some (.inl ((0 : Int32), M56_2))))))
set_option maxRecDepth 100000 in
theorem b_X11_readOpening_2_ok {C : zC} {d : Nat} {g : zG} {l : Launch} {w : zW} {r : zM} {v1_2 : Int32} (hB : bOK C cX11_readOpening 2 RX11 d g l w false) (hd : 3 ≤ d) (M : zM) (hR : RtV C cX11_readOpening w r) : Sg C w (0, 0) 2 [(0, zr w 257), (1, .int v1_2)] [] M (b_X11_readOpening_2 v1_2 M) (fun o => Sum.elim (fun (s : (Int32 × zM)) => Zs C w (0, 0) 2 [(0, zr w 257), (1, .int s.1)] [] s.2) (fun (s : (zM)) => Zs C w (0, 0) 80 [] [] s) o) := by
  have hC := hB.1.1
  have hq1 : 1 ≤ d := by omega
  unfold b_X11_readOpening_2
  refine x_iload_n hC dX11_readOpening_2 rfl 1 rfl ?_
  refine x_if_eq (tgt := 80) hC dX11_readOpening_3 (by decide) ?_ ?_
  · refine x_sub [] rfl ?_
    exact x_done (fun h => h)
  · refine x_aload_n hC dX11_readOpening_6 rfl 0 rfl ?_
    refine r_cV0 (as := []) (rest := []) hB dX11_readOpening_7 kv_X11_149 th_257 hq1 rfl rfl (Nat.le_of_ble_eq_true rfl) (f_X11_fine_met hB.2 (by omega)) ?_
    refine x_if_eq (tgt := 80) hC dX11_readOpening_10 (by decide) ?_ ?_
    · refine x_sub [] rfl ?_
      exact x_done (fun h => h)
    · refine x_iconst (v := (0 : Int32)) hC dX11_readOpening_13 ki_0 ?_
      refine x_istore_n hC dX11_readOpening_14 rfl [(1, .int (0 : Int32)), (0, zr w 257)] (by decide) rfl ?_
      refine x_aload_n hC dX11_readOpening_15 rfl 1 rfl ?_
      refine r_cV2 (as := []) (rest := []) hB dX11_readOpening_16 kv_X11_160 th_257 hq1 rfl rfl (Nat.le_of_ble_eq_true rfl) (fun v M' hv => f_X11_word_met hB.2 (by omega) hv) (fun u16_2 M16_2 => ?_)
      refine x_bipush (v := (110 : Int32)) hC dX11_readOpening_19 kb_110 ?_
      refine x_bipush (v := (111 : Int32)) hC dX11_readOpening_21 kb_111 ?_
      refine x_bipush (v := (116 : Int32)) hC dX11_readOpening_23 kb_116 ?_
      refine x_iconst (v := (0 : Int32)) hC dX11_readOpening_25 ki_0 ?_
      refine x_iconst (v := (0 : Int32)) hC dX11_readOpening_26 ki_0 ?_
      refine x_iconst (v := (0 : Int32)) hC dX11_readOpening_27 ki_0 ?_
      refine r_cS0 (as := [.int (110 : Int32), .int (111 : Int32), .int (116 : Int32), .int (0 : Int32), .int (0 : Int32), .int (0 : Int32)]) (rest := [.int u16_2]) hB dX11_readOpening_28 ks_X11_194 hq1 rfl rfl (Nat.le_of_ble_eq_true rfl) (f_X11_spelt_met hB.2 (by omega)) ?_
      refine x_icmp_ne (tgt := 55) hC dX11_readOpening_31 (by decide) ?_ ?_
      · refine x_aload_n hC dX11_readOpening_34 rfl 1 rfl ?_
        refine x_iconst (v := (2 : Int32)) hC dX11_readOpening_35 ki_2 ?_
        refine r_cVv (as := [.int (2 : Int32)]) (rest := []) hB dX11_readOpening_36 kv_X11_219 th_257 hq1 rfl rfl (Nat.le_of_ble_eq_true rfl) (fun M' hv => f_X11_opensOne_met hB.2 (by omega) hv) (fun M36_2 => ?_)
        refine x_aload_n hC dX11_readOpening_39 rfl 1 rfl ?_
        refine r_cV0 (as := []) (rest := []) hB dX11_readOpening_40 kv_X11_149 th_257 hq1 rfl rfl (Nat.le_of_ble_eq_true rfl) (f_X11_fine_met hB.2 (by omega)) ?_
        refine x_if_eq (tgt := 50) hC dX11_readOpening_43 (by decide) ?_ ?_
        · refine x_sub [1] rfl ?_
          exact j_X11_readOpening_50_2_ok hB hd M36_2 hR
        · refine x_aload_n hC dX11_readOpening_46 rfl 1 rfl ?_
          refine r_cVv (as := []) (rest := []) hB dX11_readOpening_47 kv_X11_163 th_257 hq1 rfl rfl (Nat.le_of_ble_eq_true rfl) (fun M' hv => f_X11_pass_met hB.2 (by omega) hv) (fun M47_2 => ?_)
          refine x_sub [1] rfl ?_
          exact j_X11_readOpening_50_2_ok hB hd M47_2 hR
      · refine x_aload_n hC dX11_readOpening_55 rfl 1 rfl ?_
        refine r_cV2 (as := []) (rest := []) hB dX11_readOpening_56 kv_X11_138 th_257 hq1 rfl rfl (Nat.le_of_ble_eq_true rfl) (fun v M' hv => f_X11_here_met hB.2 (by omega) hv) (fun u56_2 M56_2 => ?_)
        refine x_bipush (v := (40 : Int32)) hC dX11_readOpening_59 kb_40 ?_
        refine x_icmp_ne (tgt := 2) hC dX11_readOpening_61 (by decide) ?_ ?_
        · refine x_aload_n hC dX11_readOpening_64 rfl 1 rfl ?_
          refine x_iconst (v := (1 : Int32)) hC dX11_readOpening_65 ki_1 ?_
          refine r_cVv (as := [.int (1 : Int32)]) (rest := []) hB dX11_readOpening_66 kv_X11_219 th_257 hq1 rfl rfl (Nat.le_of_ble_eq_true rfl) (fun M' hv => f_X11_opensOne_met hB.2 (by omega) hv) (fun M66_2 => ?_)
          refine x_aload_n hC dX11_readOpening_69 rfl 1 rfl ?_
          refine x_bipush (v := (40 : Int32)) hC dX11_readOpening_70 kb_40 ?_
          refine r_cVv (as := [.int (40 : Int32)]) (rest := []) hB dX11_readOpening_72 kv_X11_188 th_257 hq1 rfl rfl (Nat.le_of_ble_eq_true rfl) (fun M' hv => f_X11_sign_met hB.2 (by omega) hv) (fun M72_2 => ?_)
          refine x_iconst (v := (1 : Int32)) hC dX11_readOpening_75 ki_1 ?_
          refine x_istore_n hC dX11_readOpening_76 rfl [(1, .int (1 : Int32)), (0, zr w 257)] (by decide) rfl ?_
          refine x_goto (tgt := 2) hC dX11_readOpening_77 (by decide) ?_
          refine x_sub [1, 0] rfl ?_
          exact x_done (fun h => h)
        · refine x_sub [1, 0] rfl ?_
          exact x_done (fun h => h)
noncomputable def j_X11_readOpening_80 (M : zM) : Option (zM) :=
  some M
set_option maxRecDepth 100000 in
theorem j_X11_readOpening_80_ok {C : zC} {d : Nat} {g : zG} {l : Launch} {w : zW} {r : zM} (hB : bOK C cX11_readOpening 2 RX11 d g l w false) (hd : 3 ≤ d) (M : zM) (hR : RtV C cX11_readOpening w r) : Sg C w (0, 0) 80 [] [] M (j_X11_readOpening_80 M) (fun q => q = r) := by
  have hC := hB.1.1
  have hq1 : 1 ≤ d := by omega
  unfold j_X11_readOpening_80
  exact r_retV hR dX11_readOpening_80 (fun h => h)
noncomputable def f_X11_readOpening (M : zM) : Option (zM) :=
  (loopW (fun s => b_X11_readOpening_2 s.1 s.2) ((1 : Int32), M)).bind (fun r => j_X11_readOpening_80 r)
set_option maxRecDepth 100000 in
theorem f_X11_readOpening_ok {C : zC} {d : Nat} {g : zG} {l : Launch} {w : zW} {r : zM} (hB : bOK C cX11_readOpening 2 RX11 d g l w false) (hd : 3 ≤ d) (M : zM) (hR : RtV C cX11_readOpening w r) : Sg C w (0, 0) 0 [(0, zr w 257)] [] M (f_X11_readOpening M) (fun q => q = r) := by
  have hC := hB.1.1
  have hq1 : 1 ≤ d := by omega
  unfold f_X11_readOpening
  refine x_iconst (v := (1 : Int32)) hC dX11_readOpening_0 ki_1 ?_
  refine x_istore_n hC dX11_readOpening_1 rfl [(1, .int (1 : Int32)), (0, zr w 257)] (by decide) rfl ?_
  refine x_sub [1, 0] rfl ?_
  refine x_loopB (pc2 := 80) (fun (s : (Int32 × zM)) => [(0, zr w 257), (1, .int s.1)]) (fun (s : (Int32 × zM)) => s.2) (fun (s : (zM)) => []) (fun (s : (zM)) => s) ((1 : Int32), M) ?_ ?_
  · exact fun s => b_X11_readOpening_2_ok hB hd s.2 hR
  · intro r9
    exact j_X11_readOpening_80_ok hB hd r9 hR
theorem f_X11_readOpening_met {l : Launch} {d : Nat} {g : zG} {w : zW} {M0 : zM} {M : zM} (hw : wS w) (hd : 3 ≤ d) {M' : zM} (h : f_X11_readOpening M = some M') : zMet l yX11_readOpening cX11_readOpening 2 none d g w (zin false) M0 [zr w 257] M none M' :=
  met_v (by decide +kernel) (Nat.le_of_ble_eq_true rfl) (fun C hB0 hR => f_X11_readOpening_ok ⟨hB0, hw⟩ hd M hR _ h rfl)
/-! WindingSquareModel.factOf(I)I -/
def f_X11_factOf (p0 : Int32) : Int32 :=
  if p0 = (f_X11_spelt (104 : Int32) (97 : Int32) (115 : Int32) (116 : Int32) (101 : Int32) (0 : Int32)) then ((0 : Int32))
  else (if p0 = (f_X11_spelt (116 : Int32) (117 : Int32) (114 : Int32) (110 : Int32) (115 : Int32) (0 : Int32)) then ((1 : Int32))
  else (if p0 = (f_X11_spelt (115 : Int32) (105 : Int32) (103 : Int32) (110 : Int32) (115 : Int32) (0 : Int32)) then ((2 : Int32))
  else (if p0 = (f_X11_spelt (120 : Int32) (0 : Int32) (0 : Int32) (0 : Int32) (0 : Int32) (0 : Int32)) then ((3 : Int32))
  else (if p0 = (f_X11_spelt (121 : Int32) (0 : Int32) (0 : Int32) (0 : Int32) (0 : Int32) (0 : Int32)) then ((4 : Int32))
  else (if p0 = (f_X11_spelt (102 : Int32) (97 : Int32) (99 : Int32) (105 : Int32) (110 : Int32) (103 : Int32)) then ((5 : Int32))
  else (if p0 = (f_X11_spelt (115 : Int32) (110 : Int32) (111 : Int32) (119 : Int32) (0 : Int32) (0 : Int32)) then ((6 : Int32))
  else (if p0 = (f_X11_spelt (105 : Int32) (110 : Int32) (115 : Int32) (105 : Int32) (100 : Int32) (101 : Int32)) then ((7 : Int32))
  else (if p0 = (f_X11_spelt (119 : Int32) (97 : Int32) (116 : Int32) (99 : Int32) (104 : Int32) (0 : Int32)) then ((8 : Int32))
  else (if p0 = (f_X11_spelt (109 : Int32) (105 : Int32) (110 : Int32) (117 : Int32) (116 : Int32) (101 : Int32)) then ((9 : Int32))
  else ((-1 : Int32)))))))))))
set_option maxRecDepth 100000 in
theorem f_X11_factOf_ok {C : zC} {d : Nat} {g : zG} {l : Launch} {w : zW} {r : Int32} {p0 : Int32} (hB : bOK C cX11_factOf 1 RX11 d g l w false) (hd : 3 ≤ d) (M : zM) (hR : RtI C cX11_factOf w r M) : Sg C w (0, 0) 0 [(0, .int p0)] [] M (some (f_X11_factOf p0)) (fun q => q = r) := by
  have hC := hB.1.1
  have hq1 : 1 ≤ d := by omega
  unfold f_X11_factOf
  refine x_iload_n hC dX11_factOf_0 rfl 0 rfl ?_
  refine x_bipush (v := (104 : Int32)) hC dX11_factOf_1 kb_104 ?_
  refine x_bipush (v := (97 : Int32)) hC dX11_factOf_3 kb_97 ?_
  refine x_bipush (v := (115 : Int32)) hC dX11_factOf_5 kb_115 ?_
  refine x_bipush (v := (116 : Int32)) hC dX11_factOf_7 kb_116 ?_
  refine x_bipush (v := (101 : Int32)) hC dX11_factOf_9 kb_101 ?_
  refine x_iconst (v := (0 : Int32)) hC dX11_factOf_11 ki_0 ?_
  refine r_cS0 (as := [.int (104 : Int32), .int (97 : Int32), .int (115 : Int32), .int (116 : Int32), .int (101 : Int32), .int (0 : Int32)]) (rest := [.int p0]) hB dX11_factOf_12 ks_X11_194 hq1 rfl rfl (Nat.le_of_ble_eq_true rfl) (f_X11_spelt_met hB.2 (by omega)) ?_
  refine x_si ?_
  refine x_icmp_ne (tgt := 22) hC dX11_factOf_15 (by decide) ?_ ?_
  · refine x_iconst (v := (0 : Int32)) hC dX11_factOf_18 ki_0 ?_
    refine x_goto (tgt := 219) hC dX11_factOf_19 (by decide) ?_
    exact r_retI hR dX11_factOf_219 (fun h => congrArg (fun q => (q, M)) h)
  · refine x_iload_n hC dX11_factOf_22 rfl 0 rfl ?_
    refine x_bipush (v := (116 : Int32)) hC dX11_factOf_23 kb_116 ?_
    refine x_bipush (v := (117 : Int32)) hC dX11_factOf_25 kb_117 ?_
    refine x_bipush (v := (114 : Int32)) hC dX11_factOf_27 kb_114 ?_
    refine x_bipush (v := (110 : Int32)) hC dX11_factOf_29 kb_110 ?_
    refine x_bipush (v := (115 : Int32)) hC dX11_factOf_31 kb_115 ?_
    refine x_iconst (v := (0 : Int32)) hC dX11_factOf_33 ki_0 ?_
    refine r_cS0 (as := [.int (116 : Int32), .int (117 : Int32), .int (114 : Int32), .int (110 : Int32), .int (115 : Int32), .int (0 : Int32)]) (rest := [.int p0]) hB dX11_factOf_34 ks_X11_194 hq1 rfl rfl (Nat.le_of_ble_eq_true rfl) (f_X11_spelt_met hB.2 (by omega)) ?_
    refine x_si ?_
    refine x_icmp_ne (tgt := 44) hC dX11_factOf_37 (by decide) ?_ ?_
    · refine x_iconst (v := (1 : Int32)) hC dX11_factOf_40 ki_1 ?_
      refine x_goto (tgt := 219) hC dX11_factOf_41 (by decide) ?_
      exact r_retI hR dX11_factOf_219 (fun h => congrArg (fun q => (q, M)) h)
    · refine x_iload_n hC dX11_factOf_44 rfl 0 rfl ?_
      refine x_bipush (v := (115 : Int32)) hC dX11_factOf_45 kb_115 ?_
      refine x_bipush (v := (105 : Int32)) hC dX11_factOf_47 kb_105 ?_
      refine x_bipush (v := (103 : Int32)) hC dX11_factOf_49 kb_103 ?_
      refine x_bipush (v := (110 : Int32)) hC dX11_factOf_51 kb_110 ?_
      refine x_bipush (v := (115 : Int32)) hC dX11_factOf_53 kb_115 ?_
      refine x_iconst (v := (0 : Int32)) hC dX11_factOf_55 ki_0 ?_
      refine r_cS0 (as := [.int (115 : Int32), .int (105 : Int32), .int (103 : Int32), .int (110 : Int32), .int (115 : Int32), .int (0 : Int32)]) (rest := [.int p0]) hB dX11_factOf_56 ks_X11_194 hq1 rfl rfl (Nat.le_of_ble_eq_true rfl) (f_X11_spelt_met hB.2 (by omega)) ?_
      refine x_si ?_
      refine x_icmp_ne (tgt := 66) hC dX11_factOf_59 (by decide) ?_ ?_
      · refine x_iconst (v := (2 : Int32)) hC dX11_factOf_62 ki_2 ?_
        refine x_goto (tgt := 219) hC dX11_factOf_63 (by decide) ?_
        exact r_retI hR dX11_factOf_219 (fun h => congrArg (fun q => (q, M)) h)
      · refine x_iload_n hC dX11_factOf_66 rfl 0 rfl ?_
        refine x_bipush (v := (120 : Int32)) hC dX11_factOf_67 kb_120 ?_
        refine x_iconst (v := (0 : Int32)) hC dX11_factOf_69 ki_0 ?_
        refine x_iconst (v := (0 : Int32)) hC dX11_factOf_70 ki_0 ?_
        refine x_iconst (v := (0 : Int32)) hC dX11_factOf_71 ki_0 ?_
        refine x_iconst (v := (0 : Int32)) hC dX11_factOf_72 ki_0 ?_
        refine x_iconst (v := (0 : Int32)) hC dX11_factOf_73 ki_0 ?_
        refine r_cS0 (as := [.int (120 : Int32), .int (0 : Int32), .int (0 : Int32), .int (0 : Int32), .int (0 : Int32), .int (0 : Int32)]) (rest := [.int p0]) hB dX11_factOf_74 ks_X11_194 hq1 rfl rfl (Nat.le_of_ble_eq_true rfl) (f_X11_spelt_met hB.2 (by omega)) ?_
        refine x_si ?_
        refine x_icmp_ne (tgt := 84) hC dX11_factOf_77 (by decide) ?_ ?_
        · refine x_iconst (v := (3 : Int32)) hC dX11_factOf_80 ki_3 ?_
          refine x_goto (tgt := 219) hC dX11_factOf_81 (by decide) ?_
          exact r_retI hR dX11_factOf_219 (fun h => congrArg (fun q => (q, M)) h)
        · refine x_iload_n hC dX11_factOf_84 rfl 0 rfl ?_
          refine x_bipush (v := (121 : Int32)) hC dX11_factOf_85 kb_121 ?_
          refine x_iconst (v := (0 : Int32)) hC dX11_factOf_87 ki_0 ?_
          refine x_iconst (v := (0 : Int32)) hC dX11_factOf_88 ki_0 ?_
          refine x_iconst (v := (0 : Int32)) hC dX11_factOf_89 ki_0 ?_
          refine x_iconst (v := (0 : Int32)) hC dX11_factOf_90 ki_0 ?_
          refine x_iconst (v := (0 : Int32)) hC dX11_factOf_91 ki_0 ?_
          refine r_cS0 (as := [.int (121 : Int32), .int (0 : Int32), .int (0 : Int32), .int (0 : Int32), .int (0 : Int32), .int (0 : Int32)]) (rest := [.int p0]) hB dX11_factOf_92 ks_X11_194 hq1 rfl rfl (Nat.le_of_ble_eq_true rfl) (f_X11_spelt_met hB.2 (by omega)) ?_
          refine x_si ?_
          refine x_icmp_ne (tgt := 102) hC dX11_factOf_95 (by decide) ?_ ?_
          · refine x_iconst (v := (4 : Int32)) hC dX11_factOf_98 ki_4 ?_
            refine x_goto (tgt := 219) hC dX11_factOf_99 (by decide) ?_
            exact r_retI hR dX11_factOf_219 (fun h => congrArg (fun q => (q, M)) h)
          · refine x_iload_n hC dX11_factOf_102 rfl 0 rfl ?_
            refine x_bipush (v := (102 : Int32)) hC dX11_factOf_103 kb_102 ?_
            refine x_bipush (v := (97 : Int32)) hC dX11_factOf_105 kb_97 ?_
            refine x_bipush (v := (99 : Int32)) hC dX11_factOf_107 kb_99 ?_
            refine x_bipush (v := (105 : Int32)) hC dX11_factOf_109 kb_105 ?_
            refine x_bipush (v := (110 : Int32)) hC dX11_factOf_111 kb_110 ?_
            refine x_bipush (v := (103 : Int32)) hC dX11_factOf_113 kb_103 ?_
            refine r_cS0 (as := [.int (102 : Int32), .int (97 : Int32), .int (99 : Int32), .int (105 : Int32), .int (110 : Int32), .int (103 : Int32)]) (rest := [.int p0]) hB dX11_factOf_115 ks_X11_194 hq1 rfl rfl (Nat.le_of_ble_eq_true rfl) (f_X11_spelt_met hB.2 (by omega)) ?_
            refine x_si ?_
            refine x_icmp_ne (tgt := 125) hC dX11_factOf_118 (by decide) ?_ ?_
            · refine x_iconst (v := (5 : Int32)) hC dX11_factOf_121 ki_5 ?_
              refine x_goto (tgt := 219) hC dX11_factOf_122 (by decide) ?_
              exact r_retI hR dX11_factOf_219 (fun h => congrArg (fun q => (q, M)) h)
            · refine x_iload_n hC dX11_factOf_125 rfl 0 rfl ?_
              refine x_bipush (v := (115 : Int32)) hC dX11_factOf_126 kb_115 ?_
              refine x_bipush (v := (110 : Int32)) hC dX11_factOf_128 kb_110 ?_
              refine x_bipush (v := (111 : Int32)) hC dX11_factOf_130 kb_111 ?_
              refine x_bipush (v := (119 : Int32)) hC dX11_factOf_132 kb_119 ?_
              refine x_iconst (v := (0 : Int32)) hC dX11_factOf_134 ki_0 ?_
              refine x_iconst (v := (0 : Int32)) hC dX11_factOf_135 ki_0 ?_
              refine r_cS0 (as := [.int (115 : Int32), .int (110 : Int32), .int (111 : Int32), .int (119 : Int32), .int (0 : Int32), .int (0 : Int32)]) (rest := [.int p0]) hB dX11_factOf_136 ks_X11_194 hq1 rfl rfl (Nat.le_of_ble_eq_true rfl) (f_X11_spelt_met hB.2 (by omega)) ?_
              refine x_si ?_
              refine x_icmp_ne (tgt := 147) hC dX11_factOf_139 (by decide) ?_ ?_
              · refine x_bipush (v := (6 : Int32)) hC dX11_factOf_142 kb_6 ?_
                refine x_goto (tgt := 219) hC dX11_factOf_144 (by decide) ?_
                exact r_retI hR dX11_factOf_219 (fun h => congrArg (fun q => (q, M)) h)
              · refine x_iload_n hC dX11_factOf_147 rfl 0 rfl ?_
                refine x_bipush (v := (105 : Int32)) hC dX11_factOf_148 kb_105 ?_
                refine x_bipush (v := (110 : Int32)) hC dX11_factOf_150 kb_110 ?_
                refine x_bipush (v := (115 : Int32)) hC dX11_factOf_152 kb_115 ?_
                refine x_bipush (v := (105 : Int32)) hC dX11_factOf_154 kb_105 ?_
                refine x_bipush (v := (100 : Int32)) hC dX11_factOf_156 kb_100 ?_
                refine x_bipush (v := (101 : Int32)) hC dX11_factOf_158 kb_101 ?_
                refine r_cS0 (as := [.int (105 : Int32), .int (110 : Int32), .int (115 : Int32), .int (105 : Int32), .int (100 : Int32), .int (101 : Int32)]) (rest := [.int p0]) hB dX11_factOf_160 ks_X11_194 hq1 rfl rfl (Nat.le_of_ble_eq_true rfl) (f_X11_spelt_met hB.2 (by omega)) ?_
                refine x_si ?_
                refine x_icmp_ne (tgt := 171) hC dX11_factOf_163 (by decide) ?_ ?_
                · refine x_bipush (v := (7 : Int32)) hC dX11_factOf_166 kb_7 ?_
                  refine x_goto (tgt := 219) hC dX11_factOf_168 (by decide) ?_
                  exact r_retI hR dX11_factOf_219 (fun h => congrArg (fun q => (q, M)) h)
                · refine x_iload_n hC dX11_factOf_171 rfl 0 rfl ?_
                  refine x_bipush (v := (119 : Int32)) hC dX11_factOf_172 kb_119 ?_
                  refine x_bipush (v := (97 : Int32)) hC dX11_factOf_174 kb_97 ?_
                  refine x_bipush (v := (116 : Int32)) hC dX11_factOf_176 kb_116 ?_
                  refine x_bipush (v := (99 : Int32)) hC dX11_factOf_178 kb_99 ?_
                  refine x_bipush (v := (104 : Int32)) hC dX11_factOf_180 kb_104 ?_
                  refine x_iconst (v := (0 : Int32)) hC dX11_factOf_182 ki_0 ?_
                  refine r_cS0 (as := [.int (119 : Int32), .int (97 : Int32), .int (116 : Int32), .int (99 : Int32), .int (104 : Int32), .int (0 : Int32)]) (rest := [.int p0]) hB dX11_factOf_183 ks_X11_194 hq1 rfl rfl (Nat.le_of_ble_eq_true rfl) (f_X11_spelt_met hB.2 (by omega)) ?_
                  refine x_si ?_
                  refine x_icmp_ne (tgt := 194) hC dX11_factOf_186 (by decide) ?_ ?_
                  · refine x_bipush (v := (8 : Int32)) hC dX11_factOf_189 kb_8 ?_
                    refine x_goto (tgt := 219) hC dX11_factOf_191 (by decide) ?_
                    exact r_retI hR dX11_factOf_219 (fun h => congrArg (fun q => (q, M)) h)
                  · refine x_iload_n hC dX11_factOf_194 rfl 0 rfl ?_
                    refine x_bipush (v := (109 : Int32)) hC dX11_factOf_195 kb_109 ?_
                    refine x_bipush (v := (105 : Int32)) hC dX11_factOf_197 kb_105 ?_
                    refine x_bipush (v := (110 : Int32)) hC dX11_factOf_199 kb_110 ?_
                    refine x_bipush (v := (117 : Int32)) hC dX11_factOf_201 kb_117 ?_
                    refine x_bipush (v := (116 : Int32)) hC dX11_factOf_203 kb_116 ?_
                    refine x_bipush (v := (101 : Int32)) hC dX11_factOf_205 kb_101 ?_
                    refine r_cS0 (as := [.int (109 : Int32), .int (105 : Int32), .int (110 : Int32), .int (117 : Int32), .int (116 : Int32), .int (101 : Int32)]) (rest := [.int p0]) hB dX11_factOf_207 ks_X11_194 hq1 rfl rfl (Nat.le_of_ble_eq_true rfl) (f_X11_spelt_met hB.2 (by omega)) ?_
                    refine x_si ?_
                    refine x_icmp_ne (tgt := 218) hC dX11_factOf_210 (by decide) ?_ ?_
                    · refine x_bipush (v := (9 : Int32)) hC dX11_factOf_213 kb_9 ?_
                      refine x_goto (tgt := 219) hC dX11_factOf_215 (by decide) ?_
                      exact r_retI hR dX11_factOf_219 (fun h => congrArg (fun q => (q, M)) h)
                    · refine x_iconst (v := (-1 : Int32)) hC dX11_factOf_218 ki_m1 ?_
                      exact r_retI hR dX11_factOf_219 (fun h => congrArg (fun q => (q, M)) h)
theorem f_X11_factOf_met {l : Launch} {d : Nat} {g : zG} {w : zW} {M0 : zM} {p0 : Int32} {M : zM} (hw : wS w) (hd : 3 ≤ d) : zMet l yX11_factOf cX11_factOf 1 (some .int) d g w (zin false) M0 [.int p0] M (some (.int (f_X11_factOf p0))) M :=
  met_i (by decide +kernel) (Nat.le_of_ble_eq_true rfl) rfl (fun C hB0 hR => f_X11_factOf_ok ⟨hB0, hw⟩ hd M hR _ rfl rfl)
/-! WindingSquareModel.laysFacts(I)V -/
noncomputable def j_X11_laysFacts_120 (s1_120 : Int32) (s2_120 : Int32) (M : zM) : Option (zM) :=
  grd (inb s1_120 10) (
  nm (mset M 265 (ix s1_120) s2_120) fun M120 =>
  (f_X11_inside M120).bind fun u128 =>
  nm (mset M120 265 (ix (7 : Int32)) u128) fun M131 =>
  (f_X11_watchNow M131).bind fun u139 =>
  nm (mset M131 265 (ix (8 : Int32)) u139) fun M142 =>
  nm (mset M142 265 (ix (9 : Int32)) (M142 259 (ix (936 : Int32)))) fun M157 =>
  some M157)
set_option maxRecDepth 100000 in
theorem j_X11_laysFacts_120_ok {C : zC} {d : Nat} {g : zG} {l : Launch} {w : zW} {r : zM} {s1_120 : Int32} {s2_120 : Int32} (hB : bOK C cX11_laysFacts 3 RX11 d g l w false) (hd : 3 ≤ d) (M : zM) (hR : RtV C cX11_laysFacts w r) : Sg C w (0, 0) 120 [(0, zr w 257)] [.int s2_120, .int s1_120, zr w 265] M (j_X11_laysFacts_120 s1_120 s2_120 M) (fun q => q = r) := by
  have hC := hB.1.1
  have hq1 : 1 ≤ d := by omega
  unfold j_X11_laysFacts_120
  refine r_iast hB dX11_laysFacts_120 th_265 ?_
  refine x_mem (fun M120 => ?_)
  refine x_aload_n hC dX11_laysFacts_121 rfl 0 rfl ?_
  refine r_getR hB dX11_laysFacts_122 kf_X11_35 rfl th_257 rf_257_20 ?_
  refine x_bipush (v := (7 : Int32)) hC dX11_laysFacts_125 kb_7 ?_
  refine x_aload_n hC dX11_laysFacts_127 rfl 0 rfl ?_
  refine r_cV1 (as := []) (rest := [.int (7 : Int32), zr w 265]) hB dX11_laysFacts_128 kv_X11_243 th_257 hq1 rfl rfl (Nat.le_of_ble_eq_true rfl) (fun v hv => f_X11_inside_met hB.2 (by omega) hv) (fun u128 => ?_)
  refine r_iast0 hB dX11_laysFacts_131 th_265 ib_7_10 ?_
  refine x_mem (fun M131 => ?_)
  refine x_aload_n hC dX11_laysFacts_132 rfl 0 rfl ?_
  refine r_getR hB dX11_laysFacts_133 kf_X11_35 rfl th_257 rf_257_20 ?_
  refine x_bipush (v := (8 : Int32)) hC dX11_laysFacts_136 kb_8 ?_
  refine x_aload_n hC dX11_laysFacts_138 rfl 0 rfl ?_
  refine r_cV1 (as := []) (rest := [.int (8 : Int32), zr w 265]) hB dX11_laysFacts_139 kv_X11_246 th_257 hq1 rfl rfl (Nat.le_of_ble_eq_true rfl) (fun v hv => f_X11_watchNow_met hB.2 (by omega) hv) (fun u139 => ?_)
  refine r_iast0 hB dX11_laysFacts_142 th_265 ib_8_10 ?_
  refine x_mem (fun M142 => ?_)
  refine x_aload_n hC dX11_laysFacts_143 rfl 0 rfl ?_
  refine r_getR hB dX11_laysFacts_144 kf_X11_35 rfl th_257 rf_257_20 ?_
  refine x_bipush (v := (9 : Int32)) hC dX11_laysFacts_147 kb_9 ?_
  refine x_aload_n hC dX11_laysFacts_149 rfl 0 rfl ?_
  refine r_getR hB dX11_laysFacts_150 kf_X11_13 rfl th_257 rf_257_1 ?_
  refine x_sipush (v := (936 : Int32)) hC dX11_laysFacts_153 kh_936 ?_
  refine r_iald0 hB dX11_laysFacts_156 th_259 ib_936_2425 ?_
  refine r_iast0 hB dX11_laysFacts_157 th_265 ib_9_10 ?_
  refine x_mem (fun M157 => ?_)
  exact r_retV hR dX11_laysFacts_158 (fun h => h)
noncomputable def j_X11_laysFacts_119 (s1_119 : Int32) (M : zM) : Option (zM) :=
  j_X11_laysFacts_120 s1_119 (0 : Int32) M
set_option maxRecDepth 100000 in
theorem j_X11_laysFacts_119_ok {C : zC} {d : Nat} {g : zG} {l : Launch} {w : zW} {r : zM} {s1_119 : Int32} (hB : bOK C cX11_laysFacts 3 RX11 d g l w false) (hd : 3 ≤ d) (M : zM) (hR : RtV C cX11_laysFacts w r) : Sg C w (0, 0) 119 [(0, zr w 257)] [.int s1_119, zr w 265] M (j_X11_laysFacts_119 s1_119 M) (fun q => q = r) := by
  have hC := hB.1.1
  have hq1 : 1 ≤ d := by omega
  unfold j_X11_laysFacts_119
  refine x_iconst (v := (0 : Int32)) hC dX11_laysFacts_119 ki_0 ?_
  exact j_X11_laysFacts_120_ok hB hd M hR
noncomputable def f_X11_laysFacts (p1 : Int32) (M : zM) : Option (zM) :=
  (f_X11_has p1 (1 : Int32) M).bind fun u3 =>
  (f_X11_has p1 (0 : Int32) M).bind fun u15 =>
  nm (mset M 265 (ix (0 : Int32)) u15) fun M18 =>
  (f_X11_has p1 (5 : Int32) M18).bind fun u28 =>
  nm (mset M18 265 (ix (1 : Int32)) (u3 * u28)) fun M32 =>
  (f_X11_has p1 (6 : Int32) M32).bind fun u43 =>
  nm (mset M32 265 (ix (2 : Int32)) (u3 * u43)) fun M47 =>
  (f_X11_has p1 (2 : Int32) M47).bind fun u57 =>
  nm (mset M47 265 (ix (3 : Int32)) (u3 * u57)) fun M61 =>
  (f_X11_has p1 (3 : Int32) M61).bind fun u71 =>
  nm (mset M61 265 (ix (4 : Int32)) (u3 * u71)) fun M75 =>
  (f_X11_has p1 (4 : Int32) M75).bind fun u85 =>
  nm (mset M75 265 (ix (5 : Int32)) (u3 * u85)) fun M89 =>
  if u3 = (1 : Int32) then ((f_X11_standsAt p1 M89).bind fun u107 =>
  grd (inb u107 2425) (
  if (M89 259 (ix u107)) = (2 : Int32) then (j_X11_laysFacts_120 (6 : Int32) (1 : Int32) M89)
  else (j_X11_laysFacts_119 (6 : Int32) M89)))
  else (j_X11_laysFacts_119 (6 : Int32) M89)
set_option maxRecDepth 100000 in
theorem f_X11_laysFacts_ok {C : zC} {d : Nat} {g : zG} {l : Launch} {w : zW} {r : zM} {p1 : Int32} (hB : bOK C cX11_laysFacts 3 RX11 d g l w false) (hd : 3 ≤ d) (M : zM) (hR : RtV C cX11_laysFacts w r) : Sg C w (0, 0) 0 [(0, zr w 257), (1, .int p1)] [] M (f_X11_laysFacts p1 M) (fun q => q = r) := by
  have hC := hB.1.1
  have hq1 : 1 ≤ d := by omega
  unfold f_X11_laysFacts
  refine x_aload_n hC dX11_laysFacts_0 rfl 0 rfl ?_
  refine x_iload_n hC dX11_laysFacts_1 rfl 1 rfl ?_
  refine x_iconst (v := (1 : Int32)) hC dX11_laysFacts_2 ki_1 ?_
  refine r_cV1 (as := [.int p1, .int (1 : Int32)]) (rest := []) hB dX11_laysFacts_3 kv_X11_104 th_257 hq1 rfl rfl (Nat.le_of_ble_eq_true rfl) (fun v hv => f_X11_has_met hB.2 (by omega) hv) (fun u3 => ?_)
  refine x_istore_n hC dX11_laysFacts_6 rfl [(2, .int u3), (0, zr w 257), (1, .int p1)] (by decide) rfl ?_
  refine x_aload_n hC dX11_laysFacts_7 rfl 1 rfl ?_
  refine r_getR hB dX11_laysFacts_8 kf_X11_35 rfl th_257 rf_257_20 ?_
  refine x_iconst (v := (0 : Int32)) hC dX11_laysFacts_11 ki_0 ?_
  refine x_aload_n hC dX11_laysFacts_12 rfl 1 rfl ?_
  refine x_iload_n hC dX11_laysFacts_13 rfl 2 rfl ?_
  refine x_iconst (v := (0 : Int32)) hC dX11_laysFacts_14 ki_0 ?_
  refine r_cV1 (as := [.int p1, .int (0 : Int32)]) (rest := [.int (0 : Int32), zr w 265]) hB dX11_laysFacts_15 kv_X11_104 th_257 hq1 rfl rfl (Nat.le_of_ble_eq_true rfl) (fun v hv => f_X11_has_met hB.2 (by omega) hv) (fun u15 => ?_)
  refine r_iast0 hB dX11_laysFacts_18 th_265 ib_0_10 ?_
  refine x_mem (fun M18 => ?_)
  refine x_aload_n hC dX11_laysFacts_19 rfl 1 rfl ?_
  refine r_getR hB dX11_laysFacts_20 kf_X11_35 rfl th_257 rf_257_20 ?_
  refine x_iconst (v := (1 : Int32)) hC dX11_laysFacts_23 ki_1 ?_
  refine x_iload_n hC dX11_laysFacts_24 rfl 0 rfl ?_
  refine x_aload_n hC dX11_laysFacts_25 rfl 1 rfl ?_
  refine x_iload_n hC dX11_laysFacts_26 rfl 2 rfl ?_
  refine x_iconst (v := (5 : Int32)) hC dX11_laysFacts_27 ki_5 ?_
  refine r_cV1 (as := [.int p1, .int (5 : Int32)]) (rest := [.int u3, .int (1 : Int32), zr w 265]) hB dX11_laysFacts_28 kv_X11_104 th_257 hq1 rfl rfl (Nat.le_of_ble_eq_true rfl) (fun v hv => f_X11_has_met hB.2 (by omega) hv) (fun u28 => ?_)
  refine x_imul hC dX11_laysFacts_31 ?_
  refine r_iast0 hB dX11_laysFacts_32 th_265 ib_1_10 ?_
  refine x_mem (fun M32 => ?_)
  refine x_aload_n hC dX11_laysFacts_33 rfl 1 rfl ?_
  refine r_getR hB dX11_laysFacts_34 kf_X11_35 rfl th_257 rf_257_20 ?_
  refine x_iconst (v := (2 : Int32)) hC dX11_laysFacts_37 ki_2 ?_
  refine x_iload_n hC dX11_laysFacts_38 rfl 0 rfl ?_
  refine x_aload_n hC dX11_laysFacts_39 rfl 1 rfl ?_
  refine x_iload_n hC dX11_laysFacts_40 rfl 2 rfl ?_
  refine x_bipush (v := (6 : Int32)) hC dX11_laysFacts_41 kb_6 ?_
  refine r_cV1 (as := [.int p1, .int (6 : Int32)]) (rest := [.int u3, .int (2 : Int32), zr w 265]) hB dX11_laysFacts_43 kv_X11_104 th_257 hq1 rfl rfl (Nat.le_of_ble_eq_true rfl) (fun v hv => f_X11_has_met hB.2 (by omega) hv) (fun u43 => ?_)
  refine x_imul hC dX11_laysFacts_46 ?_
  refine r_iast0 hB dX11_laysFacts_47 th_265 ib_2_10 ?_
  refine x_mem (fun M47 => ?_)
  refine x_aload_n hC dX11_laysFacts_48 rfl 1 rfl ?_
  refine r_getR hB dX11_laysFacts_49 kf_X11_35 rfl th_257 rf_257_20 ?_
  refine x_iconst (v := (3 : Int32)) hC dX11_laysFacts_52 ki_3 ?_
  refine x_iload_n hC dX11_laysFacts_53 rfl 0 rfl ?_
  refine x_aload_n hC dX11_laysFacts_54 rfl 1 rfl ?_
  refine x_iload_n hC dX11_laysFacts_55 rfl 2 rfl ?_
  refine x_iconst (v := (2 : Int32)) hC dX11_laysFacts_56 ki_2 ?_
  refine r_cV1 (as := [.int p1, .int (2 : Int32)]) (rest := [.int u3, .int (3 : Int32), zr w 265]) hB dX11_laysFacts_57 kv_X11_104 th_257 hq1 rfl rfl (Nat.le_of_ble_eq_true rfl) (fun v hv => f_X11_has_met hB.2 (by omega) hv) (fun u57 => ?_)
  refine x_imul hC dX11_laysFacts_60 ?_
  refine r_iast0 hB dX11_laysFacts_61 th_265 ib_3_10 ?_
  refine x_mem (fun M61 => ?_)
  refine x_aload_n hC dX11_laysFacts_62 rfl 1 rfl ?_
  refine r_getR hB dX11_laysFacts_63 kf_X11_35 rfl th_257 rf_257_20 ?_
  refine x_iconst (v := (4 : Int32)) hC dX11_laysFacts_66 ki_4 ?_
  refine x_iload_n hC dX11_laysFacts_67 rfl 0 rfl ?_
  refine x_aload_n hC dX11_laysFacts_68 rfl 1 rfl ?_
  refine x_iload_n hC dX11_laysFacts_69 rfl 2 rfl ?_
  refine x_iconst (v := (3 : Int32)) hC dX11_laysFacts_70 ki_3 ?_
  refine r_cV1 (as := [.int p1, .int (3 : Int32)]) (rest := [.int u3, .int (4 : Int32), zr w 265]) hB dX11_laysFacts_71 kv_X11_104 th_257 hq1 rfl rfl (Nat.le_of_ble_eq_true rfl) (fun v hv => f_X11_has_met hB.2 (by omega) hv) (fun u71 => ?_)
  refine x_imul hC dX11_laysFacts_74 ?_
  refine r_iast0 hB dX11_laysFacts_75 th_265 ib_4_10 ?_
  refine x_mem (fun M75 => ?_)
  refine x_aload_n hC dX11_laysFacts_76 rfl 1 rfl ?_
  refine r_getR hB dX11_laysFacts_77 kf_X11_35 rfl th_257 rf_257_20 ?_
  refine x_iconst (v := (5 : Int32)) hC dX11_laysFacts_80 ki_5 ?_
  refine x_iload_n hC dX11_laysFacts_81 rfl 0 rfl ?_
  refine x_aload_n hC dX11_laysFacts_82 rfl 1 rfl ?_
  refine x_iload_n hC dX11_laysFacts_83 rfl 2 rfl ?_
  refine x_iconst (v := (4 : Int32)) hC dX11_laysFacts_84 ki_4 ?_
  refine r_cV1 (as := [.int p1, .int (4 : Int32)]) (rest := [.int u3, .int (5 : Int32), zr w 265]) hB dX11_laysFacts_85 kv_X11_104 th_257 hq1 rfl rfl (Nat.le_of_ble_eq_true rfl) (fun v hv => f_X11_has_met hB.2 (by omega) hv) (fun u85 => ?_)
  refine x_imul hC dX11_laysFacts_88 ?_
  refine r_iast0 hB dX11_laysFacts_89 th_265 ib_5_10 ?_
  refine x_mem (fun M89 => ?_)
  refine x_aload_n hC dX11_laysFacts_90 rfl 1 rfl ?_
  refine r_getR hB dX11_laysFacts_91 kf_X11_35 rfl th_257 rf_257_20 ?_
  refine x_bipush (v := (6 : Int32)) hC dX11_laysFacts_94 kb_6 ?_
  refine x_iload_n hC dX11_laysFacts_96 rfl 0 rfl ?_
  refine x_iconst (v := (1 : Int32)) hC dX11_laysFacts_97 ki_1 ?_
  refine x_icmp_ne (tgt := 119) hC dX11_laysFacts_98 (by decide) ?_ ?_
  · refine x_aload_n hC dX11_laysFacts_101 rfl 1 rfl ?_
    refine r_getR hB dX11_laysFacts_102 kf_X11_13 rfl th_257 rf_257_1 ?_
    refine x_aload_n hC dX11_laysFacts_105 rfl 1 rfl ?_
    refine x_iload_n hC dX11_laysFacts_106 rfl 2 rfl ?_
    refine r_cV1 (as := [.int p1]) (rest := [zr w 259, .int (6 : Int32), zr w 265]) hB dX11_laysFacts_107 kv_X11_111 th_257 hq1 rfl rfl (Nat.le_of_ble_eq_true rfl) (fun v hv => f_X11_standsAt_met hB.2 (by omega) hv) (fun u107 => ?_)
    refine r_iald hB dX11_laysFacts_110 th_259 ?_
    refine x_iconst (v := (2 : Int32)) hC dX11_laysFacts_111 ki_2 ?_
    refine x_icmp_ne (tgt := 119) hC dX11_laysFacts_112 (by decide) ?_ ?_
    · refine x_iconst (v := (1 : Int32)) hC dX11_laysFacts_115 ki_1 ?_
      refine x_goto (tgt := 120) hC dX11_laysFacts_116 (by decide) ?_
      refine x_sub [1] rfl ?_
      exact j_X11_laysFacts_120_ok hB hd M89 hR
    · refine x_sub [1] rfl ?_
      exact j_X11_laysFacts_119_ok hB hd M89 hR
  · refine x_sub [1] rfl ?_
    exact j_X11_laysFacts_119_ok hB hd M89 hR
theorem f_X11_laysFacts_met {l : Launch} {d : Nat} {g : zG} {w : zW} {M0 : zM} {p1 : Int32} {M : zM} (hw : wS w) (hd : 3 ≤ d) {M' : zM} (h : f_X11_laysFacts p1 M = some M') : zMet l yX11_laysFacts cX11_laysFacts 3 none d g w (zin false) M0 [zr w 257, .int p1] M none M' :=
  met_v (by decide +kernel) (Nat.le_of_ble_eq_true rfl) (fun C hB0 hR => f_X11_laysFacts_ok ⟨hB0, hw⟩ hd M hR _ h rfl)
/-! WindingSquareModel.comesTo(II)I -/
noncomputable def j_X11_comesTo_158_5 (v2_5 : Int32) (v3_158_5 : Int32) (v4_158_5 : Int32) (M : zM) : Option ((Int32 × Int32 × zM) ⊕ (zM)) :=
  some (.inl (v3_158_5, (v4_158_5 + (1 : Int32)), M))
set_option maxRecDepth 100000 in
theorem j_X11_comesTo_158_5_ok {C : zC} {d : Nat} {g : zG} {l : Launch} {w : zW} {r : Int32 × zM} {v2_5 : Int32} {v3_158_5 : Int32} {v4_158_5 : Int32} (hB : bOK C cX11_comesTo 7 RX11 d g l w false) (hd : 3 ≤ d) (M : zM) (hR : RtI C cX11_comesTo w r.1 r.2) : Sg C w (0, 0) 158 [(0, zr w 257), (2, .int v2_5), (3, .int v3_158_5), (4, .int v4_158_5)] [] M (j_X11_comesTo_158_5 v2_5 v3_158_5 v4_158_5 M) (fun o => Sum.elim (fun (s : (Int32 × Int32 × zM)) => Zs C w (0, 0) 5 [(0, zr w 257), (2, .int v2_5), (3, .int s.1), (4, .int s.2.1)] [] s.2.2) (fun (s : (zM)) => Zs C w (0, 0) 164 [(0, zr w 257)] [] s) o) := by
  have hC := hB.1.1
  have hq1 : 1 ≤ d := by omega
  unfold j_X11_comesTo_158_5
  refine x_iinc hC dX11_comesTo_158 ki_1 [(4, .int (v4_158_5 + (1 : Int32))), (0, zr w 257), (2, .int v2_5), (3, .int v3_158_5)] 3 rfl (by decide) rfl ?_
  refine x_goto (tgt := 5) hC dX11_comesTo_161 (by decide) ?_
  refine x_sub [1, 2, 3, 0] rfl ?_
  exact x_done (fun h => h)
noncomputable def j_X11_comesTo_71_5 (v2_5 : Int32) (v3_71_5 : Int32) (v4_71_5 : Int32) (s1_71_5 : Int32) (s2_71_5 : Int32) (M : zM) : Option ((Int32 × Int32 × zM) ⊕ (zM)) :=
  grd (inb s1_71_5 420) (
  nm (mset M 266 (ix s1_71_5) s2_71_5) fun M71_5 =>
  j_X11_comesTo_158_5 v2_5 (v3_71_5 + (1 : Int32)) v4_71_5 M71_5)
set_option maxRecDepth 100000 in
theorem j_X11_comesTo_71_5_ok {C : zC} {d : Nat} {g : zG} {l : Launch} {w : zW} {r : Int32 × zM} {v2_5 : Int32} {v3_71_5 : Int32} {v4_71_5 : Int32} {s1_71_5 : Int32} {s2_71_5 : Int32} (hB : bOK C cX11_comesTo 7 RX11 d g l w false) (hd : 3 ≤ d) (M : zM) (hR : RtI C cX11_comesTo w r.1 r.2) : Sg C w (0, 0) 71 [(0, zr w 257), (2, .int v2_5), (3, .int v3_71_5), (4, .int v4_71_5)] [.int s2_71_5, .int s1_71_5, zr w 266] M (j_X11_comesTo_71_5 v2_5 v3_71_5 v4_71_5 s1_71_5 s2_71_5 M) (fun o => Sum.elim (fun (s : (Int32 × Int32 × zM)) => Zs C w (0, 0) 5 [(0, zr w 257), (2, .int v2_5), (3, .int s.1), (4, .int s.2.1)] [] s.2.2) (fun (s : (zM)) => Zs C w (0, 0) 164 [(0, zr w 257)] [] s) o) := by
  have hC := hB.1.1
  have hq1 : 1 ≤ d := by omega
  unfold j_X11_comesTo_71_5
  refine r_iast hB dX11_comesTo_71 th_266 ?_
  refine x_mem (fun M71_5 => ?_)
  refine x_iinc hC dX11_comesTo_72 ki_1 [(3, .int (v3_71_5 + (1 : Int32))), (0, zr w 257), (2, .int v2_5), (4, .int v4_71_5)] 2 rfl (by decide) rfl ?_
  refine x_goto (tgt := 158) hC dX11_comesTo_75 (by decide) ?_
  refine x_sub [1, 2, 0, 3] rfl ?_
  exact j_X11_comesTo_158_5_ok hB hd M71_5 hR
noncomputable def b_X11_comesTo_5 (v2_5 : Int32) (v3_5 : Int32) (v4_5 : Int32) (M : zM) : Option ((Int32 × Int32 × zM) ⊕ (zM)) :=
  if v2_5 ≤ v4_5 then (some (.inr M))
  else (grd (inb ((1025 : Int32) + ((2 : Int32) * v4_5)) 2425) (
  nm (M 259 (ix ((1025 : Int32) + ((2 : Int32) * v4_5)))) fun v5_24_5 =>
  grd (inb (((1025 : Int32) + ((2 : Int32) * v4_5)) + (1 : Int32)) 2425) (
  nm (M 259 (ix (((1025 : Int32) + ((2 : Int32) * v4_5)) + (1 : Int32)))) fun v6_41_5 =>
  if (1 : Int32) < v5_24_5 then (if v5_24_5 = (5 : Int32) then (grd (inb (v3_5 - (1 : Int32)) 420) (
  grd (¬ v6_41_5 = 0) (
  grd (inb (v3_5 - (1 : Int32)) 420) (
  nm (mset M 266 (ix (v3_5 - (1 : Int32))) ((M 266 (ix (v3_5 - (1 : Int32)))) / v6_41_5)) fun M96_5 =>
  j_X11_comesTo_158_5 v2_5 v3_5 v4_5 M96_5))))
  else (if v5_24_5 = (9 : Int32) then (grd (inb (v3_5 - (1 : Int32)) 420) (
  grd (inb (v3_5 - (1 : Int32)) 420) (
  nm (mset M 266 (ix (v3_5 - (1 : Int32))) ((1 : Int32) - (M 266 (ix (v3_5 - (1 : Int32)))))) fun M124_5 =>
  j_X11_comesTo_158_5 v2_5 v3_5 v4_5 M124_5)))
  else (grd (inb ((v3_5 + (-1 : Int32)) - (1 : Int32)) 420) (
  grd (inb (v3_5 + (-1 : Int32)) 420) (
  grd (inb ((v3_5 + (-1 : Int32)) - (1 : Int32)) 420) (
  nm (mset M 266 (ix ((v3_5 + (-1 : Int32)) - (1 : Int32))) (f_X11_both v5_24_5 (M 266 (ix ((v3_5 + (-1 : Int32)) - (1 : Int32)))) (M 266 (ix (v3_5 + (-1 : Int32)))))) fun M157_5 =>
  j_X11_comesTo_158_5 v2_5 (v3_5 + (-1 : Int32)) v4_5 M157_5))))))
  else (if v5_24_5 = 0 then (j_X11_comesTo_71_5 v2_5 v3_5 v4_5 v3_5 v6_41_5 M)
  else (grd (inb v6_41_5 10) (
  j_X11_comesTo_71_5 v2_5 v3_5 v4_5 v3_5 (M 265 (ix v6_41_5)) M))))))
set_option maxRecDepth 100000 in
theorem b_X11_comesTo_5_ok {C : zC} {d : Nat} {g : zG} {l : Launch} {w : zW} {r : Int32 × zM} {v2_5 : Int32} {v3_5 : Int32} {v4_5 : Int32} (hB : bOK C cX11_comesTo 7 RX11 d g l w false) (hd : 3 ≤ d) (M : zM) (hR : RtI C cX11_comesTo w r.1 r.2) : Sg C w (0, 0) 5 [(0, zr w 257), (2, .int v2_5), (3, .int v3_5), (4, .int v4_5)] [] M (b_X11_comesTo_5 v2_5 v3_5 v4_5 M) (fun o => Sum.elim (fun (s : (Int32 × Int32 × zM)) => Zs C w (0, 0) 5 [(0, zr w 257), (2, .int v2_5), (3, .int s.1), (4, .int s.2.1)] [] s.2.2) (fun (s : (zM)) => Zs C w (0, 0) 164 [(0, zr w 257)] [] s) o) := by
  have hC := hB.1.1
  have hq1 : 1 ≤ d := by omega
  unfold b_X11_comesTo_5
  refine x_iload hC dX11_comesTo_5 3 rfl ?_
  refine x_iload_n hC dX11_comesTo_7 rfl 1 rfl ?_
  refine x_icmp_ge (tgt := 164) hC dX11_comesTo_8 (by decide) ?_ ?_
  · refine x_sub [0] rfl ?_
    exact x_done (fun h => h)
  · refine x_aload_n hC dX11_comesTo_11 rfl 0 rfl ?_
    refine r_getR hB dX11_comesTo_12 kf_X11_13 rfl th_257 rf_257_1 ?_
    refine x_sipush (v := (1025 : Int32)) hC dX11_comesTo_15 kh_1025 ?_
    refine x_iconst (v := (2 : Int32)) hC dX11_comesTo_18 ki_2 ?_
    refine x_iload hC dX11_comesTo_19 3 rfl ?_
    refine x_imul hC dX11_comesTo_21 ?_
    refine x_iadd hC dX11_comesTo_22 ?_
    refine r_iald hB dX11_comesTo_23 th_259 ?_
    refine x_top (fun v5_24_5 => ?_)
    refine x_istore (f := 0) hC dX11_comesTo_24 [(5, .int v5_24_5), (0, zr w 257), (2, .int v2_5), (3, .int v3_5), (4, .int v4_5)] (by decide) rfl ?_
    refine x_aload_n hC dX11_comesTo_26 rfl 1 rfl ?_
    refine r_getR hB dX11_comesTo_27 kf_X11_13 rfl th_257 rf_257_1 ?_
    refine x_sipush (v := (1025 : Int32)) hC dX11_comesTo_30 kh_1025 ?_
    refine x_iconst (v := (2 : Int32)) hC dX11_comesTo_33 ki_2 ?_
    refine x_iload hC dX11_comesTo_34 4 rfl ?_
    refine x_imul hC dX11_comesTo_36 ?_
    refine x_iadd hC dX11_comesTo_37 ?_
    refine x_iconst (v := (1 : Int32)) hC dX11_comesTo_38 ki_1 ?_
    refine x_iadd hC dX11_comesTo_39 ?_
    refine r_iald hB dX11_comesTo_40 th_259 ?_
    refine x_top (fun v6_41_5 => ?_)
    refine x_istore (f := 0) hC dX11_comesTo_41 [(6, .int v6_41_5), (5, .int v5_24_5), (0, zr w 257), (2, .int v2_5), (3, .int v3_5), (4, .int v4_5)] (by decide) rfl ?_
    refine x_iload hC dX11_comesTo_43 1 rfl ?_
    refine x_iconst (v := (1 : Int32)) hC dX11_comesTo_45 ki_1 ?_
    refine x_icmp_gt (tgt := 78) hC dX11_comesTo_46 (by decide) ?_ ?_
    · refine x_iload hC dX11_comesTo_78 1 rfl ?_
      refine x_iconst (v := (5 : Int32)) hC dX11_comesTo_80 ki_5 ?_
      refine x_icmp_ne (tgt := 100) hC dX11_comesTo_81 (by decide) ?_ ?_
      · refine x_aload_n hC dX11_comesTo_84 rfl 2 rfl ?_
        refine r_getR hB dX11_comesTo_85 kf_X11_38 rfl th_257 rf_257_21 ?_
        refine x_iload_n hC dX11_comesTo_88 rfl 4 rfl ?_
        refine x_iconst (v := (1 : Int32)) hC dX11_comesTo_89 ki_1 ?_
        refine x_isub hC dX11_comesTo_90 ?_
        refine x_dup2 hC dX11_comesTo_91 rfl rfl ?_
        refine r_iald hB dX11_comesTo_92 th_266 ?_
        refine x_iload hC dX11_comesTo_93 0 rfl ?_
        refine x_grd (fun hne => ?_)
        refine x_idiv0 hC dX11_comesTo_95 hne ?_
        refine r_iast hB dX11_comesTo_96 th_266 ?_
        refine x_mem (fun M96_5 => ?_)
        refine x_goto (tgt := 158) hC dX11_comesTo_97 (by decide) ?_
        refine x_sub [2, 3, 4, 5] rfl ?_
        exact j_X11_comesTo_158_5_ok hB hd M96_5 hR
      · refine x_iload hC dX11_comesTo_100 1 rfl ?_
        refine x_bipush (v := (9 : Int32)) hC dX11_comesTo_102 kb_9 ?_
        refine x_icmp_ne (tgt := 128) hC dX11_comesTo_104 (by decide) ?_ ?_
        · refine x_aload_n hC dX11_comesTo_107 rfl 2 rfl ?_
          refine r_getR hB dX11_comesTo_108 kf_X11_38 rfl th_257 rf_257_21 ?_
          refine x_iload_n hC dX11_comesTo_111 rfl 4 rfl ?_
          refine x_iconst (v := (1 : Int32)) hC dX11_comesTo_112 ki_1 ?_
          refine x_isub hC dX11_comesTo_113 ?_
          refine x_iconst (v := (1 : Int32)) hC dX11_comesTo_114 ki_1 ?_
          refine x_aload_n hC dX11_comesTo_115 rfl 2 rfl ?_
          refine r_getR hB dX11_comesTo_116 kf_X11_38 rfl th_257 rf_257_21 ?_
          refine x_iload_n hC dX11_comesTo_119 rfl 4 rfl ?_
          refine x_iconst (v := (1 : Int32)) hC dX11_comesTo_120 ki_1 ?_
          refine x_isub hC dX11_comesTo_121 ?_
          refine r_iald hB dX11_comesTo_122 th_266 ?_
          refine x_isub hC dX11_comesTo_123 ?_
          refine r_iast hB dX11_comesTo_124 th_266 ?_
          refine x_mem (fun M124_5 => ?_)
          refine x_goto (tgt := 158) hC dX11_comesTo_125 (by decide) ?_
          refine x_sub [2, 3, 4, 5] rfl ?_
          exact j_X11_comesTo_158_5_ok hB hd M124_5 hR
        · refine x_iinc hC dX11_comesTo_128 ki_m1 [(3, .int (v3_5 + (-1 : Int32))), (6, .int v6_41_5), (5, .int v5_24_5), (0, zr w 257), (2, .int v2_5), (4, .int v4_5)] 4 rfl (by decide) rfl ?_
          refine x_aload_n hC dX11_comesTo_131 rfl 3 rfl ?_
          refine r_getR hB dX11_comesTo_132 kf_X11_38 rfl th_257 rf_257_21 ?_
          refine x_iload_n hC dX11_comesTo_135 rfl 0 rfl ?_
          refine x_iconst (v := (1 : Int32)) hC dX11_comesTo_136 ki_1 ?_
          refine x_isub hC dX11_comesTo_137 ?_
          refine x_iload hC dX11_comesTo_138 2 rfl ?_
          refine x_aload_n hC dX11_comesTo_140 rfl 3 rfl ?_
          refine r_getR hB dX11_comesTo_141 kf_X11_38 rfl th_257 rf_257_21 ?_
          refine x_iload_n hC dX11_comesTo_144 rfl 0 rfl ?_
          refine x_iconst (v := (1 : Int32)) hC dX11_comesTo_145 ki_1 ?_
          refine x_isub hC dX11_comesTo_146 ?_
          refine r_iald hB dX11_comesTo_147 th_266 ?_
          refine x_aload_n hC dX11_comesTo_148 rfl 3 rfl ?_
          refine r_getR hB dX11_comesTo_149 kf_X11_38 rfl th_257 rf_257_21 ?_
          refine x_iload_n hC dX11_comesTo_152 rfl 0 rfl ?_
          refine r_iald hB dX11_comesTo_153 th_266 ?_
          refine r_cS0 (as := [.int v5_24_5, .int (M 266 (ix ((v3_5 + (-1 : Int32)) - (1 : Int32)))), .int (M 266 (ix (v3_5 + (-1 : Int32))))]) (rest := [.int ((v3_5 + (-1 : Int32)) - (1 : Int32)), zr w 266]) hB dX11_comesTo_154 ks_X11_253 hq1 rfl rfl (Nat.le_of_ble_eq_true rfl) (f_X11_both_met hB.2 (by omega)) ?_
          refine r_iast hB dX11_comesTo_157 th_266 ?_
          refine x_mem (fun M157_5 => ?_)
          refine x_sub [3, 4, 0, 5] rfl ?_
          exact j_X11_comesTo_158_5_ok hB hd M157_5 hR
    · refine x_aload_n hC dX11_comesTo_49 rfl 2 rfl ?_
      refine r_getR hB dX11_comesTo_50 kf_X11_38 rfl th_257 rf_257_21 ?_
      refine x_iload_n hC dX11_comesTo_53 rfl 4 rfl ?_
      refine x_iload hC dX11_comesTo_54 1 rfl ?_
      refine x_if_ne (tgt := 64) hC dX11_comesTo_56 (by decide) ?_ ?_
      · refine x_iload hC dX11_comesTo_59 0 rfl ?_
        refine x_goto (tgt := 71) hC dX11_comesTo_61 (by decide) ?_
        refine x_sub [2, 3, 4, 5] rfl ?_
        exact j_X11_comesTo_71_5_ok hB hd M hR
      · refine x_aload_n hC dX11_comesTo_64 rfl 2 rfl ?_
        refine r_getR hB dX11_comesTo_65 kf_X11_35 rfl th_257 rf_257_20 ?_
        refine x_iload hC dX11_comesTo_68 0 rfl ?_
        refine r_iald hB dX11_comesTo_70 th_265 ?_
        refine x_sub [2, 3, 4, 5] rfl ?_
        exact j_X11_comesTo_71_5_ok hB hd M hR
noncomputable def j_X11_comesTo_164 (M : zM) : Option (Int32 × zM) :=
  some ((M 266 (ix (0 : Int32))), M)
set_option maxRecDepth 100000 in
theorem j_X11_comesTo_164_ok {C : zC} {d : Nat} {g : zG} {l : Launch} {w : zW} {r : Int32 × zM} (hB : bOK C cX11_comesTo 7 RX11 d g l w false) (hd : 3 ≤ d) (M : zM) (hR : RtI C cX11_comesTo w r.1 r.2) : Sg C w (0, 0) 164 [(0, zr w 257)] [] M (j_X11_comesTo_164 M) (fun q => q = r) := by
  have hC := hB.1.1
  have hq1 : 1 ≤ d := by omega
  unfold j_X11_comesTo_164
  refine x_aload_n hC dX11_comesTo_164 rfl 0 rfl ?_
  refine r_getR hB dX11_comesTo_165 kf_X11_38 rfl th_257 rf_257_21 ?_
  refine x_iconst (v := (0 : Int32)) hC dX11_comesTo_168 ki_0 ?_
  refine r_iald0 hB dX11_comesTo_169 th_266 ib_0_420 ?_
  exact r_retI hR dX11_comesTo_170 (fun h => h)
noncomputable def f_X11_comesTo (p1 : Int32) (p2 : Int32) (M : zM) : Option (Int32 × zM) :=
  (loopW (fun s => b_X11_comesTo_5 p2 s.1 s.2.1 s.2.2) ((0 : Int32), p1, M)).bind (fun r => j_X11_comesTo_164 r)
set_option maxRecDepth 100000 in
theorem f_X11_comesTo_ok {C : zC} {d : Nat} {g : zG} {l : Launch} {w : zW} {r : Int32 × zM} {p1 : Int32} {p2 : Int32} (hB : bOK C cX11_comesTo 7 RX11 d g l w false) (hd : 3 ≤ d) (M : zM) (hR : RtI C cX11_comesTo w r.1 r.2) : Sg C w (0, 0) 0 [(0, zr w 257), (1, .int p1), (2, .int p2)] [] M (f_X11_comesTo p1 p2 M) (fun q => q = r) := by
  have hC := hB.1.1
  have hq1 : 1 ≤ d := by omega
  unfold f_X11_comesTo
  refine x_iconst (v := (0 : Int32)) hC dX11_comesTo_0 ki_0 ?_
  refine x_istore_n hC dX11_comesTo_1 rfl [(3, .int (0 : Int32)), (0, zr w 257), (1, .int p1), (2, .int p2)] (by decide) rfl ?_
  refine x_iload_n hC dX11_comesTo_2 rfl 2 rfl ?_
  refine x_istore (f := 0) hC dX11_comesTo_3 [(4, .int p1), (3, .int (0 : Int32)), (0, zr w 257), (1, .int p1), (2, .int p2)] (by decide) rfl ?_
  refine x_sub [2, 4, 1, 0] rfl ?_
  refine x_loopB (pc2 := 164) (fun (s : (Int32 × Int32 × zM)) => [(0, zr w 257), (2, .int p2), (3, .int s.1), (4, .int s.2.1)]) (fun (s : (Int32 × Int32 × zM)) => s.2.2) (fun (s : (zM)) => [(0, zr w 257)]) (fun (s : (zM)) => s) ((0 : Int32), p1, M) ?_ ?_
  · exact fun s => b_X11_comesTo_5_ok hB hd s.2.2 hR
  · intro r9
    exact j_X11_comesTo_164_ok hB hd r9 hR
theorem f_X11_comesTo_met {l : Launch} {d : Nat} {g : zG} {w : zW} {M0 : zM} {p1 : Int32} {p2 : Int32} {M : zM} (hw : wS w) (hd : 3 ≤ d) {v : Int32} {M' : zM} (h : f_X11_comesTo p1 p2 M = some (v, M')) : zMet l yX11_comesTo cX11_comesTo 7 (some .int) d g w (zin false) M0 [zr w 257, .int p1, .int p2] M (some (.int v)) M' :=
  met_i (by decide +kernel) (Nat.le_of_ble_eq_true rfl) rfl (fun C hB0 hR => f_X11_comesTo_ok (r := (v, M')) ⟨hB0, hw⟩ hd M hR _ h rfl)
/-! WindingSquareModel.turnsRound(II)V -/
noncomputable def j_X11_turnsRound_56 (v1_56 : Int32) (M : zM) : Option (zM) :=
  (f_X11_standsAt v1_56 M).bind fun u61 =>
  (f_X11_writes (1 : Int32) v1_56 u61 M).bind fun M64 =>
  some M64
set_option maxRecDepth 100000 in
theorem j_X11_turnsRound_56_ok {C : zC} {d : Nat} {g : zG} {l : Launch} {w : zW} {r : zM} {v1_56 : Int32} (hB : bOK C cX11_turnsRound 4 RX11 d g l w false) (hd : 3 ≤ d) (M : zM) (hR : RtV C cX11_turnsRound w r) : Sg C w (0, 0) 56 [(0, zr w 257), (1, .int v1_56)] [] M (j_X11_turnsRound_56 v1_56 M) (fun q => q = r) := by
  have hC := hB.1.1
  have hq1 : 1 ≤ d := by omega
  unfold j_X11_turnsRound_56
  refine x_aload_n hC dX11_turnsRound_56 rfl 0 rfl ?_
  refine x_iconst (v := (1 : Int32)) hC dX11_turnsRound_57 ki_1 ?_
  refine x_iload_n hC dX11_turnsRound_58 rfl 1 rfl ?_
  refine x_aload_n hC dX11_turnsRound_59 rfl 0 rfl ?_
  refine x_iload_n hC dX11_turnsRound_60 rfl 1 rfl ?_
  refine r_cV1 (as := [.int v1_56]) (rest := [.int v1_56, .int (1 : Int32), zr w 257]) hB dX11_turnsRound_61 kv_X11_111 th_257 hq1 rfl rfl (Nat.le_of_ble_eq_true rfl) (fun v hv => f_X11_standsAt_met hB.2 (by omega) hv) (fun u61 => ?_)
  refine r_cVv (as := [.int (1 : Int32), .int v1_56, .int u61]) (rest := []) hB dX11_turnsRound_64 kv_X11_273 th_257 hq1 rfl rfl (Nat.le_of_ble_eq_true rfl) (fun M' hv => f_X11_writes_met hB.2 (by omega) hv) (fun M64 => ?_)
  exact r_retV hR dX11_turnsRound_67 (fun h => h)
noncomputable def j_X11_turnsRound_10 (v1_10 : Int32) (v2_10 : Int32) (s0_10 : Int32) (M : zM) : Option (zM) :=
  (f_X11_has v1_10 (4 : Int32) M).bind fun u17 =>
  (f_X11_sets v1_10 (4 : Int32) (f_X11_turned u17 v2_10) M).bind fun M24 =>
  (f_X11_adds v1_10 (5 : Int32) s0_10 M24).bind fun M31 =>
  (f_X11_standsAt v1_10 M31).bind fun u40 =>
  grd (inb u40 2425) (
  if (M31 259 (ix u40)) = (3 : Int32) then ((f_X11_adds v1_10 (6 : Int32) s0_10 M31).bind fun M53 =>
  j_X11_turnsRound_56 v1_10 M53)
  else (j_X11_turnsRound_56 v1_10 M31))
set_option maxRecDepth 100000 in
theorem j_X11_turnsRound_10_ok {C : zC} {d : Nat} {g : zG} {l : Launch} {w : zW} {r : zM} {v1_10 : Int32} {v2_10 : Int32} {s0_10 : Int32} (hB : bOK C cX11_turnsRound 4 RX11 d g l w false) (hd : 3 ≤ d) (M : zM) (hR : RtV C cX11_turnsRound w r) : Sg C w (0, 0) 10 [(0, zr w 257), (1, .int v1_10), (2, .int v2_10)] [.int s0_10] M (j_X11_turnsRound_10 v1_10 v2_10 s0_10 M) (fun q => q = r) := by
  have hC := hB.1.1
  have hq1 : 1 ≤ d := by omega
  unfold j_X11_turnsRound_10
  refine x_istore_n hC dX11_turnsRound_10 rfl [(3, .int s0_10), (0, zr w 257), (1, .int v1_10), (2, .int v2_10)] (by decide) rfl ?_
  refine x_aload_n hC dX11_turnsRound_11 rfl 1 rfl ?_
  refine x_iload_n hC dX11_turnsRound_12 rfl 2 rfl ?_
  refine x_iconst (v := (4 : Int32)) hC dX11_turnsRound_13 ki_4 ?_
  refine x_aload_n hC dX11_turnsRound_14 rfl 1 rfl ?_
  refine x_iload_n hC dX11_turnsRound_15 rfl 2 rfl ?_
  refine x_iconst (v := (4 : Int32)) hC dX11_turnsRound_16 ki_4 ?_
  refine r_cV1 (as := [.int v1_10, .int (4 : Int32)]) (rest := [.int (4 : Int32), .int v1_10, zr w 257]) hB dX11_turnsRound_17 kv_X11_104 th_257 hq1 rfl rfl (Nat.le_of_ble_eq_true rfl) (fun v hv => f_X11_has_met hB.2 (by omega) hv) (fun u17 => ?_)
  refine x_iload_n hC dX11_turnsRound_20 rfl 3 rfl ?_
  refine r_cS0 (as := [.int u17, .int v2_10]) (rest := [.int (4 : Int32), .int v1_10, zr w 257]) hB dX11_turnsRound_21 ks_X11_263 hq1 rfl rfl (Nat.le_of_ble_eq_true rfl) (f_X11_turned_met hB.2 (by omega)) ?_
  refine r_cVv (as := [.int v1_10, .int (4 : Int32), .int (f_X11_turned u17 v2_10)]) (rest := []) hB dX11_turnsRound_24 kv_X11_266 th_257 hq1 rfl rfl (Nat.le_of_ble_eq_true rfl) (fun M' hv => f_X11_sets_met hB.2 (by omega) hv) (fun M24 => ?_)
  refine x_aload_n hC dX11_turnsRound_27 rfl 1 rfl ?_
  refine x_iload_n hC dX11_turnsRound_28 rfl 2 rfl ?_
  refine x_iconst (v := (5 : Int32)) hC dX11_turnsRound_29 ki_5 ?_
  refine x_iload_n hC dX11_turnsRound_30 rfl 0 rfl ?_
  refine r_cVv (as := [.int v1_10, .int (5 : Int32), .int s0_10]) (rest := []) hB dX11_turnsRound_31 kv_X11_270 th_257 hq1 rfl rfl (Nat.le_of_ble_eq_true rfl) (fun M' hv => f_X11_adds_met hB.2 (by omega) hv) (fun M31 => ?_)
  refine x_aload_n hC dX11_turnsRound_34 rfl 1 rfl ?_
  refine r_getR hB dX11_turnsRound_35 kf_X11_13 rfl th_257 rf_257_1 ?_
  refine x_aload_n hC dX11_turnsRound_38 rfl 1 rfl ?_
  refine x_iload_n hC dX11_turnsRound_39 rfl 2 rfl ?_
  refine r_cV1 (as := [.int v1_10]) (rest := [zr w 259]) hB dX11_turnsRound_40 kv_X11_111 th_257 hq1 rfl rfl (Nat.le_of_ble_eq_true rfl) (fun v hv => f_X11_standsAt_met hB.2 (by omega) hv) (fun u40 => ?_)
  refine r_iald hB dX11_turnsRound_43 th_259 ?_
  refine x_iconst (v := (3 : Int32)) hC dX11_turnsRound_44 ki_3 ?_
  refine x_icmp_ne (tgt := 56) hC dX11_turnsRound_45 (by decide) ?_ ?_
  · refine x_aload_n hC dX11_turnsRound_48 rfl 1 rfl ?_
    refine x_iload_n hC dX11_turnsRound_49 rfl 2 rfl ?_
    refine x_bipush (v := (6 : Int32)) hC dX11_turnsRound_50 kb_6 ?_
    refine x_iload_n hC dX11_turnsRound_52 rfl 0 rfl ?_
    refine r_cVv (as := [.int v1_10, .int (6 : Int32), .int s0_10]) (rest := []) hB dX11_turnsRound_53 kv_X11_270 th_257 hq1 rfl rfl (Nat.le_of_ble_eq_true rfl) (fun M' hv => f_X11_adds_met hB.2 (by omega) hv) (fun M53 => ?_)
    refine x_sub [1, 2] rfl ?_
    exact j_X11_turnsRound_56_ok hB hd M53 hR
  · refine x_sub [1, 2] rfl ?_
    exact j_X11_turnsRound_56_ok hB hd M31 hR
noncomputable def f_X11_turnsRound (p1 : Int32) (p2 : Int32) (M : zM) : Option (zM) :=
  if p2 = (2 : Int32) then (j_X11_turnsRound_10 p1 p2 (2 : Int32) M)
  else (j_X11_turnsRound_10 p1 p2 (1 : Int32) M)
set_option maxRecDepth 100000 in
theorem f_X11_turnsRound_ok {C : zC} {d : Nat} {g : zG} {l : Launch} {w : zW} {r : zM} {p1 : Int32} {p2 : Int32} (hB : bOK C cX11_turnsRound 4 RX11 d g l w false) (hd : 3 ≤ d) (M : zM) (hR : RtV C cX11_turnsRound w r) : Sg C w (0, 0) 0 [(0, zr w 257), (1, .int p1), (2, .int p2)] [] M (f_X11_turnsRound p1 p2 M) (fun q => q = r) := by
  have hC := hB.1.1
  have hq1 : 1 ≤ d := by omega
  unfold f_X11_turnsRound
  refine x_iload_n hC dX11_turnsRound_0 rfl 2 rfl ?_
  refine x_iconst (v := (2 : Int32)) hC dX11_turnsRound_1 ki_2 ?_
  refine x_icmp_ne (tgt := 9) hC dX11_turnsRound_2 (by decide) ?_ ?_
  · refine x_iconst (v := (2 : Int32)) hC dX11_turnsRound_5 ki_2 ?_
    refine x_goto (tgt := 10) hC dX11_turnsRound_6 (by decide) ?_
    exact j_X11_turnsRound_10_ok hB hd M hR
  · refine x_iconst (v := (1 : Int32)) hC dX11_turnsRound_9 ki_1 ?_
    exact j_X11_turnsRound_10_ok hB hd M hR
theorem f_X11_turnsRound_met {l : Launch} {d : Nat} {g : zG} {w : zW} {M0 : zM} {p1 : Int32} {p2 : Int32} {M : zM} (hw : wS w) (hd : 3 ≤ d) {M' : zM} (h : f_X11_turnsRound p1 p2 M = some M') : zMet l yX11_turnsRound cX11_turnsRound 4 none d g w (zin false) M0 [zr w 257, .int p1, .int p2] M none M' :=
  met_v (by decide +kernel) (Nat.le_of_ble_eq_true rfl) (fun C hB0 hR => f_X11_turnsRound_ok ⟨hB0, hw⟩ hd M hR _ h rfl)
/-! WindingSquareModel.look(I)I -/
noncomputable def b_X11_look_25 (v2_25 : Int32) (v3_25 : Int32) (M : zM) : Option ((Int32 × Int32) ⊕ (Int32)) :=
  if (M 259 (ix (940 : Int32))) ≤ v3_25 then (some (.inr v2_25))
  else ((f_X11_has v3_25 (1 : Int32) M).bind fun u41_25 =>
  nm (v2_25 ||| (u41_25 <<< (v3_25 &&& 31))) fun v2_47_25 =>
  some (.inl (v2_47_25, (v3_25 + (1 : Int32)))))
set_option maxRecDepth 100000 in
theorem b_X11_look_25_ok {C : zC} {d : Nat} {g : zG} {l : Launch} {w : zW} {r : Int32 × zM} {v2_25 : Int32} {v3_25 : Int32} (hB : bOK C cX11_look 4 RX11 d g l w false) (hd : 3 ≤ d) (M : zM) (hR : RtI C cX11_look w r.1 r.2) : Sg C w (0, 0) 25 [(0, zr w 257), (2, .int v2_25), (3, .int v3_25)] [] M (b_X11_look_25 v2_25 v3_25 M) (fun o => Sum.elim (fun (s : (Int32 × Int32)) => Zs C w (0, 0) 25 [(0, zr w 257), (2, .int s.1), (3, .int s.2)] [] M) (fun (s : (Int32)) => Zs C w (0, 0) 54 [(2, .int s)] [] M) o) := by
  have hC := hB.1.1
  have hq1 : 1 ≤ d := by omega
  unfold b_X11_look_25
  refine x_iload_n hC dX11_look_25 rfl 2 rfl ?_
  refine x_aload_n hC dX11_look_26 rfl 0 rfl ?_
  refine r_getR hB dX11_look_27 kf_X11_13 rfl th_257 rf_257_1 ?_
  refine x_sipush (v := (940 : Int32)) hC dX11_look_30 kh_940 ?_
  refine r_iald0 hB dX11_look_33 th_259 ib_940_2425 ?_
  refine x_icmp_ge (tgt := 54) hC dX11_look_34 (by decide) ?_ ?_
  · refine x_sub [1] rfl ?_
    exact x_done (fun h => h)
  · refine x_iload_n hC dX11_look_37 rfl 1 rfl ?_
    refine x_aload_n hC dX11_look_38 rfl 0 rfl ?_
    refine x_iload_n hC dX11_look_39 rfl 2 rfl ?_
    refine x_iconst (v := (1 : Int32)) hC dX11_look_40 ki_1 ?_
    refine r_cV1 (as := [.int v3_25, .int (1 : Int32)]) (rest := [.int v2_25]) hB dX11_look_41 kv_X11_104 th_257 hq1 rfl rfl (Nat.le_of_ble_eq_true rfl) (fun v hv => f_X11_has_met hB.2 (by omega) hv) (fun u41_25 => ?_)
    refine x_iload_n hC dX11_look_44 rfl 2 rfl ?_
    refine x_ishl hC dX11_look_45 ?_
    refine x_ior hC dX11_look_46 ?_
    refine x_top (fun v2_47_25 => ?_)
    refine x_istore_n hC dX11_look_47 rfl [(2, .int v2_47_25), (0, zr w 257), (3, .int v3_25)] (by decide) rfl ?_
    refine x_iinc hC dX11_look_48 ki_1 [(3, .int (v3_25 + (1 : Int32))), (2, .int v2_47_25), (0, zr w 257)] 2 rfl (by decide) rfl ?_
    refine x_goto (tgt := 25) hC dX11_look_51 (by decide) ?_
    refine x_sub [2, 1, 0] rfl ?_
    exact x_done (fun h => h)
noncomputable def j_X11_look_54 (v2_54 : Int32) (M : zM) : Option (Int32 × zM) :=
  some (v2_54, M)
set_option maxRecDepth 100000 in
theorem j_X11_look_54_ok {C : zC} {d : Nat} {g : zG} {l : Launch} {w : zW} {r : Int32 × zM} {v2_54 : Int32} (hB : bOK C cX11_look 4 RX11 d g l w false) (hd : 3 ≤ d) (M : zM) (hR : RtI C cX11_look w r.1 r.2) : Sg C w (0, 0) 54 [(2, .int v2_54)] [] M (j_X11_look_54 v2_54 M) (fun q => q = r) := by
  have hC := hB.1.1
  have hq1 : 1 ≤ d := by omega
  unfold j_X11_look_54
  refine x_iload_n hC dX11_look_54 rfl 0 rfl ?_
  exact r_retI hR dX11_look_55 (fun h => h)
noncomputable def j_X11_look_88_65 (v3_88_65 : Int32) (s0_88_65 : Int32) (s1_88_65 : Int32) (M : zM) : Option ((Int32 × Int32) ⊕ (Int32)) :=
  nm (s0_88_65 + s1_88_65) fun v2_89_65 =>
  some (.inl (v2_89_65, (v3_88_65 + (1 : Int32))))
set_option maxRecDepth 100000 in
theorem j_X11_look_88_65_ok {C : zC} {d : Nat} {g : zG} {l : Launch} {w : zW} {r : Int32 × zM} {v3_88_65 : Int32} {s0_88_65 : Int32} {s1_88_65 : Int32} (hB : bOK C cX11_look 4 RX11 d g l w false) (hd : 3 ≤ d) (M : zM) (hR : RtI C cX11_look w r.1 r.2) : Sg C w (0, 0) 88 [(0, zr w 257), (3, .int v3_88_65)] [.int s1_88_65, .int s0_88_65] M (j_X11_look_88_65 v3_88_65 s0_88_65 s1_88_65 M) (fun o => Sum.elim (fun (s : (Int32 × Int32)) => Zs C w (0, 0) 65 [(0, zr w 257), (2, .int s.1), (3, .int s.2)] [] M) (fun (s : (Int32)) => Zs C w (0, 0) 96 [(2, .int s)] [] M) o) := by
  have hC := hB.1.1
  have hq1 : 1 ≤ d := by omega
  unfold j_X11_look_88_65
  refine x_iadd hC dX11_look_88 ?_
  refine x_top (fun v2_89_65 => ?_)
  refine x_istore_n hC dX11_look_89 rfl [(2, .int v2_89_65), (0, zr w 257), (3, .int v3_88_65)] (by decide) rfl ?_
  refine x_iinc hC dX11_look_90 ki_1 [(3, .int (v3_88_65 + (1 : Int32))), (2, .int v2_89_65), (0, zr w 257)] 2 rfl (by decide) rfl ?_
  refine x_goto (tgt := 65) hC dX11_look_93 (by decide) ?_
  refine x_sub [2, 1, 0] rfl ?_
  exact x_done (fun h => h)
noncomputable def b_X11_look_65 (v2_65 : Int32) (v3_65 : Int32) (M : zM) : Option ((Int32 × Int32) ⊕ (Int32)) :=
  if (144 : Int32) ≤ v3_65 then (some (.inr v2_65))
  else (grd (inb v3_65 2425) (
  if (M 259 (ix v3_65)) = (1 : Int32) then (j_X11_look_88_65 v3_65 v2_65 (1 : Int32) M)
  else (j_X11_look_88_65 v3_65 v2_65 (0 : Int32) M)))
set_option maxRecDepth 100000 in
theorem b_X11_look_65_ok {C : zC} {d : Nat} {g : zG} {l : Launch} {w : zW} {r : Int32 × zM} {v2_65 : Int32} {v3_65 : Int32} (hB : bOK C cX11_look 4 RX11 d g l w false) (hd : 3 ≤ d) (M : zM) (hR : RtI C cX11_look w r.1 r.2) : Sg C w (0, 0) 65 [(0, zr w 257), (2, .int v2_65), (3, .int v3_65)] [] M (b_X11_look_65 v2_65 v3_65 M) (fun o => Sum.elim (fun (s : (Int32 × Int32)) => Zs C w (0, 0) 65 [(0, zr w 257), (2, .int s.1), (3, .int s.2)] [] M) (fun (s : (Int32)) => Zs C w (0, 0) 96 [(2, .int s)] [] M) o) := by
  have hC := hB.1.1
  have hq1 : 1 ≤ d := by omega
  unfold b_X11_look_65
  refine x_iload_n hC dX11_look_65 rfl 2 rfl ?_
  refine x_sipush (v := (144 : Int32)) hC dX11_look_66 kh_144 ?_
  refine x_icmp_ge (tgt := 96) hC dX11_look_69 (by decide) ?_ ?_
  · refine x_sub [1] rfl ?_
    exact x_done (fun h => h)
  · refine x_iload_n hC dX11_look_72 rfl 1 rfl ?_
    refine x_aload_n hC dX11_look_73 rfl 0 rfl ?_
    refine r_getR hB dX11_look_74 kf_X11_13 rfl th_257 rf_257_1 ?_
    refine x_iload_n hC dX11_look_77 rfl 2 rfl ?_
    refine r_iald hB dX11_look_78 th_259 ?_
    refine x_iconst (v := (1 : Int32)) hC dX11_look_79 ki_1 ?_
    refine x_icmp_ne (tgt := 87) hC dX11_look_80 (by decide) ?_ ?_
    · refine x_iconst (v := (1 : Int32)) hC dX11_look_83 ki_1 ?_
      refine x_goto (tgt := 88) hC dX11_look_84 (by decide) ?_
      refine x_sub [0, 2] rfl ?_
      exact j_X11_look_88_65_ok hB hd M hR
    · refine x_iconst (v := (0 : Int32)) hC dX11_look_87 ki_0 ?_
      refine x_sub [0, 2] rfl ?_
      exact j_X11_look_88_65_ok hB hd M hR
noncomputable def j_X11_look_96 (v2_96 : Int32) (M : zM) : Option (Int32 × zM) :=
  some (v2_96, M)
set_option maxRecDepth 100000 in
theorem j_X11_look_96_ok {C : zC} {d : Nat} {g : zG} {l : Launch} {w : zW} {r : Int32 × zM} {v2_96 : Int32} (hB : bOK C cX11_look 4 RX11 d g l w false) (hd : 3 ≤ d) (M : zM) (hR : RtI C cX11_look w r.1 r.2) : Sg C w (0, 0) 96 [(2, .int v2_96)] [] M (j_X11_look_96 v2_96 M) (fun q => q = r) := by
  have hC := hB.1.1
  have hq1 : 1 ≤ d := by omega
  unfold j_X11_look_96
  refine x_iload_n hC dX11_look_96 rfl 0 rfl ?_
  exact r_retI hR dX11_look_97 (fun h => h)
noncomputable def f_X11_look (p1 : Int32) (M : zM) : Option (Int32 × zM) :=
  if (f_X11_within p1 (0 : Int32) (11 : Int32)) = 0 then (some ((-1 : Int32), M))
  else ((f_X11_take M).bind fun M13 =>
  if p1 = (1 : Int32) then ((loopW (fun s => b_X11_look_25 s.1 s.2 M13) ((0 : Int32), (0 : Int32))).bind (fun r => j_X11_look_54 r M13))
  else (if p1 = (4 : Int32) then ((loopW (fun s => b_X11_look_65 s.1 s.2 M13) ((0 : Int32), (0 : Int32))).bind (fun r => j_X11_look_96 r M13))
  else (if p1 ≤ (6 : Int32) then (if p1 = 0 then (some ((M13 259 (ix (940 : Int32))), M13))
  else (if p1 = (2 : Int32) then (some ((M13 259 (ix (936 : Int32))), M13))
  else (if p1 = (3 : Int32) then (some ((M13 259 (ix (937 : Int32))), M13))
  else (if p1 = (5 : Int32) then (some ((M13 259 (ix (939 : Int32))), M13))
  else (some ((M13 259 (ix (938 : Int32))), M13))))))
  else (if p1 = (11 : Int32) then (some ((M13 257 4), M13))
  else (grd (inb (((941 : Int32) + p1) - (7 : Int32)) 2425) (
  some ((M13 259 (ix (((941 : Int32) + p1) - (7 : Int32)))), M13)))))))
set_option maxRecDepth 100000 in
theorem f_X11_look_ok {C : zC} {d : Nat} {g : zG} {l : Launch} {w : zW} {r : Int32 × zM} {p1 : Int32} (hB : bOK C cX11_look 4 RX11 d g l w false) (hd : 3 ≤ d) (M : zM) (hR : RtI C cX11_look w r.1 r.2) : Sg C w (0, 0) 0 [(0, zr w 257), (1, .int p1)] [] M (f_X11_look p1 M) (fun q => q = r) := by
  have hC := hB.1.1
  have hq1 : 1 ≤ d := by omega
  unfold f_X11_look
  refine x_iload_n hC dX11_look_0 rfl 1 rfl ?_
  refine x_iconst (v := (0 : Int32)) hC dX11_look_1 ki_0 ?_
  refine x_bipush (v := (11 : Int32)) hC dX11_look_2 kb_11 ?_
  refine r_cS0 (as := [.int p1, .int (0 : Int32), .int (11 : Int32)]) (rest := []) hB dX11_look_4 ks_X11_100 hq1 rfl rfl (Nat.le_of_ble_eq_true rfl) (f_X11_within_met hB.2 (by omega)) ?_
  refine x_if_ne (tgt := 12) hC dX11_look_7 (by decide) ?_ ?_
  · refine x_iconst (v := (-1 : Int32)) hC dX11_look_10 ki_m1 ?_
    exact r_retI hR dX11_look_11 (fun h => h)
  · refine x_aload_n hC dX11_look_12 rfl 0 rfl ?_
    refine r_cVv (as := []) (rest := []) hB dX11_look_13 kv_X11_328 th_257 hq1 rfl rfl (Nat.le_of_ble_eq_true rfl) (fun M' hv => f_X11_take_met hB.2 (by omega) hv) (fun M13 => ?_)
    refine x_iload_n hC dX11_look_16 rfl 1 rfl ?_
    refine x_iconst (v := (1 : Int32)) hC dX11_look_17 ki_1 ?_
    refine x_icmp_ne (tgt := 56) hC dX11_look_18 (by decide) ?_ ?_
    · refine x_iconst (v := (0 : Int32)) hC dX11_look_21 ki_0 ?_
      refine x_istore_n hC dX11_look_22 rfl [(2, .int (0 : Int32)), (0, zr w 257), (1, .int p1)] (by decide) rfl ?_
      refine x_iconst (v := (0 : Int32)) hC dX11_look_23 ki_0 ?_
      refine x_istore_n hC dX11_look_24 rfl [(3, .int (0 : Int32)), (2, .int (0 : Int32)), (0, zr w 257), (1, .int p1)] (by decide) rfl ?_
      refine x_sub [2, 1, 0] rfl ?_
      refine x_loopB (pc2 := 54) (fun (s : (Int32 × Int32)) => [(0, zr w 257), (2, .int s.1), (3, .int s.2)]) (fun (s : (Int32 × Int32)) => M13) (fun (s : (Int32)) => [(2, .int s)]) (fun (s : (Int32)) => M13) ((0 : Int32), (0 : Int32)) ?_ ?_
      · exact fun s => b_X11_look_25_ok hB hd M13 hR
      · intro r9
        exact j_X11_look_54_ok hB hd M13 hR
    · refine x_iload_n hC dX11_look_56 rfl 1 rfl ?_
      refine x_iconst (v := (4 : Int32)) hC dX11_look_57 ki_4 ?_
      refine x_icmp_ne (tgt := 98) hC dX11_look_58 (by decide) ?_ ?_
      · refine x_iconst (v := (0 : Int32)) hC dX11_look_61 ki_0 ?_
        refine x_istore_n hC dX11_look_62 rfl [(2, .int (0 : Int32)), (0, zr w 257), (1, .int p1)] (by decide) rfl ?_
        refine x_iconst (v := (0 : Int32)) hC dX11_look_63 ki_0 ?_
        refine x_istore_n hC dX11_look_64 rfl [(3, .int (0 : Int32)), (2, .int (0 : Int32)), (0, zr w 257), (1, .int p1)] (by decide) rfl ?_
        refine x_sub [2, 1, 0] rfl ?_
        refine x_loopB (pc2 := 96) (fun (s : (Int32 × Int32)) => [(0, zr w 257), (2, .int s.1), (3, .int s.2)]) (fun (s : (Int32 × Int32)) => M13) (fun (s : (Int32)) => [(2, .int s)]) (fun (s : (Int32)) => M13) ((0 : Int32), (0 : Int32)) ?_ ?_
        · exact fun s => b_X11_look_65_ok hB hd M13 hR
        · intro r9
          exact j_X11_look_96_ok hB hd M13 hR
      · refine x_iload_n hC dX11_look_98 rfl 1 rfl ?_
        refine x_bipush (v := (6 : Int32)) hC dX11_look_99 kb_6 ?_
        refine x_icmp_le (tgt := 131) hC dX11_look_101 (by decide) ?_ ?_
        · refine x_aload_n hC dX11_look_131 rfl 0 rfl ?_
          refine r_getR hB dX11_look_132 kf_X11_13 rfl th_257 rf_257_1 ?_
          refine x_iload_n hC dX11_look_135 rfl 1 rfl ?_
          refine x_if_ne (tgt := 145) hC dX11_look_136 (by decide) ?_ ?_
          · refine x_sipush (v := (940 : Int32)) hC dX11_look_139 kh_940 ?_
            refine x_goto (tgt := 181) hC dX11_look_142 (by decide) ?_
            refine r_iald0 hB dX11_look_181 th_259 ib_940_2425 ?_
            exact r_retI hR dX11_look_182 (fun h => h)
          · refine x_iload_n hC dX11_look_145 rfl 1 rfl ?_
            refine x_iconst (v := (2 : Int32)) hC dX11_look_146 ki_2 ?_
            refine x_icmp_ne (tgt := 156) hC dX11_look_147 (by decide) ?_ ?_
            · refine x_sipush (v := (936 : Int32)) hC dX11_look_150 kh_936 ?_
              refine x_goto (tgt := 181) hC dX11_look_153 (by decide) ?_
              refine r_iald0 hB dX11_look_181 th_259 ib_936_2425 ?_
              exact r_retI hR dX11_look_182 (fun h => h)
            · refine x_iload_n hC dX11_look_156 rfl 1 rfl ?_
              refine x_iconst (v := (3 : Int32)) hC dX11_look_157 ki_3 ?_
              refine x_icmp_ne (tgt := 167) hC dX11_look_158 (by decide) ?_ ?_
              · refine x_sipush (v := (937 : Int32)) hC dX11_look_161 kh_937 ?_
                refine x_goto (tgt := 181) hC dX11_look_164 (by decide) ?_
                refine r_iald0 hB dX11_look_181 th_259 ib_937_2425 ?_
                exact r_retI hR dX11_look_182 (fun h => h)
              · refine x_iload_n hC dX11_look_167 rfl 1 rfl ?_
                refine x_iconst (v := (5 : Int32)) hC dX11_look_168 ki_5 ?_
                refine x_icmp_ne (tgt := 178) hC dX11_look_169 (by decide) ?_ ?_
                · refine x_sipush (v := (939 : Int32)) hC dX11_look_172 kh_939 ?_
                  refine x_goto (tgt := 181) hC dX11_look_175 (by decide) ?_
                  refine r_iald0 hB dX11_look_181 th_259 ib_939_2425 ?_
                  exact r_retI hR dX11_look_182 (fun h => h)
                · refine x_sipush (v := (938 : Int32)) hC dX11_look_178 kh_938 ?_
                  refine r_iald0 hB dX11_look_181 th_259 ib_938_2425 ?_
                  exact r_retI hR dX11_look_182 (fun h => h)
        · refine x_iload_n hC dX11_look_104 rfl 1 rfl ?_
          refine x_bipush (v := (11 : Int32)) hC dX11_look_105 kb_11 ?_
          refine x_icmp_ne (tgt := 117) hC dX11_look_107 (by decide) ?_ ?_
          · refine x_aload_n hC dX11_look_110 rfl 0 rfl ?_
            refine r_getI hB dX11_look_111 kf_X11_94 rfl th_257 ?_
            refine x_goto (tgt := 130) hC dX11_look_114 (by decide) ?_
            exact r_retI hR dX11_look_130 (fun h => h)
          · refine x_aload_n hC dX11_look_117 rfl 0 rfl ?_
            refine r_getR hB dX11_look_118 kf_X11_13 rfl th_257 rf_257_1 ?_
            refine x_sipush (v := (941 : Int32)) hC dX11_look_121 kh_941 ?_
            refine x_iload_n hC dX11_look_124 rfl 1 rfl ?_
            refine x_iadd hC dX11_look_125 ?_
            refine x_bipush (v := (7 : Int32)) hC dX11_look_126 kb_7 ?_
            refine x_isub hC dX11_look_128 ?_
            refine r_iald hB dX11_look_129 th_259 ?_
            exact r_retI hR dX11_look_130 (fun h => h)
theorem f_X11_look_met {l : Launch} {d : Nat} {g : zG} {w : zW} {M0 : zM} {p1 : Int32} {M : zM} (hw : wS w) (hd : 3 ≤ d) {v : Int32} {M' : zM} (h : f_X11_look p1 M = some (v, M')) : zMet l yX11_look cX11_look 4 (some .int) d g w (zin false) M0 [zr w 257, .int p1] M (some (.int v)) M' :=
  met_i (by decide +kernel) (Nat.le_of_ble_eq_true rfl) rfl (fun C hB0 hR => f_X11_look_ok (r := (v, M')) ⟨hB0, hw⟩ hd M hR _ h rfl)
/-! WindingSquareModel.goesAlone(I)V -/
noncomputable def j_X11_goesAlone_35 (v1_35 : Int32) (v2_35 : Int32) (M : zM) : Option (zM) :=
  if v2_35 = (3 : Int32) then ((f_X11_has v1_35 (2 : Int32) M).bind fun u44 =>
  (f_X11_has v1_35 (4 : Int32) M).bind fun u50 =>
  nm (u44 + (f_X11_goesX u50)) fun v3_57 =>
  (f_X11_has v1_35 (3 : Int32) M).bind fun u61 =>
  (f_X11_has v1_35 (4 : Int32) M).bind fun u67 =>
  nm (u61 + (f_X11_goesY u67)) fun v4_74 =>
  if (f_X11_isIn v3_57 v4_74) = 0 then ((f_X11_sets v1_35 (1 : Int32) (0 : Int32) M).bind fun M89 =>
  some M89)
  else (grd (inb (f_X11_place v3_57 v4_74) 2425) (
  if (M 259 (ix (f_X11_place v3_57 v4_74))) = (1 : Int32) then (some M)
  else ((f_X11_sets v1_35 (2 : Int32) v3_57 M).bind fun M114 =>
  (f_X11_sets v1_35 (3 : Int32) v4_74 M114).bind fun M122 =>
  some M122))))
  else (some M)
set_option maxRecDepth 100000 in
theorem j_X11_goesAlone_35_ok {C : zC} {d : Nat} {g : zG} {l : Launch} {w : zW} {r : zM} {v1_35 : Int32} {v2_35 : Int32} (hB : bOK C cX11_goesAlone 5 RX11 d g l w false) (hd : 3 ≤ d) (M : zM) (hR : RtV C cX11_goesAlone w r) : Sg C w (0, 0) 35 [(0, zr w 257), (1, .int v1_35), (2, .int v2_35)] [] M (j_X11_goesAlone_35 v1_35 v2_35 M) (fun q => q = r) := by
  have hC := hB.1.1
  have hq1 : 1 ≤ d := by omega
  unfold j_X11_goesAlone_35
  refine x_iload_n hC dX11_goesAlone_35 rfl 2 rfl ?_
  refine x_iconst (v := (3 : Int32)) hC dX11_goesAlone_36 ki_3 ?_
  refine x_icmp_eq (tgt := 41) hC dX11_goesAlone_37 (by decide) ?_ ?_
  · refine x_aload_n hC dX11_goesAlone_41 rfl 0 rfl ?_
    refine x_iload_n hC dX11_goesAlone_42 rfl 1 rfl ?_
    refine x_iconst (v := (2 : Int32)) hC dX11_goesAlone_43 ki_2 ?_
    refine r_cV1 (as := [.int v1_35, .int (2 : Int32)]) (rest := []) hB dX11_goesAlone_44 kv_X11_104 th_257 hq1 rfl rfl (Nat.le_of_ble_eq_true rfl) (fun v hv => f_X11_has_met hB.2 (by omega) hv) (fun u44 => ?_)
    refine x_aload_n hC dX11_goesAlone_47 rfl 0 rfl ?_
    refine x_iload_n hC dX11_goesAlone_48 rfl 1 rfl ?_
    refine x_iconst (v := (4 : Int32)) hC dX11_goesAlone_49 ki_4 ?_
    refine r_cV1 (as := [.int v1_35, .int (4 : Int32)]) (rest := [.int u44]) hB dX11_goesAlone_50 kv_X11_104 th_257 hq1 rfl rfl (Nat.le_of_ble_eq_true rfl) (fun v hv => f_X11_has_met hB.2 (by omega) hv) (fun u50 => ?_)
    refine r_cS0 (as := [.int u50]) (rest := [.int u44]) hB dX11_goesAlone_53 ks_X11_285 hq1 rfl rfl (Nat.le_of_ble_eq_true rfl) (f_X11_goesX_met hB.2 (by omega)) ?_
    refine x_iadd hC dX11_goesAlone_56 ?_
    refine x_top (fun v3_57 => ?_)
    refine x_istore_n hC dX11_goesAlone_57 rfl [(3, .int v3_57), (0, zr w 257), (1, .int v1_35), (2, .int v2_35)] (by decide) rfl ?_
    refine x_aload_n hC dX11_goesAlone_58 rfl 1 rfl ?_
    refine x_iload_n hC dX11_goesAlone_59 rfl 2 rfl ?_
    refine x_iconst (v := (3 : Int32)) hC dX11_goesAlone_60 ki_3 ?_
    refine r_cV1 (as := [.int v1_35, .int (3 : Int32)]) (rest := []) hB dX11_goesAlone_61 kv_X11_104 th_257 hq1 rfl rfl (Nat.le_of_ble_eq_true rfl) (fun v hv => f_X11_has_met hB.2 (by omega) hv) (fun u61 => ?_)
    refine x_aload_n hC dX11_goesAlone_64 rfl 1 rfl ?_
    refine x_iload_n hC dX11_goesAlone_65 rfl 2 rfl ?_
    refine x_iconst (v := (4 : Int32)) hC dX11_goesAlone_66 ki_4 ?_
    refine r_cV1 (as := [.int v1_35, .int (4 : Int32)]) (rest := [.int u61]) hB dX11_goesAlone_67 kv_X11_104 th_257 hq1 rfl rfl (Nat.le_of_ble_eq_true rfl) (fun v hv => f_X11_has_met hB.2 (by omega) hv) (fun u67 => ?_)
    refine r_cS0 (as := [.int u67]) (rest := [.int u61]) hB dX11_goesAlone_70 ks_X11_288 hq1 rfl rfl (Nat.le_of_ble_eq_true rfl) (f_X11_goesY_met hB.2 (by omega)) ?_
    refine x_iadd hC dX11_goesAlone_73 ?_
    refine x_top (fun v4_74 => ?_)
    refine x_istore (f := 0) hC dX11_goesAlone_74 [(4, .int v4_74), (3, .int v3_57), (0, zr w 257), (1, .int v1_35), (2, .int v2_35)] (by decide) rfl ?_
    refine x_iload_n hC dX11_goesAlone_76 rfl 1 rfl ?_
    refine x_iload hC dX11_goesAlone_77 0 rfl ?_
    refine r_cS0 (as := [.int v3_57, .int v4_74]) (rest := []) hB dX11_goesAlone_79 ks_X11_291 hq1 rfl rfl (Nat.le_of_ble_eq_true rfl) (f_X11_isIn_met hB.2 (by omega)) ?_
    refine x_if_ne (tgt := 95) hC dX11_goesAlone_82 (by decide) ?_ ?_
    · refine x_aload_n hC dX11_goesAlone_85 rfl 2 rfl ?_
      refine x_iload_n hC dX11_goesAlone_86 rfl 3 rfl ?_
      refine x_iconst (v := (1 : Int32)) hC dX11_goesAlone_87 ki_1 ?_
      refine x_iconst (v := (0 : Int32)) hC dX11_goesAlone_88 ki_0 ?_
      refine r_cVv (as := [.int v1_35, .int (1 : Int32), .int (0 : Int32)]) (rest := []) hB dX11_goesAlone_89 kv_X11_266 th_257 hq1 rfl rfl (Nat.le_of_ble_eq_true rfl) (fun M' hv => f_X11_sets_met hB.2 (by omega) hv) (fun M89 => ?_)
      refine x_goto (tgt := 125) hC dX11_goesAlone_92 (by decide) ?_
      exact r_retV hR dX11_goesAlone_125 (fun h => h)
    · refine x_aload_n hC dX11_goesAlone_95 rfl 2 rfl ?_
      refine r_getR hB dX11_goesAlone_96 kf_X11_13 rfl th_257 rf_257_1 ?_
      refine x_iload_n hC dX11_goesAlone_99 rfl 1 rfl ?_
      refine x_iload hC dX11_goesAlone_100 0 rfl ?_
      refine r_cS0 (as := [.int v3_57, .int v4_74]) (rest := [zr w 259]) hB dX11_goesAlone_102 ks_X11_108 hq1 rfl rfl (Nat.le_of_ble_eq_true rfl) (f_X11_place_met hB.2 (by omega)) ?_
      refine r_iald hB dX11_goesAlone_105 th_259 ?_
      refine x_iconst (v := (1 : Int32)) hC dX11_goesAlone_106 ki_1 ?_
      refine x_icmp_eq (tgt := 125) hC dX11_goesAlone_107 (by decide) ?_ ?_
      · exact r_retV hR dX11_goesAlone_125 (fun h => h)
      · refine x_aload_n hC dX11_goesAlone_110 rfl 2 rfl ?_
        refine x_iload_n hC dX11_goesAlone_111 rfl 3 rfl ?_
        refine x_iconst (v := (2 : Int32)) hC dX11_goesAlone_112 ki_2 ?_
        refine x_iload_n hC dX11_goesAlone_113 rfl 1 rfl ?_
        refine r_cVv (as := [.int v1_35, .int (2 : Int32), .int v3_57]) (rest := []) hB dX11_goesAlone_114 kv_X11_266 th_257 hq1 rfl rfl (Nat.le_of_ble_eq_true rfl) (fun M' hv => f_X11_sets_met hB.2 (by omega) hv) (fun M114 => ?_)
        refine x_aload_n hC dX11_goesAlone_117 rfl 2 rfl ?_
        refine x_iload_n hC dX11_goesAlone_118 rfl 3 rfl ?_
        refine x_iconst (v := (3 : Int32)) hC dX11_goesAlone_119 ki_3 ?_
        refine x_iload hC dX11_goesAlone_120 0 rfl ?_
        refine r_cVv (as := [.int v1_35, .int (3 : Int32), .int v4_74]) (rest := []) hB dX11_goesAlone_122 kv_X11_266 th_257 hq1 rfl rfl (Nat.le_of_ble_eq_true rfl) (fun M' hv => f_X11_sets_met hB.2 (by omega) hv) (fun M122 => ?_)
        exact r_retV hR dX11_goesAlone_125 (fun h => h)
  · exact r_retV hR dX11_goesAlone_40 (fun h => h)
noncomputable def f_X11_goesAlone (p1 : Int32) (M : zM) : Option (zM) :=
  (f_X11_nextWord p1 M).bind fun u2 =>
  (f_X11_adds p1 (8 : Int32) (1 : Int32) M).bind fun M11 =>
  if (3 : Int32) ≤ u2 then (j_X11_goesAlone_35 p1 u2 M11)
  else ((f_X11_has p1 (4 : Int32) M11).bind fun u25 =>
  (f_X11_sets p1 (4 : Int32) (f_X11_turned u25 u2) M11).bind fun M32 =>
  j_X11_goesAlone_35 p1 u2 M32)
set_option maxRecDepth 100000 in
theorem f_X11_goesAlone_ok {C : zC} {d : Nat} {g : zG} {l : Launch} {w : zW} {r : zM} {p1 : Int32} (hB : bOK C cX11_goesAlone 5 RX11 d g l w false) (hd : 3 ≤ d) (M : zM) (hR : RtV C cX11_goesAlone w r) : Sg C w (0, 0) 0 [(0, zr w 257), (1, .int p1)] [] M (f_X11_goesAlone p1 M) (fun q => q = r) := by
  have hC := hB.1.1
  have hq1 : 1 ≤ d := by omega
  unfold f_X11_goesAlone
  refine x_aload_n hC dX11_goesAlone_0 rfl 0 rfl ?_
  refine x_iload_n hC dX11_goesAlone_1 rfl 1 rfl ?_
  refine r_cV1 (as := [.int p1]) (rest := []) hB dX11_goesAlone_2 kv_X11_301 th_257 hq1 rfl rfl (Nat.le_of_ble_eq_true rfl) (fun v hv => f_X11_nextWord_met hB.2 (by omega) hv) (fun u2 => ?_)
  refine x_istore_n hC dX11_goesAlone_5 rfl [(2, .int u2), (0, zr w 257), (1, .int p1)] (by decide) rfl ?_
  refine x_aload_n hC dX11_goesAlone_6 rfl 1 rfl ?_
  refine x_iload_n hC dX11_goesAlone_7 rfl 2 rfl ?_
  refine x_bipush (v := (8 : Int32)) hC dX11_goesAlone_8 kb_8 ?_
  refine x_iconst (v := (1 : Int32)) hC dX11_goesAlone_10 ki_1 ?_
  refine r_cVv (as := [.int p1, .int (8 : Int32), .int (1 : Int32)]) (rest := []) hB dX11_goesAlone_11 kv_X11_270 th_257 hq1 rfl rfl (Nat.le_of_ble_eq_true rfl) (fun M' hv => f_X11_adds_met hB.2 (by omega) hv) (fun M11 => ?_)
  refine x_iload_n hC dX11_goesAlone_14 rfl 0 rfl ?_
  refine x_iconst (v := (3 : Int32)) hC dX11_goesAlone_15 ki_3 ?_
  refine x_icmp_ge (tgt := 35) hC dX11_goesAlone_16 (by decide) ?_ ?_
  · refine x_sub [1, 2, 0] rfl ?_
    exact j_X11_goesAlone_35_ok hB hd M11 hR
  · refine x_aload_n hC dX11_goesAlone_19 rfl 1 rfl ?_
    refine x_iload_n hC dX11_goesAlone_20 rfl 2 rfl ?_
    refine x_iconst (v := (4 : Int32)) hC dX11_goesAlone_21 ki_4 ?_
    refine x_aload_n hC dX11_goesAlone_22 rfl 1 rfl ?_
    refine x_iload_n hC dX11_goesAlone_23 rfl 2 rfl ?_
    refine x_iconst (v := (4 : Int32)) hC dX11_goesAlone_24 ki_4 ?_
    refine r_cV1 (as := [.int p1, .int (4 : Int32)]) (rest := [.int (4 : Int32), .int p1, zr w 257]) hB dX11_goesAlone_25 kv_X11_104 th_257 hq1 rfl rfl (Nat.le_of_ble_eq_true rfl) (fun v hv => f_X11_has_met hB.2 (by omega) hv) (fun u25 => ?_)
    refine x_iload_n hC dX11_goesAlone_28 rfl 0 rfl ?_
    refine r_cS0 (as := [.int u25, .int u2]) (rest := [.int (4 : Int32), .int p1, zr w 257]) hB dX11_goesAlone_29 ks_X11_263 hq1 rfl rfl (Nat.le_of_ble_eq_true rfl) (f_X11_turned_met hB.2 (by omega)) ?_
    refine r_cVv (as := [.int p1, .int (4 : Int32), .int (f_X11_turned u25 u2)]) (rest := []) hB dX11_goesAlone_32 kv_X11_266 th_257 hq1 rfl rfl (Nat.le_of_ble_eq_true rfl) (fun M' hv => f_X11_sets_met hB.2 (by omega) hv) (fun M32 => ?_)
    refine x_sub [1, 2, 0] rfl ?_
    exact j_X11_goesAlone_35_ok hB hd M32 hR
theorem f_X11_goesAlone_met {l : Launch} {d : Nat} {g : zG} {w : zW} {M0 : zM} {p1 : Int32} {M : zM} (hw : wS w) (hd : 3 ≤ d) {M' : zM} (h : f_X11_goesAlone p1 M = some M') : zMet l yX11_goesAlone cX11_goesAlone 5 none d g w (zin false) M0 [zr w 257, .int p1] M none M' :=
  met_v (by decide +kernel) (Nat.le_of_ble_eq_true rfl) (fun C hB0 hR => f_X11_goesAlone_ok ⟨hB0, hw⟩ hd M hR _ h rfl)
/-! WindingSquareModel.onBy(III)I -/
noncomputable def f_X11_onBy (p1 : Int32) (p2 : Int32) (p3 : Int32) (M : zM) : Option (Int32) :=
  nm ((irem p1 (12 : Int32)) + (p3 * (f_X11_goesX p2))) fun v4_11 =>
  nm ((p1 / (12 : Int32)) + (p3 * (f_X11_goesY p2))) fun v5_24 =>
  if (f_X11_isIn v4_11 v5_24) = 0 then (some (-1 : Int32))
  else (grd (inb (f_X11_place v4_11 v5_24) 2425) (
  if (M 258 (ix (f_X11_place v4_11 v5_24))) = (1 : Int32) then (some (-1 : Int32))
  else (some (f_X11_place v4_11 v5_24))))
set_option maxRecDepth 100000 in
theorem f_X11_onBy_ok {C : zC} {d : Nat} {g : zG} {l : Launch} {w : zW} {r : Int32} {p1 : Int32} {p2 : Int32} {p3 : Int32} (hB : bOK C cX11_onBy 6 RX11 d g l w false) (hd : 3 ≤ d) (M : zM) (hR : RtI C cX11_onBy w r M) : Sg C w (0, 0) 0 [(0, zr w 257), (1, .int p1), (2, .int p2), (3, .int p3)] [] M (f_X11_onBy p1 p2 p3 M) (fun q => q = r) := by
  have hC := hB.1.1
  have hq1 : 1 ≤ d := by omega
  unfold f_X11_onBy
  refine x_iload_n hC dX11_onBy_0 rfl 1 rfl ?_
  refine x_bipush (v := (12 : Int32)) hC dX11_onBy_1 kb_12 ?_
  refine x_irem0 hC dX11_onBy_3 nz_12 ?_
  refine x_iload_n hC dX11_onBy_4 rfl 3 rfl ?_
  refine x_iload_n hC dX11_onBy_5 rfl 2 rfl ?_
  refine r_cS0 (as := [.int p2]) (rest := [.int p3, .int (irem p1 (12 : Int32))]) hB dX11_onBy_6 ks_X11_285 hq1 rfl rfl (Nat.le_of_ble_eq_true rfl) (f_X11_goesX_met hB.2 (by omega)) ?_
  refine x_imul hC dX11_onBy_9 ?_
  refine x_iadd hC dX11_onBy_10 ?_
  refine x_top (fun v4_11 => ?_)
  refine x_istore (f := 0) hC dX11_onBy_11 [(4, .int v4_11), (0, zr w 257), (1, .int p1), (2, .int p2), (3, .int p3)] (by decide) rfl ?_
  refine x_iload_n hC dX11_onBy_13 rfl 2 rfl ?_
  refine x_bipush (v := (12 : Int32)) hC dX11_onBy_14 kb_12 ?_
  refine x_idiv0 hC dX11_onBy_16 nz_12 ?_
  refine x_iload_n hC dX11_onBy_17 rfl 4 rfl ?_
  refine x_iload_n hC dX11_onBy_18 rfl 3 rfl ?_
  refine r_cS0 (as := [.int p2]) (rest := [.int p3, .int (p1 / (12 : Int32))]) hB dX11_onBy_19 ks_X11_288 hq1 rfl rfl (Nat.le_of_ble_eq_true rfl) (f_X11_goesY_met hB.2 (by omega)) ?_
  refine x_imul hC dX11_onBy_22 ?_
  refine x_iadd hC dX11_onBy_23 ?_
  refine x_top (fun v5_24 => ?_)
  refine x_istore (f := 0) hC dX11_onBy_24 [(5, .int v5_24), (4, .int v4_11), (0, zr w 257), (1, .int p1), (2, .int p2), (3, .int p3)] (by decide) rfl ?_
  refine x_iload hC dX11_onBy_26 1 rfl ?_
  refine x_iload hC dX11_onBy_28 0 rfl ?_
  refine r_cS0 (as := [.int v4_11, .int v5_24]) (rest := []) hB dX11_onBy_30 ks_X11_291 hq1 rfl rfl (Nat.le_of_ble_eq_true rfl) (f_X11_isIn_met hB.2 (by omega)) ?_
  refine x_if_eq (tgt := 62) hC dX11_onBy_33 (by decide) ?_ ?_
  · refine x_iconst (v := (-1 : Int32)) hC dX11_onBy_62 ki_m1 ?_
    exact r_retI hR dX11_onBy_63 (fun h => congrArg (fun q => (q, M)) h)
  · refine x_aload_n hC dX11_onBy_36 rfl 2 rfl ?_
    refine r_getR hB dX11_onBy_37 kf_X11_9 rfl th_257 rf_257_0 ?_
    refine x_iload hC dX11_onBy_40 1 rfl ?_
    refine x_iload hC dX11_onBy_42 0 rfl ?_
    refine r_cS0 (as := [.int v4_11, .int v5_24]) (rest := [zr w 258]) hB dX11_onBy_44 ks_X11_108 hq1 rfl rfl (Nat.le_of_ble_eq_true rfl) (f_X11_place_met hB.2 (by omega)) ?_
    refine r_iald hB dX11_onBy_47 th_258 ?_
    refine x_iconst (v := (1 : Int32)) hC dX11_onBy_48 ki_1 ?_
    refine x_icmp_eq (tgt := 62) hC dX11_onBy_49 (by decide) ?_ ?_
    · refine x_iconst (v := (-1 : Int32)) hC dX11_onBy_62 ki_m1 ?_
      exact r_retI hR dX11_onBy_63 (fun h => congrArg (fun q => (q, M)) h)
    · refine x_iload hC dX11_onBy_52 1 rfl ?_
      refine x_iload hC dX11_onBy_54 0 rfl ?_
      refine r_cS0 (as := [.int v4_11, .int v5_24]) (rest := []) hB dX11_onBy_56 ks_X11_108 hq1 rfl rfl (Nat.le_of_ble_eq_true rfl) (f_X11_place_met hB.2 (by omega)) ?_
      refine x_goto (tgt := 63) hC dX11_onBy_59 (by decide) ?_
      exact r_retI hR dX11_onBy_63 (fun h => congrArg (fun q => (q, M)) h)
theorem f_X11_onBy_met {l : Launch} {d : Nat} {g : zG} {w : zW} {M0 : zM} {p1 : Int32} {p2 : Int32} {p3 : Int32} {M : zM} (hw : wS w) (hd : 3 ≤ d) {v : Int32} (h : f_X11_onBy p1 p2 p3 M = some v) : zMet l yX11_onBy cX11_onBy 6 (some .int) d g w (zin false) M0 [zr w 257, .int p1, .int p2, .int p3] M (some (.int v)) M :=
  met_i (by decide +kernel) (Nat.le_of_ble_eq_true rfl) rfl (fun C hB0 hR => f_X11_onBy_ok ⟨hB0, hw⟩ hd M hR _ h rfl)
/-! WindingSquareModel.seen(II)I -/
noncomputable def b_X11_seen_44 (v1_44 : Int32) (v3_44 : Int32) (v4_44 : Int32) (M : zM) : Option ((Int32 × Int32) ⊕ (Int32)) :=
  if (144 : Int32) ≤ v4_44 then (some (.inr v3_44))
  else ((f_X11_sees v1_44 v4_44 M).bind fun u57_44 =>
  nm (v3_44 + (f_X11_asInt u57_44)) fun v3_64_44 =>
  some (.inl (v3_64_44, (v4_44 + (1 : Int32)))))
set_option maxRecDepth 100000 in
theorem b_X11_seen_44_ok {C : zC} {d : Nat} {g : zG} {l : Launch} {w : zW} {r : Int32} {v1_44 : Int32} {v3_44 : Int32} {v4_44 : Int32} (hB : bOK C cX11_seen 5 RX11 d g l w false) (hd : 3 ≤ d) (M : zM) (hR : RtI C cX11_seen w r M) : Sg C w (0, 0) 44 [(0, zr w 257), (1, .int v1_44), (3, .int v3_44), (4, .int v4_44)] [] M (b_X11_seen_44 v1_44 v3_44 v4_44 M) (fun o => Sum.elim (fun (s : (Int32 × Int32)) => Zs C w (0, 0) 44 [(0, zr w 257), (1, .int v1_44), (3, .int s.1), (4, .int s.2)] [] M) (fun (s : (Int32)) => Zs C w (0, 0) 71 [(3, .int s)] [] M) o) := by
  have hC := hB.1.1
  have hq1 : 1 ≤ d := by omega
  unfold b_X11_seen_44
  refine x_iload hC dX11_seen_44 3 rfl ?_
  refine x_sipush (v := (144 : Int32)) hC dX11_seen_46 kh_144 ?_
  refine x_icmp_ge (tgt := 71) hC dX11_seen_49 (by decide) ?_ ?_
  · refine x_sub [2] rfl ?_
    exact x_done (fun h => h)
  · refine x_iload_n hC dX11_seen_52 rfl 2 rfl ?_
    refine x_aload_n hC dX11_seen_53 rfl 0 rfl ?_
    refine x_iload_n hC dX11_seen_54 rfl 1 rfl ?_
    refine x_iload hC dX11_seen_55 3 rfl ?_
    refine r_cV1 (as := [.int v1_44, .int v4_44]) (rest := [.int v3_44]) hB dX11_seen_57 kv_X11_365 th_257 hq1 rfl rfl (Nat.le_of_ble_eq_true rfl) (fun v hv => f_X11_sees_met hB.2 (by omega) hv) (fun u57_44 => ?_)
    refine r_cS0 (as := [.int u57_44]) (rest := [.int v3_44]) hB dX11_seen_60 ks_X11_249 hq1 rfl rfl (Nat.le_of_ble_eq_true rfl) (f_X11_asInt_met hB.2 (by omega)) ?_
    refine x_iadd hC dX11_seen_63 ?_
    refine x_top (fun v3_64_44 => ?_)
    refine x_istore_n hC dX11_seen_64 rfl [(3, .int v3_64_44), (0, zr w 257), (1, .int v1_44), (4, .int v4_44)] (by decide) rfl ?_
    refine x_iinc hC dX11_seen_65 ki_1 [(4, .int (v4_44 + (1 : Int32))), (3, .int v3_64_44), (0, zr w 257), (1, .int v1_44)] 3 rfl (by decide) rfl ?_
    refine x_goto (tgt := 44) hC dX11_seen_68 (by decide) ?_
    refine x_sub [2, 3, 1, 0] rfl ?_
    exact x_done (fun h => h)
noncomputable def j_X11_seen_71 (v3_71 : Int32) (M : zM) : Option (Int32) :=
  some v3_71
set_option maxRecDepth 100000 in
theorem j_X11_seen_71_ok {C : zC} {d : Nat} {g : zG} {l : Launch} {w : zW} {r : Int32} {v3_71 : Int32} (hB : bOK C cX11_seen 5 RX11 d g l w false) (hd : 3 ≤ d) (M : zM) (hR : RtI C cX11_seen w r M) : Sg C w (0, 0) 71 [(3, .int v3_71)] [] M (j_X11_seen_71 v3_71 M) (fun q => q = r) := by
  have hC := hB.1.1
  have hq1 : 1 ≤ d := by omega
  unfold j_X11_seen_71
  refine x_iload_n hC dX11_seen_71 rfl 0 rfl ?_
  exact r_retI hR dX11_seen_72 (fun h => congrArg (fun q => (q, M)) h)
noncomputable def f_X11_seen (p1 : Int32) (p2 : Int32) (M : zM) : Option (Int32) :=
  if (f_X11_within p1 (0 : Int32) (143 : Int32)) = 0 then (some (-1 : Int32))
  else (if (f_X11_within p2 (-1 : Int32) (143 : Int32)) = 0 then (some (-1 : Int32))
  else (if p2 = (-1 : Int32) then ((loopW (fun s => b_X11_seen_44 p1 s.1 s.2 M) ((0 : Int32), (0 : Int32))).bind (fun r => j_X11_seen_71 r M))
  else ((f_X11_sees p1 p2 M).bind fun u32 =>
  some (f_X11_asInt u32))))
set_option maxRecDepth 100000 in
theorem f_X11_seen_ok {C : zC} {d : Nat} {g : zG} {l : Launch} {w : zW} {r : Int32} {p1 : Int32} {p2 : Int32} (hB : bOK C cX11_seen 5 RX11 d g l w false) (hd : 3 ≤ d) (M : zM) (hR : RtI C cX11_seen w r M) : Sg C w (0, 0) 0 [(0, zr w 257), (1, .int p1), (2, .int p2)] [] M (f_X11_seen p1 p2 M) (fun q => q = r) := by
  have hC := hB.1.1
  have hq1 : 1 ≤ d := by omega
  unfold f_X11_seen
  refine x_iload_n hC dX11_seen_0 rfl 1 rfl ?_
  refine x_iconst (v := (0 : Int32)) hC dX11_seen_1 ki_0 ?_
  refine x_sipush (v := (143 : Int32)) hC dX11_seen_2 kh_143 ?_
  refine r_cS0 (as := [.int p1, .int (0 : Int32), .int (143 : Int32)]) (rest := []) hB dX11_seen_5 ks_X11_100 hq1 rfl rfl (Nat.le_of_ble_eq_true rfl) (f_X11_within_met hB.2 (by omega)) ?_
  refine x_if_eq (tgt := 22) hC dX11_seen_8 (by decide) ?_ ?_
  · refine x_iconst (v := (-1 : Int32)) hC dX11_seen_22 ki_m1 ?_
    exact r_retI hR dX11_seen_23 (fun h => congrArg (fun q => (q, M)) h)
  · refine x_iload_n hC dX11_seen_11 rfl 2 rfl ?_
    refine x_iconst (v := (-1 : Int32)) hC dX11_seen_12 ki_m1 ?_
    refine x_sipush (v := (143 : Int32)) hC dX11_seen_13 kh_143 ?_
    refine r_cS0 (as := [.int p2, .int (-1 : Int32), .int (143 : Int32)]) (rest := []) hB dX11_seen_16 ks_X11_100 hq1 rfl rfl (Nat.le_of_ble_eq_true rfl) (f_X11_within_met hB.2 (by omega)) ?_
    refine x_if_ne (tgt := 24) hC dX11_seen_19 (by decide) ?_ ?_
    · refine x_iconst (v := (-1 : Int32)) hC dX11_seen_22 ki_m1 ?_
      exact r_retI hR dX11_seen_23 (fun h => congrArg (fun q => (q, M)) h)
    · refine x_iload_n hC dX11_seen_24 rfl 2 rfl ?_
      refine x_iconst (v := (-1 : Int32)) hC dX11_seen_25 ki_m1 ?_
      refine x_icmp_eq (tgt := 39) hC dX11_seen_26 (by decide) ?_ ?_
      · refine x_iconst (v := (0 : Int32)) hC dX11_seen_39 ki_0 ?_
        refine x_istore_n hC dX11_seen_40 rfl [(3, .int (0 : Int32)), (0, zr w 257), (1, .int p1), (2, .int p2)] (by decide) rfl ?_
        refine x_iconst (v := (0 : Int32)) hC dX11_seen_41 ki_0 ?_
        refine x_istore (f := 0) hC dX11_seen_42 [(4, .int (0 : Int32)), (3, .int (0 : Int32)), (0, zr w 257), (1, .int p1), (2, .int p2)] (by decide) rfl ?_
        refine x_sub [2, 3, 1, 0] rfl ?_
        refine x_loopB (pc2 := 71) (fun (s : (Int32 × Int32)) => [(0, zr w 257), (1, .int p1), (3, .int s.1), (4, .int s.2)]) (fun (s : (Int32 × Int32)) => M) (fun (s : (Int32)) => [(3, .int s)]) (fun (s : (Int32)) => M) ((0 : Int32), (0 : Int32)) ?_ ?_
        · exact fun s => b_X11_seen_44_ok hB hd M hR
        · intro r9
          exact j_X11_seen_71_ok hB hd M hR
      · refine x_aload_n hC dX11_seen_29 rfl 0 rfl ?_
        refine x_iload_n hC dX11_seen_30 rfl 1 rfl ?_
        refine x_iload_n hC dX11_seen_31 rfl 2 rfl ?_
        refine r_cV1 (as := [.int p1, .int p2]) (rest := []) hB dX11_seen_32 kv_X11_365 th_257 hq1 rfl rfl (Nat.le_of_ble_eq_true rfl) (fun v hv => f_X11_sees_met hB.2 (by omega) hv) (fun u32 => ?_)
        refine r_cS0 (as := [.int u32]) (rest := []) hB dX11_seen_35 ks_X11_249 hq1 rfl rfl (Nat.le_of_ble_eq_true rfl) (f_X11_asInt_met hB.2 (by omega)) ?_
        exact r_retI hR dX11_seen_38 (fun h => congrArg (fun q => (q, M)) h)
theorem f_X11_seen_met {l : Launch} {d : Nat} {g : zG} {w : zW} {M0 : zM} {p1 : Int32} {p2 : Int32} {M : zM} (hw : wS w) (hd : 3 ≤ d) {v : Int32} (h : f_X11_seen p1 p2 M = some v) : zMet l yX11_seen cX11_seen 5 (some .int) d g w (zin false) M0 [zr w 257, .int p1, .int p2] M (some (.int v)) M :=
  met_i (by decide +kernel) (Nat.le_of_ble_eq_true rfl) rfl (fun C hB0 hR => f_X11_seen_ok ⟨hB0, hw⟩ hd M hR _ h rfl)
/-! WindingSquareModel.one(I)I -/
noncomputable def b_X11_one_40 (v2_40 : Int32) (v3_40 : Int32) (M : zM) : Option ((Int32) ⊕ (Unit ⊕ (Int32))) :=
  if ((2 : Int32) * v2_40) ≤ v3_40 then (some (.inr (.inl ())))
  else ((f_X11_areAlike v3_40 (-1 : Int32) M).bind fun u50_40 =>
  if u50_40 = 0 then (some (.inl (v3_40 + (1 : Int32))))
  else (some (.inr (.inr (1 : Int32)))))
set_option maxRecDepth 100000 in
theorem b_X11_one_40_ok {C : zC} {d : Nat} {g : zG} {l : Launch} {w : zW} {r : Int32} {v2_40 : Int32} {v3_40 : Int32} (hB : bOK C cX11_one 7 RX11 d g l w false) (hd : 3 ≤ d) (M : zM) (hR : RtI C cX11_one w r M) : Sg C w (0, 0) 40 [(0, zr w 257), (2, .int v2_40), (3, .int v3_40)] [] M (b_X11_one_40 v2_40 v3_40 M) (fun o => Sum.elim (fun (s : (Int32)) => Zs C w (0, 0) 40 [(0, zr w 257), (2, .int v2_40), (3, .int s)] [] M) (fun q => Sum.elim (fun (s : Unit) => Zs C w (0, 0) 64 [(2, .int v2_40)] [] M) (fun q => q = r) q) o) := by
  have hC := hB.1.1
  have hq1 : 1 ≤ d := by omega
  unfold b_X11_one_40
  refine x_iload_n hC dX11_one_40 rfl 2 rfl ?_
  refine x_iconst (v := (2 : Int32)) hC dX11_one_41 ki_2 ?_
  refine x_iload_n hC dX11_one_42 rfl 1 rfl ?_
  refine x_imul hC dX11_one_43 ?_
  refine x_icmp_ge (tgt := 64) hC dX11_one_44 (by decide) ?_ ?_
  · refine x_sub [1] rfl ?_
    exact x_done (fun h => h)
  · refine x_aload_n hC dX11_one_47 rfl 0 rfl ?_
    refine x_iload_n hC dX11_one_48 rfl 2 rfl ?_
    refine x_iconst (v := (-1 : Int32)) hC dX11_one_49 ki_m1 ?_
    refine r_cV1 (as := [.int v3_40, .int (-1 : Int32)]) (rest := []) hB dX11_one_50 kv_X11_371 th_257 hq1 rfl rfl (Nat.le_of_ble_eq_true rfl) (fun v hv => f_X11_areAlike_met hB.2 (by omega) hv) (fun u50_40 => ?_)
    refine x_if_eq (tgt := 58) hC dX11_one_53 (by decide) ?_ ?_
    · refine x_iinc hC dX11_one_58 ki_1 [(3, .int (v3_40 + (1 : Int32))), (0, zr w 257), (2, .int v2_40)] 2 rfl (by decide) rfl ?_
      refine x_goto (tgt := 40) hC dX11_one_61 (by decide) ?_
      refine x_sub [1, 2, 0] rfl ?_
      exact x_done (fun h => h)
    · refine x_iconst (v := (1 : Int32)) hC dX11_one_56 ki_1 ?_
      exact r_retI hR dX11_one_57 (fun h => congrArg (fun q => (q, M)) h)
noncomputable def j_X11_one_64 (v2_64 : Int32) (M : zM) : Option (Int32) :=
  if v2_64 = 0 then (some (1 : Int32))
  else (some (0 : Int32))
set_option maxRecDepth 100000 in
theorem j_X11_one_64_ok {C : zC} {d : Nat} {g : zG} {l : Launch} {w : zW} {r : Int32} {v2_64 : Int32} (hB : bOK C cX11_one 7 RX11 d g l w false) (hd : 3 ≤ d) (M : zM) (hR : RtI C cX11_one w r M) : Sg C w (0, 0) 64 [(2, .int v2_64)] [] M (j_X11_one_64 v2_64 M) (fun q => q = r) := by
  have hC := hB.1.1
  have hq1 : 1 ≤ d := by omega
  unfold j_X11_one_64
  refine x_iload_n hC dX11_one_64 rfl 0 rfl ?_
  refine x_if_ne (tgt := 72) hC dX11_one_65 (by decide) ?_ ?_
  · refine x_iconst (v := (1 : Int32)) hC dX11_one_68 ki_1 ?_
    refine x_goto (tgt := 73) hC dX11_one_69 (by decide) ?_
    exact r_retI hR dX11_one_73 (fun h => congrArg (fun q => (q, M)) h)
  · refine x_iconst (v := (0 : Int32)) hC dX11_one_72 ki_0 ?_
    exact r_retI hR dX11_one_73 (fun h => congrArg (fun q => (q, M)) h)
noncomputable def j_X11_one_129_87_101 (v2_87 : Int32) (v3_101_87 : Int32) (v4_101_87 : Int32) (v6_129_87_101 : Int32) (s0_129_87_101 : Int32) (M : zM) : Option ((Int32 × Int32) ⊕ (Int32)) :=
  some (.inl (s0_129_87_101, (v6_129_87_101 + (1 : Int32))))
set_option maxRecDepth 100000 in
theorem j_X11_one_129_87_101_ok {C : zC} {d : Nat} {g : zG} {l : Launch} {w : zW} {r : Int32} {v2_87 : Int32} {v3_101_87 : Int32} {v4_101_87 : Int32} {v6_129_87_101 : Int32} {s0_129_87_101 : Int32} (hB : bOK C cX11_one 7 RX11 d g l w false) (hd : 3 ≤ d) (M : zM) (hR : RtI C cX11_one w r M) : Sg C w (0, 0) 129 [(0, zr w 257), (2, .int v2_87), (3, .int v3_101_87), (4, .int v4_101_87), (6, .int v6_129_87_101)] [.int s0_129_87_101] M (j_X11_one_129_87_101 v2_87 v3_101_87 v4_101_87 v6_129_87_101 s0_129_87_101 M) (fun o => Sum.elim (fun (s : (Int32 × Int32)) => Zs C w (0, 0) 101 [(0, zr w 257), (2, .int v2_87), (3, .int v3_101_87), (4, .int v4_101_87), (5, .int s.1), (6, .int s.2)] [] M) (fun (s : (Int32)) => Zs C w (0, 0) 137 [(0, zr w 257), (2, .int v2_87), (3, .int v3_101_87), (4, .int v4_101_87), (5, .int s)] [] M) o) := by
  have hC := hB.1.1
  have hq1 : 1 ≤ d := by omega
  unfold j_X11_one_129_87_101
  refine x_istore (f := 0) hC dX11_one_129 [(5, .int s0_129_87_101), (0, zr w 257), (2, .int v2_87), (3, .int v3_101_87), (4, .int v4_101_87), (6, .int v6_129_87_101)] (by decide) rfl ?_
  refine x_iinc hC dX11_one_131 ki_1 [(6, .int (v6_129_87_101 + (1 : Int32))), (5, .int s0_129_87_101), (0, zr w 257), (2, .int v2_87), (3, .int v3_101_87), (4, .int v4_101_87)] 5 rfl (by decide) rfl ?_
  refine x_goto (tgt := 101) hC dX11_one_134 (by decide) ?_
  refine x_sub [2, 3, 4, 5, 1, 0] rfl ?_
  exact x_done (fun h => h)
noncomputable def j_X11_one_128_87_101 (v2_87 : Int32) (v3_101_87 : Int32) (v4_101_87 : Int32) (v6_128_87_101 : Int32) (M : zM) : Option ((Int32 × Int32) ⊕ (Int32)) :=
  j_X11_one_129_87_101 v2_87 v3_101_87 v4_101_87 v6_128_87_101 (0 : Int32) M
set_option maxRecDepth 100000 in
theorem j_X11_one_128_87_101_ok {C : zC} {d : Nat} {g : zG} {l : Launch} {w : zW} {r : Int32} {v2_87 : Int32} {v3_101_87 : Int32} {v4_101_87 : Int32} {v6_128_87_101 : Int32} (hB : bOK C cX11_one 7 RX11 d g l w false) (hd : 3 ≤ d) (M : zM) (hR : RtI C cX11_one w r M) : Sg C w (0, 0) 128 [(0, zr w 257), (2, .int v2_87), (3, .int v3_101_87), (4, .int v4_101_87), (6, .int v6_128_87_101)] [] M (j_X11_one_128_87_101 v2_87 v3_101_87 v4_101_87 v6_128_87_101 M) (fun o => Sum.elim (fun (s : (Int32 × Int32)) => Zs C w (0, 0) 101 [(0, zr w 257), (2, .int v2_87), (3, .int v3_101_87), (4, .int v4_101_87), (5, .int s.1), (6, .int s.2)] [] M) (fun (s : (Int32)) => Zs C w (0, 0) 137 [(0, zr w 257), (2, .int v2_87), (3, .int v3_101_87), (4, .int v4_101_87), (5, .int s)] [] M) o) := by
  have hC := hB.1.1
  have hq1 : 1 ≤ d := by omega
  unfold j_X11_one_128_87_101
  refine x_iconst (v := (0 : Int32)) hC dX11_one_128 ki_0 ?_
  exact j_X11_one_129_87_101_ok hB hd M hR
noncomputable def b_X11_one_101_87 (v2_87 : Int32) (v3_101_87 : Int32) (v4_101_87 : Int32) (v5_101_87 : Int32) (v6_101_87 : Int32) (M : zM) : Option ((Int32 × Int32) ⊕ (Int32)) :=
  if v4_101_87 ≤ v6_101_87 then (some (.inr v5_101_87))
  else (if v5_101_87 = 0 then (j_X11_one_128_87_101 v2_87 v3_101_87 v4_101_87 v6_101_87 M)
  else ((f_X11_areAlike v4_101_87 v6_101_87 M).bind fun u118_87_101 =>
  if u118_87_101 = 0 then (j_X11_one_129_87_101 v2_87 v3_101_87 v4_101_87 v6_101_87 (1 : Int32) M)
  else (j_X11_one_128_87_101 v2_87 v3_101_87 v4_101_87 v6_101_87 M)))
set_option maxRecDepth 100000 in
theorem b_X11_one_101_87_ok {C : zC} {d : Nat} {g : zG} {l : Launch} {w : zW} {r : Int32} {v2_87 : Int32} {v3_101_87 : Int32} {v4_101_87 : Int32} {v5_101_87 : Int32} {v6_101_87 : Int32} (hB : bOK C cX11_one 7 RX11 d g l w false) (hd : 3 ≤ d) (M : zM) (hR : RtI C cX11_one w r M) : Sg C w (0, 0) 101 [(0, zr w 257), (2, .int v2_87), (3, .int v3_101_87), (4, .int v4_101_87), (5, .int v5_101_87), (6, .int v6_101_87)] [] M (b_X11_one_101_87 v2_87 v3_101_87 v4_101_87 v5_101_87 v6_101_87 M) (fun o => Sum.elim (fun (s : (Int32 × Int32)) => Zs C w (0, 0) 101 [(0, zr w 257), (2, .int v2_87), (3, .int v3_101_87), (4, .int v4_101_87), (5, .int s.1), (6, .int s.2)] [] M) (fun (s : (Int32)) => Zs C w (0, 0) 137 [(0, zr w 257), (2, .int v2_87), (3, .int v3_101_87), (4, .int v4_101_87), (5, .int s)] [] M) o) := by
  have hC := hB.1.1
  have hq1 : 1 ≤ d := by omega
  unfold b_X11_one_101_87
  refine x_iload hC dX11_one_101 5 rfl ?_
  refine x_iload hC dX11_one_103 3 rfl ?_
  refine x_icmp_ge (tgt := 137) hC dX11_one_105 (by decide) ?_ ?_
  · refine x_sub [0, 1, 2, 3, 4] rfl ?_
    exact x_done (fun h => h)
  · refine x_iload hC dX11_one_108 4 rfl ?_
    refine x_if_eq (tgt := 128) hC dX11_one_110 (by decide) ?_ ?_
    · refine x_sub [0, 1, 2, 3, 5] rfl ?_
      exact j_X11_one_128_87_101_ok hB hd M hR
    · refine x_aload_n hC dX11_one_113 rfl 0 rfl ?_
      refine x_iload hC dX11_one_114 3 rfl ?_
      refine x_iload hC dX11_one_116 5 rfl ?_
      refine r_cV1 (as := [.int v4_101_87, .int v6_101_87]) (rest := []) hB dX11_one_118 kv_X11_371 th_257 hq1 rfl rfl (Nat.le_of_ble_eq_true rfl) (fun v hv => f_X11_areAlike_met hB.2 (by omega) hv) (fun u118_87_101 => ?_)
      refine x_if_ne (tgt := 128) hC dX11_one_121 (by decide) ?_ ?_
      · refine x_iconst (v := (1 : Int32)) hC dX11_one_124 ki_1 ?_
        refine x_goto (tgt := 129) hC dX11_one_125 (by decide) ?_
        refine x_sub [0, 1, 2, 3, 5] rfl ?_
        exact j_X11_one_129_87_101_ok hB hd M hR
      · refine x_sub [0, 1, 2, 3, 5] rfl ?_
        exact j_X11_one_128_87_101_ok hB hd M hR
noncomputable def j_X11_one_148_87 (v2_87 : Int32) (v4_148_87 : Int32) (s0_148_87 : Int32) (s1_148_87 : Int32) (M : zM) : Option ((Int32 × Int32) ⊕ (Int32)) :=
  nm (s0_148_87 + s1_148_87) fun v3_149_87 =>
  some (.inl (v3_149_87, (v4_148_87 + (1 : Int32))))
set_option maxRecDepth 100000 in
theorem j_X11_one_148_87_ok {C : zC} {d : Nat} {g : zG} {l : Launch} {w : zW} {r : Int32} {v2_87 : Int32} {v4_148_87 : Int32} {s0_148_87 : Int32} {s1_148_87 : Int32} (hB : bOK C cX11_one 7 RX11 d g l w false) (hd : 3 ≤ d) (M : zM) (hR : RtI C cX11_one w r M) : Sg C w (0, 0) 148 [(0, zr w 257), (2, .int v2_87), (4, .int v4_148_87)] [.int s1_148_87, .int s0_148_87] M (j_X11_one_148_87 v2_87 v4_148_87 s0_148_87 s1_148_87 M) (fun o => Sum.elim (fun (s : (Int32 × Int32)) => Zs C w (0, 0) 87 [(0, zr w 257), (2, .int v2_87), (3, .int s.1), (4, .int s.2)] [] M) (fun (s : (Int32)) => Zs C w (0, 0) 156 [(3, .int s)] [] M) o) := by
  have hC := hB.1.1
  have hq1 : 1 ≤ d := by omega
  unfold j_X11_one_148_87
  refine x_iadd hC dX11_one_148 ?_
  refine x_top (fun v3_149_87 => ?_)
  refine x_istore_n hC dX11_one_149 rfl [(3, .int v3_149_87), (0, zr w 257), (2, .int v2_87), (4, .int v4_148_87)] (by decide) rfl ?_
  refine x_iinc hC dX11_one_150 ki_1 [(4, .int (v4_148_87 + (1 : Int32))), (3, .int v3_149_87), (0, zr w 257), (2, .int v2_87)] 3 rfl (by decide) rfl ?_
  refine x_goto (tgt := 87) hC dX11_one_153 (by decide) ?_
  refine x_sub [2, 3, 1, 0] rfl ?_
  exact x_done (fun h => h)
noncomputable def j_X11_one_137_87 (v2_87 : Int32) (v3_137_87 : Int32) (v4_137_87 : Int32) (v5_137_87 : Int32) (M : zM) : Option ((Int32 × Int32) ⊕ (Int32)) :=
  if v5_137_87 = 0 then (j_X11_one_148_87 v2_87 v4_137_87 v3_137_87 (0 : Int32) M)
  else (j_X11_one_148_87 v2_87 v4_137_87 v3_137_87 (1 : Int32) M)
set_option maxRecDepth 100000 in
theorem j_X11_one_137_87_ok {C : zC} {d : Nat} {g : zG} {l : Launch} {w : zW} {r : Int32} {v2_87 : Int32} {v3_137_87 : Int32} {v4_137_87 : Int32} {v5_137_87 : Int32} (hB : bOK C cX11_one 7 RX11 d g l w false) (hd : 3 ≤ d) (M : zM) (hR : RtI C cX11_one w r M) : Sg C w (0, 0) 137 [(0, zr w 257), (2, .int v2_87), (3, .int v3_137_87), (4, .int v4_137_87), (5, .int v5_137_87)] [] M (j_X11_one_137_87 v2_87 v3_137_87 v4_137_87 v5_137_87 M) (fun o => Sum.elim (fun (s : (Int32 × Int32)) => Zs C w (0, 0) 87 [(0, zr w 257), (2, .int v2_87), (3, .int s.1), (4, .int s.2)] [] M) (fun (s : (Int32)) => Zs C w (0, 0) 156 [(3, .int s)] [] M) o) := by
  have hC := hB.1.1
  have hq1 : 1 ≤ d := by omega
  unfold j_X11_one_137_87
  refine x_iload_n hC dX11_one_137 rfl 2 rfl ?_
  refine x_iload hC dX11_one_138 4 rfl ?_
  refine x_if_eq (tgt := 147) hC dX11_one_140 (by decide) ?_ ?_
  · refine x_iconst (v := (0 : Int32)) hC dX11_one_147 ki_0 ?_
    refine x_sub [0, 1, 3] rfl ?_
    exact j_X11_one_148_87_ok hB hd M hR
  · refine x_iconst (v := (1 : Int32)) hC dX11_one_143 ki_1 ?_
    refine x_goto (tgt := 148) hC dX11_one_144 (by decide) ?_
    refine x_sub [0, 1, 3] rfl ?_
    exact j_X11_one_148_87_ok hB hd M hR
noncomputable def b_X11_one_87 (v2_87 : Int32) (v3_87 : Int32) (v4_87 : Int32) (M : zM) : Option ((Int32 × Int32) ⊕ (Int32)) :=
  if ((2 : Int32) * v2_87) ≤ v4_87 then (some (.inr v3_87))
  else ((loopW (fun s => b_X11_one_101_87 v2_87 v3_87 v4_87 s.1 s.2 M) ((1 : Int32), (0 : Int32))).bind (fun r => j_X11_one_137_87 v2_87 v3_87 v4_87 r M))
set_option maxRecDepth 100000 in
theorem b_X11_one_87_ok {C : zC} {d : Nat} {g : zG} {l : Launch} {w : zW} {r : Int32} {v2_87 : Int32} {v3_87 : Int32} {v4_87 : Int32} (hB : bOK C cX11_one 7 RX11 d g l w false) (hd : 3 ≤ d) (M : zM) (hR : RtI C cX11_one w r M) : Sg C w (0, 0) 87 [(0, zr w 257), (2, .int v2_87), (3, .int v3_87), (4, .int v4_87)] [] M (b_X11_one_87 v2_87 v3_87 v4_87 M) (fun o => Sum.elim (fun (s : (Int32 × Int32)) => Zs C w (0, 0) 87 [(0, zr w 257), (2, .int v2_87), (3, .int s.1), (4, .int s.2)] [] M) (fun (s : (Int32)) => Zs C w (0, 0) 156 [(3, .int s)] [] M) o) := by
  have hC := hB.1.1
  have hq1 : 1 ≤ d := by omega
  unfold b_X11_one_87
  refine x_iload hC dX11_one_87 3 rfl ?_
  refine x_iconst (v := (2 : Int32)) hC dX11_one_89 ki_2 ?_
  refine x_iload_n hC dX11_one_90 rfl 1 rfl ?_
  refine x_imul hC dX11_one_91 ?_
  refine x_icmp_ge (tgt := 156) hC dX11_one_92 (by decide) ?_ ?_
  · refine x_sub [2] rfl ?_
    exact x_done (fun h => h)
  · refine x_iconst (v := (1 : Int32)) hC dX11_one_95 ki_1 ?_
    refine x_istore (f := 0) hC dX11_one_96 [(5, .int (1 : Int32)), (0, zr w 257), (2, .int v2_87), (3, .int v3_87), (4, .int v4_87)] (by decide) rfl ?_
    refine x_iconst (v := (0 : Int32)) hC dX11_one_98 ki_0 ?_
    refine x_istore (f := 0) hC dX11_one_99 [(6, .int (0 : Int32)), (5, .int (1 : Int32)), (0, zr w 257), (2, .int v2_87), (3, .int v3_87), (4, .int v4_87)] (by decide) rfl ?_
    refine x_sub [2, 3, 4, 5, 1, 0] rfl ?_
    refine x_loopB (pc2 := 137) (fun (s : (Int32 × Int32)) => [(0, zr w 257), (2, .int v2_87), (3, .int v3_87), (4, .int v4_87), (5, .int s.1), (6, .int s.2)]) (fun (s : (Int32 × Int32)) => M) (fun (s : (Int32)) => [(0, zr w 257), (2, .int v2_87), (3, .int v3_87), (4, .int v4_87), (5, .int s)]) (fun (s : (Int32)) => M) ((1 : Int32), (0 : Int32)) ?_ ?_
    · exact fun s => b_X11_one_101_87_ok hB hd M hR
    · intro r9
      exact j_X11_one_137_87_ok hB hd M hR
noncomputable def j_X11_one_156 (v3_156 : Int32) (M : zM) : Option (Int32) :=
  some v3_156
set_option maxRecDepth 100000 in
theorem j_X11_one_156_ok {C : zC} {d : Nat} {g : zG} {l : Launch} {w : zW} {r : Int32} {v3_156 : Int32} (hB : bOK C cX11_one 7 RX11 d g l w false) (hd : 3 ≤ d) (M : zM) (hR : RtI C cX11_one w r M) : Sg C w (0, 0) 156 [(3, .int v3_156)] [] M (j_X11_one_156 v3_156 M) (fun q => q = r) := by
  have hC := hB.1.1
  have hq1 : 1 ≤ d := by omega
  unfold j_X11_one_156
  refine x_iload_n hC dX11_one_156 rfl 0 rfl ?_
  exact r_retI hR dX11_one_157 (fun h => congrArg (fun q => (q, M)) h)
noncomputable def j_X11_one_83 (v2_83 : Int32) (s0_83 : Int32) (M : zM) : Option (Int32) :=
  (loopW (fun s => b_X11_one_87 v2_83 s.1 s.2 M) (s0_83, (0 : Int32))).bind (fun r => j_X11_one_156 r M)
set_option maxRecDepth 100000 in
theorem j_X11_one_83_ok {C : zC} {d : Nat} {g : zG} {l : Launch} {w : zW} {r : Int32} {v2_83 : Int32} {s0_83 : Int32} (hB : bOK C cX11_one 7 RX11 d g l w false) (hd : 3 ≤ d) (M : zM) (hR : RtI C cX11_one w r M) : Sg C w (0, 0) 83 [(0, zr w 257), (2, .int v2_83)] [.int s0_83] M (j_X11_one_83 v2_83 s0_83 M) (fun q => q = r) := by
  have hC := hB.1.1
  have hq1 : 1 ≤ d := by omega
  unfold j_X11_one_83
  refine x_istore_n hC dX11_one_83 rfl [(3, .int s0_83), (0, zr w 257), (2, .int v2_83)] (by decide) rfl ?_
  refine x_iconst (v := (0 : Int32)) hC dX11_one_84 ki_0 ?_
  refine x_istore (f := 0) hC dX11_one_85 [(4, .int (0 : Int32)), (3, .int s0_83), (0, zr w 257), (2, .int v2_83)] (by decide) rfl ?_
  refine x_sub [2, 3, 1, 0] rfl ?_
  refine x_loopB (pc2 := 156) (fun (s : (Int32 × Int32)) => [(0, zr w 257), (2, .int v2_83), (3, .int s.1), (4, .int s.2)]) (fun (s : (Int32 × Int32)) => M) (fun (s : (Int32)) => [(3, .int s)]) (fun (s : (Int32)) => M) (s0_83, (0 : Int32)) ?_ ?_
  · exact fun s => b_X11_one_87_ok hB hd M hR
  · intro r9
    exact j_X11_one_156_ok hB hd M hR
noncomputable def f_X11_one (p1 : Int32) (M : zM) : Option (Int32) :=
  if (f_X11_within p1 (0 : Int32) (1 : Int32)) = 0 then (some (-1 : Int32))
  else (nm (M 258 (ix (2357 : Int32))) fun v2_19 =>
  if p1 = 0 then (if v2_19 = (M 258 (ix (2370 : Int32))) then ((loopW (fun s => b_X11_one_40 v2_19 s M) (0 : Int32)).bind (fun q => Sum.elim (fun r => j_X11_one_64 v2_19 M) some q))
  else (some (0 : Int32)))
  else (if v2_19 = 0 then (j_X11_one_83 v2_19 (1 : Int32) M)
  else (j_X11_one_83 v2_19 (0 : Int32) M)))
set_option maxRecDepth 100000 in
theorem f_X11_one_ok {C : zC} {d : Nat} {g : zG} {l : Launch} {w : zW} {r : Int32} {p1 : Int32} (hB : bOK C cX11_one 7 RX11 d g l w false) (hd : 3 ≤ d) (M : zM) (hR : RtI C cX11_one w r M) : Sg C w (0, 0) 0 [(0, zr w 257), (1, .int p1)] [] M (f_X11_one p1 M) (fun q => q = r) := by
  have hC := hB.1.1
  have hq1 : 1 ≤ d := by omega
  unfold f_X11_one
  refine x_iload_n hC dX11_one_0 rfl 1 rfl ?_
  refine x_iconst (v := (0 : Int32)) hC dX11_one_1 ki_0 ?_
  refine x_iconst (v := (1 : Int32)) hC dX11_one_2 ki_1 ?_
  refine r_cS0 (as := [.int p1, .int (0 : Int32), .int (1 : Int32)]) (rest := []) hB dX11_one_3 ks_X11_100 hq1 rfl rfl (Nat.le_of_ble_eq_true rfl) (f_X11_within_met hB.2 (by omega)) ?_
  refine x_if_ne (tgt := 11) hC dX11_one_6 (by decide) ?_ ?_
  · refine x_iconst (v := (-1 : Int32)) hC dX11_one_9 ki_m1 ?_
    exact r_retI hR dX11_one_10 (fun h => congrArg (fun q => (q, M)) h)
  · refine x_aload_n hC dX11_one_11 rfl 0 rfl ?_
    refine r_getR hB dX11_one_12 kf_X11_9 rfl th_257 rf_257_0 ?_
    refine x_sipush (v := (2357 : Int32)) hC dX11_one_15 kh_2357 ?_
    refine r_iald0 hB dX11_one_18 th_258 ib_2357_2425 ?_
    refine x_top (fun v2_19 => ?_)
    refine x_istore_n hC dX11_one_19 rfl [(2, .int v2_19), (0, zr w 257), (1, .int p1)] (by decide) rfl ?_
    refine x_iload_n hC dX11_one_20 rfl 2 rfl ?_
    refine x_if_ne (tgt := 74) hC dX11_one_21 (by decide) ?_ ?_
    · refine x_iload_n hC dX11_one_24 rfl 0 rfl ?_
      refine x_aload_n hC dX11_one_25 rfl 1 rfl ?_
      refine r_getR hB dX11_one_26 kf_X11_9 rfl th_257 rf_257_0 ?_
      refine x_sipush (v := (2370 : Int32)) hC dX11_one_29 kh_2370 ?_
      refine r_iald0 hB dX11_one_32 th_258 ib_2370_2425 ?_
      refine x_icmp_eq (tgt := 38) hC dX11_one_33 (by decide) ?_ ?_
      · refine x_iconst (v := (0 : Int32)) hC dX11_one_38 ki_0 ?_
        refine x_istore_n hC dX11_one_39 rfl [(3, .int (0 : Int32)), (2, .int v2_19), (0, zr w 257), (1, .int p1)] (by decide) rfl ?_
        refine x_sub [2, 1, 0] rfl ?_
        refine x_loopR (pc2 := 64) (fun (s : (Int32)) => [(0, zr w 257), (2, .int v2_19), (3, .int s)]) (fun (s : (Int32)) => M) (fun (s : Unit) => [(2, .int v2_19)]) (fun (s : Unit) => M) (0 : Int32) ?_ ?_
        · exact fun s => b_X11_one_40_ok hB hd M hR
        · intro r9
          exact j_X11_one_64_ok hB hd M hR
      · refine x_iconst (v := (0 : Int32)) hC dX11_one_36 ki_0 ?_
        exact r_retI hR dX11_one_37 (fun h => congrArg (fun q => (q, M)) h)
    · refine x_iload_n hC dX11_one_74 rfl 0 rfl ?_
      refine x_if_ne (tgt := 82) hC dX11_one_75 (by decide) ?_ ?_
      · refine x_iconst (v := (1 : Int32)) hC dX11_one_78 ki_1 ?_
        refine x_goto (tgt := 83) hC dX11_one_79 (by decide) ?_
        refine x_sub [1, 0] rfl ?_
        exact j_X11_one_83_ok hB hd M hR
      · refine x_iconst (v := (0 : Int32)) hC dX11_one_82 ki_0 ?_
        refine x_sub [1, 0] rfl ?_
        exact j_X11_one_83_ok hB hd M hR
theorem f_X11_one_met {l : Launch} {d : Nat} {g : zG} {w : zW} {M0 : zM} {p1 : Int32} {M : zM} (hw : wS w) (hd : 3 ≤ d) {v : Int32} (h : f_X11_one p1 M = some v) : zMet l yX11_one cX11_one 7 (some .int) d g w (zin false) M0 [zr w 257, .int p1] M (some (.int v)) M :=
  met_i (by decide +kernel) (Nat.le_of_ble_eq_true rfl) rfl (fun C hB0 hR => f_X11_one_ok ⟨hB0, hw⟩ hd M hR _ h rfl)
/-! WindingSquareModel.round(I)I -/
noncomputable def f_X11_round (p1 : Int32) (M : zM) : Option (Int32 × zM) :=
  if (f_X11_within p1 (0 : Int32) (3 : Int32)) = 0 then (some ((-100 : Int32), M))
  else ((f_X11_goesRound M).bind fun M13 =>
  grd (inb ((M13 257 28) - (1 : Int32)) 25) (
  grd (inb ((M13 257 28) - (1 : Int32)) 25) (
  nm ((f_X11_abs (M13 271 (ix ((M13 257 28) - (1 : Int32))))) + (f_X11_abs (M13 272 (ix ((M13 257 28) - (1 : Int32)))))) fun v2_45 =>
  if p1 = 0 then (some ((M13 257 29), M13))
  else (if p1 = (1 : Int32) then (some (v2_45, M13))
  else (if p1 = (2 : Int32) then ((f_X11_again M13).bind fun u72 =>
  some (u72, M13))
  else (if v2_45 = 0 then (some ((f_X11_abs (M13 257 30)), M13))
  else (some ((-1 : Int32), M13))))))))
set_option maxRecDepth 100000 in
theorem f_X11_round_ok {C : zC} {d : Nat} {g : zG} {l : Launch} {w : zW} {r : Int32 × zM} {p1 : Int32} (hB : bOK C cX11_round 3 RX11 d g l w false) (hd : 3 ≤ d) (M : zM) (hR : RtI C cX11_round w r.1 r.2) : Sg C w (0, 0) 0 [(0, zr w 257), (1, .int p1)] [] M (f_X11_round p1 M) (fun q => q = r) := by
  have hC := hB.1.1
  have hq1 : 1 ≤ d := by omega
  unfold f_X11_round
  refine x_iload_n hC dX11_round_0 rfl 1 rfl ?_
  refine x_iconst (v := (0 : Int32)) hC dX11_round_1 ki_0 ?_
  refine x_iconst (v := (3 : Int32)) hC dX11_round_2 ki_3 ?_
  refine r_cS0 (as := [.int p1, .int (0 : Int32), .int (3 : Int32)]) (rest := []) hB dX11_round_3 ks_X11_100 hq1 rfl rfl (Nat.le_of_ble_eq_true rfl) (f_X11_within_met hB.2 (by omega)) ?_
  refine x_if_ne (tgt := 12) hC dX11_round_6 (by decide) ?_ ?_
  · refine x_bipush (v := (-100 : Int32)) hC dX11_round_9 kb_m100 ?_
    exact r_retI hR dX11_round_11 (fun h => h)
  · refine x_aload_n hC dX11_round_12 rfl 0 rfl ?_
    refine r_cVv (as := []) (rest := []) hB dX11_round_13 kv_X11_383 th_257 hq1 rfl rfl (Nat.le_of_ble_eq_true rfl) (fun M' hv => f_X11_goesRound_met hB.2 (by omega) hv) (fun M13 => ?_)
    refine x_aload_n hC dX11_round_16 rfl 0 rfl ?_
    refine r_getR hB dX11_round_17 kf_X11_53 rfl th_257 rf_257_26 ?_
    refine x_aload_n hC dX11_round_20 rfl 0 rfl ?_
    refine r_getI hB dX11_round_21 kf_X11_374 rfl th_257 ?_
    refine x_iconst (v := (1 : Int32)) hC dX11_round_24 ki_1 ?_
    refine x_isub hC dX11_round_25 ?_
    refine r_iald hB dX11_round_26 th_271 ?_
    refine r_cS0 (as := [.int (M13 271 (ix ((M13 257 28) - (1 : Int32))))]) (rest := []) hB dX11_round_27 ks_X11_359 hq1 rfl rfl (Nat.le_of_ble_eq_true rfl) (f_X11_abs_met hB.2 (by omega)) ?_
    refine x_aload_n hC dX11_round_30 rfl 0 rfl ?_
    refine r_getR hB dX11_round_31 kf_X11_56 rfl th_257 rf_257_27 ?_
    refine x_aload_n hC dX11_round_34 rfl 0 rfl ?_
    refine r_getI hB dX11_round_35 kf_X11_374 rfl th_257 ?_
    refine x_iconst (v := (1 : Int32)) hC dX11_round_38 ki_1 ?_
    refine x_isub hC dX11_round_39 ?_
    refine r_iald hB dX11_round_40 th_272 ?_
    refine r_cS0 (as := [.int (M13 272 (ix ((M13 257 28) - (1 : Int32))))]) (rest := [.int (f_X11_abs (M13 271 (ix ((M13 257 28) - (1 : Int32)))))]) hB dX11_round_41 ks_X11_359 hq1 rfl rfl (Nat.le_of_ble_eq_true rfl) (f_X11_abs_met hB.2 (by omega)) ?_
    refine x_iadd hC dX11_round_44 ?_
    refine x_top (fun v2_45 => ?_)
    refine x_istore_n hC dX11_round_45 rfl [(2, .int v2_45), (0, zr w 257), (1, .int p1)] (by decide) rfl ?_
    refine x_iload_n hC dX11_round_46 rfl 2 rfl ?_
    refine x_if_ne (tgt := 57) hC dX11_round_47 (by decide) ?_ ?_
    · refine x_aload_n hC dX11_round_50 rfl 1 rfl ?_
      refine r_getI hB dX11_round_51 kf_X11_377 rfl th_257 ?_
      refine x_goto (tgt := 93) hC dX11_round_54 (by decide) ?_
      exact r_retI hR dX11_round_93 (fun h => h)
    · refine x_iload_n hC dX11_round_57 rfl 2 rfl ?_
      refine x_iconst (v := (1 : Int32)) hC dX11_round_58 ki_1 ?_
      refine x_icmp_ne (tgt := 66) hC dX11_round_59 (by decide) ?_ ?_
      · refine x_iload_n hC dX11_round_62 rfl 0 rfl ?_
        refine x_goto (tgt := 93) hC dX11_round_63 (by decide) ?_
        exact r_retI hR dX11_round_93 (fun h => h)
      · refine x_iload_n hC dX11_round_66 rfl 2 rfl ?_
        refine x_iconst (v := (2 : Int32)) hC dX11_round_67 ki_2 ?_
        refine x_icmp_ne (tgt := 78) hC dX11_round_68 (by decide) ?_ ?_
        · refine x_aload_n hC dX11_round_71 rfl 1 rfl ?_
          refine r_cV1 (as := []) (rest := []) hB dX11_round_72 kv_X11_386 th_257 hq1 rfl rfl (Nat.le_of_ble_eq_true rfl) (fun v hv => f_X11_again_met hB.2 (by omega) hv) (fun u72 => ?_)
          refine x_goto (tgt := 93) hC dX11_round_75 (by decide) ?_
          exact r_retI hR dX11_round_93 (fun h => h)
        · refine x_iload_n hC dX11_round_78 rfl 0 rfl ?_
          refine x_if_ne (tgt := 92) hC dX11_round_79 (by decide) ?_ ?_
          · refine x_aload_n hC dX11_round_82 rfl 1 rfl ?_
            refine r_getI hB dX11_round_83 kf_X11_380 rfl th_257 ?_
            refine r_cS0 (as := [.int (M13 257 30)]) (rest := []) hB dX11_round_86 ks_X11_359 hq1 rfl rfl (Nat.le_of_ble_eq_true rfl) (f_X11_abs_met hB.2 (by omega)) ?_
            refine x_goto (tgt := 93) hC dX11_round_89 (by decide) ?_
            exact r_retI hR dX11_round_93 (fun h => h)
          · refine x_iconst (v := (-1 : Int32)) hC dX11_round_92 ki_m1 ?_
            exact r_retI hR dX11_round_93 (fun h => h)
theorem f_X11_round_met {l : Launch} {d : Nat} {g : zG} {w : zW} {M0 : zM} {p1 : Int32} {M : zM} (hw : wS w) (hd : 3 ≤ d) {v : Int32} {M' : zM} (h : f_X11_round p1 M = some (v, M')) : zMet l yX11_round cX11_round 3 (some .int) d g w (zin false) M0 [zr w 257, .int p1] M (some (.int v)) M' :=
  met_i (by decide +kernel) (Nat.le_of_ble_eq_true rfl) rfl (fun C hB0 hR => f_X11_round_ok (r := (v, M')) ⟨hB0, hw⟩ hd M hR _ h rfl)
/-! WindingSquareModel.besides(I)I -/
noncomputable def j_X11_besides_86_17 (v1_17 : Int32) (v2_86_17 : Int32) (v3_86_17 : Int32) (M : zM) : Option ((Int32 × Int32) ⊕ (Int32)) :=
  some (.inl (v2_86_17, (v3_86_17 + (1 : Int32))))
set_option maxRecDepth 100000 in
theorem j_X11_besides_86_17_ok {C : zC} {d : Nat} {g : zG} {l : Launch} {w : zW} {r : Int32} {v1_17 : Int32} {v2_86_17 : Int32} {v3_86_17 : Int32} (hB : bOK C cX11_besides 6 RX11 d g l w false) (hd : 3 ≤ d) (M : zM) (hR : RtI C cX11_besides w r M) : Sg C w (0, 0) 86 [(0, zr w 257), (1, .int v1_17), (2, .int v2_86_17), (3, .int v3_86_17)] [] M (j_X11_besides_86_17 v1_17 v2_86_17 v3_86_17 M) (fun o => Sum.elim (fun (s : (Int32 × Int32)) => Zs C w (0, 0) 17 [(0, zr w 257), (1, .int v1_17), (2, .int s.1), (3, .int s.2)] [] M) (fun (s : (Int32)) => Zs C w (0, 0) 92 [(2, .int s)] [] M) o) := by
  have hC := hB.1.1
  have hq1 : 1 ≤ d := by omega
  unfold j_X11_besides_86_17
  refine x_iinc hC dX11_besides_86 ki_1 [(3, .int (v3_86_17 + (1 : Int32))), (0, zr w 257), (1, .int v1_17), (2, .int v2_86_17)] 3 rfl (by decide) rfl ?_
  refine x_goto (tgt := 17) hC dX11_besides_89 (by decide) ?_
  refine x_sub [1, 2, 3, 0] rfl ?_
  exact x_done (fun h => h)
noncomputable def b_X11_besides_17 (v1_17 : Int32) (v2_17 : Int32) (v3_17 : Int32) (M : zM) : Option ((Int32 × Int32) ⊕ (Int32)) :=
  if (9 : Int32) ≤ v3_17 then (some (.inr v2_17))
  else (nm (((irem v1_17 (12 : Int32)) + (irem v3_17 (3 : Int32))) - (1 : Int32)) fun v4_33_17 =>
  nm (((v1_17 / (12 : Int32)) + (v3_17 / (3 : Int32))) - (1 : Int32)) fun v5_45_17 =>
  if (f_X11_isIn v4_33_17 v5_45_17) = 0 then (j_X11_besides_86_17 v1_17 v2_17 v3_17 M)
  else (grd (inb (f_X11_place v4_33_17 v5_45_17) 144) (
  if v2_17 ≤ (M 279 (ix (f_X11_place v4_33_17 v5_45_17))) then (j_X11_besides_86_17 v1_17 v2_17 v3_17 M)
  else (grd (inb (f_X11_place v4_33_17 v5_45_17) 144) (
  nm (M 279 (ix (f_X11_place v4_33_17 v5_45_17))) fun v2_85_17 =>
  j_X11_besides_86_17 v1_17 v2_85_17 v3_17 M)))))
set_option maxRecDepth 100000 in
theorem b_X11_besides_17_ok {C : zC} {d : Nat} {g : zG} {l : Launch} {w : zW} {r : Int32} {v1_17 : Int32} {v2_17 : Int32} {v3_17 : Int32} (hB : bOK C cX11_besides 6 RX11 d g l w false) (hd : 3 ≤ d) (M : zM) (hR : RtI C cX11_besides w r M) : Sg C w (0, 0) 17 [(0, zr w 257), (1, .int v1_17), (2, .int v2_17), (3, .int v3_17)] [] M (b_X11_besides_17 v1_17 v2_17 v3_17 M) (fun o => Sum.elim (fun (s : (Int32 × Int32)) => Zs C w (0, 0) 17 [(0, zr w 257), (1, .int v1_17), (2, .int s.1), (3, .int s.2)] [] M) (fun (s : (Int32)) => Zs C w (0, 0) 92 [(2, .int s)] [] M) o) := by
  have hC := hB.1.1
  have hq1 : 1 ≤ d := by omega
  unfold b_X11_besides_17
  refine x_iload_n hC dX11_besides_17 rfl 3 rfl ?_
  refine x_bipush (v := (9 : Int32)) hC dX11_besides_18 kb_9 ?_
  refine x_icmp_ge (tgt := 92) hC dX11_besides_20 (by decide) ?_ ?_
  · refine x_sub [2] rfl ?_
    exact x_done (fun h => h)
  · refine x_iload_n hC dX11_besides_23 rfl 1 rfl ?_
    refine x_bipush (v := (12 : Int32)) hC dX11_besides_24 kb_12 ?_
    refine x_irem0 hC dX11_besides_26 nz_12 ?_
    refine x_iload_n hC dX11_besides_27 rfl 3 rfl ?_
    refine x_iconst (v := (3 : Int32)) hC dX11_besides_28 ki_3 ?_
    refine x_irem0 hC dX11_besides_29 nz_3 ?_
    refine x_iadd hC dX11_besides_30 ?_
    refine x_iconst (v := (1 : Int32)) hC dX11_besides_31 ki_1 ?_
    refine x_isub hC dX11_besides_32 ?_
    refine x_top (fun v4_33_17 => ?_)
    refine x_istore (f := 0) hC dX11_besides_33 [(4, .int v4_33_17), (0, zr w 257), (1, .int v1_17), (2, .int v2_17), (3, .int v3_17)] (by decide) rfl ?_
    refine x_iload_n hC dX11_besides_35 rfl 2 rfl ?_
    refine x_bipush (v := (12 : Int32)) hC dX11_besides_36 kb_12 ?_
    refine x_idiv0 hC dX11_besides_38 nz_12 ?_
    refine x_iload_n hC dX11_besides_39 rfl 4 rfl ?_
    refine x_iconst (v := (3 : Int32)) hC dX11_besides_40 ki_3 ?_
    refine x_idiv0 hC dX11_besides_41 nz_3 ?_
    refine x_iadd hC dX11_besides_42 ?_
    refine x_iconst (v := (1 : Int32)) hC dX11_besides_43 ki_1 ?_
    refine x_isub hC dX11_besides_44 ?_
    refine x_top (fun v5_45_17 => ?_)
    refine x_istore (f := 0) hC dX11_besides_45 [(5, .int v5_45_17), (4, .int v4_33_17), (0, zr w 257), (1, .int v1_17), (2, .int v2_17), (3, .int v3_17)] (by decide) rfl ?_
    refine x_iload hC dX11_besides_47 1 rfl ?_
    refine x_iload hC dX11_besides_49 0 rfl ?_
    refine r_cS0 (as := [.int v4_33_17, .int v5_45_17]) (rest := []) hB dX11_besides_51 ks_X11_291 hq1 rfl rfl (Nat.le_of_ble_eq_true rfl) (f_X11_isIn_met hB.2 (by omega)) ?_
    refine x_if_eq (tgt := 86) hC dX11_besides_54 (by decide) ?_ ?_
    · refine x_sub [2, 3, 4, 5] rfl ?_
      exact j_X11_besides_86_17_ok hB hd M hR
    · refine x_aload_n hC dX11_besides_57 rfl 2 rfl ?_
      refine r_getR hB dX11_besides_58 kf_X11_77 rfl th_257 rf_257_37 ?_
      refine x_iload hC dX11_besides_61 1 rfl ?_
      refine x_iload hC dX11_besides_63 0 rfl ?_
      refine r_cS0 (as := [.int v4_33_17, .int v5_45_17]) (rest := [zr w 279]) hB dX11_besides_65 ks_X11_108 hq1 rfl rfl (Nat.le_of_ble_eq_true rfl) (f_X11_place_met hB.2 (by omega)) ?_
      refine r_iald hB dX11_besides_68 th_279 ?_
      refine x_iload_n hC dX11_besides_69 rfl 4 rfl ?_
      refine x_icmp_ge (tgt := 86) hC dX11_besides_70 (by decide) ?_ ?_
      · refine x_sub [2, 3, 4, 5] rfl ?_
        exact j_X11_besides_86_17_ok hB hd M hR
      · refine x_aload_n hC dX11_besides_73 rfl 2 rfl ?_
        refine r_getR hB dX11_besides_74 kf_X11_77 rfl th_257 rf_257_37 ?_
        refine x_iload hC dX11_besides_77 1 rfl ?_
        refine x_iload hC dX11_besides_79 0 rfl ?_
        refine r_cS0 (as := [.int v4_33_17, .int v5_45_17]) (rest := [zr w 279]) hB dX11_besides_81 ks_X11_108 hq1 rfl rfl (Nat.le_of_ble_eq_true rfl) (f_X11_place_met hB.2 (by omega)) ?_
        refine r_iald hB dX11_besides_84 th_279 ?_
        refine x_top (fun v2_85_17 => ?_)
        refine x_istore_n hC dX11_besides_85 rfl [(2, .int v2_85_17), (5, .int v5_45_17), (4, .int v4_33_17), (0, zr w 257), (1, .int v1_17), (3, .int v3_17)] (by decide) rfl ?_
        refine x_sub [3, 4, 0, 5] rfl ?_
        exact j_X11_besides_86_17_ok hB hd M hR
noncomputable def j_X11_besides_92 (v2_92 : Int32) (M : zM) : Option (Int32) :=
  some v2_92
set_option maxRecDepth 100000 in
theorem j_X11_besides_92_ok {C : zC} {d : Nat} {g : zG} {l : Launch} {w : zW} {r : Int32} {v2_92 : Int32} (hB : bOK C cX11_besides 6 RX11 d g l w false) (hd : 3 ≤ d) (M : zM) (hR : RtI C cX11_besides w r M) : Sg C w (0, 0) 92 [(2, .int v2_92)] [] M (j_X11_besides_92 v2_92 M) (fun q => q = r) := by
  have hC := hB.1.1
  have hq1 : 1 ≤ d := by omega
  unfold j_X11_besides_92
  refine x_iload_n hC dX11_besides_92 rfl 0 rfl ?_
  exact r_retI hR dX11_besides_93 (fun h => congrArg (fun q => (q, M)) h)
noncomputable def j_X11_besides_14 (v1_14 : Int32) (s0_14 : Int32) (M : zM) : Option (Int32) :=
  (loopW (fun s => b_X11_besides_17 v1_14 s.1 s.2 M) (s0_14, (0 : Int32))).bind (fun r => j_X11_besides_92 r M)
set_option maxRecDepth 100000 in
theorem j_X11_besides_14_ok {C : zC} {d : Nat} {g : zG} {l : Launch} {w : zW} {r : Int32} {v1_14 : Int32} {s0_14 : Int32} (hB : bOK C cX11_besides 6 RX11 d g l w false) (hd : 3 ≤ d) (M : zM) (hR : RtI C cX11_besides w r M) : Sg C w (0, 0) 14 [(0, zr w 257), (1, .int v1_14)] [.int s0_14] M (j_X11_besides_14 v1_14 s0_14 M) (fun q => q = r) := by
  have hC := hB.1.1
  have hq1 : 1 ≤ d := by omega
  unfold j_X11_besides_14
  refine x_istore_n hC dX11_besides_14 rfl [(2, .int s0_14), (0, zr w 257), (1, .int v1_14)] (by decide) rfl ?_
  refine x_iconst (v := (0 : Int32)) hC dX11_besides_15 ki_0 ?_
  refine x_istore_n hC dX11_besides_16 rfl [(3, .int (0 : Int32)), (2, .int s0_14), (0, zr w 257), (1, .int v1_14)] (by decide) rfl ?_
  refine x_sub [2, 3, 1, 0] rfl ?_
  refine x_loopB (pc2 := 92) (fun (s : (Int32 × Int32)) => [(0, zr w 257), (1, .int v1_14), (2, .int s.1), (3, .int s.2)]) (fun (s : (Int32 × Int32)) => M) (fun (s : (Int32)) => [(2, .int s)]) (fun (s : (Int32)) => M) (s0_14, (0 : Int32)) ?_ ?_
  · exact fun s => b_X11_besides_17_ok hB hd M hR
  · intro r9
    exact j_X11_besides_92_ok hB hd M hR
noncomputable def f_X11_besides (p1 : Int32) (M : zM) : Option (Int32) :=
  if (irem p1 (12 : Int32)) = 0 then (j_X11_besides_14 p1 (0 : Int32) M)
  else (j_X11_besides_14 p1 (9999 : Int32) M)
set_option maxRecDepth 100000 in
theorem f_X11_besides_ok {C : zC} {d : Nat} {g : zG} {l : Launch} {w : zW} {r : Int32} {p1 : Int32} (hB : bOK C cX11_besides 6 RX11 d g l w false) (hd : 3 ≤ d) (M : zM) (hR : RtI C cX11_besides w r M) : Sg C w (0, 0) 0 [(0, zr w 257), (1, .int p1)] [] M (f_X11_besides p1 M) (fun q => q = r) := by
  have hC := hB.1.1
  have hq1 : 1 ≤ d := by omega
  unfold f_X11_besides
  refine x_iload_n hC dX11_besides_0 rfl 1 rfl ?_
  refine x_bipush (v := (12 : Int32)) hC dX11_besides_1 kb_12 ?_
  refine x_irem0 hC dX11_besides_3 nz_12 ?_
  refine x_if_ne (tgt := 11) hC dX11_besides_4 (by decide) ?_ ?_
  · refine x_iconst (v := (0 : Int32)) hC dX11_besides_7 ki_0 ?_
    refine x_goto (tgt := 14) hC dX11_besides_8 (by decide) ?_
    exact j_X11_besides_14_ok hB hd M hR
  · refine x_sipush (v := (9999 : Int32)) hC dX11_besides_11 kh_9999 ?_
    exact j_X11_besides_14_ok hB hd M hR
theorem f_X11_besides_met {l : Launch} {d : Nat} {g : zG} {w : zW} {M0 : zM} {p1 : Int32} {M : zM} (hw : wS w) (hd : 3 ≤ d) {v : Int32} (h : f_X11_besides p1 M = some v) : zMet l yX11_besides cX11_besides 6 (some .int) d g w (zin false) M0 [zr w 257, .int p1] M (some (.int v)) M :=
  met_i (by decide +kernel) (Nat.le_of_ble_eq_true rfl) rfl (fun C hB0 hR => f_X11_besides_ok ⟨hB0, hw⟩ hd M hR _ h rfl)
/-! WindingSquareModel.game(III)I -/
noncomputable def j_X11_game_108_60 (v1_60 : Int32) (v2_60 : Int32) (v4_108_60 : Int32) (v5_108_60 : Int32) (M : zM) : Option ((Int32 × Int32) ⊕ (Int32)) :=
  some (.inl (v4_108_60, (v5_108_60 + (1 : Int32))))
set_option maxRecDepth 100000 in
theorem j_X11_game_108_60_ok {C : zC} {d : Nat} {g : zG} {l : Launch} {w : zW} {r : Int32 × zM} {v1_60 : Int32} {v2_60 : Int32} {v4_108_60 : Int32} {v5_108_60 : Int32} (hB : bOK C cX11_game 7 RX11 d g l w false) (hd : 3 ≤ d) (M : zM) (hR : RtI C cX11_game w r.1 r.2) : Sg C w (0, 0) 108 [(0, zr w 257), (1, .int v1_60), (2, .int v2_60), (4, .int v4_108_60), (5, .int v5_108_60)] [] M (j_X11_game_108_60 v1_60 v2_60 v4_108_60 v5_108_60 M) (fun o => Sum.elim (fun (s : (Int32 × Int32)) => Zs C w (0, 0) 60 [(0, zr w 257), (1, .int v1_60), (2, .int v2_60), (4, .int s.1), (5, .int s.2)] [] M) (fun (s : (Int32)) => Zs C w (0, 0) 114 [(4, .int s)] [] M) o) := by
  have hC := hB.1.1
  have hq1 : 1 ≤ d := by omega
  unfold j_X11_game_108_60
  refine x_iinc hC dX11_game_108 ki_1 [(5, .int (v5_108_60 + (1 : Int32))), (0, zr w 257), (1, .int v1_60), (2, .int v2_60), (4, .int v4_108_60)] 4 rfl (by decide) rfl ?_
  refine x_goto (tgt := 60) hC dX11_game_111 (by decide) ?_
  refine x_sub [1, 2, 3, 4, 0] rfl ?_
  exact x_done (fun h => h)
noncomputable def j_X11_game_104_60 (v1_60 : Int32) (v2_60 : Int32) (v5_104_60 : Int32) (v6_104_60 : Int32) (M : zM) : Option ((Int32 × Int32) ⊕ (Int32)) :=
  j_X11_game_108_60 v1_60 v2_60 v6_104_60 v5_104_60 M
set_option maxRecDepth 100000 in
theorem j_X11_game_104_60_ok {C : zC} {d : Nat} {g : zG} {l : Launch} {w : zW} {r : Int32 × zM} {v1_60 : Int32} {v2_60 : Int32} {v5_104_60 : Int32} {v6_104_60 : Int32} (hB : bOK C cX11_game 7 RX11 d g l w false) (hd : 3 ≤ d) (M : zM) (hR : RtI C cX11_game w r.1 r.2) : Sg C w (0, 0) 104 [(0, zr w 257), (1, .int v1_60), (2, .int v2_60), (5, .int v5_104_60), (6, .int v6_104_60)] [] M (j_X11_game_104_60 v1_60 v2_60 v5_104_60 v6_104_60 M) (fun o => Sum.elim (fun (s : (Int32 × Int32)) => Zs C w (0, 0) 60 [(0, zr w 257), (1, .int v1_60), (2, .int v2_60), (4, .int s.1), (5, .int s.2)] [] M) (fun (s : (Int32)) => Zs C w (0, 0) 114 [(4, .int s)] [] M) o) := by
  have hC := hB.1.1
  have hq1 : 1 ≤ d := by omega
  unfold j_X11_game_104_60
  refine x_iload hC dX11_game_104 4 rfl ?_
  refine x_istore (f := 0) hC dX11_game_106 [(4, .int v6_104_60), (0, zr w 257), (1, .int v1_60), (2, .int v2_60), (5, .int v5_104_60), (6, .int v6_104_60)] (by decide) rfl ?_
  refine x_sub [1, 2, 3, 0, 4] rfl ?_
  exact j_X11_game_108_60_ok hB hd M hR
noncomputable def b_X11_game_60 (v1_60 : Int32) (v2_60 : Int32) (v4_60 : Int32) (v5_60 : Int32) (M : zM) : Option ((Int32 × Int32) ⊕ (Int32)) :=
  if (4 : Int32) ≤ v5_60 then (some (.inr v4_60))
  else (nm (f_X11_bend v1_60 v2_60 v5_60) fun v6_73_60 =>
  if v6_73_60 = (-1 : Int32) then (j_X11_game_108_60 v1_60 v2_60 v4_60 v5_60 M)
  else (grd (inb v6_73_60 3721) (
  if (M 281 (ix v6_73_60)) = 0 then (if v4_60 = (-1 : Int32) then (j_X11_game_104_60 v1_60 v2_60 v5_60 v6_73_60 M)
  else (if v4_60 ≤ v6_73_60 then (j_X11_game_108_60 v1_60 v2_60 v4_60 v5_60 M)
  else (j_X11_game_104_60 v1_60 v2_60 v5_60 v6_73_60 M)))
  else (j_X11_game_108_60 v1_60 v2_60 v4_60 v5_60 M))))
set_option maxRecDepth 100000 in
theorem b_X11_game_60_ok {C : zC} {d : Nat} {g : zG} {l : Launch} {w : zW} {r : Int32 × zM} {v1_60 : Int32} {v2_60 : Int32} {v4_60 : Int32} {v5_60 : Int32} (hB : bOK C cX11_game 7 RX11 d g l w false) (hd : 3 ≤ d) (M : zM) (hR : RtI C cX11_game w r.1 r.2) : Sg C w (0, 0) 60 [(0, zr w 257), (1, .int v1_60), (2, .int v2_60), (4, .int v4_60), (5, .int v5_60)] [] M (b_X11_game_60 v1_60 v2_60 v4_60 v5_60 M) (fun o => Sum.elim (fun (s : (Int32 × Int32)) => Zs C w (0, 0) 60 [(0, zr w 257), (1, .int v1_60), (2, .int v2_60), (4, .int s.1), (5, .int s.2)] [] M) (fun (s : (Int32)) => Zs C w (0, 0) 114 [(4, .int s)] [] M) o) := by
  have hC := hB.1.1
  have hq1 : 1 ≤ d := by omega
  unfold b_X11_game_60
  refine x_iload hC dX11_game_60 4 rfl ?_
  refine x_iconst (v := (4 : Int32)) hC dX11_game_62 ki_4 ?_
  refine x_icmp_ge (tgt := 114) hC dX11_game_63 (by decide) ?_ ?_
  · refine x_sub [3] rfl ?_
    exact x_done (fun h => h)
  · refine x_iload_n hC dX11_game_66 rfl 1 rfl ?_
    refine x_iload_n hC dX11_game_67 rfl 2 rfl ?_
    refine x_iload hC dX11_game_68 4 rfl ?_
    refine r_cS0 (as := [.int v1_60, .int v2_60, .int v5_60]) (rest := []) hB dX11_game_70 ks_X11_405 hq1 rfl rfl (Nat.le_of_ble_eq_true rfl) (f_X11_bend_met hB.2 (by omega)) ?_
    refine x_top (fun v6_73_60 => ?_)
    refine x_istore (f := 0) hC dX11_game_73 [(6, .int v6_73_60), (0, zr w 257), (1, .int v1_60), (2, .int v2_60), (4, .int v4_60), (5, .int v5_60)] (by decide) rfl ?_
    refine x_iload hC dX11_game_75 0 rfl ?_
    refine x_iconst (v := (-1 : Int32)) hC dX11_game_77 ki_m1 ?_
    refine x_icmp_eq (tgt := 108) hC dX11_game_78 (by decide) ?_ ?_
    · refine x_sub [1, 2, 3, 4, 5] rfl ?_
      exact j_X11_game_108_60_ok hB hd M hR
    · refine x_aload_n hC dX11_game_81 rfl 1 rfl ?_
      refine r_getR hB dX11_game_82 kf_X11_83 rfl th_257 rf_257_39 ?_
      refine x_iload hC dX11_game_85 0 rfl ?_
      refine r_iald hB dX11_game_87 th_281 ?_
      refine x_if_ne (tgt := 108) hC dX11_game_88 (by decide) ?_ ?_
      · refine x_iload hC dX11_game_91 4 rfl ?_
        refine x_iconst (v := (-1 : Int32)) hC dX11_game_93 ki_m1 ?_
        refine x_icmp_eq (tgt := 104) hC dX11_game_94 (by decide) ?_ ?_
        · refine x_sub [1, 2, 3, 5, 0] rfl ?_
          exact j_X11_game_104_60_ok hB hd M hR
        · refine x_iload hC dX11_game_97 0 rfl ?_
          refine x_iload hC dX11_game_99 4 rfl ?_
          refine x_icmp_ge (tgt := 108) hC dX11_game_101 (by decide) ?_ ?_
          · refine x_sub [1, 2, 3, 4, 5] rfl ?_
            exact j_X11_game_108_60_ok hB hd M hR
          · refine x_sub [1, 2, 3, 5, 0] rfl ?_
            exact j_X11_game_104_60_ok hB hd M hR
      · refine x_sub [1, 2, 3, 4, 5] rfl ?_
        exact j_X11_game_108_60_ok hB hd M hR
noncomputable def j_X11_game_114 (v4_114 : Int32) (M : zM) : Option (Int32 × zM) :=
  some (v4_114, M)
set_option maxRecDepth 100000 in
theorem j_X11_game_114_ok {C : zC} {d : Nat} {g : zG} {l : Launch} {w : zW} {r : Int32 × zM} {v4_114 : Int32} (hB : bOK C cX11_game 7 RX11 d g l w false) (hd : 3 ≤ d) (M : zM) (hR : RtI C cX11_game w r.1 r.2) : Sg C w (0, 0) 114 [(4, .int v4_114)] [] M (j_X11_game_114 v4_114 M) (fun q => q = r) := by
  have hC := hB.1.1
  have hq1 : 1 ≤ d := by omega
  unfold j_X11_game_114
  refine x_iload hC dX11_game_114 0 rfl ?_
  exact r_retI hR dX11_game_116 (fun h => h)
noncomputable def f_X11_game (p1 : Int32) (p2 : Int32) (p3 : Int32) (M : zM) : Option (Int32 × zM) :=
  if (f_X11_within p1 (0 : Int32) (30 : Int32)) = 0 then (some ((-1 : Int32), M))
  else (if (f_X11_within p2 (0 : Int32) (30 : Int32)) = 0 then (some ((-1 : Int32), M))
  else (if (f_X11_within p3 (0 : Int32) (1 : Int32)) = 0 then (some ((-1 : Int32), M))
  else ((f_X11_layValues (p1 + p2) M).bind fun M35 =>
  if p3 = 0 then (grd (inb (((61 : Int32) * p2) + p1) 3721) (
  some ((M35 281 (ix (((61 : Int32) * p2) + p1))), M35)))
  else ((loopW (fun s => b_X11_game_60 p1 p2 s.1 s.2 M35) ((-1 : Int32), (0 : Int32))).bind (fun r => j_X11_game_114 r M35)))))
set_option maxRecDepth 100000 in
theorem f_X11_game_ok {C : zC} {d : Nat} {g : zG} {l : Launch} {w : zW} {r : Int32 × zM} {p1 : Int32} {p2 : Int32} {p3 : Int32} (hB : bOK C cX11_game 7 RX11 d g l w false) (hd : 3 ≤ d) (M : zM) (hR : RtI C cX11_game w r.1 r.2) : Sg C w (0, 0) 0 [(0, zr w 257), (1, .int p1), (2, .int p2), (3, .int p3)] [] M (f_X11_game p1 p2 p3 M) (fun q => q = r) := by
  have hC := hB.1.1
  have hq1 : 1 ≤ d := by omega
  unfold f_X11_game
  refine x_iload_n hC dX11_game_0 rfl 1 rfl ?_
  refine x_iconst (v := (0 : Int32)) hC dX11_game_1 ki_0 ?_
  refine x_bipush (v := (30 : Int32)) hC dX11_game_2 kb_30 ?_
  refine r_cS0 (as := [.int p1, .int (0 : Int32), .int (30 : Int32)]) (rest := []) hB dX11_game_4 ks_X11_100 hq1 rfl rfl (Nat.le_of_ble_eq_true rfl) (f_X11_within_met hB.2 (by omega)) ?_
  refine x_if_eq (tgt := 29) hC dX11_game_7 (by decide) ?_ ?_
  · refine x_iconst (v := (-1 : Int32)) hC dX11_game_29 ki_m1 ?_
    exact r_retI hR dX11_game_30 (fun h => h)
  · refine x_iload_n hC dX11_game_10 rfl 2 rfl ?_
    refine x_iconst (v := (0 : Int32)) hC dX11_game_11 ki_0 ?_
    refine x_bipush (v := (30 : Int32)) hC dX11_game_12 kb_30 ?_
    refine r_cS0 (as := [.int p2, .int (0 : Int32), .int (30 : Int32)]) (rest := []) hB dX11_game_14 ks_X11_100 hq1 rfl rfl (Nat.le_of_ble_eq_true rfl) (f_X11_within_met hB.2 (by omega)) ?_
    refine x_if_eq (tgt := 29) hC dX11_game_17 (by decide) ?_ ?_
    · refine x_iconst (v := (-1 : Int32)) hC dX11_game_29 ki_m1 ?_
      exact r_retI hR dX11_game_30 (fun h => h)
    · refine x_iload_n hC dX11_game_20 rfl 3 rfl ?_
      refine x_iconst (v := (0 : Int32)) hC dX11_game_21 ki_0 ?_
      refine x_iconst (v := (1 : Int32)) hC dX11_game_22 ki_1 ?_
      refine r_cS0 (as := [.int p3, .int (0 : Int32), .int (1 : Int32)]) (rest := []) hB dX11_game_23 ks_X11_100 hq1 rfl rfl (Nat.le_of_ble_eq_true rfl) (f_X11_within_met hB.2 (by omega)) ?_
      refine x_if_ne (tgt := 31) hC dX11_game_26 (by decide) ?_ ?_
      · refine x_iconst (v := (-1 : Int32)) hC dX11_game_29 ki_m1 ?_
        exact r_retI hR dX11_game_30 (fun h => h)
      · refine x_aload_n hC dX11_game_31 rfl 0 rfl ?_
        refine x_iload_n hC dX11_game_32 rfl 1 rfl ?_
        refine x_iload_n hC dX11_game_33 rfl 2 rfl ?_
        refine x_iadd hC dX11_game_34 ?_
        refine r_cVv (as := [.int (p1 + p2)]) (rest := []) hB dX11_game_35 kv_X11_408 th_257 hq1 rfl rfl (Nat.le_of_ble_eq_true rfl) (fun M' hv => f_X11_layValues_met hB.2 (by omega) hv) (fun M35 => ?_)
        refine x_iload_n hC dX11_game_38 rfl 3 rfl ?_
        refine x_if_ne (tgt := 54) hC dX11_game_39 (by decide) ?_ ?_
        · refine x_aload_n hC dX11_game_42 rfl 0 rfl ?_
          refine r_getR hB dX11_game_43 kf_X11_83 rfl th_257 rf_257_39 ?_
          refine x_bipush (v := (61 : Int32)) hC dX11_game_46 kb_61 ?_
          refine x_iload_n hC dX11_game_48 rfl 2 rfl ?_
          refine x_imul hC dX11_game_49 ?_
          refine x_iload_n hC dX11_game_50 rfl 1 rfl ?_
          refine x_iadd hC dX11_game_51 ?_
          refine r_iald hB dX11_game_52 th_281 ?_
          exact r_retI hR dX11_game_53 (fun h => h)
        · refine x_iconst (v := (-1 : Int32)) hC dX11_game_54 ki_m1 ?_
          refine x_istore (f := 0) hC dX11_game_55 [(4, .int (-1 : Int32)), (0, zr w 257), (1, .int p1), (2, .int p2), (3, .int p3)] (by decide) rfl ?_
          refine x_iconst (v := (0 : Int32)) hC dX11_game_57 ki_0 ?_
          refine x_istore (f := 0) hC dX11_game_58 [(5, .int (0 : Int32)), (4, .int (-1 : Int32)), (0, zr w 257), (1, .int p1), (2, .int p2), (3, .int p3)] (by decide) rfl ?_
          refine x_sub [2, 3, 4, 1, 0] rfl ?_
          refine x_loopB (pc2 := 114) (fun (s : (Int32 × Int32)) => [(0, zr w 257), (1, .int p1), (2, .int p2), (4, .int s.1), (5, .int s.2)]) (fun (s : (Int32 × Int32)) => M35) (fun (s : (Int32)) => [(4, .int s)]) (fun (s : (Int32)) => M35) ((-1 : Int32), (0 : Int32)) ?_ ?_
          · exact fun s => b_X11_game_60_ok hB hd M35 hR
          · intro r9
            exact j_X11_game_114_ok hB hd M35 hR
theorem f_X11_game_met {l : Launch} {d : Nat} {g : zG} {w : zW} {M0 : zM} {p1 : Int32} {p2 : Int32} {p3 : Int32} {M : zM} (hw : wS w) (hd : 3 ≤ d) {v : Int32} {M' : zM} (h : f_X11_game p1 p2 p3 M = some (v, M')) : zMet l yX11_game cX11_game 7 (some .int) d g w (zin false) M0 [zr w 257, .int p1, .int p2, .int p3] M (some (.int v)) M' :=
  met_i (by decide +kernel) (Nat.le_of_ble_eq_true rfl) rfl (fun C hB0 hR => f_X11_game_ok (r := (v, M')) ⟨hB0, hw⟩ hd M hR _ h rfl)
/-! WindingSquare$Day.ask(ILWindingSquare$Walker;)I -/
noncomputable def j_X1_ask_103 (a2 : Nat) (v1_103 : Int32) (M : zM) : Option (Int32 × zM) :=
  (f_X7_sum 1 (0 : Int32) M).bind fun u114 =>
  nm (mset M 84 (ix (7 : Int32)) u114) fun M117 =>
  (f_X8_watchAt 40 (M117 1 3) M117).bind fun u135 =>
  nm (mset M117 84 (ix (8 : Int32)) u135) fun M138 =>
  nm (mset M138 84 (ix (9 : Int32)) (M138 1 3)) fun M152 =>
  bnd2 (f_X3_tells 41 v1_103 84 M152) fun u165 M165 =>
  some (u165, M165)
set_option maxRecDepth 100000 in
theorem j_X1_ask_103_ok {C : zC} {d : Nat} {g : zG} {l : Launch} {w : zW} {r : Int32 × zM} {a2 : Nat} {v1_103 : Int32} (hB : bOK C cX1_ask 3 RX1 d g l w true) (h2 : tO true 9 a2) (hd : 4 ≤ d) (M : zM) (hR : RtI C cX1_ask w r.1 r.2) : Sg C w (0, 0) 103 [(0, zr w 83), (1, .int v1_103)] [] M (j_X1_ask_103 a2 v1_103 M) (fun q => q = r) := by
  have hC := hB.1.1
  have hq1 : 1 ≤ d := by omega
  unfold j_X1_ask_103
  refine x_aload_n hC dX1_ask_103 rfl 0 rfl ?_
  refine r_getR hB dX1_ask_104 kf_X1_11 rfl th_83 rf_83_5 ?_
  refine x_bipush (v := (7 : Int32)) hC dX1_ask_107 kb_7 ?_
  refine x_aload_n hC dX1_ask_109 rfl 0 rfl ?_
  refine r_getR hB dX1_ask_110 kf_X1_25 rfl th_83 rf_83_2 ?_
  refine x_iconst (v := (0 : Int32)) hC dX1_ask_113 ki_0 ?_
  refine r_cV1 (as := [.int (0 : Int32)]) (rest := [.int (7 : Int32), zr w 84]) hB dX1_ask_114 kv_X1_98 th_1 hq1 rfl rfl (Nat.le_of_ble_eq_true rfl) (fun v hv => f_X7_sum_met hB.2 th_1 (by omega) hv) (fun u114 => ?_)
  refine r_iast0 hB dX1_ask_117 th_84 ib_7_10 ?_
  refine x_mem (fun M117 => ?_)
  refine x_aload_n hC dX1_ask_118 rfl 0 rfl ?_
  refine r_getR hB dX1_ask_119 kf_X1_11 rfl th_83 rf_83_5 ?_
  refine x_bipush (v := (8 : Int32)) hC dX1_ask_122 kb_8 ?_
  refine x_aload_n hC dX1_ask_124 rfl 0 rfl ?_
  refine r_getR hB dX1_ask_125 kf_X1_29 rfl th_83 rf_83_3 ?_
  refine x_aload_n hC dX1_ask_128 rfl 0 rfl ?_
  refine r_getR hB dX1_ask_129 kf_X1_25 rfl th_83 rf_83_2 ?_
  refine r_getI hB dX1_ask_132 kf_X1_55 rfl th_1 ?_
  refine r_cV1 (as := [.int (M117 1 3)]) (rest := [.int (8 : Int32), zr w 84]) hB dX1_ask_135 kv_X1_102 th_40 hq1 rfl rfl (Nat.le_of_ble_eq_true rfl) (fun v hv => f_X8_watchAt_met hB.2 th_40 (by omega) hv) (fun u135 => ?_)
  refine r_iast0 hB dX1_ask_138 th_84 ib_8_10 ?_
  refine x_mem (fun M138 => ?_)
  refine x_aload_n hC dX1_ask_139 rfl 0 rfl ?_
  refine r_getR hB dX1_ask_140 kf_X1_11 rfl th_83 rf_83_5 ?_
  refine x_bipush (v := (9 : Int32)) hC dX1_ask_143 kb_9 ?_
  refine x_aload_n hC dX1_ask_145 rfl 0 rfl ?_
  refine r_getR hB dX1_ask_146 kf_X1_25 rfl th_83 rf_83_2 ?_
  refine r_getI hB dX1_ask_149 kf_X1_55 rfl th_1 ?_
  refine r_iast0 hB dX1_ask_152 th_84 ib_9_10 ?_
  refine x_mem (fun M152 => ?_)
  refine x_aload_n hC dX1_ask_153 rfl 0 rfl ?_
  refine r_getR hB dX1_ask_154 kf_X1_29 rfl th_83 rf_83_3 ?_
  refine r_getR hB dX1_ask_157 kf_X1_107 rfl th_40 rf_40_0 ?_
  refine x_iload_n hC dX1_ask_160 rfl 1 rfl ?_
  refine x_aload_n hC dX1_ask_161 rfl 0 rfl ?_
  refine r_getR hB dX1_ask_162 kf_X1_11 rfl th_83 rf_83_5 ?_
  refine r_cV2 (as := [.int v1_103, zr w 84]) (rest := []) hB dX1_ask_165 kv_X1_111 th_41 hq1 rfl rfl (Nat.le_of_ble_eq_true rfl) (fun v M' hv => f_X3_tells_met hB.2 th_41 th_84 (by omega) hv) (fun u165 M165 => ?_)
  exact r_retI hR dX1_ask_168 (fun h => h)
noncomputable def j_X1_ask_102 (a2 : Nat) (v1_102 : Int32) (s1_102 : Int32) (s2_102 : Int32) (M : zM) : Option (Int32 × zM) :=
  grd (inb s1_102 10) (
  nm (mset M 84 (ix s1_102) s2_102) fun M102 =>
  j_X1_ask_103 a2 v1_102 M102)
set_option maxRecDepth 100000 in
theorem j_X1_ask_102_ok {C : zC} {d : Nat} {g : zG} {l : Launch} {w : zW} {r : Int32 × zM} {a2 : Nat} {v1_102 : Int32} {s1_102 : Int32} {s2_102 : Int32} (hB : bOK C cX1_ask 3 RX1 d g l w true) (h2 : tO true 9 a2) (hd : 4 ≤ d) (M : zM) (hR : RtI C cX1_ask w r.1 r.2) : Sg C w (0, 0) 102 [(0, zr w 83), (1, .int v1_102)] [.int s2_102, .int s1_102, zr w 84] M (j_X1_ask_102 a2 v1_102 s1_102 s2_102 M) (fun q => q = r) := by
  have hC := hB.1.1
  have hq1 : 1 ≤ d := by omega
  unfold j_X1_ask_102
  refine r_iast hB dX1_ask_102 th_84 ?_
  refine x_mem (fun M102 => ?_)
  exact j_X1_ask_103_ok hB h2 hd M102 hR
noncomputable def f_X1_ask (p1 : Int32) (a2 : Nat) (M : zM) : Option (Int32 × zM) :=
  (f_J7_fill_53178 84 (0 : Int32) M).bind fun M5 =>
  nm (mset M5 84 (ix (0 : Int32)) (M5 a2 0)) fun M17 =>
  if (M17 a2 1) = 0 then (j_X1_ask_103 a2 p1 M17)
  else (nm (mset M17 84 (ix (1 : Int32)) (M17 a2 5)) fun M34 =>
  nm (mset M34 84 (ix (2 : Int32)) (M34 a2 6)) fun M44 =>
  nm (mset M44 84 (ix (3 : Int32)) (M44 a2 2)) fun M54 =>
  nm (mset M54 84 (ix (4 : Int32)) (M54 a2 3)) fun M64 =>
  nm (mset M64 84 (ix (5 : Int32)) (M64 a2 4)) fun M74 =>
  grd (inb (f_X9_at a2 M74) 144) (
  if (M74 3 (ix (f_X9_at a2 M74))) = (2 : Int32) then (j_X1_ask_102 a2 p1 (6 : Int32) (1 : Int32) M74)
  else (j_X1_ask_102 a2 p1 (6 : Int32) (0 : Int32) M74)))
set_option maxRecDepth 100000 in
theorem f_X1_ask_ok {C : zC} {d : Nat} {g : zG} {l : Launch} {w : zW} {r : Int32 × zM} {p1 : Int32} {a2 : Nat} (hB : bOK C cX1_ask 3 RX1 d g l w true) (h2 : tO true 9 a2) (hd : 4 ≤ d) (M : zM) (hR : RtI C cX1_ask w r.1 r.2) : Sg C w (0, 0) 0 [(0, zr w 83), (1, .int p1), (2, zr w a2)] [] M (f_X1_ask p1 a2 M) (fun q => q = r) := by
  have hC := hB.1.1
  have hq1 : 1 ≤ d := by omega
  unfold f_X1_ask
  refine x_aload_n hC dX1_ask_0 rfl 0 rfl ?_
  refine r_getR hB dX1_ask_1 kf_X1_11 rfl th_83 rf_83_5 ?_
  refine x_iconst (v := (0 : Int32)) hC dX1_ask_4 ki_0 ?_
  refine r_cSv (as := [zr w 84, .int (0 : Int32)]) (rest := []) hB dX1_ask_5 ks_X1_80 hq1 rfl rfl (Nat.le_of_ble_eq_true rfl) (fun M' hv => f_J7_fill_53178_met hB.2 (tA.toI th_84) (by omega) hv) (fun M5 => ?_)
  refine x_aload_n hC dX1_ask_8 rfl 0 rfl ?_
  refine r_getR hB dX1_ask_9 kf_X1_11 rfl th_83 rf_83_5 ?_
  refine x_iconst (v := (0 : Int32)) hC dX1_ask_12 ki_0 ?_
  refine x_aload_n hC dX1_ask_13 rfl 2 rfl ?_
  refine r_getI hB dX1_ask_14 kf_X1_86 rfl h2 ?_
  refine r_iast0 hB dX1_ask_17 th_84 ib_0_10 ?_
  refine x_mem (fun M17 => ?_)
  refine x_aload_n hC dX1_ask_18 rfl 2 rfl ?_
  refine r_getI hB dX1_ask_19 kf_X1_47 rfl h2 ?_
  refine x_if_eq (tgt := 103) hC dX1_ask_22 (by decide) ?_ ?_
  · refine x_sub [0, 1] rfl ?_
    exact j_X1_ask_103_ok hB h2 hd M17 hR
  · refine x_aload_n hC dX1_ask_25 rfl 0 rfl ?_
    refine r_getR hB dX1_ask_26 kf_X1_11 rfl th_83 rf_83_5 ?_
    refine x_iconst (v := (1 : Int32)) hC dX1_ask_29 ki_1 ?_
    refine x_aload_n hC dX1_ask_30 rfl 2 rfl ?_
    refine r_getI hB dX1_ask_31 kf_X1_61 rfl h2 ?_
    refine r_iast0 hB dX1_ask_34 th_84 ib_1_10 ?_
    refine x_mem (fun M34 => ?_)
    refine x_aload_n hC dX1_ask_35 rfl 0 rfl ?_
    refine r_getR hB dX1_ask_36 kf_X1_11 rfl th_83 rf_83_5 ?_
    refine x_iconst (v := (2 : Int32)) hC dX1_ask_39 ki_2 ?_
    refine x_aload_n hC dX1_ask_40 rfl 2 rfl ?_
    refine r_getI hB dX1_ask_41 kf_X1_71 rfl h2 ?_
    refine r_iast0 hB dX1_ask_44 th_84 ib_2_10 ?_
    refine x_mem (fun M44 => ?_)
    refine x_aload_n hC dX1_ask_45 rfl 0 rfl ?_
    refine r_getR hB dX1_ask_46 kf_X1_11 rfl th_83 rf_83_5 ?_
    refine x_iconst (v := (3 : Int32)) hC dX1_ask_49 ki_3 ?_
    refine x_aload_n hC dX1_ask_50 rfl 2 rfl ?_
    refine r_getI hB dX1_ask_51 kf_X1_89 rfl h2 ?_
    refine r_iast0 hB dX1_ask_54 th_84 ib_3_10 ?_
    refine x_mem (fun M54 => ?_)
    refine x_aload_n hC dX1_ask_55 rfl 0 rfl ?_
    refine r_getR hB dX1_ask_56 kf_X1_11 rfl th_83 rf_83_5 ?_
    refine x_iconst (v := (4 : Int32)) hC dX1_ask_59 ki_4 ?_
    refine x_aload_n hC dX1_ask_60 rfl 2 rfl ?_
    refine r_getI hB dX1_ask_61 kf_X1_92 rfl h2 ?_
    refine r_iast0 hB dX1_ask_64 th_84 ib_4_10 ?_
    refine x_mem (fun M64 => ?_)
    refine x_aload_n hC dX1_ask_65 rfl 0 rfl ?_
    refine r_getR hB dX1_ask_66 kf_X1_11 rfl th_83 rf_83_5 ?_
    refine x_iconst (v := (5 : Int32)) hC dX1_ask_69 ki_5 ?_
    refine x_aload_n hC dX1_ask_70 rfl 2 rfl ?_
    refine r_getI hB dX1_ask_71 kf_X1_95 rfl h2 ?_
    refine r_iast0 hB dX1_ask_74 th_84 ib_5_10 ?_
    refine x_mem (fun M74 => ?_)
    refine x_aload_n hC dX1_ask_75 rfl 0 rfl ?_
    refine r_getR hB dX1_ask_76 kf_X1_11 rfl th_83 rf_83_5 ?_
    refine x_bipush (v := (6 : Int32)) hC dX1_ask_79 kb_6 ?_
    refine x_aload_n hC dX1_ask_81 rfl 0 rfl ?_
    refine r_getR hB dX1_ask_82 kf_X1_25 rfl th_83 rf_83_2 ?_
    refine r_getR hB dX1_ask_85 kf_X1_64 rfl th_1 rf_1_1 ?_
    refine x_aload_n hC dX1_ask_88 rfl 2 rfl ?_
    refine r_cV0 (as := []) (rest := [zr w 3, .int (6 : Int32), zr w 84]) hB dX1_ask_89 kv_X1_67 h2 hq1 rfl rfl (Nat.le_of_ble_eq_true rfl) (f_X9_at_met hB.2 h2 (by omega)) ?_
    refine r_iald hB dX1_ask_92 th_3 ?_
    refine x_iconst (v := (2 : Int32)) hC dX1_ask_93 ki_2 ?_
    refine x_icmp_ne (tgt := 101) hC dX1_ask_94 (by decide) ?_ ?_
    · refine x_iconst (v := (1 : Int32)) hC dX1_ask_97 ki_1 ?_
      refine x_goto (tgt := 102) hC dX1_ask_98 (by decide) ?_
      refine x_sub [0, 1] rfl ?_
      exact j_X1_ask_102_ok hB h2 hd M74 hR
    · refine x_iconst (v := (0 : Int32)) hC dX1_ask_101 ki_0 ?_
      refine x_sub [0, 1] rfl ?_
      exact j_X1_ask_102_ok hB h2 hd M74 hR
theorem f_X1_ask_met {l : Launch} {d : Nat} {g : zG} {w : zW} {M0 : zM} {p1 : Int32} {a2 : Nat} {M : zM} (hw : wS w) (h2 : tO true 9 a2) (hd : 4 ≤ d) {v : Int32} {M' : zM} (h : f_X1_ask p1 a2 M = some (v, M')) : zMet l yX1_ask cX1_ask 3 (some .int) d g w (zin true) M0 [zr w 83, .int p1, zr w a2] M (some (.int v)) M' :=
  met_i (by decide +kernel) (Nat.le_of_ble_eq_true rfl) rfl (fun C hB0 hR => f_X1_ask_ok (r := (v, M')) ⟨hB0, hw⟩ h2 hd M hR _ h rfl)
/-! WindingSquare$Day.meeting(II)I -/
noncomputable def b_X1_meeting_34 (v1_34 : Int32) (v2_34 : Int32) (v3_34 : Int32) (M : zM) : Option ((Int32 × zM) ⊕ ((zM) ⊕ (Int32 × zM))) :=
  if (60 : Int32) < v3_34 then (some (.inr (.inl M)))
  else ((f_X1_actAlone v1_34 85 M).bind fun M46_34 =>
  (f_X1_actAlone v2_34 86 M46_34).bind fun M55_34 =>
  if (M55_34 85 1) = 0 then (some (.inr (.inr ((-1 : Int32), M55_34))))
  else (if (M55_34 86 1) = 0 then (some (.inr (.inr ((-1 : Int32), M55_34))))
  else (if (f_X9_at 85 M55_34) = (f_X9_at 86 M55_34) then (some (.inr (.inr (v3_34, M55_34))))
  else (some (.inl ((v3_34 + (1 : Int32)), M55_34))))))
set_option maxRecDepth 100000 in
theorem b_X1_meeting_34_ok {C : zC} {d : Nat} {g : zG} {l : Launch} {w : zW} {r : Int32 × zM} {v1_34 : Int32} {v2_34 : Int32} {v3_34 : Int32} (hB : bOK C cX1_meeting 4 RX1 d g l w true) (hd : 4 ≤ d) (M : zM) (hR : RtI C cX1_meeting w r.1 r.2) : Sg C w (0, 0) 34 [(0, zr w 83), (1, .int v1_34), (2, .int v2_34), (3, .int v3_34)] [] M (b_X1_meeting_34 v1_34 v2_34 v3_34 M) (fun o => Sum.elim (fun (s : (Int32 × zM)) => Zs C w (0, 0) 34 [(0, zr w 83), (1, .int v1_34), (2, .int v2_34), (3, .int s.1)] [] s.2) (fun q => Sum.elim (fun (s : (zM)) => Zs C w (0, 0) 105 [] [] s) (fun q => q = r) q) o) := by
  have hC := hB.1.1
  have hq1 : 1 ≤ d := by omega
  unfold b_X1_meeting_34
  refine x_iload_n hC dX1_meeting_34 rfl 3 rfl ?_
  refine x_bipush (v := (60 : Int32)) hC dX1_meeting_35 kb_60 ?_
  refine x_icmp_gt (tgt := 105) hC dX1_meeting_37 (by decide) ?_ ?_
  · refine x_sub [] rfl ?_
    exact x_done (fun h => h)
  · refine x_aload_n hC dX1_meeting_40 rfl 0 rfl ?_
    refine x_iload_n hC dX1_meeting_41 rfl 1 rfl ?_
    refine x_aload_n hC dX1_meeting_42 rfl 0 rfl ?_
    refine r_getR hB dX1_meeting_43 kf_X1_18 rfl th_83 rf_83_6 ?_
    refine r_cVv (as := [.int v1_34, zr w 85]) (rest := []) hB dX1_meeting_46 kv_X1_121 th_83 hq1 rfl rfl (Nat.le_of_ble_eq_true rfl) (fun M' hv => f_X1_actAlone_met hB.2 th_85 (by omega) hv) (fun M46_34 => ?_)
    refine x_aload_n hC dX1_meeting_49 rfl 0 rfl ?_
    refine x_iload_n hC dX1_meeting_50 rfl 2 rfl ?_
    refine x_aload_n hC dX1_meeting_51 rfl 0 rfl ?_
    refine r_getR hB dX1_meeting_52 kf_X1_22 rfl th_83 rf_83_7 ?_
    refine r_cVv (as := [.int v2_34, zr w 86]) (rest := []) hB dX1_meeting_55 kv_X1_121 th_83 hq1 rfl rfl (Nat.le_of_ble_eq_true rfl) (fun M' hv => f_X1_actAlone_met hB.2 th_86 (by omega) hv) (fun M55_34 => ?_)
    refine x_aload_n hC dX1_meeting_58 rfl 0 rfl ?_
    refine r_getR hB dX1_meeting_59 kf_X1_18 rfl th_83 rf_83_6 ?_
    refine r_getI hB dX1_meeting_62 kf_X1_47 rfl th_85 ?_
    refine x_if_eq (tgt := 78) hC dX1_meeting_65 (by decide) ?_ ?_
    · refine x_iconst (v := (-1 : Int32)) hC dX1_meeting_78 ki_m1 ?_
      exact r_retI hR dX1_meeting_79 (fun h => h)
    · refine x_aload_n hC dX1_meeting_68 rfl 0 rfl ?_
      refine r_getR hB dX1_meeting_69 kf_X1_22 rfl th_83 rf_83_7 ?_
      refine r_getI hB dX1_meeting_72 kf_X1_47 rfl th_86 ?_
      refine x_if_ne (tgt := 80) hC dX1_meeting_75 (by decide) ?_ ?_
      · refine x_iconst (v := (-1 : Int32)) hC dX1_meeting_78 ki_m1 ?_
        exact r_retI hR dX1_meeting_79 (fun h => h)
      · refine x_aload_n hC dX1_meeting_80 rfl 0 rfl ?_
        refine r_getR hB dX1_meeting_81 kf_X1_18 rfl th_83 rf_83_6 ?_
        refine r_cV0 (as := []) (rest := []) hB dX1_meeting_84 kv_X1_67 th_85 hq1 rfl rfl (Nat.le_of_ble_eq_true rfl) (f_X9_at_met hB.2 th_85 (by omega)) ?_
        refine x_aload_n hC dX1_meeting_87 rfl 0 rfl ?_
        refine r_getR hB dX1_meeting_88 kf_X1_22 rfl th_83 rf_83_7 ?_
        refine r_cV0 (as := []) (rest := [.int (f_X9_at 85 M55_34)]) hB dX1_meeting_91 kv_X1_67 th_86 hq1 rfl rfl (Nat.le_of_ble_eq_true rfl) (f_X9_at_met hB.2 th_86 (by omega)) ?_
        refine x_icmp_ne (tgt := 99) hC dX1_meeting_94 (by decide) ?_ ?_
        · refine x_iload_n hC dX1_meeting_97 rfl 3 rfl ?_
          exact r_retI hR dX1_meeting_98 (fun h => h)
        · refine x_iinc hC dX1_meeting_99 ki_1 [(3, .int (v3_34 + (1 : Int32))), (0, zr w 83), (1, .int v1_34), (2, .int v2_34)] 3 rfl (by decide) rfl ?_
          refine x_goto (tgt := 34) hC dX1_meeting_102 (by decide) ?_
          refine x_sub [1, 2, 3, 0] rfl ?_
          exact x_done (fun h => h)
noncomputable def j_X1_meeting_105 (M : zM) : Option (Int32 × zM) :=
  some ((-1 : Int32), M)
set_option maxRecDepth 100000 in
theorem j_X1_meeting_105_ok {C : zC} {d : Nat} {g : zG} {l : Launch} {w : zW} {r : Int32 × zM} (hB : bOK C cX1_meeting 4 RX1 d g l w true) (hd : 4 ≤ d) (M : zM) (hR : RtI C cX1_meeting w r.1 r.2) : Sg C w (0, 0) 105 [] [] M (j_X1_meeting_105 M) (fun q => q = r) := by
  have hC := hB.1.1
  have hq1 : 1 ≤ d := by omega
  unfold j_X1_meeting_105
  refine x_iconst (v := (-1 : Int32)) hC dX1_meeting_105 ki_m1 ?_
  exact r_retI hR dX1_meeting_106 (fun h => h)
noncomputable def f_X1_meeting (p1 : Int32) (p2 : Int32) (M : zM) : Option (Int32 × zM) :=
  grd (inb p1 16) (
  (f_X9_copyFrom 85 (1 + 3 + ix p1) M).bind fun M13 =>
  grd (inb p2 16) (
  (f_X9_copyFrom 86 (1 + 3 + ix p2) M13).bind fun M29 =>
  (loopW (fun s => b_X1_meeting_34 p1 p2 s.1 s.2) ((1 : Int32), M29)).bind (fun q => Sum.elim (fun r => j_X1_meeting_105 r) some q)))
set_option maxRecDepth 100000 in
theorem f_X1_meeting_ok {C : zC} {d : Nat} {g : zG} {l : Launch} {w : zW} {r : Int32 × zM} {p1 : Int32} {p2 : Int32} (hB : bOK C cX1_meeting 4 RX1 d g l w true) (hd : 4 ≤ d) (M : zM) (hR : RtI C cX1_meeting w r.1 r.2) : Sg C w (0, 0) 0 [(0, zr w 83), (1, .int p1), (2, .int p2)] [] M (f_X1_meeting p1 p2 M) (fun q => q = r) := by
  have hC := hB.1.1
  have hq1 : 1 ≤ d := by omega
  unfold f_X1_meeting
  refine x_aload_n hC dX1_meeting_0 rfl 0 rfl ?_
  refine r_getR hB dX1_meeting_1 kf_X1_18 rfl th_83 rf_83_6 ?_
  refine x_aload_n hC dX1_meeting_4 rfl 0 rfl ?_
  refine r_getR hB dX1_meeting_5 kf_X1_25 rfl th_83 rf_83_2 ?_
  refine r_getR hB dX1_meeting_8 kf_X1_43 rfl th_1 rf_1_0 ?_
  refine x_iload_n hC dX1_meeting_11 rfl 1 rfl ?_
  refine r_aaW (a := 1) hB dX1_meeting_12 th_1 (fun hg12 => ?_)
  refine r_cVv (as := [zr w (1 + 3 + ix p1)]) (rest := []) hB dX1_meeting_13 kv_X1_117 th_85 hq1 rfl rfl (Nat.le_of_ble_eq_true rfl) (fun M' hv => f_X9_copyFrom_met hB.2 th_85 (nv_wk th_1 hg12).2 (by omega) hv) (fun M13 => ?_)
  refine x_aload_n hC dX1_meeting_16 rfl 0 rfl ?_
  refine r_getR hB dX1_meeting_17 kf_X1_22 rfl th_83 rf_83_7 ?_
  refine x_aload_n hC dX1_meeting_20 rfl 0 rfl ?_
  refine r_getR hB dX1_meeting_21 kf_X1_25 rfl th_83 rf_83_2 ?_
  refine r_getR hB dX1_meeting_24 kf_X1_43 rfl th_1 rf_1_0 ?_
  refine x_iload_n hC dX1_meeting_27 rfl 2 rfl ?_
  refine r_aaW (a := 1) hB dX1_meeting_28 th_1 (fun hg28 => ?_)
  refine r_cVv (as := [zr w (1 + 3 + ix p2)]) (rest := []) hB dX1_meeting_29 kv_X1_117 th_86 hq1 rfl rfl (Nat.le_of_ble_eq_true rfl) (fun M' hv => f_X9_copyFrom_met hB.2 th_86 (nv_wk th_1 hg28).2 (by omega) hv) (fun M29 => ?_)
  refine x_iconst (v := (1 : Int32)) hC dX1_meeting_32 ki_1 ?_
  refine x_istore_n hC dX1_meeting_33 rfl [(3, .int (1 : Int32)), (0, zr w 83), (1, .int p1), (2, .int p2)] (by decide) rfl ?_
  refine x_sub [1, 2, 3, 0] rfl ?_
  refine x_loopR (pc2 := 105) (fun (s : (Int32 × zM)) => [(0, zr w 83), (1, .int p1), (2, .int p2), (3, .int s.1)]) (fun (s : (Int32 × zM)) => s.2) (fun (s : (zM)) => []) (fun (s : (zM)) => s) ((1 : Int32), M29) ?_ ?_
  · exact fun s => b_X1_meeting_34_ok hB hd s.2 hR
  · intro r9
    exact j_X1_meeting_105_ok hB hd r9 hR
theorem f_X1_meeting_met {l : Launch} {d : Nat} {g : zG} {w : zW} {M0 : zM} {p1 : Int32} {p2 : Int32} {M : zM} (hw : wS w) (hd : 4 ≤ d) {v : Int32} {M' : zM} (h : f_X1_meeting p1 p2 M = some (v, M')) : zMet l yX1_meeting cX1_meeting 4 (some .int) d g w (zin true) M0 [zr w 83, .int p1, .int p2] M (some (.int v)) M' :=
  met_i (by decide +kernel) (Nat.le_of_ble_eq_true rfl) rfl (fun C hB0 hR => f_X1_meeting_ok (r := (v, M')) ⟨hB0, hw⟩ hd M hR _ h rfl)
/-! WindingSquare$Grid.least(III)I -/
noncomputable def j_X2_least_145_39_76 (v3_39 : Int32) (v5_145_39_76 : Int32) (v6_76_39 : Int32) (v7_76_39 : Int32) (v8_145_39_76 : Int32) (M : zM) : Option ((Int32 × Int32 × zM) ⊕ (Int32 × zM)) :=
  some (.inl (v5_145_39_76, (v8_145_39_76 + (1 : Int32)), M))
set_option maxRecDepth 100000 in
theorem j_X2_least_145_39_76_ok {C : zC} {d : Nat} {g : zG} {l : Launch} {w : zW} {r : Int32 × zM} {v3_39 : Int32} {v6_76_39 : Int32} {v7_76_39 : Int32} {v5_145_39_76 : Int32} {v8_145_39_76 : Int32} (hB : bOK C cX2_least 10 RX2 d g l w true) (hd : 4 ≤ d) (M : zM) (hR : RtI C cX2_least w r.1 r.2) : Sg C w (0, 0) 145 [(0, zr w 87), (3, .int v3_39), (5, .int v5_145_39_76), (6, .int v6_76_39), (7, .int v7_76_39), (8, .int v8_145_39_76)] [] M (j_X2_least_145_39_76 v3_39 v5_145_39_76 v6_76_39 v7_76_39 v8_145_39_76 M) (fun o => Sum.elim (fun (s : (Int32 × Int32 × zM)) => Zs C w (0, 0) 76 [(0, zr w 87), (3, .int v3_39), (5, .int s.1), (6, .int v6_76_39), (7, .int v7_76_39), (8, .int s.2.1)] [] s.2.2) (fun (s : (Int32 × zM)) => Zs C w (0, 0) 151 [(0, zr w 87), (3, .int v3_39), (5, .int s.1), (6, .int v6_76_39)] [] s.2) o) := by
  have hC := hB.1.1
  have hq1 : 1 ≤ d := by omega
  unfold j_X2_least_145_39_76
  refine x_iinc hC dX2_least_145 ki_1 [(8, .int (v8_145_39_76 + (1 : Int32))), (0, zr w 87), (3, .int v3_39), (5, .int v5_145_39_76), (6, .int v6_76_39), (7, .int v7_76_39)] 5 rfl (by decide) rfl ?_
  refine x_goto (tgt := 76) hC dX2_least_148 (by decide) ?_
  refine x_sub [1, 2, 3, 4, 5, 0] rfl ?_
  exact x_done (fun h => h)
noncomputable def b_X2_least_76_39 (v3_39 : Int32) (v6_76_39 : Int32) (v7_76_39 : Int32) (v5_76_39 : Int32) (v8_76_39 : Int32) (M : zM) : Option ((Int32 × Int32 × zM) ⊕ (Int32 × zM)) :=
  if (3 : Int32) ≤ v8_76_39 then (some (.inr (v5_76_39, M)))
  else ((f_X2_neighbour v7_76_39 v8_76_39 M).bind fun u87_39_76 =>
  if u87_39_76 = (-1 : Int32) then (j_X2_least_145_39_76 v3_39 v5_76_39 v6_76_39 v7_76_39 v8_76_39 M)
  else (grd (inb u87_39_76 576) (
  if (M 88 (ix u87_39_76)) = (-1 : Int32) then (if (576 : Int32) ≤ v5_76_39 then (j_X2_least_145_39_76 v3_39 v5_76_39 v6_76_39 v7_76_39 v8_76_39 M)
  else (grd (inb v7_76_39 576) (
  grd (inb u87_39_76 576) (
  nm (mset M 88 (ix u87_39_76) ((M 88 (ix v7_76_39)) + (1 : Int32))) fun M132_39_76 =>
  grd (inb v5_76_39 576) (
  nm (mset M132_39_76 90 (ix v5_76_39) u87_39_76) fun M141_39_76 =>
  j_X2_least_145_39_76 v3_39 (v5_76_39 + (1 : Int32)) v6_76_39 v7_76_39 v8_76_39 M141_39_76)))))
  else (j_X2_least_145_39_76 v3_39 v5_76_39 v6_76_39 v7_76_39 v8_76_39 M))))
set_option maxRecDepth 100000 in
theorem b_X2_least_76_39_ok {C : zC} {d : Nat} {g : zG} {l : Launch} {w : zW} {r : Int32 × zM} {v3_39 : Int32} {v6_76_39 : Int32} {v7_76_39 : Int32} {v5_76_39 : Int32} {v8_76_39 : Int32} (hB : bOK C cX2_least 10 RX2 d g l w true) (hd : 4 ≤ d) (M : zM) (hR : RtI C cX2_least w r.1 r.2) : Sg C w (0, 0) 76 [(0, zr w 87), (3, .int v3_39), (5, .int v5_76_39), (6, .int v6_76_39), (7, .int v7_76_39), (8, .int v8_76_39)] [] M (b_X2_least_76_39 v3_39 v6_76_39 v7_76_39 v5_76_39 v8_76_39 M) (fun o => Sum.elim (fun (s : (Int32 × Int32 × zM)) => Zs C w (0, 0) 76 [(0, zr w 87), (3, .int v3_39), (5, .int s.1), (6, .int v6_76_39), (7, .int v7_76_39), (8, .int s.2.1)] [] s.2.2) (fun (s : (Int32 × zM)) => Zs C w (0, 0) 151 [(0, zr w 87), (3, .int v3_39), (5, .int s.1), (6, .int v6_76_39)] [] s.2) o) := by
  have hC := hB.1.1
  have hq1 : 1 ≤ d := by omega
  unfold b_X2_least_76_39
  refine x_iload hC dX2_least_76 5 rfl ?_
  refine x_iconst (v := (3 : Int32)) hC dX2_least_78 ki_3 ?_
  refine x_icmp_ge (tgt := 151) hC dX2_least_79 (by decide) ?_ ?_
  · refine x_sub [0, 1, 2, 3] rfl ?_
    exact x_done (fun h => h)
  · refine x_aload_n hC dX2_least_82 rfl 0 rfl ?_
    refine x_iload hC dX2_least_83 4 rfl ?_
    refine x_iload hC dX2_least_85 5 rfl ?_
    refine r_cV1 (as := [.int v7_76_39, .int v8_76_39]) (rest := []) hB dX2_least_87 kv_X2_46 th_87 hq1 rfl rfl (Nat.le_of_ble_eq_true rfl) (fun v hv => f_X2_neighbour_met hB.2 (by omega) hv) (fun u87_39_76 => ?_)
    refine x_istore (f := 0) hC dX2_least_90 [(9, .int u87_39_76), (0, zr w 87), (3, .int v3_39), (5, .int v5_76_39), (6, .int v6_76_39), (7, .int v7_76_39), (8, .int v8_76_39)] (by decide) rfl ?_
    refine x_iload hC dX2_least_92 0 rfl ?_
    refine x_iconst (v := (-1 : Int32)) hC dX2_least_94 ki_m1 ?_
    refine x_icmp_eq (tgt := 145) hC dX2_least_95 (by decide) ?_ ?_
    · refine x_sub [1, 2, 3, 4, 5, 6] rfl ?_
      exact j_X2_least_145_39_76_ok hB hd M hR
    · refine x_aload_n hC dX2_least_98 rfl 1 rfl ?_
      refine r_getR hB dX2_least_99 kf_X2_11 rfl th_87 rf_87_1 ?_
      refine x_iload hC dX2_least_102 0 rfl ?_
      refine r_iald hB dX2_least_104 th_88 ?_
      refine x_iconst (v := (-1 : Int32)) hC dX2_least_105 ki_m1 ?_
      refine x_icmp_ne (tgt := 145) hC dX2_least_106 (by decide) ?_ ?_
      · refine x_iload hC dX2_least_109 3 rfl ?_
        refine x_sipush (v := (576 : Int32)) hC dX2_least_111 kh_576 ?_
        refine x_icmp_ge (tgt := 145) hC dX2_least_114 (by decide) ?_ ?_
        · refine x_sub [1, 2, 3, 4, 5, 6] rfl ?_
          exact j_X2_least_145_39_76_ok hB hd M hR
        · refine x_aload_n hC dX2_least_117 rfl 1 rfl ?_
          refine r_getR hB dX2_least_118 kf_X2_11 rfl th_87 rf_87_1 ?_
          refine x_iload hC dX2_least_121 0 rfl ?_
          refine x_aload_n hC dX2_least_123 rfl 1 rfl ?_
          refine r_getR hB dX2_least_124 kf_X2_11 rfl th_87 rf_87_1 ?_
          refine x_iload hC dX2_least_127 5 rfl ?_
          refine r_iald hB dX2_least_129 th_88 ?_
          refine x_iconst (v := (1 : Int32)) hC dX2_least_130 ki_1 ?_
          refine x_iadd hC dX2_least_131 ?_
          refine r_iast hB dX2_least_132 th_88 ?_
          refine x_mem (fun M132_39_76 => ?_)
          refine x_aload_n hC dX2_least_133 rfl 1 rfl ?_
          refine r_getR hB dX2_least_134 kf_X2_18 rfl th_87 rf_87_3 ?_
          refine x_iload hC dX2_least_137 3 rfl ?_
          refine x_iload hC dX2_least_139 0 rfl ?_
          refine r_iast hB dX2_least_141 th_90 ?_
          refine x_mem (fun M141_39_76 => ?_)
          refine x_iinc hC dX2_least_142 ki_1 [(5, .int (v5_76_39 + (1 : Int32))), (9, .int u87_39_76), (0, zr w 87), (3, .int v3_39), (6, .int v6_76_39), (7, .int v7_76_39), (8, .int v8_76_39)] 3 rfl (by decide) rfl ?_
          refine x_sub [2, 3, 0, 4, 5, 6] rfl ?_
          exact j_X2_least_145_39_76_ok hB hd M141_39_76 hR
      · refine x_sub [1, 2, 3, 4, 5, 6] rfl ?_
        exact j_X2_least_145_39_76_ok hB hd M hR
noncomputable def j_X2_least_151_39 (v3_39 : Int32) (v5_151_39 : Int32) (v6_151_39 : Int32) (M : zM) : Option ((Int32 × Int32 × zM) ⊕ ((zM) ⊕ (Int32 × zM))) :=
  some (.inl (v5_151_39, (v6_151_39 + (1 : Int32)), M))
set_option maxRecDepth 100000 in
theorem j_X2_least_151_39_ok {C : zC} {d : Nat} {g : zG} {l : Launch} {w : zW} {r : Int32 × zM} {v3_39 : Int32} {v5_151_39 : Int32} {v6_151_39 : Int32} (hB : bOK C cX2_least 10 RX2 d g l w true) (hd : 4 ≤ d) (M : zM) (hR : RtI C cX2_least w r.1 r.2) : Sg C w (0, 0) 151 [(0, zr w 87), (3, .int v3_39), (5, .int v5_151_39), (6, .int v6_151_39)] [] M (j_X2_least_151_39 v3_39 v5_151_39 v6_151_39 M) (fun o => Sum.elim (fun (s : (Int32 × Int32 × zM)) => Zs C w (0, 0) 39 [(0, zr w 87), (3, .int v3_39), (5, .int s.1), (6, .int s.2.1)] [] s.2.2) (fun q => Sum.elim (fun (s : (zM)) => Zs C w (0, 0) 157 [] [] s) (fun q => q = r) q) o) := by
  have hC := hB.1.1
  have hq1 : 1 ≤ d := by omega
  unfold j_X2_least_151_39
  refine x_iinc hC dX2_least_151 ki_1 [(6, .int (v6_151_39 + (1 : Int32))), (0, zr w 87), (3, .int v3_39), (5, .int v5_151_39)] 3 rfl (by decide) rfl ?_
  refine x_goto (tgt := 39) hC dX2_least_154 (by decide) ?_
  refine x_sub [1, 2, 3, 0] rfl ?_
  exact x_done (fun h => h)
noncomputable def b_X2_least_39 (v3_39 : Int32) (v5_39 : Int32) (v6_39 : Int32) (M : zM) : Option ((Int32 × Int32 × zM) ⊕ ((zM) ⊕ (Int32 × zM))) :=
  if v5_39 ≤ v6_39 then (some (.inr (.inl M)))
  else (grd (inb v6_39 576) (
  nm (M 90 (ix v6_39)) fun v7_53_39 =>
  if (irem v7_53_39 (144 : Int32)) = v3_39 then (grd (inb v7_53_39 576) (
  some (.inr (.inr ((M 88 (ix v7_53_39)), M)))))
  else ((loopW (fun s => b_X2_least_76_39 v3_39 v6_39 v7_53_39 s.1 s.2.1 s.2.2) (v5_39, (0 : Int32), M)).bind (fun r => j_X2_least_151_39 v3_39 r.1 v6_39 r.2))))
set_option maxRecDepth 100000 in
theorem b_X2_least_39_ok {C : zC} {d : Nat} {g : zG} {l : Launch} {w : zW} {r : Int32 × zM} {v3_39 : Int32} {v5_39 : Int32} {v6_39 : Int32} (hB : bOK C cX2_least 10 RX2 d g l w true) (hd : 4 ≤ d) (M : zM) (hR : RtI C cX2_least w r.1 r.2) : Sg C w (0, 0) 39 [(0, zr w 87), (3, .int v3_39), (5, .int v5_39), (6, .int v6_39)] [] M (b_X2_least_39 v3_39 v5_39 v6_39 M) (fun o => Sum.elim (fun (s : (Int32 × Int32 × zM)) => Zs C w (0, 0) 39 [(0, zr w 87), (3, .int v3_39), (5, .int s.1), (6, .int s.2.1)] [] s.2.2) (fun q => Sum.elim (fun (s : (zM)) => Zs C w (0, 0) 157 [] [] s) (fun q => q = r) q) o) := by
  have hC := hB.1.1
  have hq1 : 1 ≤ d := by omega
  unfold b_X2_least_39
  refine x_iload hC dX2_least_39 3 rfl ?_
  refine x_iload hC dX2_least_41 2 rfl ?_
  refine x_icmp_ge (tgt := 157) hC dX2_least_43 (by decide) ?_ ?_
  · refine x_sub [] rfl ?_
    exact x_done (fun h => h)
  · refine x_aload_n hC dX2_least_46 rfl 0 rfl ?_
    refine r_getR hB dX2_least_47 kf_X2_18 rfl th_87 rf_87_3 ?_
    refine x_iload hC dX2_least_50 3 rfl ?_
    refine r_iald hB dX2_least_52 th_90 ?_
    refine x_top (fun v7_53_39 => ?_)
    refine x_istore (f := 0) hC dX2_least_53 [(7, .int v7_53_39), (0, zr w 87), (3, .int v3_39), (5, .int v5_39), (6, .int v6_39)] (by decide) rfl ?_
    refine x_iload hC dX2_least_55 0 rfl ?_
    refine x_sipush (v := (144 : Int32)) hC dX2_least_57 kh_144 ?_
    refine x_irem0 hC dX2_least_60 nz_144 ?_
    refine x_iload_n hC dX2_least_61 rfl 2 rfl ?_
    refine x_icmp_ne (tgt := 73) hC dX2_least_62 (by decide) ?_ ?_
    · refine x_aload_n hC dX2_least_65 rfl 1 rfl ?_
      refine r_getR hB dX2_least_66 kf_X2_11 rfl th_87 rf_87_1 ?_
      refine x_iload hC dX2_least_69 0 rfl ?_
      refine r_iald hB dX2_least_71 th_88 ?_
      exact r_retI hR dX2_least_72 (fun h => h)
    · refine x_iconst (v := (0 : Int32)) hC dX2_least_73 ki_0 ?_
      refine x_istore (f := 0) hC dX2_least_74 [(8, .int (0 : Int32)), (7, .int v7_53_39), (0, zr w 87), (3, .int v3_39), (5, .int v5_39), (6, .int v6_39)] (by decide) rfl ?_
      refine x_sub [2, 3, 4, 5, 1, 0] rfl ?_
      refine x_loopB (pc2 := 151) (fun (s : (Int32 × Int32 × zM)) => [(0, zr w 87), (3, .int v3_39), (5, .int s.1), (6, .int v6_39), (7, .int v7_53_39), (8, .int s.2.1)]) (fun (s : (Int32 × Int32 × zM)) => s.2.2) (fun (s : (Int32 × zM)) => [(0, zr w 87), (3, .int v3_39), (5, .int s.1), (6, .int v6_39)]) (fun (s : (Int32 × zM)) => s.2) (v5_39, (0 : Int32), M) ?_ ?_
      · exact fun s => b_X2_least_76_39_ok hB hd s.2.2 hR
      · intro r9
        exact j_X2_least_151_39_ok hB hd r9.2 hR
noncomputable def j_X2_least_157 (M : zM) : Option (Int32 × zM) :=
  some ((-1 : Int32), M)
set_option maxRecDepth 100000 in
theorem j_X2_least_157_ok {C : zC} {d : Nat} {g : zG} {l : Launch} {w : zW} {r : Int32 × zM} (hB : bOK C cX2_least 10 RX2 d g l w true) (hd : 4 ≤ d) (M : zM) (hR : RtI C cX2_least w r.1 r.2) : Sg C w (0, 0) 157 [] [] M (j_X2_least_157 M) (fun q => q = r) := by
  have hC := hB.1.1
  have hq1 : 1 ≤ d := by omega
  unfold j_X2_least_157
  refine x_iconst (v := (-1 : Int32)) hC dX2_least_157 ki_m1 ?_
  exact r_retI hR dX2_least_158 (fun h => h)
noncomputable def f_X2_least (p1 : Int32) (p2 : Int32) (p3 : Int32) (M : zM) : Option (Int32 × zM) :=
  (f_J7_fill_53178 88 (-1 : Int32) M).bind fun M5 =>
  nm (((144 : Int32) * p2) + p1) fun v4_15 =>
  grd (inb v4_15 576) (
  nm (mset M5 88 (ix v4_15) (0 : Int32)) fun M24 =>
  nm (mset M24 90 (ix (0 : Int32)) v4_15) fun M32 =>
  (loopW (fun s => b_X2_least_39 p3 s.1 s.2.1 s.2.2) ((1 : Int32), (0 : Int32), M32)).bind (fun q => Sum.elim (fun r => j_X2_least_157 r) some q))
set_option maxRecDepth 100000 in
theorem f_X2_least_ok {C : zC} {d : Nat} {g : zG} {l : Launch} {w : zW} {r : Int32 × zM} {p1 : Int32} {p2 : Int32} {p3 : Int32} (hB : bOK C cX2_least 10 RX2 d g l w true) (hd : 4 ≤ d) (M : zM) (hR : RtI C cX2_least w r.1 r.2) : Sg C w (0, 0) 0 [(0, zr w 87), (1, .int p1), (2, .int p2), (3, .int p3)] [] M (f_X2_least p1 p2 p3 M) (fun q => q = r) := by
  have hC := hB.1.1
  have hq1 : 1 ≤ d := by omega
  unfold f_X2_least
  refine x_aload_n hC dX2_least_0 rfl 0 rfl ?_
  refine r_getR hB dX2_least_1 kf_X2_11 rfl th_87 rf_87_1 ?_
  refine x_iconst (v := (-1 : Int32)) hC dX2_least_4 ki_m1 ?_
  refine r_cSv (as := [zr w 88, .int (-1 : Int32)]) (rest := []) hB dX2_least_5 ks_X2_40 hq1 rfl rfl (Nat.le_of_ble_eq_true rfl) (fun M' hv => f_J7_fill_53178_met hB.2 (tA.toI th_88) (by omega) hv) (fun M5 => ?_)
  refine x_sipush (v := (144 : Int32)) hC dX2_least_8 kh_144 ?_
  refine x_iload_n hC dX2_least_11 rfl 2 rfl ?_
  refine x_imul hC dX2_least_12 ?_
  refine x_iload_n hC dX2_least_13 rfl 1 rfl ?_
  refine x_iadd hC dX2_least_14 ?_
  refine x_top (fun v4_15 => ?_)
  refine x_istore (f := 0) hC dX2_least_15 [(4, .int v4_15), (0, zr w 87), (1, .int p1), (2, .int p2), (3, .int p3)] (by decide) rfl ?_
  refine x_aload_n hC dX2_least_17 rfl 1 rfl ?_
  refine r_getR hB dX2_least_18 kf_X2_11 rfl th_87 rf_87_1 ?_
  refine x_iload hC dX2_least_21 0 rfl ?_
  refine x_iconst (v := (0 : Int32)) hC dX2_least_23 ki_0 ?_
  refine r_iast hB dX2_least_24 th_88 ?_
  refine x_mem (fun M24 => ?_)
  refine x_aload_n hC dX2_least_25 rfl 1 rfl ?_
  refine r_getR hB dX2_least_26 kf_X2_18 rfl th_87 rf_87_3 ?_
  refine x_iconst (v := (0 : Int32)) hC dX2_least_29 ki_0 ?_
  refine x_iload hC dX2_least_30 0 rfl ?_
  refine r_iast0 hB dX2_least_32 th_90 ib_0_576 ?_
  refine x_mem (fun M32 => ?_)
  refine x_iconst (v := (1 : Int32)) hC dX2_least_33 ki_1 ?_
  refine x_istore (f := 0) hC dX2_least_34 [(5, .int (1 : Int32)), (4, .int v4_15), (0, zr w 87), (1, .int p1), (2, .int p2), (3, .int p3)] (by decide) rfl ?_
  refine x_iconst (v := (0 : Int32)) hC dX2_least_36 ki_0 ?_
  refine x_istore (f := 0) hC dX2_least_37 [(6, .int (0 : Int32)), (5, .int (1 : Int32)), (4, .int v4_15), (0, zr w 87), (1, .int p1), (2, .int p2), (3, .int p3)] (by decide) rfl ?_
  refine x_sub [3, 6, 1, 0] rfl ?_
  refine x_loopR (pc2 := 157) (fun (s : (Int32 × Int32 × zM)) => [(0, zr w 87), (3, .int p3), (5, .int s.1), (6, .int s.2.1)]) (fun (s : (Int32 × Int32 × zM)) => s.2.2) (fun (s : (zM)) => []) (fun (s : (zM)) => s) ((1 : Int32), (0 : Int32), M32) ?_ ?_
  · exact fun s => b_X2_least_39_ok hB hd s.2.2 hR
  · intro r9
    exact j_X2_least_157_ok hB hd r9 hR
theorem f_X2_least_met {l : Launch} {d : Nat} {g : zG} {w : zW} {M0 : zM} {p1 : Int32} {p2 : Int32} {p3 : Int32} {M : zM} (hw : wS w) (hd : 4 ≤ d) {v : Int32} {M' : zM} (h : f_X2_least p1 p2 p3 M = some (v, M')) : zMet l yX2_least cX2_least 10 (some .int) d g w (zin true) M0 [zr w 87, .int p1, .int p2, .int p3] M (some (.int v)) M' :=
  met_i (by decide +kernel) (Nat.le_of_ble_eq_true rfl) rfl (fun C hB0 hR => f_X2_least_ok (r := (v, M')) ⟨hB0, hw⟩ hd M hR _ h rfl)
/-! WindingSquare$Grid.countRows(IIIII)I -/
noncomputable def b_X2_countRows_30 (v3_30 : Int32) (v4_30 : Int32) (v5_30 : Int32) (v6_30 : Int32) (M : zM) : Option ((Int32 × zM) ⊕ (zM)) :=
  if v4_30 ≤ v6_30 then (some (.inr M))
  else ((f_X2_stepOn v5_30 M).bind fun M40_30 =>
  (f_X2_turnEverywhere v5_30 M40_30).bind fun M46_30 =>
  some (.inl ((v6_30 + (1 : Int32)), M46_30)))
set_option maxRecDepth 100000 in
theorem b_X2_countRows_30_ok {C : zC} {d : Nat} {g : zG} {l : Launch} {w : zW} {r : Int32 × zM} {v3_30 : Int32} {v4_30 : Int32} {v5_30 : Int32} {v6_30 : Int32} (hB : bOK C cX2_countRows 8 RX2 d g l w true) (hd : 4 ≤ d) (M : zM) (hR : RtI C cX2_countRows w r.1 r.2) : Sg C w (0, 0) 30 [(0, zr w 87), (3, .int v3_30), (4, .int v4_30), (5, .int v5_30), (6, .int v6_30)] [] M (b_X2_countRows_30 v3_30 v4_30 v5_30 v6_30 M) (fun o => Sum.elim (fun (s : (Int32 × zM)) => Zs C w (0, 0) 30 [(0, zr w 87), (3, .int v3_30), (4, .int v4_30), (5, .int v5_30), (6, .int s.1)] [] s.2) (fun (s : (zM)) => Zs C w (0, 0) 55 [(0, zr w 87), (3, .int v3_30), (5, .int v5_30)] [] s) o) := by
  have hC := hB.1.1
  have hq1 : 1 ≤ d := by omega
  unfold b_X2_countRows_30
  refine x_iload hC dX2_countRows_30 4 rfl ?_
  refine x_iload hC dX2_countRows_32 2 rfl ?_
  refine x_icmp_ge (tgt := 55) hC dX2_countRows_34 (by decide) ?_ ?_
  · refine x_sub [0, 1, 3] rfl ?_
    exact x_done (fun h => h)
  · refine x_aload_n hC dX2_countRows_37 rfl 0 rfl ?_
    refine x_iload hC dX2_countRows_38 3 rfl ?_
    refine r_cVv (as := [.int v5_30]) (rest := []) hB dX2_countRows_40 kv_X2_66 th_87 hq1 rfl rfl (Nat.le_of_ble_eq_true rfl) (fun M' hv => f_X2_stepOn_met hB.2 (by omega) hv) (fun M40_30 => ?_)
    refine x_aload_n hC dX2_countRows_43 rfl 0 rfl ?_
    refine x_iload hC dX2_countRows_44 3 rfl ?_
    refine r_cVv (as := [.int v5_30]) (rest := []) hB dX2_countRows_46 kv_X2_62 th_87 hq1 rfl rfl (Nat.le_of_ble_eq_true rfl) (fun M' hv => f_X2_turnEverywhere_met hB.2 (by omega) hv) (fun M46_30 => ?_)
    refine x_iinc hC dX2_countRows_49 ki_1 [(6, .int (v6_30 + (1 : Int32))), (0, zr w 87), (3, .int v3_30), (4, .int v4_30), (5, .int v5_30)] 4 rfl (by decide) rfl ?_
    refine x_goto (tgt := 30) hC dX2_countRows_52 (by decide) ?_
    refine x_sub [1, 2, 3, 4, 0] rfl ?_
    exact x_done (fun h => h)
noncomputable def b_X2_countRows_61 (v3_61 : Int32) (v5_61 : Int32) (v6_61 : Int32) (v7_61 : Int32) (M : zM) : Option ((Int32 × Int32) ⊕ (Int32)) :=
  if (4 : Int32) ≤ v7_61 then (some (.inr v6_61))
  else (grd (inb ((((576 : Int32) * v5_61) + ((144 : Int32) * v7_61)) + v3_61) 4032) (
  nm (f_X2_plus v6_61 (M 91 (ix ((((576 : Int32) * v5_61) + ((144 : Int32) * v7_61)) + v3_61)))) fun v6_92_61 =>
  some (.inl (v6_92_61, (v7_61 + (1 : Int32))))))
set_option maxRecDepth 100000 in
theorem b_X2_countRows_61_ok {C : zC} {d : Nat} {g : zG} {l : Launch} {w : zW} {r : Int32 × zM} {v3_61 : Int32} {v5_61 : Int32} {v6_61 : Int32} {v7_61 : Int32} (hB : bOK C cX2_countRows 8 RX2 d g l w true) (hd : 4 ≤ d) (M : zM) (hR : RtI C cX2_countRows w r.1 r.2) : Sg C w (0, 0) 61 [(0, zr w 87), (3, .int v3_61), (5, .int v5_61), (6, .int v6_61), (7, .int v7_61)] [] M (b_X2_countRows_61 v3_61 v5_61 v6_61 v7_61 M) (fun o => Sum.elim (fun (s : (Int32 × Int32)) => Zs C w (0, 0) 61 [(0, zr w 87), (3, .int v3_61), (5, .int v5_61), (6, .int s.1), (7, .int s.2)] [] M) (fun (s : (Int32)) => Zs C w (0, 0) 100 [(6, .int s)] [] M) o) := by
  have hC := hB.1.1
  have hq1 : 1 ≤ d := by omega
  unfold b_X2_countRows_61
  refine x_iload hC dX2_countRows_61 4 rfl ?_
  refine x_iconst (v := (4 : Int32)) hC dX2_countRows_63 ki_4 ?_
  refine x_icmp_ge (tgt := 100) hC dX2_countRows_64 (by decide) ?_ ?_
  · refine x_sub [3] rfl ?_
    exact x_done (fun h => h)
  · refine x_iload hC dX2_countRows_67 3 rfl ?_
    refine x_aload_n hC dX2_countRows_69 rfl 0 rfl ?_
    refine r_getR hB dX2_countRows_70 kf_X2_21 rfl th_87 rf_87_4 ?_
    refine x_sipush (v := (576 : Int32)) hC dX2_countRows_73 kh_576 ?_
    refine x_iload hC dX2_countRows_76 2 rfl ?_
    refine x_imul hC dX2_countRows_78 ?_
    refine x_sipush (v := (144 : Int32)) hC dX2_countRows_79 kh_144 ?_
    refine x_iload hC dX2_countRows_82 4 rfl ?_
    refine x_imul hC dX2_countRows_84 ?_
    refine x_iadd hC dX2_countRows_85 ?_
    refine x_iload_n hC dX2_countRows_86 rfl 1 rfl ?_
    refine x_iadd hC dX2_countRows_87 ?_
    refine r_iald hB dX2_countRows_88 th_91 ?_
    refine r_cS0 (as := [.int v6_61, .int (M 91 (ix ((((576 : Int32) * v5_61) + ((144 : Int32) * v7_61)) + v3_61)))]) (rest := []) hB dX2_countRows_89 ks_X2_69 hq1 rfl rfl (Nat.le_of_ble_eq_true rfl) (f_X2_plus_met hB.2 (by omega)) ?_
    refine x_top (fun v6_92_61 => ?_)
    refine x_istore (f := 0) hC dX2_countRows_92 [(6, .int v6_92_61), (0, zr w 87), (3, .int v3_61), (5, .int v5_61), (7, .int v7_61)] (by decide) rfl ?_
    refine x_iinc hC dX2_countRows_94 ki_1 [(7, .int (v7_61 + (1 : Int32))), (6, .int v6_92_61), (0, zr w 87), (3, .int v3_61), (5, .int v5_61)] 4 rfl (by decide) rfl ?_
    refine x_goto (tgt := 61) hC dX2_countRows_97 (by decide) ?_
    refine x_sub [2, 3, 4, 1, 0] rfl ?_
    exact x_done (fun h => h)
noncomputable def j_X2_countRows_100 (v6_100 : Int32) (M : zM) : Option (Int32 × zM) :=
  some (v6_100, M)
set_option maxRecDepth 100000 in
theorem j_X2_countRows_100_ok {C : zC} {d : Nat} {g : zG} {l : Launch} {w : zW} {r : Int32 × zM} {v6_100 : Int32} (hB : bOK C cX2_countRows 8 RX2 d g l w true) (hd : 4 ≤ d) (M : zM) (hR : RtI C cX2_countRows w r.1 r.2) : Sg C w (0, 0) 100 [(6, .int v6_100)] [] M (j_X2_countRows_100 v6_100 M) (fun q => q = r) := by
  have hC := hB.1.1
  have hq1 : 1 ≤ d := by omega
  unfold j_X2_countRows_100
  refine x_iload hC dX2_countRows_100 0 rfl ?_
  exact r_retI hR dX2_countRows_102 (fun h => h)
noncomputable def j_X2_countRows_55 (v3_55 : Int32) (v5_55 : Int32) (M : zM) : Option (Int32 × zM) :=
  (loopW (fun s => b_X2_countRows_61 v3_55 v5_55 s.1 s.2 M) ((0 : Int32), (0 : Int32))).bind (fun r => j_X2_countRows_100 r M)
set_option maxRecDepth 100000 in
theorem j_X2_countRows_55_ok {C : zC} {d : Nat} {g : zG} {l : Launch} {w : zW} {r : Int32 × zM} {v3_55 : Int32} {v5_55 : Int32} (hB : bOK C cX2_countRows 8 RX2 d g l w true) (hd : 4 ≤ d) (M : zM) (hR : RtI C cX2_countRows w r.1 r.2) : Sg C w (0, 0) 55 [(0, zr w 87), (3, .int v3_55), (5, .int v5_55)] [] M (j_X2_countRows_55 v3_55 v5_55 M) (fun q => q = r) := by
  have hC := hB.1.1
  have hq1 : 1 ≤ d := by omega
  unfold j_X2_countRows_55
  refine x_iconst (v := (0 : Int32)) hC dX2_countRows_55 ki_0 ?_
  refine x_istore (f := 0) hC dX2_countRows_56 [(6, .int (0 : Int32)), (0, zr w 87), (3, .int v3_55), (5, .int v5_55)] (by decide) rfl ?_
  refine x_iconst (v := (0 : Int32)) hC dX2_countRows_58 ki_0 ?_
  refine x_istore (f := 0) hC dX2_countRows_59 [(7, .int (0 : Int32)), (6, .int (0 : Int32)), (0, zr w 87), (3, .int v3_55), (5, .int v5_55)] (by decide) rfl ?_
  refine x_sub [2, 3, 4, 1, 0] rfl ?_
  refine x_loopB (pc2 := 100) (fun (s : (Int32 × Int32)) => [(0, zr w 87), (3, .int v3_55), (5, .int v5_55), (6, .int s.1), (7, .int s.2)]) (fun (s : (Int32 × Int32)) => M) (fun (s : (Int32)) => [(6, .int s)]) (fun (s : (Int32)) => M) ((0 : Int32), (0 : Int32)) ?_ ?_
  · exact fun s => b_X2_countRows_61_ok hB hd M hR
  · intro r9
    exact j_X2_countRows_100_ok hB hd M hR
noncomputable def f_X2_countRows (p1 : Int32) (p2 : Int32) (p3 : Int32) (p4 : Int32) (p5 : Int32) (M : zM) : Option (Int32 × zM) :=
  (f_J7_fill_53178 92 (0 : Int32) M).bind fun M5 =>
  grd (inb (((144 : Int32) * p2) + p1) 4032) (
  nm (mset M5 92 (ix (((144 : Int32) * p2) + p1)) (1 : Int32)) fun M20 =>
  (f_X2_turnEverywhere p5 M20).bind fun M24 =>
  (loopW (fun s => b_X2_countRows_30 p3 p4 p5 s.1 s.2) ((0 : Int32), M24)).bind (fun r => j_X2_countRows_55 p3 p5 r))
set_option maxRecDepth 100000 in
theorem f_X2_countRows_ok {C : zC} {d : Nat} {g : zG} {l : Launch} {w : zW} {r : Int32 × zM} {p1 : Int32} {p2 : Int32} {p3 : Int32} {p4 : Int32} {p5 : Int32} (hB : bOK C cX2_countRows 8 RX2 d g l w true) (hd : 4 ≤ d) (M : zM) (hR : RtI C cX2_countRows w r.1 r.2) : Sg C w (0, 0) 0 [(0, zr w 87), (1, .int p1), (2, .int p2), (3, .int p3), (4, .int p4), (5, .int p5)] [] M (f_X2_countRows p1 p2 p3 p4 p5 M) (fun q => q = r) := by
  have hC := hB.1.1
  have hq1 : 1 ≤ d := by omega
  unfold f_X2_countRows
  refine x_aload_n hC dX2_countRows_0 rfl 0 rfl ?_
  refine r_getR hB dX2_countRows_1 kf_X2_24 rfl th_87 rf_87_5 ?_
  refine x_iconst (v := (0 : Int32)) hC dX2_countRows_4 ki_0 ?_
  refine r_cSv (as := [zr w 92, .int (0 : Int32)]) (rest := []) hB dX2_countRows_5 ks_X2_40 hq1 rfl rfl (Nat.le_of_ble_eq_true rfl) (fun M' hv => f_J7_fill_53178_met hB.2 (tA.toI th_92) (by omega) hv) (fun M5 => ?_)
  refine x_aload_n hC dX2_countRows_8 rfl 0 rfl ?_
  refine r_getR hB dX2_countRows_9 kf_X2_24 rfl th_87 rf_87_5 ?_
  refine x_sipush (v := (144 : Int32)) hC dX2_countRows_12 kh_144 ?_
  refine x_iload_n hC dX2_countRows_15 rfl 2 rfl ?_
  refine x_imul hC dX2_countRows_16 ?_
  refine x_iload_n hC dX2_countRows_17 rfl 1 rfl ?_
  refine x_iadd hC dX2_countRows_18 ?_
  refine x_iconst (v := (1 : Int32)) hC dX2_countRows_19 ki_1 ?_
  refine r_iast hB dX2_countRows_20 th_92 ?_
  refine x_mem (fun M20 => ?_)
  refine x_aload_n hC dX2_countRows_21 rfl 0 rfl ?_
  refine x_iload hC dX2_countRows_22 5 rfl ?_
  refine r_cVv (as := [.int p5]) (rest := []) hB dX2_countRows_24 kv_X2_62 th_87 hq1 rfl rfl (Nat.le_of_ble_eq_true rfl) (fun M' hv => f_X2_turnEverywhere_met hB.2 (by omega) hv) (fun M24 => ?_)
  refine x_iconst (v := (0 : Int32)) hC dX2_countRows_27 ki_0 ?_
  refine x_istore (f := 0) hC dX2_countRows_28 [(6, .int (0 : Int32)), (0, zr w 87), (1, .int p1), (2, .int p2), (3, .int p3), (4, .int p4), (5, .int p5)] (by decide) rfl ?_
  refine x_sub [1, 4, 5, 6, 0] rfl ?_
  refine x_loopB (pc2 := 55) (fun (s : (Int32 × zM)) => [(0, zr w 87), (3, .int p3), (4, .int p4), (5, .int p5), (6, .int s.1)]) (fun (s : (Int32 × zM)) => s.2) (fun (s : (zM)) => [(0, zr w 87), (3, .int p3), (5, .int p5)]) (fun (s : (zM)) => s) ((0 : Int32), M24) ?_ ?_
  · exact fun s => b_X2_countRows_30_ok hB hd s.2 hR
  · intro r9
    exact j_X2_countRows_55_ok hB hd r9 hR
theorem f_X2_countRows_met {l : Launch} {d : Nat} {g : zG} {w : zW} {M0 : zM} {p1 : Int32} {p2 : Int32} {p3 : Int32} {p4 : Int32} {p5 : Int32} {M : zM} (hw : wS w) (hd : 4 ≤ d) {v : Int32} {M' : zM} (h : f_X2_countRows p1 p2 p3 p4 p5 M = some (v, M')) : zMet l yX2_countRows cX2_countRows 8 (some .int) d g w (zin true) M0 [zr w 87, .int p1, .int p2, .int p3, .int p4, .int p5] M (some (.int v)) M' :=
  met_i (by decide +kernel) (Nat.le_of_ble_eq_true rfl) rfl (fun C hB0 hR => f_X2_countRows_ok (r := (v, M')) ⟨hB0, hw⟩ hd M hR _ h rfl)
/-! WindingSquare$Grid.flocks(Z)I -/
noncomputable def j_X2_flocks_57_15 (v1_15 : Int32) (v2_57_15 : Int32) (v3_57_15 : Int32) (v4_57_15 : Int32) (M : zM) : Option ((Int32 × Int32 × Int32 × zM) ⊕ (Int32 × Int32 × zM)) :=
  some (.inl (v2_57_15, v3_57_15, (v4_57_15 + (1 : Int32)), M))
set_option maxRecDepth 100000 in
theorem j_X2_flocks_57_15_ok {C : zC} {d : Nat} {g : zG} {l : Launch} {w : zW} {r : Int32 × zM} {v1_15 : Int32} {v2_57_15 : Int32} {v3_57_15 : Int32} {v4_57_15 : Int32} (hB : bOK C cX2_flocks 5 RX2 d g l w true) (hd : 4 ≤ d) (M : zM) (hR : RtI C cX2_flocks w r.1 r.2) : Sg C w (0, 0) 57 [(0, zr w 87), (1, .int v1_15), (2, .int v2_57_15), (3, .int v3_57_15), (4, .int v4_57_15)] [] M (j_X2_flocks_57_15 v1_15 v2_57_15 v3_57_15 v4_57_15 M) (fun o => Sum.elim (fun (s : (Int32 × Int32 × Int32 × zM)) => Zs C w (0, 0) 15 [(0, zr w 87), (1, .int v1_15), (2, .int s.1), (3, .int s.2.1), (4, .int s.2.2.1)] [] s.2.2.2) (fun (s : (Int32 × Int32 × zM)) => Zs C w (0, 0) 63 [(1, .int v1_15), (2, .int s.1), (3, .int s.2.1)] [] s.2.2) o) := by
  have hC := hB.1.1
  have hq1 : 1 ≤ d := by omega
  unfold j_X2_flocks_57_15
  refine x_iinc hC dX2_flocks_57 ki_1 [(4, .int (v4_57_15 + (1 : Int32))), (0, zr w 87), (1, .int v1_15), (2, .int v2_57_15), (3, .int v3_57_15)] 4 rfl (by decide) rfl ?_
  refine x_goto (tgt := 15) hC dX2_flocks_60 (by decide) ?_
  refine x_sub [1, 2, 3, 4, 0] rfl ?_
  exact x_done (fun h => h)
noncomputable def b_X2_flocks_15 (v1_15 : Int32) (v2_15 : Int32) (v3_15 : Int32) (v4_15 : Int32) (M : zM) : Option ((Int32 × Int32 × Int32 × zM) ⊕ (Int32 × Int32 × zM)) :=
  if (144 : Int32) ≤ v4_15 then (some (.inr (v2_15, v3_15, M)))
  else ((f_X2_free v4_15 M).bind fun u26_15 =>
  if u26_15 = 0 then (j_X2_flocks_57_15 v1_15 v2_15 v3_15 v4_15 M)
  else (grd (inb v4_15 576) (
  if (M 88 (ix v4_15)) = (-1 : Int32) then (bnd2 (f_X2_flockFrom v4_15 M) fun u50_15 M50_15 =>
  nm (f_J9_max_7cf53 v3_15 u50_15) fun v3_56_15 =>
  j_X2_flocks_57_15 v1_15 (v2_15 + (1 : Int32)) v3_56_15 v4_15 M50_15)
  else (j_X2_flocks_57_15 v1_15 v2_15 v3_15 v4_15 M))))
set_option maxRecDepth 100000 in
theorem b_X2_flocks_15_ok {C : zC} {d : Nat} {g : zG} {l : Launch} {w : zW} {r : Int32 × zM} {v1_15 : Int32} {v2_15 : Int32} {v3_15 : Int32} {v4_15 : Int32} (hB : bOK C cX2_flocks 5 RX2 d g l w true) (hd : 4 ≤ d) (M : zM) (hR : RtI C cX2_flocks w r.1 r.2) : Sg C w (0, 0) 15 [(0, zr w 87), (1, .int v1_15), (2, .int v2_15), (3, .int v3_15), (4, .int v4_15)] [] M (b_X2_flocks_15 v1_15 v2_15 v3_15 v4_15 M) (fun o => Sum.elim (fun (s : (Int32 × Int32 × Int32 × zM)) => Zs C w (0, 0) 15 [(0, zr w 87), (1, .int v1_15), (2, .int s.1), (3, .int s.2.1), (4, .int s.2.2.1)] [] s.2.2.2) (fun (s : (Int32 × Int32 × zM)) => Zs C w (0, 0) 63 [(1, .int v1_15), (2, .int s.1), (3, .int s.2.1)] [] s.2.2) o) := by
  have hC := hB.1.1
  have hq1 : 1 ≤ d := by omega
  unfold b_X2_flocks_15
  refine x_iload hC dX2_flocks_15 4 rfl ?_
  refine x_sipush (v := (144 : Int32)) hC dX2_flocks_17 kh_144 ?_
  refine x_icmp_ge (tgt := 63) hC dX2_flocks_20 (by decide) ?_ ?_
  · refine x_sub [1, 2, 3] rfl ?_
    exact x_done (fun h => h)
  · refine x_aload_n hC dX2_flocks_23 rfl 0 rfl ?_
    refine x_iload hC dX2_flocks_24 4 rfl ?_
    refine r_cV1 (as := [.int v4_15]) (rest := []) hB dX2_flocks_26 kv_X2_85 th_87 hq1 rfl rfl (Nat.le_of_ble_eq_true rfl) (fun v hv => f_X2_free_met hB.2 (by omega) hv) (fun u26_15 => ?_)
    refine x_if_eq (tgt := 57) hC dX2_flocks_29 (by decide) ?_ ?_
    · exact j_X2_flocks_57_15_ok hB hd M hR
    · refine x_aload_n hC dX2_flocks_32 rfl 0 rfl ?_
      refine r_getR hB dX2_flocks_33 kf_X2_11 rfl th_87 rf_87_1 ?_
      refine x_iload hC dX2_flocks_36 4 rfl ?_
      refine r_iald hB dX2_flocks_38 th_88 ?_
      refine x_iconst (v := (-1 : Int32)) hC dX2_flocks_39 ki_m1 ?_
      refine x_icmp_ne (tgt := 57) hC dX2_flocks_40 (by decide) ?_ ?_
      · refine x_iinc hC dX2_flocks_43 ki_1 [(2, .int (v2_15 + (1 : Int32))), (0, zr w 87), (1, .int v1_15), (3, .int v3_15), (4, .int v4_15)] 2 rfl (by decide) rfl ?_
        refine x_iload_n hC dX2_flocks_46 rfl 3 rfl ?_
        refine x_aload_n hC dX2_flocks_47 rfl 1 rfl ?_
        refine x_iload hC dX2_flocks_48 4 rfl ?_
        refine r_cV2 (as := [.int v4_15]) (rest := [.int v3_15]) hB dX2_flocks_50 kv_X2_88 th_87 hq1 rfl rfl (Nat.le_of_ble_eq_true rfl) (fun v M' hv => f_X2_flockFrom_met hB.2 (by omega) hv) (fun u50_15 M50_15 => ?_)
        refine r_cS0 (as := [.int v3_15, .int u50_15]) (rest := []) hB dX2_flocks_53 ks_X2_76 hq1 rfl rfl (Nat.le_of_ble_eq_true rfl) (f_J9_max_7cf53_met hB.2 (by omega)) ?_
        refine x_top (fun v3_56_15 => ?_)
        refine x_istore_n hC dX2_flocks_56 rfl [(3, .int v3_56_15), (2, .int (v2_15 + (1 : Int32))), (0, zr w 87), (1, .int v1_15), (4, .int v4_15)] (by decide) rfl ?_
        refine x_sub [2, 3, 1, 0, 4] rfl ?_
        exact j_X2_flocks_57_15_ok hB hd M50_15 hR
      · exact j_X2_flocks_57_15_ok hB hd M hR
noncomputable def j_X2_flocks_63 (v1_63 : Int32) (v2_63 : Int32) (v3_63 : Int32) (M : zM) : Option (Int32 × zM) :=
  if v1_63 = 0 then (some (v2_63, M))
  else (some (v3_63, M))
set_option maxRecDepth 100000 in
theorem j_X2_flocks_63_ok {C : zC} {d : Nat} {g : zG} {l : Launch} {w : zW} {r : Int32 × zM} {v1_63 : Int32} {v2_63 : Int32} {v3_63 : Int32} (hB : bOK C cX2_flocks 5 RX2 d g l w true) (hd : 4 ≤ d) (M : zM) (hR : RtI C cX2_flocks w r.1 r.2) : Sg C w (0, 0) 63 [(1, .int v1_63), (2, .int v2_63), (3, .int v3_63)] [] M (j_X2_flocks_63 v1_63 v2_63 v3_63 M) (fun q => q = r) := by
  have hC := hB.1.1
  have hq1 : 1 ≤ d := by omega
  unfold j_X2_flocks_63
  refine x_iload_n hC dX2_flocks_63 rfl 0 rfl ?_
  refine x_if_eq (tgt := 71) hC dX2_flocks_64 (by decide) ?_ ?_
  · refine x_iload_n hC dX2_flocks_71 rfl 1 rfl ?_
    exact r_retI hR dX2_flocks_72 (fun h => h)
  · refine x_iload_n hC dX2_flocks_67 rfl 2 rfl ?_
    refine x_goto (tgt := 72) hC dX2_flocks_68 (by decide) ?_
    exact r_retI hR dX2_flocks_72 (fun h => h)
noncomputable def f_X2_flocks (p1 : Int32) (M : zM) : Option (Int32 × zM) :=
  (f_J7_fill_53178 88 (-1 : Int32) M).bind fun M5 =>
  (loopW (fun s => b_X2_flocks_15 p1 s.1 s.2.1 s.2.2.1 s.2.2.2) ((0 : Int32), (0 : Int32), (0 : Int32), M5)).bind (fun r => j_X2_flocks_63 p1 r.1 r.2.1 r.2.2)
set_option maxRecDepth 100000 in
theorem f_X2_flocks_ok {C : zC} {d : Nat} {g : zG} {l : Launch} {w : zW} {r : Int32 × zM} {p1 : Int32} (hB : bOK C cX2_flocks 5 RX2 d g l w true) (hd : 4 ≤ d) (M : zM) (hR : RtI C cX2_flocks w r.1 r.2) : Sg C w (0, 0) 0 [(0, zr w 87), (1, .int p1)] [] M (f_X2_flocks p1 M) (fun q => q = r) := by
  have hC := hB.1.1
  have hq1 : 1 ≤ d := by omega
  unfold f_X2_flocks
  refine x_aload_n hC dX2_flocks_0 rfl 0 rfl ?_
  refine r_getR hB dX2_flocks_1 kf_X2_11 rfl th_87 rf_87_1 ?_
  refine x_iconst (v := (-1 : Int32)) hC dX2_flocks_4 ki_m1 ?_
  refine r_cSv (as := [zr w 88, .int (-1 : Int32)]) (rest := []) hB dX2_flocks_5 ks_X2_40 hq1 rfl rfl (Nat.le_of_ble_eq_true rfl) (fun M' hv => f_J7_fill_53178_met hB.2 (tA.toI th_88) (by omega) hv) (fun M5 => ?_)
  refine x_iconst (v := (0 : Int32)) hC dX2_flocks_8 ki_0 ?_
  refine x_istore_n hC dX2_flocks_9 rfl [(2, .int (0 : Int32)), (0, zr w 87), (1, .int p1)] (by decide) rfl ?_
  refine x_iconst (v := (0 : Int32)) hC dX2_flocks_10 ki_0 ?_
  refine x_istore_n hC dX2_flocks_11 rfl [(3, .int (0 : Int32)), (2, .int (0 : Int32)), (0, zr w 87), (1, .int p1)] (by decide) rfl ?_
  refine x_iconst (v := (0 : Int32)) hC dX2_flocks_12 ki_0 ?_
  refine x_istore (f := 0) hC dX2_flocks_13 [(4, .int (0 : Int32)), (3, .int (0 : Int32)), (2, .int (0 : Int32)), (0, zr w 87), (1, .int p1)] (by decide) rfl ?_
  refine x_sub [3, 4, 2, 1, 0] rfl ?_
  refine x_loopB (pc2 := 63) (fun (s : (Int32 × Int32 × Int32 × zM)) => [(0, zr w 87), (1, .int p1), (2, .int s.1), (3, .int s.2.1), (4, .int s.2.2.1)]) (fun (s : (Int32 × Int32 × Int32 × zM)) => s.2.2.2) (fun (s : (Int32 × Int32 × zM)) => [(1, .int p1), (2, .int s.1), (3, .int s.2.1)]) (fun (s : (Int32 × Int32 × zM)) => s.2.2) ((0 : Int32), (0 : Int32), (0 : Int32), M5) ?_ ?_
  · exact fun s => b_X2_flocks_15_ok hB hd s.2.2.2 hR
  · intro r9
    exact j_X2_flocks_63_ok hB hd r9.2.2 hR
theorem f_X2_flocks_met {l : Launch} {d : Nat} {g : zG} {w : zW} {M0 : zM} {p1 : Int32} {M : zM} (hw : wS w) (hd : 4 ≤ d) {v : Int32} {M' : zM} (h : f_X2_flocks p1 M = some (v, M')) : zMet l yX2_flocks cX2_flocks 5 (some .int) d g w (zin true) M0 [zr w 87, .int p1] M (some (.int v)) M' :=
  met_i (by decide +kernel) (Nat.le_of_ble_eq_true rfl) rfl (fun C hB0 hR => f_X2_flocks_ok (r := (v, M')) ⟨hB0, hw⟩ hd M hR _ h rfl)
/-! WindingSquare$Grid.turnOnce()V -/
noncomputable def b_X2_turnOnce_2 (v1_2 : Int32) (M : zM) : Option ((Int32 × zM) ⊕ (zM)) :=
  if (576 : Int32) ≤ v1_2 then (some (.inr M))
  else ((f_X2_neighbour v1_2 (1 : Int32) M).bind fun u21_2 =>
  grd (inb u21_2 576) (
  (f_X2_neighbour v1_2 (2 : Int32) M).bind fun u32_2 =>
  grd (inb u32_2 576) (
  grd (inb v1_2 576) (
  nm (mset M 89 (ix v1_2) (f_J9_min_7cf53 (M 88 (ix u21_2)) (M 88 (ix u32_2)))) fun M39_2 =>
  some (.inl ((v1_2 + (1 : Int32)), M39_2))))))
set_option maxRecDepth 100000 in
theorem b_X2_turnOnce_2_ok {C : zC} {d : Nat} {g : zG} {l : Launch} {w : zW} {r : zM} {v1_2 : Int32} (hB : bOK C cX2_turnOnce 2 RX2 d g l w true) (hd : 4 ≤ d) (M : zM) (hR : RtV C cX2_turnOnce w r) : Sg C w (0, 0) 2 [(0, zr w 87), (1, .int v1_2)] [] M (b_X2_turnOnce_2 v1_2 M) (fun o => Sum.elim (fun (s : (Int32 × zM)) => Zs C w (0, 0) 2 [(0, zr w 87), (1, .int s.1)] [] s.2) (fun (s : (zM)) => Zs C w (0, 0) 46 [(0, zr w 87)] [] s) o) := by
  have hC := hB.1.1
  have hq1 : 1 ≤ d := by omega
  unfold b_X2_turnOnce_2
  refine x_iload_n hC dX2_turnOnce_2 rfl 1 rfl ?_
  refine x_sipush (v := (576 : Int32)) hC dX2_turnOnce_3 kh_576 ?_
  refine x_icmp_ge (tgt := 46) hC dX2_turnOnce_6 (by decide) ?_ ?_
  · refine x_sub [0] rfl ?_
    exact x_done (fun h => h)
  · refine x_aload_n hC dX2_turnOnce_9 rfl 0 rfl ?_
    refine r_getR hB dX2_turnOnce_10 kf_X2_15 rfl th_87 rf_87_2 ?_
    refine x_iload_n hC dX2_turnOnce_13 rfl 1 rfl ?_
    refine x_aload_n hC dX2_turnOnce_14 rfl 0 rfl ?_
    refine r_getR hB dX2_turnOnce_15 kf_X2_11 rfl th_87 rf_87_1 ?_
    refine x_aload_n hC dX2_turnOnce_18 rfl 0 rfl ?_
    refine x_iload_n hC dX2_turnOnce_19 rfl 1 rfl ?_
    refine x_iconst (v := (1 : Int32)) hC dX2_turnOnce_20 ki_1 ?_
    refine r_cV1 (as := [.int v1_2, .int (1 : Int32)]) (rest := [zr w 88, .int v1_2, zr w 89]) hB dX2_turnOnce_21 kv_X2_46 th_87 hq1 rfl rfl (Nat.le_of_ble_eq_true rfl) (fun v hv => f_X2_neighbour_met hB.2 (by omega) hv) (fun u21_2 => ?_)
    refine r_iald hB dX2_turnOnce_24 th_88 ?_
    refine x_aload_n hC dX2_turnOnce_25 rfl 0 rfl ?_
    refine r_getR hB dX2_turnOnce_26 kf_X2_11 rfl th_87 rf_87_1 ?_
    refine x_aload_n hC dX2_turnOnce_29 rfl 0 rfl ?_
    refine x_iload_n hC dX2_turnOnce_30 rfl 1 rfl ?_
    refine x_iconst (v := (2 : Int32)) hC dX2_turnOnce_31 ki_2 ?_
    refine r_cV1 (as := [.int v1_2, .int (2 : Int32)]) (rest := [zr w 88, .int (M 88 (ix u21_2)), .int v1_2, zr w 89]) hB dX2_turnOnce_32 kv_X2_46 th_87 hq1 rfl rfl (Nat.le_of_ble_eq_true rfl) (fun v hv => f_X2_neighbour_met hB.2 (by omega) hv) (fun u32_2 => ?_)
    refine r_iald hB dX2_turnOnce_35 th_88 ?_
    refine r_cS0 (as := [.int (M 88 (ix u21_2)), .int (M 88 (ix u32_2))]) (rest := [.int v1_2, zr w 89]) hB dX2_turnOnce_36 ks_X2_57 hq1 rfl rfl (Nat.le_of_ble_eq_true rfl) (f_J9_min_7cf53_met hB.2 (by omega)) ?_
    refine r_iast hB dX2_turnOnce_39 th_89 ?_
    refine x_mem (fun M39_2 => ?_)
    refine x_iinc hC dX2_turnOnce_40 ki_1 [(1, .int (v1_2 + (1 : Int32))), (0, zr w 87)] 1 rfl (by decide) rfl ?_
    refine x_goto (tgt := 2) hC dX2_turnOnce_43 (by decide) ?_
    refine x_sub [1, 0] rfl ?_
    exact x_done (fun h => h)
noncomputable def j_X2_turnOnce_46 (M : zM) : Option (zM) :=
  nm (mrow M 88 (va_cpy (M 89) (M 88) (ix (0 : Int32)) (ix (0 : Int32)) (ix (576 : Int32)))) fun M59 =>
  some M59
set_option maxRecDepth 100000 in
theorem j_X2_turnOnce_46_ok {C : zC} {d : Nat} {g : zG} {l : Launch} {w : zW} {r : zM} (hB : bOK C cX2_turnOnce 2 RX2 d g l w true) (hd : 4 ≤ d) (M : zM) (hR : RtV C cX2_turnOnce w r) : Sg C w (0, 0) 46 [(0, zr w 87)] [] M (j_X2_turnOnce_46 M) (fun q => q = r) := by
  have hC := hB.1.1
  have hq1 : 1 ≤ d := by omega
  unfold j_X2_turnOnce_46
  refine x_aload_n hC dX2_turnOnce_46 rfl 0 rfl ?_
  refine r_getR hB dX2_turnOnce_47 kf_X2_15 rfl th_87 rf_87_2 ?_
  refine x_iconst (v := (0 : Int32)) hC dX2_turnOnce_50 ki_0 ?_
  refine x_aload_n hC dX2_turnOnce_51 rfl 0 rfl ?_
  refine r_getR hB dX2_turnOnce_52 kf_X2_11 rfl th_87 rf_87_1 ?_
  refine x_iconst (v := (0 : Int32)) hC dX2_turnOnce_55 ki_0 ?_
  refine x_sipush (v := (576 : Int32)) hC dX2_turnOnce_56 kh_576 ?_
  refine r_acp hB dX2_turnOnce_59 kac_X2_103 (Nat.le_trans (by decide) hd) th_89 th_88 (by decide) (by decide) (by decide) (by decide +kernel) (by decide +kernel) (Nat.le_of_ble_eq_true rfl) ?_
  refine x_mem (fun M59 => ?_)
  exact r_retV hR dX2_turnOnce_62 (fun h => h)
noncomputable def f_X2_turnOnce (M : zM) : Option (zM) :=
  (loopW (fun s => b_X2_turnOnce_2 s.1 s.2) ((0 : Int32), M)).bind (fun r => j_X2_turnOnce_46 r)
set_option maxRecDepth 100000 in
theorem f_X2_turnOnce_ok {C : zC} {d : Nat} {g : zG} {l : Launch} {w : zW} {r : zM} (hB : bOK C cX2_turnOnce 2 RX2 d g l w true) (hd : 4 ≤ d) (M : zM) (hR : RtV C cX2_turnOnce w r) : Sg C w (0, 0) 0 [(0, zr w 87)] [] M (f_X2_turnOnce M) (fun q => q = r) := by
  have hC := hB.1.1
  have hq1 : 1 ≤ d := by omega
  unfold f_X2_turnOnce
  refine x_iconst (v := (0 : Int32)) hC dX2_turnOnce_0 ki_0 ?_
  refine x_istore_n hC dX2_turnOnce_1 rfl [(1, .int (0 : Int32)), (0, zr w 87)] (by decide) rfl ?_
  refine x_sub [1, 0] rfl ?_
  refine x_loopB (pc2 := 46) (fun (s : (Int32 × zM)) => [(0, zr w 87), (1, .int s.1)]) (fun (s : (Int32 × zM)) => s.2) (fun (s : (zM)) => [(0, zr w 87)]) (fun (s : (zM)) => s) ((0 : Int32), M) ?_ ?_
  · exact fun s => b_X2_turnOnce_2_ok hB hd s.2 hR
  · intro r9
    exact j_X2_turnOnce_46_ok hB hd r9 hR
theorem f_X2_turnOnce_met {l : Launch} {d : Nat} {g : zG} {w : zW} {M0 : zM} {M : zM} (hw : wS w) (hd : 4 ≤ d) {M' : zM} (h : f_X2_turnOnce M = some M') : zMet l yX2_turnOnce cX2_turnOnce 2 none d g w (zin true) M0 [zr w 87] M none M' :=
  met_v (by decide +kernel) (Nat.le_of_ble_eq_true rfl) (fun C hB0 hR => f_X2_turnOnce_ok ⟨hB0, hw⟩ hd M hR _ h rfl)
/-! WindingSquare$Law.readSum(LWindingSquare$Reader;)Z -/
noncomputable def j_X3_readSum_134_12 (a0 : Nat) (v2_134_12 : Int32) (v3_134_12 : Int32) (v4_134_12 : Int32) (M : zM) : Option ((Int32 × Int32 × Int32 × zM) ⊕ ((zM) ⊕ (Int32 × zM))) :=
  some (.inl (v2_134_12, v3_134_12, (v4_134_12 + (1 : Int32)), M))
set_option maxRecDepth 100000 in
theorem j_X3_readSum_134_12_ok {C : zC} {d : Nat} {g : zG} {l : Launch} {w : zW} {r : Int32 × zM} {a0 : Nat} {v2_134_12 : Int32} {v3_134_12 : Int32} {v4_134_12 : Int32} (hB : bOK C cX3_readSum 7 RX3 d g l w true) (h0 : tO true 3 a0) (hd : 4 ≤ d) (M : zM) (hR : RtZ C cX3_readSum w r.1 r.2) : Sg C w (0, 0) 134 [(0, zr w a0), (1, zr w 78), (2, .int v2_134_12), (3, .int v3_134_12), (4, .int v4_134_12)] [] M (j_X3_readSum_134_12 a0 v2_134_12 v3_134_12 v4_134_12 M) (fun o => Sum.elim (fun (s : (Int32 × Int32 × Int32 × zM)) => Zs C w (0, 0) 12 [(0, zr w a0), (1, zr w 78), (2, .int s.1), (3, .int s.2.1), (4, .int s.2.2.1)] [] s.2.2.2) (fun q => Sum.elim (fun (s : (zM)) => Zs C w (0, 0) 140 [] [] s) (fun q => q = r) q) o) := by
  have hC := hB.1.1
  have hq1 : 1 ≤ d := by omega
  unfold j_X3_readSum_134_12
  refine x_iinc hC dX3_readSum_134 ki_1 [(4, .int (v4_134_12 + (1 : Int32))), (0, zr w a0), (1, zr w 78), (2, .int v2_134_12), (3, .int v3_134_12)] 4 rfl (by decide) rfl ?_
  refine x_goto (tgt := 12) hC dX3_readSum_137 (by decide) ?_
  refine x_sub [1, 2, 3, 4, 0] rfl ?_
  exact x_done (fun h => h)
noncomputable def j_X3_readSum_109_12 (a0 : Nat) (v2_109_12 : Int32) (v4_109_12 : Int32) (v5_109_12 : Int32) (v6_109_12 : Int32) (s2_109_12 : Int32) (M : zM) : Option ((Int32 × Int32 × Int32 × zM) ⊕ ((zM) ⊕ (Int32 × zM))) :=
  bnd2 (f_X3_readUnit a0 s2_109_12 M) fun u109_12 M109_12 =>
  if v6_109_12 = 0 then (j_X3_readSum_134_12 a0 v5_109_12 u109_12 v4_109_12 M109_12)
  else ((f_X3_emit a0 ((10000 : Int32) + v5_109_12) M109_12).bind fun M125_12 =>
  j_X3_readSum_134_12 a0 v2_109_12 u109_12 v4_109_12 M125_12)
set_option maxRecDepth 100000 in
theorem j_X3_readSum_109_12_ok {C : zC} {d : Nat} {g : zG} {l : Launch} {w : zW} {r : Int32 × zM} {a0 : Nat} {v2_109_12 : Int32} {v4_109_12 : Int32} {v5_109_12 : Int32} {v6_109_12 : Int32} {s2_109_12 : Int32} (hB : bOK C cX3_readSum 7 RX3 d g l w true) (h0 : tO true 3 a0) (hd : 4 ≤ d) (M : zM) (hR : RtZ C cX3_readSum w r.1 r.2) : Sg C w (0, 0) 109 [(0, zr w a0), (1, zr w 78), (2, .int v2_109_12), (4, .int v4_109_12), (5, .int v5_109_12), (6, .int v6_109_12)] [.int s2_109_12, zr w 78, zr w a0] M (j_X3_readSum_109_12 a0 v2_109_12 v4_109_12 v5_109_12 v6_109_12 s2_109_12 M) (fun o => Sum.elim (fun (s : (Int32 × Int32 × Int32 × zM)) => Zs C w (0, 0) 12 [(0, zr w a0), (1, zr w 78), (2, .int s.1), (3, .int s.2.1), (4, .int s.2.2.1)] [] s.2.2.2) (fun q => Sum.elim (fun (s : (zM)) => Zs C w (0, 0) 140 [] [] s) (fun q => q = r) q) o) := by
  have hC := hB.1.1
  have hq1 : 1 ≤ d := by omega
  unfold j_X3_readSum_109_12
  refine r_cV2 (as := [zr w 78, .int s2_109_12]) (rest := []) hB dX3_readSum_109 kv_X3_92 h0 hq1 rfl rfl (Nat.le_of_ble_eq_true rfl) (fun v M' hv => f_X3_readUnit_met hB.2 h0 (by omega) hv) (fun u109_12 M109_12 => ?_)
  refine x_istore_n hC dX3_readSum_112 rfl [(3, .int u109_12), (0, zr w a0), (1, zr w 78), (2, .int v2_109_12), (4, .int v4_109_12), (5, .int v5_109_12), (6, .int v6_109_12)] (by decide) rfl ?_
  refine x_iload hC dX3_readSum_113 6 rfl ?_
  refine x_if_eq (tgt := 131) hC dX3_readSum_115 (by decide) ?_ ?_
  · refine x_iload hC dX3_readSum_131 5 rfl ?_
    refine x_istore_n hC dX3_readSum_133 rfl [(2, .int v5_109_12), (3, .int u109_12), (0, zr w a0), (1, zr w 78), (4, .int v4_109_12), (5, .int v5_109_12), (6, .int v6_109_12)] (by decide) rfl ?_
    refine x_sub [2, 3, 0, 1, 4] rfl ?_
    exact j_X3_readSum_134_12_ok hB h0 hd M109_12 hR
  · refine x_aload_n hC dX3_readSum_118 rfl 1 rfl ?_
    refine x_sipush (v := (10000 : Int32)) hC dX3_readSum_119 kh_10000 ?_
    refine x_iload hC dX3_readSum_122 5 rfl ?_
    refine x_iadd hC dX3_readSum_124 ?_
    refine r_cVv (as := [.int ((10000 : Int32) + v5_109_12)]) (rest := []) hB dX3_readSum_125 kv_X3_85 h0 hq1 rfl rfl (Nat.le_of_ble_eq_true rfl) (fun M' hv => f_X3_emit_met hB.2 h0 (by omega) hv) (fun M125_12 => ?_)
    refine x_goto (tgt := 134) hC dX3_readSum_128 (by decide) ?_
    refine x_sub [1, 2, 3, 0, 4] rfl ?_
    exact j_X3_readSum_134_12_ok hB h0 hd M125_12 hR
noncomputable def j_X3_readSum_91_12 (a0 : Nat) (v2_91_12 : Int32) (v4_91_12 : Int32) (v5_91_12 : Int32) (v6_91_12 : Int32) (M : zM) : Option ((Int32 × Int32 × Int32 × zM) ⊕ ((zM) ⊕ (Int32 × zM))) :=
  (f_X5_next M).bind fun M92_12 =>
  if v5_91_12 = (47 : Int32) then (j_X3_readSum_109_12 a0 v2_91_12 v4_91_12 v5_91_12 v6_91_12 (1 : Int32) M92_12)
  else (j_X3_readSum_109_12 a0 v2_91_12 v4_91_12 v5_91_12 v6_91_12 (0 : Int32) M92_12)
set_option maxRecDepth 100000 in
theorem j_X3_readSum_91_12_ok {C : zC} {d : Nat} {g : zG} {l : Launch} {w : zW} {r : Int32 × zM} {a0 : Nat} {v2_91_12 : Int32} {v4_91_12 : Int32} {v5_91_12 : Int32} {v6_91_12 : Int32} (hB : bOK C cX3_readSum 7 RX3 d g l w true) (h0 : tO true 3 a0) (hd : 4 ≤ d) (M : zM) (hR : RtZ C cX3_readSum w r.1 r.2) : Sg C w (0, 0) 91 [(0, zr w a0), (1, zr w 78), (2, .int v2_91_12), (4, .int v4_91_12), (5, .int v5_91_12), (6, .int v6_91_12)] [] M (j_X3_readSum_91_12 a0 v2_91_12 v4_91_12 v5_91_12 v6_91_12 M) (fun o => Sum.elim (fun (s : (Int32 × Int32 × Int32 × zM)) => Zs C w (0, 0) 12 [(0, zr w a0), (1, zr w 78), (2, .int s.1), (3, .int s.2.1), (4, .int s.2.2.1)] [] s.2.2.2) (fun q => Sum.elim (fun (s : (zM)) => Zs C w (0, 0) 140 [] [] s) (fun q => q = r) q) o) := by
  have hC := hB.1.1
  have hq1 : 1 ≤ d := by omega
  unfold j_X3_readSum_91_12
  refine x_aload_n hC dX3_readSum_91 rfl 1 rfl ?_
  refine r_cVv (as := []) (rest := []) hB dX3_readSum_92 kv_X3_44 th_78 hq1 rfl rfl (Nat.le_of_ble_eq_true rfl) (fun M' hv => f_X5_next_met hB.2 (by omega) hv) (fun M92_12 => ?_)
  refine x_aload_n hC dX3_readSum_95 rfl 0 rfl ?_
  refine x_aload_n hC dX3_readSum_96 rfl 1 rfl ?_
  refine x_iload hC dX3_readSum_97 4 rfl ?_
  refine x_bipush (v := (47 : Int32)) hC dX3_readSum_99 kb_47 ?_
  refine x_icmp_ne (tgt := 108) hC dX3_readSum_101 (by decide) ?_ ?_
  · refine x_iconst (v := (1 : Int32)) hC dX3_readSum_104 ki_1 ?_
    refine x_goto (tgt := 109) hC dX3_readSum_105 (by decide) ?_
    exact j_X3_readSum_109_12_ok hB h0 hd M92_12 hR
  · refine x_iconst (v := (0 : Int32)) hC dX3_readSum_108 ki_0 ?_
    exact j_X3_readSum_109_12_ok hB h0 hd M92_12 hR
noncomputable def j_X3_readSum_70_12 (a0 : Nat) (v2_70_12 : Int32) (v4_70_12 : Int32) (v5_70_12 : Int32) (v6_70_12 : Int32) (M : zM) : Option ((Int32 × Int32 × Int32 × zM) ⊕ ((zM) ⊕ (Int32 × zM))) :=
  if v6_70_12 = 0 then (if v5_70_12 = (43 : Int32) then (j_X3_readSum_91_12 a0 v2_70_12 v4_70_12 v5_70_12 v6_70_12 M)
  else (if v5_70_12 = (45 : Int32) then (j_X3_readSum_91_12 a0 v2_70_12 v4_70_12 v5_70_12 v6_70_12 M)
  else (some (.inr (.inr ((1 : Int32), M))))))
  else (j_X3_readSum_91_12 a0 v2_70_12 v4_70_12 v5_70_12 v6_70_12 M)
set_option maxRecDepth 100000 in
theorem j_X3_readSum_70_12_ok {C : zC} {d : Nat} {g : zG} {l : Launch} {w : zW} {r : Int32 × zM} {a0 : Nat} {v2_70_12 : Int32} {v4_70_12 : Int32} {v5_70_12 : Int32} {v6_70_12 : Int32} (hB : bOK C cX3_readSum 7 RX3 d g l w true) (h0 : tO true 3 a0) (hd : 4 ≤ d) (M : zM) (hR : RtZ C cX3_readSum w r.1 r.2) : Sg C w (0, 0) 70 [(0, zr w a0), (1, zr w 78), (2, .int v2_70_12), (4, .int v4_70_12), (5, .int v5_70_12), (6, .int v6_70_12)] [] M (j_X3_readSum_70_12 a0 v2_70_12 v4_70_12 v5_70_12 v6_70_12 M) (fun o => Sum.elim (fun (s : (Int32 × Int32 × Int32 × zM)) => Zs C w (0, 0) 12 [(0, zr w a0), (1, zr w 78), (2, .int s.1), (3, .int s.2.1), (4, .int s.2.2.1)] [] s.2.2.2) (fun q => Sum.elim (fun (s : (zM)) => Zs C w (0, 0) 140 [] [] s) (fun q => q = r) q) o) := by
  have hC := hB.1.1
  have hq1 : 1 ≤ d := by omega
  unfold j_X3_readSum_70_12
  refine x_iload hC dX3_readSum_70 5 rfl ?_
  refine x_if_ne (tgt := 91) hC dX3_readSum_72 (by decide) ?_ ?_
  · refine x_iload hC dX3_readSum_75 4 rfl ?_
    refine x_bipush (v := (43 : Int32)) hC dX3_readSum_77 kb_43 ?_
    refine x_icmp_eq (tgt := 91) hC dX3_readSum_79 (by decide) ?_ ?_
    · exact j_X3_readSum_91_12_ok hB h0 hd M hR
    · refine x_iload hC dX3_readSum_82 4 rfl ?_
      refine x_bipush (v := (45 : Int32)) hC dX3_readSum_84 kb_45 ?_
      refine x_icmp_eq (tgt := 91) hC dX3_readSum_86 (by decide) ?_ ?_
      · exact j_X3_readSum_91_12_ok hB h0 hd M hR
      · refine x_iconst (v := (1 : Int32)) hC dX3_readSum_89 ki_1 ?_
        exact r_retZ hR dX3_readSum_90 (Or.inr rfl) (fun h => h)
  · exact j_X3_readSum_91_12_ok hB h0 hd M hR
noncomputable def j_X3_readSum_49_12 (a0 : Nat) (v2_49_12 : Int32) (v4_49_12 : Int32) (v5_49_12 : Int32) (s0_49_12 : Int32) (M : zM) : Option ((Int32 × Int32 × Int32 × zM) ⊕ ((zM) ⊕ (Int32 × zM))) :=
  if s0_49_12 = 0 then (if v2_49_12 = (-1 : Int32) then (j_X3_readSum_70_12 a0 v2_49_12 v4_49_12 v5_49_12 s0_49_12 M)
  else ((f_X3_emit a0 ((10000 : Int32) + v2_49_12) M).bind fun M67_12 =>
  j_X3_readSum_70_12 a0 v2_49_12 v4_49_12 v5_49_12 s0_49_12 M67_12))
  else (j_X3_readSum_70_12 a0 v2_49_12 v4_49_12 v5_49_12 s0_49_12 M)
set_option maxRecDepth 100000 in
theorem j_X3_readSum_49_12_ok {C : zC} {d : Nat} {g : zG} {l : Launch} {w : zW} {r : Int32 × zM} {a0 : Nat} {v2_49_12 : Int32} {v4_49_12 : Int32} {v5_49_12 : Int32} {s0_49_12 : Int32} (hB : bOK C cX3_readSum 7 RX3 d g l w true) (h0 : tO true 3 a0) (hd : 4 ≤ d) (M : zM) (hR : RtZ C cX3_readSum w r.1 r.2) : Sg C w (0, 0) 49 [(0, zr w a0), (1, zr w 78), (2, .int v2_49_12), (4, .int v4_49_12), (5, .int v5_49_12)] [.int s0_49_12] M (j_X3_readSum_49_12 a0 v2_49_12 v4_49_12 v5_49_12 s0_49_12 M) (fun o => Sum.elim (fun (s : (Int32 × Int32 × Int32 × zM)) => Zs C w (0, 0) 12 [(0, zr w a0), (1, zr w 78), (2, .int s.1), (3, .int s.2.1), (4, .int s.2.2.1)] [] s.2.2.2) (fun q => Sum.elim (fun (s : (zM)) => Zs C w (0, 0) 140 [] [] s) (fun q => q = r) q) o) := by
  have hC := hB.1.1
  have hq1 : 1 ≤ d := by omega
  unfold j_X3_readSum_49_12
  refine x_istore (f := 0) hC dX3_readSum_49 [(6, .int s0_49_12), (0, zr w a0), (1, zr w 78), (2, .int v2_49_12), (4, .int v4_49_12), (5, .int v5_49_12)] (by decide) rfl ?_
  refine x_iload hC dX3_readSum_51 0 rfl ?_
  refine x_if_ne (tgt := 70) hC dX3_readSum_53 (by decide) ?_ ?_
  · refine x_iload_n hC dX3_readSum_56 rfl 3 rfl ?_
    refine x_iconst (v := (-1 : Int32)) hC dX3_readSum_57 ki_m1 ?_
    refine x_icmp_eq (tgt := 70) hC dX3_readSum_58 (by decide) ?_ ?_
    · refine x_sub [1, 2, 3, 4, 5, 0] rfl ?_
      exact j_X3_readSum_70_12_ok hB h0 hd M hR
    · refine x_aload_n hC dX3_readSum_61 rfl 1 rfl ?_
      refine x_sipush (v := (10000 : Int32)) hC dX3_readSum_62 kh_10000 ?_
      refine x_iload_n hC dX3_readSum_65 rfl 3 rfl ?_
      refine x_iadd hC dX3_readSum_66 ?_
      refine r_cVv (as := [.int ((10000 : Int32) + v2_49_12)]) (rest := []) hB dX3_readSum_67 kv_X3_85 h0 hq1 rfl rfl (Nat.le_of_ble_eq_true rfl) (fun M' hv => f_X3_emit_met hB.2 h0 (by omega) hv) (fun M67_12 => ?_)
      refine x_sub [1, 2, 3, 4, 5, 0] rfl ?_
      exact j_X3_readSum_70_12_ok hB h0 hd M67_12 hR
  · refine x_sub [1, 2, 3, 4, 5, 0] rfl ?_
    exact j_X3_readSum_70_12_ok hB h0 hd M hR
noncomputable def j_X3_readSum_44_12 (a0 : Nat) (v2_44_12 : Int32) (v4_44_12 : Int32) (v5_44_12 : Int32) (M : zM) : Option ((Int32 × Int32 × Int32 × zM) ⊕ ((zM) ⊕ (Int32 × zM))) :=
  j_X3_readSum_49_12 a0 v2_44_12 v4_44_12 v5_44_12 (1 : Int32) M
set_option maxRecDepth 100000 in
theorem j_X3_readSum_44_12_ok {C : zC} {d : Nat} {g : zG} {l : Launch} {w : zW} {r : Int32 × zM} {a0 : Nat} {v2_44_12 : Int32} {v4_44_12 : Int32} {v5_44_12 : Int32} (hB : bOK C cX3_readSum 7 RX3 d g l w true) (h0 : tO true 3 a0) (hd : 4 ≤ d) (M : zM) (hR : RtZ C cX3_readSum w r.1 r.2) : Sg C w (0, 0) 44 [(0, zr w a0), (1, zr w 78), (2, .int v2_44_12), (4, .int v4_44_12), (5, .int v5_44_12)] [] M (j_X3_readSum_44_12 a0 v2_44_12 v4_44_12 v5_44_12 M) (fun o => Sum.elim (fun (s : (Int32 × Int32 × Int32 × zM)) => Zs C w (0, 0) 12 [(0, zr w a0), (1, zr w 78), (2, .int s.1), (3, .int s.2.1), (4, .int s.2.2.1)] [] s.2.2.2) (fun q => Sum.elim (fun (s : (zM)) => Zs C w (0, 0) 140 [] [] s) (fun q => q = r) q) o) := by
  have hC := hB.1.1
  have hq1 : 1 ≤ d := by omega
  unfold j_X3_readSum_44_12
  refine x_iconst (v := (1 : Int32)) hC dX3_readSum_44 ki_1 ?_
  refine x_goto (tgt := 49) hC dX3_readSum_45 (by decide) ?_
  exact j_X3_readSum_49_12_ok hB h0 hd M hR
noncomputable def b_X3_readSum_12 (a0 : Nat) (v2_12 : Int32) (v3_12 : Int32) (v4_12 : Int32) (M : zM) : Option ((Int32 × Int32 × Int32 × zM) ⊕ ((zM) ⊕ (Int32 × zM))) :=
  if (400 : Int32) ≤ v4_12 then (some (.inr (.inl M)))
  else (if v3_12 = 0 then (some (.inr (.inl M)))
  else ((f_X5_kind M).bind fun u25_12 =>
  if u25_12 = (42 : Int32) then (j_X3_readSum_44_12 a0 v2_12 v4_12 u25_12 M)
  else (if u25_12 = (47 : Int32) then (j_X3_readSum_44_12 a0 v2_12 v4_12 u25_12 M)
  else (j_X3_readSum_49_12 a0 v2_12 v4_12 u25_12 (0 : Int32) M))))
set_option maxRecDepth 100000 in
theorem b_X3_readSum_12_ok {C : zC} {d : Nat} {g : zG} {l : Launch} {w : zW} {r : Int32 × zM} {a0 : Nat} {v2_12 : Int32} {v3_12 : Int32} {v4_12 : Int32} (hB : bOK C cX3_readSum 7 RX3 d g l w true) (h0 : tO true 3 a0) (hd : 4 ≤ d) (M : zM) (hR : RtZ C cX3_readSum w r.1 r.2) : Sg C w (0, 0) 12 [(0, zr w a0), (1, zr w 78), (2, .int v2_12), (3, .int v3_12), (4, .int v4_12)] [] M (b_X3_readSum_12 a0 v2_12 v3_12 v4_12 M) (fun o => Sum.elim (fun (s : (Int32 × Int32 × Int32 × zM)) => Zs C w (0, 0) 12 [(0, zr w a0), (1, zr w 78), (2, .int s.1), (3, .int s.2.1), (4, .int s.2.2.1)] [] s.2.2.2) (fun q => Sum.elim (fun (s : (zM)) => Zs C w (0, 0) 140 [] [] s) (fun q => q = r) q) o) := by
  have hC := hB.1.1
  have hq1 : 1 ≤ d := by omega
  unfold b_X3_readSum_12
  refine x_iload hC dX3_readSum_12 4 rfl ?_
  refine x_sipush (v := (400 : Int32)) hC dX3_readSum_14 kh_400 ?_
  refine x_icmp_ge (tgt := 140) hC dX3_readSum_17 (by decide) ?_ ?_
  · refine x_sub [] rfl ?_
    exact x_done (fun h => h)
  · refine x_iload_n hC dX3_readSum_20 rfl 3 rfl ?_
    refine x_if_eq (tgt := 140) hC dX3_readSum_21 (by decide) ?_ ?_
    · refine x_sub [] rfl ?_
      exact x_done (fun h => h)
    · refine x_aload_n hC dX3_readSum_24 rfl 1 rfl ?_
      refine r_cV1 (as := []) (rest := []) hB dX3_readSum_25 kv_X3_34 th_78 hq1 rfl rfl (Nat.le_of_ble_eq_true rfl) (fun v hv => f_X5_kind_met hB.2 (by omega) hv) (fun u25_12 => ?_)
      refine x_istore (f := 0) hC dX3_readSum_28 [(5, .int u25_12), (0, zr w a0), (1, zr w 78), (2, .int v2_12), (3, .int v3_12), (4, .int v4_12)] (by decide) rfl ?_
      refine x_iload hC dX3_readSum_30 0 rfl ?_
      refine x_bipush (v := (42 : Int32)) hC dX3_readSum_32 kb_42 ?_
      refine x_icmp_eq (tgt := 44) hC dX3_readSum_34 (by decide) ?_ ?_
      · refine x_sub [1, 2, 3, 5, 0] rfl ?_
        exact j_X3_readSum_44_12_ok hB h0 hd M hR
      · refine x_iload hC dX3_readSum_37 0 rfl ?_
        refine x_bipush (v := (47 : Int32)) hC dX3_readSum_39 kb_47 ?_
        refine x_icmp_ne (tgt := 48) hC dX3_readSum_41 (by decide) ?_ ?_
        · refine x_sub [1, 2, 3, 5, 0] rfl ?_
          exact j_X3_readSum_44_12_ok hB h0 hd M hR
        · refine x_iconst (v := (0 : Int32)) hC dX3_readSum_48 ki_0 ?_
          refine x_sub [1, 2, 3, 5, 0] rfl ?_
          exact j_X3_readSum_49_12_ok hB h0 hd M hR
noncomputable def j_X3_readSum_140 (a0 : Nat) (M : zM) : Option (Int32 × zM) :=
  some ((0 : Int32), M)
set_option maxRecDepth 100000 in
theorem j_X3_readSum_140_ok {C : zC} {d : Nat} {g : zG} {l : Launch} {w : zW} {r : Int32 × zM} {a0 : Nat} (hB : bOK C cX3_readSum 7 RX3 d g l w true) (h0 : tO true 3 a0) (hd : 4 ≤ d) (M : zM) (hR : RtZ C cX3_readSum w r.1 r.2) : Sg C w (0, 0) 140 [] [] M (j_X3_readSum_140 a0 M) (fun q => q = r) := by
  have hC := hB.1.1
  have hq1 : 1 ≤ d := by omega
  unfold j_X3_readSum_140
  refine x_iconst (v := (0 : Int32)) hC dX3_readSum_140 ki_0 ?_
  exact r_retZ hR dX3_readSum_141 (Or.inl rfl) (fun h => h)
noncomputable def f_X3_readSum (a0 : Nat) (M : zM) : Option (Int32 × zM) :=
  bnd2 (f_X3_readUnit a0 (0 : Int32) M) fun u5 M5 =>
  (loopW (fun s => b_X3_readSum_12 a0 s.1 s.2.1 s.2.2.1 s.2.2.2) ((-1 : Int32), u5, (0 : Int32), M5)).bind (fun q => Sum.elim (fun r => j_X3_readSum_140 a0 r) some q)
set_option maxRecDepth 100000 in
theorem f_X3_readSum_ok {C : zC} {d : Nat} {g : zG} {l : Launch} {w : zW} {r : Int32 × zM} {a0 : Nat} (hB : bOK C cX3_readSum 7 RX3 d g l w true) (h0 : tO true 3 a0) (hd : 4 ≤ d) (M : zM) (hR : RtZ C cX3_readSum w r.1 r.2) : Sg C w (0, 0) 0 [(0, zr w a0), (1, zr w 78)] [] M (f_X3_readSum a0 M) (fun q => q = r) := by
  have hC := hB.1.1
  have hq1 : 1 ≤ d := by omega
  unfold f_X3_readSum
  refine x_iconst (v := (-1 : Int32)) hC dX3_readSum_0 ki_m1 ?_
  refine x_istore_n hC dX3_readSum_1 rfl [(2, .int (-1 : Int32)), (0, zr w a0), (1, zr w 78)] (by decide) rfl ?_
  refine x_aload_n hC dX3_readSum_2 rfl 1 rfl ?_
  refine x_aload_n hC dX3_readSum_3 rfl 2 rfl ?_
  refine x_iconst (v := (0 : Int32)) hC dX3_readSum_4 ki_0 ?_
  refine r_cV2 (as := [zr w 78, .int (0 : Int32)]) (rest := []) hB dX3_readSum_5 kv_X3_92 h0 hq1 rfl rfl (Nat.le_of_ble_eq_true rfl) (fun v M' hv => f_X3_readUnit_met hB.2 h0 (by omega) hv) (fun u5 M5 => ?_)
  refine x_istore_n hC dX3_readSum_8 rfl [(3, .int u5), (2, .int (-1 : Int32)), (0, zr w a0), (1, zr w 78)] (by decide) rfl ?_
  refine x_iconst (v := (0 : Int32)) hC dX3_readSum_9 ki_0 ?_
  refine x_istore (f := 0) hC dX3_readSum_10 [(4, .int (0 : Int32)), (3, .int u5), (2, .int (-1 : Int32)), (0, zr w a0), (1, zr w 78)] (by decide) rfl ?_
  refine x_sub [3, 4, 2, 1, 0] rfl ?_
  refine x_loopR (pc2 := 140) (fun (s : (Int32 × Int32 × Int32 × zM)) => [(0, zr w a0), (1, zr w 78), (2, .int s.1), (3, .int s.2.1), (4, .int s.2.2.1)]) (fun (s : (Int32 × Int32 × Int32 × zM)) => s.2.2.2) (fun (s : (zM)) => []) (fun (s : (zM)) => s) ((-1 : Int32), u5, (0 : Int32), M5) ?_ ?_
  · exact fun s => b_X3_readSum_12_ok hB h0 hd s.2.2.2 hR
  · intro r9
    exact j_X3_readSum_140_ok hB h0 hd r9 hR
theorem f_X3_readSum_met {l : Launch} {d : Nat} {g : zG} {w : zW} {M0 : zM} {a0 : Nat} {M : zM} (hw : wS w) (h0 : tO true 3 a0) (hd : 4 ≤ d) {v : Int32} {M' : zM} (h : f_X3_readSum a0 M = some (v, M')) : zMet l yX3_readSum cX3_readSum 7 (some .boolean) d g w (zin true) M0 [zr w a0, zr w 78] M (some (.int v)) M' :=
  met_z (by decide +kernel) (Nat.le_of_ble_eq_true rfl) (fun C hB0 hR => f_X3_readSum_ok (r := (v, M')) ⟨hB0, hw⟩ h0 hd M hR _ h rfl)
/-! WindingSquare$Plane.paces(IIII)I -/
noncomputable def j_X4_paces_178_45_75 (v1_45 : Int32) (v2_45 : Int32) (v6_45 : Int32) (v7_178_45_75 : Int32) (v8_75_45 : Int32) (v9_75_45 : Int32) (v10_178_45_75 : Int32) (M : zM) : Option ((Int32 × Int32 × zM) ⊕ (Int32 × zM)) :=
  some (.inl (v7_178_45_75, (v10_178_45_75 + (1 : Int32)), M))
set_option maxRecDepth 100000 in
theorem j_X4_paces_178_45_75_ok {C : zC} {d : Nat} {g : zG} {l : Launch} {w : zW} {r : Int32 × zM} {v1_45 : Int32} {v2_45 : Int32} {v6_45 : Int32} {v8_75_45 : Int32} {v9_75_45 : Int32} {v7_178_45_75 : Int32} {v10_178_45_75 : Int32} (hB : bOK C cX4_paces 12 RX4 d g l w true) (hd : 4 ≤ d) (M : zM) (hR : RtI C cX4_paces w r.1 r.2) : Sg C w (0, 0) 178 [(0, zr w 95), (1, .int v1_45), (2, .int v2_45), (6, .int v6_45), (7, .int v7_178_45_75), (8, .int v8_75_45), (9, .int v9_75_45), (10, .int v10_178_45_75)] [] M (j_X4_paces_178_45_75 v1_45 v2_45 v6_45 v7_178_45_75 v8_75_45 v9_75_45 v10_178_45_75 M) (fun o => Sum.elim (fun (s : (Int32 × Int32 × zM)) => Zs C w (0, 0) 75 [(0, zr w 95), (1, .int v1_45), (2, .int v2_45), (6, .int v6_45), (7, .int s.1), (8, .int v8_75_45), (9, .int v9_75_45), (10, .int s.2.1)] [] s.2.2) (fun (s : (Int32 × zM)) => Zs C w (0, 0) 184 [(0, zr w 95), (1, .int v1_45), (2, .int v2_45), (6, .int v6_45), (7, .int s.1), (8, .int v8_75_45)] [] s.2) o) := by
  have hC := hB.1.1
  have hq1 : 1 ≤ d := by omega
  unfold j_X4_paces_178_45_75
  refine x_iinc hC dX4_paces_178 ki_1 [(10, .int (v10_178_45_75 + (1 : Int32))), (0, zr w 95), (1, .int v1_45), (2, .int v2_45), (6, .int v6_45), (7, .int v7_178_45_75), (8, .int v8_75_45), (9, .int v9_75_45)] 7 rfl (by decide) rfl ?_
  refine x_goto (tgt := 75) hC dX4_paces_181 (by decide) ?_
  refine x_sub [1, 2, 3, 4, 5, 6, 7, 0] rfl ?_
  exact x_done (fun h => h)
noncomputable def j_X4_paces_118_45_75 (v1_45 : Int32) (v2_45 : Int32) (v6_45 : Int32) (v7_118_45_75 : Int32) (v8_75_45 : Int32) (v9_75_45 : Int32) (v10_118_45_75 : Int32) (s0_118_45_75 : Int32) (s1_118_45_75 : Int32) (s2_118_45_75 : Int32) (M : zM) : Option ((Int32 × Int32 × zM) ⊕ (Int32 × zM)) :=
  nm (f_X4_leap s0_118_45_75 s1_118_45_75 s2_118_45_75 v10_118_45_75) fun v11_123_45_75 =>
  if v11_123_45_75 = (-1 : Int32) then (j_X4_paces_178_45_75 v1_45 v2_45 v6_45 v7_118_45_75 v8_75_45 v9_75_45 v10_118_45_75 M)
  else (grd (inb v11_123_45_75 6561) (
  if (M 96 (ix v11_123_45_75)) = (-1 : Int32) then (if (6561 : Int32) ≤ v7_118_45_75 then (j_X4_paces_178_45_75 v1_45 v2_45 v6_45 v7_118_45_75 v8_75_45 v9_75_45 v10_118_45_75 M)
  else (grd (inb v9_75_45 6561) (
  grd (inb v11_123_45_75 6561) (
  nm (mset M 96 (ix v11_123_45_75) ((M 96 (ix v9_75_45)) + (1 : Int32))) fun M165_45_75 =>
  grd (inb v7_118_45_75 6561) (
  nm (mset M165_45_75 97 (ix v7_118_45_75) v11_123_45_75) fun M174_45_75 =>
  j_X4_paces_178_45_75 v1_45 v2_45 v6_45 (v7_118_45_75 + (1 : Int32)) v8_75_45 v9_75_45 v10_118_45_75 M174_45_75)))))
  else (j_X4_paces_178_45_75 v1_45 v2_45 v6_45 v7_118_45_75 v8_75_45 v9_75_45 v10_118_45_75 M)))
set_option maxRecDepth 100000 in
theorem j_X4_paces_118_45_75_ok {C : zC} {d : Nat} {g : zG} {l : Launch} {w : zW} {r : Int32 × zM} {v1_45 : Int32} {v2_45 : Int32} {v6_45 : Int32} {v8_75_45 : Int32} {v9_75_45 : Int32} {v7_118_45_75 : Int32} {v10_118_45_75 : Int32} {s0_118_45_75 : Int32} {s1_118_45_75 : Int32} {s2_118_45_75 : Int32} (hB : bOK C cX4_paces 12 RX4 d g l w true) (hd : 4 ≤ d) (M : zM) (hR : RtI C cX4_paces w r.1 r.2) : Sg C w (0, 0) 118 [(0, zr w 95), (1, .int v1_45), (2, .int v2_45), (6, .int v6_45), (7, .int v7_118_45_75), (8, .int v8_75_45), (9, .int v9_75_45), (10, .int v10_118_45_75)] [.int s2_118_45_75, .int s1_118_45_75, .int s0_118_45_75] M (j_X4_paces_118_45_75 v1_45 v2_45 v6_45 v7_118_45_75 v8_75_45 v9_75_45 v10_118_45_75 s0_118_45_75 s1_118_45_75 s2_118_45_75 M) (fun o => Sum.elim (fun (s : (Int32 × Int32 × zM)) => Zs C w (0, 0) 75 [(0, zr w 95), (1, .int v1_45), (2, .int v2_45), (6, .int v6_45), (7, .int s.1), (8, .int v8_75_45), (9, .int v9_75_45), (10, .int s.2.1)] [] s.2.2) (fun (s : (Int32 × zM)) => Zs C w (0, 0) 184 [(0, zr w 95), (1, .int v1_45), (2, .int v2_45), (6, .int v6_45), (7, .int s.1), (8, .int v8_75_45)] [] s.2) o) := by
  have hC := hB.1.1
  have hq1 : 1 ≤ d := by omega
  unfold j_X4_paces_118_45_75
  refine x_iload hC dX4_paces_118 7 rfl ?_
  refine r_cS0 (as := [.int s0_118_45_75, .int s1_118_45_75, .int s2_118_45_75, .int v10_118_45_75]) (rest := []) hB dX4_paces_120 ks_X4_34 hq1 rfl rfl (Nat.le_of_ble_eq_true rfl) (f_X4_leap_met hB.2 (by omega)) ?_
  refine x_top (fun v11_123_45_75 => ?_)
  refine x_istore (f := 0) hC dX4_paces_123 [(11, .int v11_123_45_75), (0, zr w 95), (1, .int v1_45), (2, .int v2_45), (6, .int v6_45), (7, .int v7_118_45_75), (8, .int v8_75_45), (9, .int v9_75_45), (10, .int v10_118_45_75)] (by decide) rfl ?_
  refine x_iload hC dX4_paces_125 0 rfl ?_
  refine x_iconst (v := (-1 : Int32)) hC dX4_paces_127 ki_m1 ?_
  refine x_icmp_eq (tgt := 178) hC dX4_paces_128 (by decide) ?_ ?_
  · refine x_sub [1, 2, 3, 4, 5, 6, 7, 8] rfl ?_
    exact j_X4_paces_178_45_75_ok hB hd M hR
  · refine x_aload_n hC dX4_paces_131 rfl 1 rfl ?_
    refine r_getR hB dX4_paces_132 kf_X4_11 rfl th_95 rf_95_0 ?_
    refine x_iload hC dX4_paces_135 0 rfl ?_
    refine r_iald hB dX4_paces_137 th_96 ?_
    refine x_iconst (v := (-1 : Int32)) hC dX4_paces_138 ki_m1 ?_
    refine x_icmp_ne (tgt := 178) hC dX4_paces_139 (by decide) ?_ ?_
    · refine x_iload hC dX4_paces_142 5 rfl ?_
      refine x_sipush (v := (6561 : Int32)) hC dX4_paces_144 kh_6561 ?_
      refine x_icmp_ge (tgt := 178) hC dX4_paces_147 (by decide) ?_ ?_
      · refine x_sub [1, 2, 3, 4, 5, 6, 7, 8] rfl ?_
        exact j_X4_paces_178_45_75_ok hB hd M hR
      · refine x_aload_n hC dX4_paces_150 rfl 1 rfl ?_
        refine r_getR hB dX4_paces_151 kf_X4_11 rfl th_95 rf_95_0 ?_
        refine x_iload hC dX4_paces_154 0 rfl ?_
        refine x_aload_n hC dX4_paces_156 rfl 1 rfl ?_
        refine r_getR hB dX4_paces_157 kf_X4_11 rfl th_95 rf_95_0 ?_
        refine x_iload hC dX4_paces_160 7 rfl ?_
        refine r_iald hB dX4_paces_162 th_96 ?_
        refine x_iconst (v := (1 : Int32)) hC dX4_paces_163 ki_1 ?_
        refine x_iadd hC dX4_paces_164 ?_
        refine r_iast hB dX4_paces_165 th_96 ?_
        refine x_mem (fun M165_45_75 => ?_)
        refine x_aload_n hC dX4_paces_166 rfl 1 rfl ?_
        refine r_getR hB dX4_paces_167 kf_X4_15 rfl th_95 rf_95_1 ?_
        refine x_iload hC dX4_paces_170 5 rfl ?_
        refine x_iload hC dX4_paces_172 0 rfl ?_
        refine r_iast hB dX4_paces_174 th_97 ?_
        refine x_mem (fun M174_45_75 => ?_)
        refine x_iinc hC dX4_paces_175 ki_1 [(7, .int (v7_118_45_75 + (1 : Int32))), (11, .int v11_123_45_75), (0, zr w 95), (1, .int v1_45), (2, .int v2_45), (6, .int v6_45), (8, .int v8_75_45), (9, .int v9_75_45), (10, .int v10_118_45_75)] 5 rfl (by decide) rfl ?_
        refine x_sub [2, 3, 4, 5, 0, 6, 7, 8] rfl ?_
        exact j_X4_paces_178_45_75_ok hB hd M174_45_75 hR
    · refine x_sub [1, 2, 3, 4, 5, 6, 7, 8] rfl ?_
      exact j_X4_paces_178_45_75_ok hB hd M hR
noncomputable def j_X4_paces_107_45_75 (v1_45 : Int32) (v2_45 : Int32) (v6_45 : Int32) (v7_107_45_75 : Int32) (v8_75_45 : Int32) (v9_75_45 : Int32) (v10_107_45_75 : Int32) (s0_107_45_75 : Int32) (s1_107_45_75 : Int32) (M : zM) : Option ((Int32 × Int32 × zM) ⊕ (Int32 × zM)) :=
  if (4 : Int32) ≤ v10_107_45_75 then (j_X4_paces_118_45_75 v1_45 v2_45 v6_45 v7_107_45_75 v8_75_45 v9_75_45 v10_107_45_75 s0_107_45_75 s1_107_45_75 v1_45 M)
  else (j_X4_paces_118_45_75 v1_45 v2_45 v6_45 v7_107_45_75 v8_75_45 v9_75_45 v10_107_45_75 s0_107_45_75 s1_107_45_75 v2_45 M)
set_option maxRecDepth 100000 in
theorem j_X4_paces_107_45_75_ok {C : zC} {d : Nat} {g : zG} {l : Launch} {w : zW} {r : Int32 × zM} {v1_45 : Int32} {v2_45 : Int32} {v6_45 : Int32} {v8_75_45 : Int32} {v9_75_45 : Int32} {v7_107_45_75 : Int32} {v10_107_45_75 : Int32} {s0_107_45_75 : Int32} {s1_107_45_75 : Int32} (hB : bOK C cX4_paces 12 RX4 d g l w true) (hd : 4 ≤ d) (M : zM) (hR : RtI C cX4_paces w r.1 r.2) : Sg C w (0, 0) 107 [(0, zr w 95), (1, .int v1_45), (2, .int v2_45), (6, .int v6_45), (7, .int v7_107_45_75), (8, .int v8_75_45), (9, .int v9_75_45), (10, .int v10_107_45_75)] [.int s1_107_45_75, .int s0_107_45_75] M (j_X4_paces_107_45_75 v1_45 v2_45 v6_45 v7_107_45_75 v8_75_45 v9_75_45 v10_107_45_75 s0_107_45_75 s1_107_45_75 M) (fun o => Sum.elim (fun (s : (Int32 × Int32 × zM)) => Zs C w (0, 0) 75 [(0, zr w 95), (1, .int v1_45), (2, .int v2_45), (6, .int v6_45), (7, .int s.1), (8, .int v8_75_45), (9, .int v9_75_45), (10, .int s.2.1)] [] s.2.2) (fun (s : (Int32 × zM)) => Zs C w (0, 0) 184 [(0, zr w 95), (1, .int v1_45), (2, .int v2_45), (6, .int v6_45), (7, .int s.1), (8, .int v8_75_45)] [] s.2) o) := by
  have hC := hB.1.1
  have hq1 : 1 ≤ d := by omega
  unfold j_X4_paces_107_45_75
  refine x_iload hC dX4_paces_107 7 rfl ?_
  refine x_iconst (v := (4 : Int32)) hC dX4_paces_109 ki_4 ?_
  refine x_icmp_ge (tgt := 117) hC dX4_paces_110 (by decide) ?_ ?_
  · refine x_iload_n hC dX4_paces_117 rfl 1 rfl ?_
    exact j_X4_paces_118_45_75_ok hB hd M hR
  · refine x_iload_n hC dX4_paces_113 rfl 2 rfl ?_
    refine x_goto (tgt := 118) hC dX4_paces_114 (by decide) ?_
    exact j_X4_paces_118_45_75_ok hB hd M hR
noncomputable def b_X4_paces_75_45 (v1_45 : Int32) (v2_45 : Int32) (v6_45 : Int32) (v8_75_45 : Int32) (v9_75_45 : Int32) (v7_75_45 : Int32) (v10_75_45 : Int32) (M : zM) : Option ((Int32 × Int32 × zM) ⊕ (Int32 × zM)) :=
  if (8 : Int32) ≤ v10_75_45 then (some (.inr (v7_75_45, M)))
  else (grd (inb v9_75_45 6561) (
  if (12 : Int32) ≤ (M 96 (ix v9_75_45)) then (some (.inr (v7_75_45, M)))
  else (if (4 : Int32) ≤ v10_75_45 then (j_X4_paces_107_45_75 v1_45 v2_45 v6_45 v7_75_45 v8_75_45 v9_75_45 v10_75_45 v9_75_45 v2_45 M)
  else (j_X4_paces_107_45_75 v1_45 v2_45 v6_45 v7_75_45 v8_75_45 v9_75_45 v10_75_45 v9_75_45 v1_45 M))))
set_option maxRecDepth 100000 in
theorem b_X4_paces_75_45_ok {C : zC} {d : Nat} {g : zG} {l : Launch} {w : zW} {r : Int32 × zM} {v1_45 : Int32} {v2_45 : Int32} {v6_45 : Int32} {v8_75_45 : Int32} {v9_75_45 : Int32} {v7_75_45 : Int32} {v10_75_45 : Int32} (hB : bOK C cX4_paces 12 RX4 d g l w true) (hd : 4 ≤ d) (M : zM) (hR : RtI C cX4_paces w r.1 r.2) : Sg C w (0, 0) 75 [(0, zr w 95), (1, .int v1_45), (2, .int v2_45), (6, .int v6_45), (7, .int v7_75_45), (8, .int v8_75_45), (9, .int v9_75_45), (10, .int v10_75_45)] [] M (b_X4_paces_75_45 v1_45 v2_45 v6_45 v8_75_45 v9_75_45 v7_75_45 v10_75_45 M) (fun o => Sum.elim (fun (s : (Int32 × Int32 × zM)) => Zs C w (0, 0) 75 [(0, zr w 95), (1, .int v1_45), (2, .int v2_45), (6, .int v6_45), (7, .int s.1), (8, .int v8_75_45), (9, .int v9_75_45), (10, .int s.2.1)] [] s.2.2) (fun (s : (Int32 × zM)) => Zs C w (0, 0) 184 [(0, zr w 95), (1, .int v1_45), (2, .int v2_45), (6, .int v6_45), (7, .int s.1), (8, .int v8_75_45)] [] s.2) o) := by
  have hC := hB.1.1
  have hq1 : 1 ≤ d := by omega
  unfold b_X4_paces_75_45
  refine x_iload hC dX4_paces_75 7 rfl ?_
  refine x_bipush (v := (8 : Int32)) hC dX4_paces_77 kb_8 ?_
  refine x_icmp_ge (tgt := 184) hC dX4_paces_79 (by decide) ?_ ?_
  · refine x_sub [0, 1, 2, 3, 4, 5] rfl ?_
    exact x_done (fun h => h)
  · refine x_aload_n hC dX4_paces_82 rfl 0 rfl ?_
    refine r_getR hB dX4_paces_83 kf_X4_11 rfl th_95 rf_95_0 ?_
    refine x_iload hC dX4_paces_86 6 rfl ?_
    refine r_iald hB dX4_paces_88 th_96 ?_
    refine x_bipush (v := (12 : Int32)) hC dX4_paces_89 kb_12 ?_
    refine x_icmp_ge (tgt := 184) hC dX4_paces_91 (by decide) ?_ ?_
    · refine x_sub [0, 1, 2, 3, 4, 5] rfl ?_
      exact x_done (fun h => h)
    · refine x_iload hC dX4_paces_94 6 rfl ?_
      refine x_iload hC dX4_paces_96 7 rfl ?_
      refine x_iconst (v := (4 : Int32)) hC dX4_paces_98 ki_4 ?_
      refine x_icmp_ge (tgt := 106) hC dX4_paces_99 (by decide) ?_ ?_
      · refine x_iload_n hC dX4_paces_106 rfl 2 rfl ?_
        exact j_X4_paces_107_45_75_ok hB hd M hR
      · refine x_iload_n hC dX4_paces_102 rfl 1 rfl ?_
        refine x_goto (tgt := 107) hC dX4_paces_103 (by decide) ?_
        exact j_X4_paces_107_45_75_ok hB hd M hR
noncomputable def j_X4_paces_184_45 (v1_45 : Int32) (v2_45 : Int32) (v6_45 : Int32) (v7_184_45 : Int32) (v8_184_45 : Int32) (M : zM) : Option ((Int32 × Int32 × zM) ⊕ (zM)) :=
  some (.inl (v7_184_45, (v8_184_45 + (1 : Int32)), M))
set_option maxRecDepth 100000 in
theorem j_X4_paces_184_45_ok {C : zC} {d : Nat} {g : zG} {l : Launch} {w : zW} {r : Int32 × zM} {v1_45 : Int32} {v2_45 : Int32} {v6_45 : Int32} {v7_184_45 : Int32} {v8_184_45 : Int32} (hB : bOK C cX4_paces 12 RX4 d g l w true) (hd : 4 ≤ d) (M : zM) (hR : RtI C cX4_paces w r.1 r.2) : Sg C w (0, 0) 184 [(0, zr w 95), (1, .int v1_45), (2, .int v2_45), (6, .int v6_45), (7, .int v7_184_45), (8, .int v8_184_45)] [] M (j_X4_paces_184_45 v1_45 v2_45 v6_45 v7_184_45 v8_184_45 M) (fun o => Sum.elim (fun (s : (Int32 × Int32 × zM)) => Zs C w (0, 0) 45 [(0, zr w 95), (1, .int v1_45), (2, .int v2_45), (6, .int v6_45), (7, .int s.1), (8, .int s.2.1)] [] s.2.2) (fun (s : (zM)) => Zs C w (0, 0) 190 [(0, zr w 95), (6, .int v6_45)] [] s) o) := by
  have hC := hB.1.1
  have hq1 : 1 ≤ d := by omega
  unfold j_X4_paces_184_45
  refine x_iinc hC dX4_paces_184 ki_1 [(8, .int (v8_184_45 + (1 : Int32))), (0, zr w 95), (1, .int v1_45), (2, .int v2_45), (6, .int v6_45), (7, .int v7_184_45)] 5 rfl (by decide) rfl ?_
  refine x_goto (tgt := 45) hC dX4_paces_187 (by decide) ?_
  refine x_sub [1, 2, 3, 4, 5, 0] rfl ?_
  exact x_done (fun h => h)
noncomputable def b_X4_paces_45 (v1_45 : Int32) (v2_45 : Int32) (v6_45 : Int32) (v7_45 : Int32) (v8_45 : Int32) (M : zM) : Option ((Int32 × Int32 × zM) ⊕ (zM)) :=
  if v7_45 ≤ v8_45 then (some (.inr M))
  else (grd (inb v6_45 6561) (
  if (M 96 (ix v6_45)) = (-1 : Int32) then (grd (inb v8_45 6561) (
  nm (M 97 (ix v8_45)) fun v9_70_45 =>
  (loopW (fun s => b_X4_paces_75_45 v1_45 v2_45 v6_45 v8_45 v9_70_45 s.1 s.2.1 s.2.2) (v7_45, (0 : Int32), M)).bind (fun r => j_X4_paces_184_45 v1_45 v2_45 v6_45 r.1 v8_45 r.2)))
  else (some (.inr M))))
set_option maxRecDepth 100000 in
theorem b_X4_paces_45_ok {C : zC} {d : Nat} {g : zG} {l : Launch} {w : zW} {r : Int32 × zM} {v1_45 : Int32} {v2_45 : Int32} {v6_45 : Int32} {v7_45 : Int32} {v8_45 : Int32} (hB : bOK C cX4_paces 12 RX4 d g l w true) (hd : 4 ≤ d) (M : zM) (hR : RtI C cX4_paces w r.1 r.2) : Sg C w (0, 0) 45 [(0, zr w 95), (1, .int v1_45), (2, .int v2_45), (6, .int v6_45), (7, .int v7_45), (8, .int v8_45)] [] M (b_X4_paces_45 v1_45 v2_45 v6_45 v7_45 v8_45 M) (fun o => Sum.elim (fun (s : (Int32 × Int32 × zM)) => Zs C w (0, 0) 45 [(0, zr w 95), (1, .int v1_45), (2, .int v2_45), (6, .int v6_45), (7, .int s.1), (8, .int s.2.1)] [] s.2.2) (fun (s : (zM)) => Zs C w (0, 0) 190 [(0, zr w 95), (6, .int v6_45)] [] s) o) := by
  have hC := hB.1.1
  have hq1 : 1 ≤ d := by omega
  unfold b_X4_paces_45
  refine x_iload hC dX4_paces_45 5 rfl ?_
  refine x_iload hC dX4_paces_47 4 rfl ?_
  refine x_icmp_ge (tgt := 190) hC dX4_paces_49 (by decide) ?_ ?_
  · refine x_sub [0, 3] rfl ?_
    exact x_done (fun h => h)
  · refine x_aload_n hC dX4_paces_52 rfl 0 rfl ?_
    refine r_getR hB dX4_paces_53 kf_X4_11 rfl th_95 rf_95_0 ?_
    refine x_iload hC dX4_paces_56 3 rfl ?_
    refine r_iald hB dX4_paces_58 th_96 ?_
    refine x_iconst (v := (-1 : Int32)) hC dX4_paces_59 ki_m1 ?_
    refine x_icmp_ne (tgt := 190) hC dX4_paces_60 (by decide) ?_ ?_
    · refine x_aload_n hC dX4_paces_63 rfl 0 rfl ?_
      refine r_getR hB dX4_paces_64 kf_X4_15 rfl th_95 rf_95_1 ?_
      refine x_iload hC dX4_paces_67 5 rfl ?_
      refine r_iald hB dX4_paces_69 th_97 ?_
      refine x_top (fun v9_70_45 => ?_)
      refine x_istore (f := 0) hC dX4_paces_70 [(9, .int v9_70_45), (0, zr w 95), (1, .int v1_45), (2, .int v2_45), (6, .int v6_45), (7, .int v7_45), (8, .int v8_45)] (by decide) rfl ?_
      refine x_iconst (v := (0 : Int32)) hC dX4_paces_72 ki_0 ?_
      refine x_istore (f := 0) hC dX4_paces_73 [(10, .int (0 : Int32)), (9, .int v9_70_45), (0, zr w 95), (1, .int v1_45), (2, .int v2_45), (6, .int v6_45), (7, .int v7_45), (8, .int v8_45)] (by decide) rfl ?_
      refine x_sub [2, 3, 4, 5, 6, 7, 1, 0] rfl ?_
      refine x_loopB (pc2 := 184) (fun (s : (Int32 × Int32 × zM)) => [(0, zr w 95), (1, .int v1_45), (2, .int v2_45), (6, .int v6_45), (7, .int s.1), (8, .int v8_45), (9, .int v9_70_45), (10, .int s.2.1)]) (fun (s : (Int32 × Int32 × zM)) => s.2.2) (fun (s : (Int32 × zM)) => [(0, zr w 95), (1, .int v1_45), (2, .int v2_45), (6, .int v6_45), (7, .int s.1), (8, .int v8_45)]) (fun (s : (Int32 × zM)) => s.2) (v7_45, (0 : Int32), M) ?_ ?_
      · exact fun s => b_X4_paces_75_45_ok hB hd s.2.2 hR
      · intro r9
        exact j_X4_paces_184_45_ok hB hd r9.2 hR
    · refine x_sub [0, 3] rfl ?_
      exact x_done (fun h => h)
noncomputable def j_X4_paces_190 (v6_190 : Int32) (M : zM) : Option (Int32 × zM) :=
  grd (inb v6_190 6561) (
  some ((M 96 (ix v6_190)), M))
set_option maxRecDepth 100000 in
theorem j_X4_paces_190_ok {C : zC} {d : Nat} {g : zG} {l : Launch} {w : zW} {r : Int32 × zM} {v6_190 : Int32} (hB : bOK C cX4_paces 12 RX4 d g l w true) (hd : 4 ≤ d) (M : zM) (hR : RtI C cX4_paces w r.1 r.2) : Sg C w (0, 0) 190 [(0, zr w 95), (6, .int v6_190)] [] M (j_X4_paces_190 v6_190 M) (fun q => q = r) := by
  have hC := hB.1.1
  have hq1 : 1 ≤ d := by omega
  unfold j_X4_paces_190
  refine x_aload_n hC dX4_paces_190 rfl 0 rfl ?_
  refine r_getR hB dX4_paces_191 kf_X4_11 rfl th_95 rf_95_0 ?_
  refine x_iload hC dX4_paces_194 1 rfl ?_
  refine r_iald hB dX4_paces_196 th_96 ?_
  exact r_retI hR dX4_paces_197 (fun h => h)
noncomputable def f_X4_paces (p1 : Int32) (p2 : Int32) (p3 : Int32) (p4 : Int32) (M : zM) : Option (Int32 × zM) :=
  (f_J7_fill_53178 96 (-1 : Int32) M).bind fun M5 =>
  nm (f_X4_field (0 : Int32) (0 : Int32)) fun v5_13 =>
  nm (f_X4_field p3 p4) fun v6_21 =>
  grd (inb v5_13 6561) (
  nm (mset M5 96 (ix v5_13) (0 : Int32)) fun M30 =>
  nm (mset M30 97 (ix (0 : Int32)) v5_13) fun M38 =>
  (loopW (fun s => b_X4_paces_45 p1 p2 v6_21 s.1 s.2.1 s.2.2) ((1 : Int32), (0 : Int32), M38)).bind (fun r => j_X4_paces_190 v6_21 r))
set_option maxRecDepth 100000 in
theorem f_X4_paces_ok {C : zC} {d : Nat} {g : zG} {l : Launch} {w : zW} {r : Int32 × zM} {p1 : Int32} {p2 : Int32} {p3 : Int32} {p4 : Int32} (hB : bOK C cX4_paces 12 RX4 d g l w true) (hd : 4 ≤ d) (M : zM) (hR : RtI C cX4_paces w r.1 r.2) : Sg C w (0, 0) 0 [(0, zr w 95), (1, .int p1), (2, .int p2), (3, .int p3), (4, .int p4)] [] M (f_X4_paces p1 p2 p3 p4 M) (fun q => q = r) := by
  have hC := hB.1.1
  have hq1 : 1 ≤ d := by omega
  unfold f_X4_paces
  refine x_aload_n hC dX4_paces_0 rfl 0 rfl ?_
  refine r_getR hB dX4_paces_1 kf_X4_11 rfl th_95 rf_95_0 ?_
  refine x_iconst (v := (-1 : Int32)) hC dX4_paces_4 ki_m1 ?_
  refine r_cSv (as := [zr w 96, .int (-1 : Int32)]) (rest := []) hB dX4_paces_5 ks_X4_24 hq1 rfl rfl (Nat.le_of_ble_eq_true rfl) (fun M' hv => f_J7_fill_53178_met hB.2 (tA.toI th_96) (by omega) hv) (fun M5 => ?_)
  refine x_iconst (v := (0 : Int32)) hC dX4_paces_8 ki_0 ?_
  refine x_iconst (v := (0 : Int32)) hC dX4_paces_9 ki_0 ?_
  refine r_cS0 (as := [.int (0 : Int32), .int (0 : Int32)]) (rest := []) hB dX4_paces_10 ks_X4_30 hq1 rfl rfl (Nat.le_of_ble_eq_true rfl) (f_X4_field_met hB.2 (by omega)) ?_
  refine x_top (fun v5_13 => ?_)
  refine x_istore (f := 0) hC dX4_paces_13 [(5, .int v5_13), (0, zr w 95), (1, .int p1), (2, .int p2), (3, .int p3), (4, .int p4)] (by decide) rfl ?_
  refine x_iload_n hC dX4_paces_15 rfl 4 rfl ?_
  refine x_iload hC dX4_paces_16 5 rfl ?_
  refine r_cS0 (as := [.int p3, .int p4]) (rest := []) hB dX4_paces_18 ks_X4_30 hq1 rfl rfl (Nat.le_of_ble_eq_true rfl) (f_X4_field_met hB.2 (by omega)) ?_
  refine x_top (fun v6_21 => ?_)
  refine x_istore (f := 0) hC dX4_paces_21 [(6, .int v6_21), (5, .int v5_13), (0, zr w 95), (1, .int p1), (2, .int p2), (3, .int p3), (4, .int p4)] (by decide) rfl ?_
  refine x_aload_n hC dX4_paces_23 rfl 2 rfl ?_
  refine r_getR hB dX4_paces_24 kf_X4_11 rfl th_95 rf_95_0 ?_
  refine x_iload hC dX4_paces_27 1 rfl ?_
  refine x_iconst (v := (0 : Int32)) hC dX4_paces_29 ki_0 ?_
  refine r_iast hB dX4_paces_30 th_96 ?_
  refine x_mem (fun M30 => ?_)
  refine x_aload_n hC dX4_paces_31 rfl 2 rfl ?_
  refine r_getR hB dX4_paces_32 kf_X4_15 rfl th_95 rf_95_1 ?_
  refine x_iconst (v := (0 : Int32)) hC dX4_paces_35 ki_0 ?_
  refine x_iload hC dX4_paces_36 1 rfl ?_
  refine r_iast0 hB dX4_paces_38 th_97 ib_0_6561 ?_
  refine x_mem (fun M38 => ?_)
  refine x_iconst (v := (1 : Int32)) hC dX4_paces_39 ki_1 ?_
  refine x_istore (f := 0) hC dX4_paces_40 [(7, .int (1 : Int32)), (6, .int v6_21), (5, .int v5_13), (0, zr w 95), (1, .int p1), (2, .int p2), (3, .int p3), (4, .int p4)] (by decide) rfl ?_
  refine x_iconst (v := (0 : Int32)) hC dX4_paces_42 ki_0 ?_
  refine x_istore (f := 0) hC dX4_paces_43 [(8, .int (0 : Int32)), (7, .int (1 : Int32)), (6, .int v6_21), (5, .int v5_13), (0, zr w 95), (1, .int p1), (2, .int p2), (3, .int p3), (4, .int p4)] (by decide) rfl ?_
  refine x_sub [4, 5, 6, 2, 1, 0] rfl ?_
  refine x_loopB (pc2 := 190) (fun (s : (Int32 × Int32 × zM)) => [(0, zr w 95), (1, .int p1), (2, .int p2), (6, .int v6_21), (7, .int s.1), (8, .int s.2.1)]) (fun (s : (Int32 × Int32 × zM)) => s.2.2) (fun (s : (zM)) => [(0, zr w 95), (6, .int v6_21)]) (fun (s : (zM)) => s) ((1 : Int32), (0 : Int32), M38) ?_ ?_
  · exact fun s => b_X4_paces_45_ok hB hd s.2.2 hR
  · intro r9
    exact j_X4_paces_190_ok hB hd r9 hR
theorem f_X4_paces_met {l : Launch} {d : Nat} {g : zG} {w : zW} {M0 : zM} {p1 : Int32} {p2 : Int32} {p3 : Int32} {p4 : Int32} {M : zM} (hw : wS w) (hd : 4 ≤ d) {v : Int32} {M' : zM} (h : f_X4_paces p1 p2 p3 p4 M = some (v, M')) : zMet l yX4_paces cX4_paces 12 (some .int) d g w (zin true) M0 [zr w 95, .int p1, .int p2, .int p3, .int p4] M (some (.int v)) M' :=
  met_i (by decide +kernel) (Nat.le_of_ble_eq_true rfl) rfl (fun C hB0 hR => f_X4_paces_ok (r := (v, M')) ⟨hB0, hw⟩ hd M hR _ h rfl)
/-! WindingSquare$Texts.readWays(LWindingSquare$Reader;I)I -/
noncomputable def j_X8_readWays_39_10 (a0 : Nat) (v2_10 : Int32) (v3_39_10 : Int32) (s1_39_10 : Int32) (M : zM) : Option ((Int32 × zM) ⊕ ((Int32 × zM) ⊕ (Int32 × zM))) :=
  bnd2 (f_X5_opens s1_39_10 v3_39_10 (16 : Int32) M) fun u42_10 M42_10 =>
  if u42_10 = 0 then (some (.inr (.inr ((-1 : Int32), M42_10))))
  else ((f_X5_next M42_10).bind fun M51_10 =>
  bnd2 (f_X5_number (0 : Int32) (v2_10 - (1 : Int32)) M51_10) fun u59_10 M59_10 =>
  if u59_10 = (-1 : Int32) then (some (.inr (.inr ((-1 : Int32), M59_10))))
  else (bnd2 (f_X8_readWay a0 u59_10 M59_10) fun u74_10 M74_10 =>
  if u74_10 = 0 then (some (.inr (.inr ((-1 : Int32), M74_10))))
  else (some (.inl ((v3_39_10 + (1 : Int32)), M74_10)))))
set_option maxRecDepth 100000 in
theorem j_X8_readWays_39_10_ok {C : zC} {d : Nat} {g : zG} {l : Launch} {w : zW} {r : Int32 × zM} {a0 : Nat} {v2_10 : Int32} {v3_39_10 : Int32} {s1_39_10 : Int32} (hB : bOK C cX8_readWays 5 RX8 d g l w true) (h0 : tO true 8 a0) (hd : 4 ≤ d) (M : zM) (hR : RtI C cX8_readWays w r.1 r.2) : Sg C w (0, 0) 39 [(0, zr w a0), (1, zr w 78), (2, .int v2_10), (3, .int v3_39_10)] [.int s1_39_10, zr w 78] M (j_X8_readWays_39_10 a0 v2_10 v3_39_10 s1_39_10 M) (fun o => Sum.elim (fun (s : (Int32 × zM)) => Zs C w (0, 0) 10 [(0, zr w a0), (1, zr w 78), (2, .int v2_10), (3, .int s.1)] [] s.2) (fun q => Sum.elim (fun (s : (Int32 × zM)) => Zs C w (0, 0) 88 [(3, .int s.1)] [] s.2) (fun q => q = r) q) o) := by
  have hC := hB.1.1
  have hq1 : 1 ≤ d := by omega
  unfold j_X8_readWays_39_10
  refine x_iload_n hC dX8_readWays_39 rfl 3 rfl ?_
  refine x_bipush (v := (16 : Int32)) hC dX8_readWays_40 kb_16 ?_
  refine r_cV2 (as := [.int s1_39_10, .int v3_39_10, .int (16 : Int32)]) (rest := []) hB dX8_readWays_42 kv_X8_56 th_78 hq1 rfl rfl (Nat.le_of_ble_eq_true rfl) (fun v M' hv => f_X5_opens_met hB.2 (by omega) hv) (fun u42_10 M42_10 => ?_)
  refine x_if_ne (tgt := 50) hC dX8_readWays_45 (by decide) ?_ ?_
  · refine x_iconst (v := (-1 : Int32)) hC dX8_readWays_48 ki_m1 ?_
    exact r_retI hR dX8_readWays_49 (fun h => h)
  · refine x_aload_n hC dX8_readWays_50 rfl 1 rfl ?_
    refine r_cVv (as := []) (rest := []) hB dX8_readWays_51 kv_X8_60 th_78 hq1 rfl rfl (Nat.le_of_ble_eq_true rfl) (fun M' hv => f_X5_next_met hB.2 (by omega) hv) (fun M51_10 => ?_)
    refine x_aload_n hC dX8_readWays_54 rfl 1 rfl ?_
    refine x_iconst (v := (0 : Int32)) hC dX8_readWays_55 ki_0 ?_
    refine x_iload_n hC dX8_readWays_56 rfl 2 rfl ?_
    refine x_iconst (v := (1 : Int32)) hC dX8_readWays_57 ki_1 ?_
    refine x_isub hC dX8_readWays_58 ?_
    refine r_cV2 (as := [.int (0 : Int32), .int (v2_10 - (1 : Int32))]) (rest := []) hB dX8_readWays_59 kv_X8_71 th_78 hq1 rfl rfl (Nat.le_of_ble_eq_true rfl) (fun v M' hv => f_X5_number_met hB.2 (by omega) hv) (fun u59_10 M59_10 => ?_)
    refine x_istore (f := 0) hC dX8_readWays_62 [(4, .int u59_10), (0, zr w a0), (1, zr w 78), (2, .int v2_10), (3, .int v3_39_10)] (by decide) rfl ?_
    refine x_iload hC dX8_readWays_64 0 rfl ?_
    refine x_iconst (v := (-1 : Int32)) hC dX8_readWays_66 ki_m1 ?_
    refine x_icmp_eq (tgt := 80) hC dX8_readWays_67 (by decide) ?_ ?_
    · refine x_iconst (v := (-1 : Int32)) hC dX8_readWays_80 ki_m1 ?_
      exact r_retI hR dX8_readWays_81 (fun h => h)
    · refine x_aload_n hC dX8_readWays_70 rfl 1 rfl ?_
      refine x_aload_n hC dX8_readWays_71 rfl 2 rfl ?_
      refine x_iload hC dX8_readWays_72 0 rfl ?_
      refine r_cV2 (as := [zr w 78, .int u59_10]) (rest := []) hB dX8_readWays_74 kv_X8_75 h0 hq1 rfl rfl (Nat.le_of_ble_eq_true rfl) (fun v M' hv => f_X8_readWay_met hB.2 h0 (by omega) hv) (fun u74_10 M74_10 => ?_)
      refine x_if_ne (tgt := 82) hC dX8_readWays_77 (by decide) ?_ ?_
      · refine x_iconst (v := (-1 : Int32)) hC dX8_readWays_80 ki_m1 ?_
        exact r_retI hR dX8_readWays_81 (fun h => h)
      · refine x_iinc hC dX8_readWays_82 ki_1 [(3, .int (v3_39_10 + (1 : Int32))), (4, .int u59_10), (0, zr w a0), (1, zr w 78), (2, .int v2_10)] 4 rfl (by decide) rfl ?_
        refine x_goto (tgt := 10) hC dX8_readWays_85 (by decide) ?_
        refine x_sub [2, 3, 4, 0] rfl ?_
        exact x_done (fun h => h)
noncomputable def b_X8_readWays_10 (a0 : Nat) (v2_10 : Int32) (v3_10 : Int32) (M : zM) : Option ((Int32 × zM) ⊕ ((Int32 × zM) ⊕ (Int32 × zM))) :=
  if (16 : Int32) < v3_10 then (some (.inr (.inl (v3_10, M))))
  else ((f_X5_kind M).bind fun u17_10 =>
  if u17_10 = 0 then (some (.inr (.inl (v3_10, M))))
  else ((f_X5_kind M).bind fun u25_10 =>
  if u25_10 = (149 : Int32) then (j_X8_readWays_39_10 a0 v2_10 v3_10 (1 : Int32) M)
  else (j_X8_readWays_39_10 a0 v2_10 v3_10 (0 : Int32) M)))
set_option maxRecDepth 100000 in
theorem b_X8_readWays_10_ok {C : zC} {d : Nat} {g : zG} {l : Launch} {w : zW} {r : Int32 × zM} {a0 : Nat} {v2_10 : Int32} {v3_10 : Int32} (hB : bOK C cX8_readWays 5 RX8 d g l w true) (h0 : tO true 8 a0) (hd : 4 ≤ d) (M : zM) (hR : RtI C cX8_readWays w r.1 r.2) : Sg C w (0, 0) 10 [(0, zr w a0), (1, zr w 78), (2, .int v2_10), (3, .int v3_10)] [] M (b_X8_readWays_10 a0 v2_10 v3_10 M) (fun o => Sum.elim (fun (s : (Int32 × zM)) => Zs C w (0, 0) 10 [(0, zr w a0), (1, zr w 78), (2, .int v2_10), (3, .int s.1)] [] s.2) (fun q => Sum.elim (fun (s : (Int32 × zM)) => Zs C w (0, 0) 88 [(3, .int s.1)] [] s.2) (fun q => q = r) q) o) := by
  have hC := hB.1.1
  have hq1 : 1 ≤ d := by omega
  unfold b_X8_readWays_10
  refine x_iload_n hC dX8_readWays_10 rfl 3 rfl ?_
  refine x_bipush (v := (16 : Int32)) hC dX8_readWays_11 kb_16 ?_
  refine x_icmp_gt (tgt := 88) hC dX8_readWays_13 (by decide) ?_ ?_
  · refine x_sub [3] rfl ?_
    exact x_done (fun h => h)
  · refine x_aload_n hC dX8_readWays_16 rfl 1 rfl ?_
    refine r_cV1 (as := []) (rest := []) hB dX8_readWays_17 kv_X8_46 th_78 hq1 rfl rfl (Nat.le_of_ble_eq_true rfl) (fun v hv => f_X5_kind_met hB.2 (by omega) hv) (fun u17_10 => ?_)
    refine x_if_eq (tgt := 88) hC dX8_readWays_20 (by decide) ?_ ?_
    · refine x_sub [3] rfl ?_
      exact x_done (fun h => h)
    · refine x_aload_n hC dX8_readWays_23 rfl 1 rfl ?_
      refine x_aload_n hC dX8_readWays_24 rfl 1 rfl ?_
      refine r_cV1 (as := []) (rest := [zr w 78]) hB dX8_readWays_25 kv_X8_46 th_78 hq1 rfl rfl (Nat.le_of_ble_eq_true rfl) (fun v hv => f_X5_kind_met hB.2 (by omega) hv) (fun u25_10 => ?_)
      refine x_sipush (v := (149 : Int32)) hC dX8_readWays_28 kh_149 ?_
      refine x_icmp_ne (tgt := 38) hC dX8_readWays_31 (by decide) ?_ ?_
      · refine x_iconst (v := (1 : Int32)) hC dX8_readWays_34 ki_1 ?_
        refine x_goto (tgt := 39) hC dX8_readWays_35 (by decide) ?_
        exact j_X8_readWays_39_10_ok hB h0 hd M hR
      · refine x_iconst (v := (0 : Int32)) hC dX8_readWays_38 ki_0 ?_
        exact j_X8_readWays_39_10_ok hB h0 hd M hR
noncomputable def j_X8_readWays_88 (a0 : Nat) (v3_88 : Int32) (M : zM) : Option (Int32 × zM) :=
  some (v3_88, M)
set_option maxRecDepth 100000 in
theorem j_X8_readWays_88_ok {C : zC} {d : Nat} {g : zG} {l : Launch} {w : zW} {r : Int32 × zM} {a0 : Nat} {v3_88 : Int32} (hB : bOK C cX8_readWays 5 RX8 d g l w true) (h0 : tO true 8 a0) (hd : 4 ≤ d) (M : zM) (hR : RtI C cX8_readWays w r.1 r.2) : Sg C w (0, 0) 88 [(3, .int v3_88)] [] M (j_X8_readWays_88 a0 v3_88 M) (fun q => q = r) := by
  have hC := hB.1.1
  have hq1 : 1 ≤ d := by omega
  unfold j_X8_readWays_88
  refine x_iload_n hC dX8_readWays_88 rfl 0 rfl ?_
  exact r_retI hR dX8_readWays_89 (fun h => h)
noncomputable def f_X8_readWays (a0 : Nat) (p2 : Int32) (M : zM) : Option (Int32 × zM) :=
  (f_J7_fill_53178 (a0 + 9) (0 : Int32) M).bind fun M5 =>
  (loopW (fun s => b_X8_readWays_10 a0 p2 s.1 s.2) ((0 : Int32), M5)).bind (fun q => Sum.elim (fun r => j_X8_readWays_88 a0 r.1 r.2) some q)
set_option maxRecDepth 100000 in
theorem f_X8_readWays_ok {C : zC} {d : Nat} {g : zG} {l : Launch} {w : zW} {r : Int32 × zM} {a0 : Nat} {p2 : Int32} (hB : bOK C cX8_readWays 5 RX8 d g l w true) (h0 : tO true 8 a0) (hd : 4 ≤ d) (M : zM) (hR : RtI C cX8_readWays w r.1 r.2) : Sg C w (0, 0) 0 [(0, zr w a0), (1, zr w 78), (2, .int p2)] [] M (f_X8_readWays a0 p2 M) (fun q => q = r) := by
  have hC := hB.1.1
  have hq1 : 1 ≤ d := by omega
  unfold f_X8_readWays
  refine x_aload_n hC dX8_readWays_0 rfl 0 rfl ?_
  refine r_getR hB dX8_readWays_1 kf_X8_25 rfl h0 (nv_8_3 h0).1 ?_
  refine x_iconst (v := (0 : Int32)) hC dX8_readWays_4 ki_0 ?_
  refine r_cSv (as := [zr w (a0 + 9), .int (0 : Int32)]) (rest := []) hB dX8_readWays_5 ks_X8_40 hq1 rfl rfl (Nat.le_of_ble_eq_true rfl) (fun M' hv => f_J7_fill_53178_met hB.2 (tA.toI (nv_8_3 h0).2) (by omega) hv) (fun M5 => ?_)
  refine x_iconst (v := (0 : Int32)) hC dX8_readWays_8 ki_0 ?_
  refine x_istore_n hC dX8_readWays_9 rfl [(3, .int (0 : Int32)), (0, zr w a0), (1, zr w 78), (2, .int p2)] (by decide) rfl ?_
  refine x_sub [1, 2, 3, 0] rfl ?_
  refine x_loopR (pc2 := 88) (fun (s : (Int32 × zM)) => [(0, zr w a0), (1, zr w 78), (2, .int p2), (3, .int s.1)]) (fun (s : (Int32 × zM)) => s.2) (fun (s : (Int32 × zM)) => [(3, .int s.1)]) (fun (s : (Int32 × zM)) => s.2) ((0 : Int32), M5) ?_ ?_
  · exact fun s => b_X8_readWays_10_ok hB h0 hd s.2 hR
  · intro r9
    exact j_X8_readWays_88_ok hB h0 hd r9.2 hR
theorem f_X8_readWays_met {l : Launch} {d : Nat} {g : zG} {w : zW} {M0 : zM} {a0 : Nat} {p2 : Int32} {M : zM} (hw : wS w) (h0 : tO true 8 a0) (hd : 4 ≤ d) {v : Int32} {M' : zM} (h : f_X8_readWays a0 p2 M = some (v, M')) : zMet l yX8_readWays cX8_readWays 5 (some .int) d g w (zin true) M0 [zr w a0, zr w 78, .int p2] M (some (.int v)) M' :=
  met_i (by decide +kernel) (Nat.le_of_ble_eq_true rfl) rfl (fun C hB0 hR => f_X8_readWays_ok (r := (v, M')) ⟨hB0, hw⟩ h0 hd M hR _ h rfl)
/-! WindingSquare$Texts.readWatch(LWindingSquare$Reader;)I -/
noncomputable def j_X8_readWatch_31_2 (a0 : Nat) (v2_31_2 : Int32) (s1_31_2 : Int32) (M : zM) : Option ((Int32 × zM) ⊕ ((Int32 × zM) ⊕ (Int32 × zM))) :=
  bnd2 (f_X5_opens s1_31_2 v2_31_2 (16 : Int32) M) fun u34_2 M34_2 =>
  if u34_2 = 0 then (some (.inr (.inr ((-1 : Int32), M34_2))))
  else ((f_X5_next M34_2).bind fun M43_2 =>
  bnd2 (f_X5_number (0 : Int32) (999 : Int32) M43_2) fun u56_2 M56_2 =>
  grd (inb v2_31_2 16) (
  nm (mset M56_2 (a0 + 12) (ix v2_31_2) u56_2) fun M59_2 =>
  grd (inb v2_31_2 16) (
  if (M59_2 (a0 + 12) (ix v2_31_2)) = (-1 : Int32) then (some (.inr (.inr ((-1 : Int32), M59_2))))
  else (bnd2 (f_X8_readWatchers a0 M59_2) fun u79_2 M79_2 =>
  grd (inb v2_31_2 16) (
  nm (mset M79_2 (a0 + 13) (ix v2_31_2) u79_2) fun M82_2 =>
  grd (inb v2_31_2 16) (
  if (M82_2 (a0 + 13) (ix v2_31_2)) = (-1 : Int32) then (some (.inr (.inr ((-1 : Int32), M82_2))))
  else (bnd2 (f_X5_take (59 : Int32) M82_2) fun u96_2 M96_2 =>
  if u96_2 = 0 then (some (.inr (.inr ((-1 : Int32), M96_2))))
  else (some (.inl ((v2_31_2 + (1 : Int32)), M96_2))))))))))
set_option maxRecDepth 100000 in
theorem j_X8_readWatch_31_2_ok {C : zC} {d : Nat} {g : zG} {l : Launch} {w : zW} {r : Int32 × zM} {a0 : Nat} {v2_31_2 : Int32} {s1_31_2 : Int32} (hB : bOK C cX8_readWatch 3 RX8 d g l w true) (h0 : tO true 8 a0) (hd : 4 ≤ d) (M : zM) (hR : RtI C cX8_readWatch w r.1 r.2) : Sg C w (0, 0) 31 [(0, zr w a0), (1, zr w 78), (2, .int v2_31_2)] [.int s1_31_2, zr w 78] M (j_X8_readWatch_31_2 a0 v2_31_2 s1_31_2 M) (fun o => Sum.elim (fun (s : (Int32 × zM)) => Zs C w (0, 0) 2 [(0, zr w a0), (1, zr w 78), (2, .int s.1)] [] s.2) (fun q => Sum.elim (fun (s : (Int32 × zM)) => Zs C w (0, 0) 110 [(2, .int s.1)] [] s.2) (fun q => q = r) q) o) := by
  have hC := hB.1.1
  have hq1 : 1 ≤ d := by omega
  unfold j_X8_readWatch_31_2
  refine x_iload_n hC dX8_readWatch_31 rfl 2 rfl ?_
  refine x_bipush (v := (16 : Int32)) hC dX8_readWatch_32 kb_16 ?_
  refine r_cV2 (as := [.int s1_31_2, .int v2_31_2, .int (16 : Int32)]) (rest := []) hB dX8_readWatch_34 kv_X8_56 th_78 hq1 rfl rfl (Nat.le_of_ble_eq_true rfl) (fun v M' hv => f_X5_opens_met hB.2 (by omega) hv) (fun u34_2 M34_2 => ?_)
  refine x_if_ne (tgt := 42) hC dX8_readWatch_37 (by decide) ?_ ?_
  · refine x_iconst (v := (-1 : Int32)) hC dX8_readWatch_40 ki_m1 ?_
    exact r_retI hR dX8_readWatch_41 (fun h => h)
  · refine x_aload_n hC dX8_readWatch_42 rfl 1 rfl ?_
    refine r_cVv (as := []) (rest := []) hB dX8_readWatch_43 kv_X8_60 th_78 hq1 rfl rfl (Nat.le_of_ble_eq_true rfl) (fun M' hv => f_X5_next_met hB.2 (by omega) hv) (fun M43_2 => ?_)
    refine x_aload_n hC dX8_readWatch_46 rfl 0 rfl ?_
    refine r_getR hB dX8_readWatch_47 kf_X8_34 rfl h0 (nv_8_6 h0).1 ?_
    refine x_iload_n hC dX8_readWatch_50 rfl 2 rfl ?_
    refine x_aload_n hC dX8_readWatch_51 rfl 1 rfl ?_
    refine x_iconst (v := (0 : Int32)) hC dX8_readWatch_52 ki_0 ?_
    refine x_sipush (v := (999 : Int32)) hC dX8_readWatch_53 kh_999 ?_
    refine r_cV2 (as := [.int (0 : Int32), .int (999 : Int32)]) (rest := [.int v2_31_2, zr w (a0 + 12)]) hB dX8_readWatch_56 kv_X8_71 th_78 hq1 rfl rfl (Nat.le_of_ble_eq_true rfl) (fun v M' hv => f_X5_number_met hB.2 (by omega) hv) (fun u56_2 M56_2 => ?_)
    refine r_iast hB dX8_readWatch_59 (nv_8_6 h0).2 ?_
    refine x_mem (fun M59_2 => ?_)
    refine x_aload_n hC dX8_readWatch_60 rfl 0 rfl ?_
    refine r_getR hB dX8_readWatch_61 kf_X8_34 rfl h0 (nv_8_6 h0).1 ?_
    refine x_iload_n hC dX8_readWatch_64 rfl 2 rfl ?_
    refine r_iald hB dX8_readWatch_65 (nv_8_6 h0).2 ?_
    refine x_iconst (v := (-1 : Int32)) hC dX8_readWatch_66 ki_m1 ?_
    refine x_icmp_ne (tgt := 72) hC dX8_readWatch_67 (by decide) ?_ ?_
    · refine x_iconst (v := (-1 : Int32)) hC dX8_readWatch_70 ki_m1 ?_
      exact r_retI hR dX8_readWatch_71 (fun h => h)
    · refine x_aload_n hC dX8_readWatch_72 rfl 0 rfl ?_
      refine r_getR hB dX8_readWatch_73 kf_X8_37 rfl h0 (nv_8_7 h0).1 ?_
      refine x_iload_n hC dX8_readWatch_76 rfl 2 rfl ?_
      refine x_aload_n hC dX8_readWatch_77 rfl 0 rfl ?_
      refine x_aload_n hC dX8_readWatch_78 rfl 1 rfl ?_
      refine r_cV2 (as := [zr w 78]) (rest := [.int v2_31_2, zr w (a0 + 13)]) hB dX8_readWatch_79 kv_X8_78 h0 hq1 rfl rfl (Nat.le_of_ble_eq_true rfl) (fun v M' hv => f_X8_readWatchers_met hB.2 h0 (by omega) hv) (fun u79_2 M79_2 => ?_)
      refine r_iast hB dX8_readWatch_82 (nv_8_7 h0).2 ?_
      refine x_mem (fun M82_2 => ?_)
      refine x_aload_n hC dX8_readWatch_83 rfl 0 rfl ?_
      refine r_getR hB dX8_readWatch_84 kf_X8_37 rfl h0 (nv_8_7 h0).1 ?_
      refine x_iload_n hC dX8_readWatch_87 rfl 2 rfl ?_
      refine r_iald hB dX8_readWatch_88 (nv_8_7 h0).2 ?_
      refine x_iconst (v := (-1 : Int32)) hC dX8_readWatch_89 ki_m1 ?_
      refine x_icmp_eq (tgt := 102) hC dX8_readWatch_90 (by decide) ?_ ?_
      · refine x_iconst (v := (-1 : Int32)) hC dX8_readWatch_102 ki_m1 ?_
        exact r_retI hR dX8_readWatch_103 (fun h => h)
      · refine x_aload_n hC dX8_readWatch_93 rfl 1 rfl ?_
        refine x_bipush (v := (59 : Int32)) hC dX8_readWatch_94 kb_59 ?_
        refine r_cV2 (as := [.int (59 : Int32)]) (rest := []) hB dX8_readWatch_96 kv_X8_67 th_78 hq1 rfl rfl (Nat.le_of_ble_eq_true rfl) (fun v M' hv => f_X5_take_met hB.2 (by omega) hv) (fun u96_2 M96_2 => ?_)
        refine x_if_ne (tgt := 104) hC dX8_readWatch_99 (by decide) ?_ ?_
        · refine x_iconst (v := (-1 : Int32)) hC dX8_readWatch_102 ki_m1 ?_
          exact r_retI hR dX8_readWatch_103 (fun h => h)
        · refine x_iinc hC dX8_readWatch_104 ki_1 [(2, .int (v2_31_2 + (1 : Int32))), (0, zr w a0), (1, zr w 78)] 2 rfl (by decide) rfl ?_
          refine x_goto (tgt := 2) hC dX8_readWatch_107 (by decide) ?_
          refine x_sub [1, 2, 0] rfl ?_
          exact x_done (fun h => h)
noncomputable def b_X8_readWatch_2 (a0 : Nat) (v2_2 : Int32) (M : zM) : Option ((Int32 × zM) ⊕ ((Int32 × zM) ⊕ (Int32 × zM))) :=
  if (16 : Int32) < v2_2 then (some (.inr (.inl (v2_2, M))))
  else ((f_X5_kind M).bind fun u9_2 =>
  if u9_2 = 0 then (some (.inr (.inl (v2_2, M))))
  else ((f_X5_kind M).bind fun u17_2 =>
  if u17_2 = (155 : Int32) then (j_X8_readWatch_31_2 a0 v2_2 (1 : Int32) M)
  else (j_X8_readWatch_31_2 a0 v2_2 (0 : Int32) M)))
set_option maxRecDepth 100000 in
theorem b_X8_readWatch_2_ok {C : zC} {d : Nat} {g : zG} {l : Launch} {w : zW} {r : Int32 × zM} {a0 : Nat} {v2_2 : Int32} (hB : bOK C cX8_readWatch 3 RX8 d g l w true) (h0 : tO true 8 a0) (hd : 4 ≤ d) (M : zM) (hR : RtI C cX8_readWatch w r.1 r.2) : Sg C w (0, 0) 2 [(0, zr w a0), (1, zr w 78), (2, .int v2_2)] [] M (b_X8_readWatch_2 a0 v2_2 M) (fun o => Sum.elim (fun (s : (Int32 × zM)) => Zs C w (0, 0) 2 [(0, zr w a0), (1, zr w 78), (2, .int s.1)] [] s.2) (fun q => Sum.elim (fun (s : (Int32 × zM)) => Zs C w (0, 0) 110 [(2, .int s.1)] [] s.2) (fun q => q = r) q) o) := by
  have hC := hB.1.1
  have hq1 : 1 ≤ d := by omega
  unfold b_X8_readWatch_2
  refine x_iload_n hC dX8_readWatch_2 rfl 2 rfl ?_
  refine x_bipush (v := (16 : Int32)) hC dX8_readWatch_3 kb_16 ?_
  refine x_icmp_gt (tgt := 110) hC dX8_readWatch_5 (by decide) ?_ ?_
  · refine x_sub [2] rfl ?_
    exact x_done (fun h => h)
  · refine x_aload_n hC dX8_readWatch_8 rfl 1 rfl ?_
    refine r_cV1 (as := []) (rest := []) hB dX8_readWatch_9 kv_X8_46 th_78 hq1 rfl rfl (Nat.le_of_ble_eq_true rfl) (fun v hv => f_X5_kind_met hB.2 (by omega) hv) (fun u9_2 => ?_)
    refine x_if_eq (tgt := 110) hC dX8_readWatch_12 (by decide) ?_ ?_
    · refine x_sub [2] rfl ?_
      exact x_done (fun h => h)
    · refine x_aload_n hC dX8_readWatch_15 rfl 1 rfl ?_
      refine x_aload_n hC dX8_readWatch_16 rfl 1 rfl ?_
      refine r_cV1 (as := []) (rest := [zr w 78]) hB dX8_readWatch_17 kv_X8_46 th_78 hq1 rfl rfl (Nat.le_of_ble_eq_true rfl) (fun v hv => f_X5_kind_met hB.2 (by omega) hv) (fun u17_2 => ?_)
      refine x_sipush (v := (155 : Int32)) hC dX8_readWatch_20 kh_155 ?_
      refine x_icmp_ne (tgt := 30) hC dX8_readWatch_23 (by decide) ?_ ?_
      · refine x_iconst (v := (1 : Int32)) hC dX8_readWatch_26 ki_1 ?_
        refine x_goto (tgt := 31) hC dX8_readWatch_27 (by decide) ?_
        exact j_X8_readWatch_31_2_ok hB h0 hd M hR
      · refine x_iconst (v := (0 : Int32)) hC dX8_readWatch_30 ki_0 ?_
        exact j_X8_readWatch_31_2_ok hB h0 hd M hR
noncomputable def j_X8_readWatch_110 (a0 : Nat) (v2_110 : Int32) (M : zM) : Option (Int32 × zM) :=
  some (v2_110, M)
set_option maxRecDepth 100000 in
theorem j_X8_readWatch_110_ok {C : zC} {d : Nat} {g : zG} {l : Launch} {w : zW} {r : Int32 × zM} {a0 : Nat} {v2_110 : Int32} (hB : bOK C cX8_readWatch 3 RX8 d g l w true) (h0 : tO true 8 a0) (hd : 4 ≤ d) (M : zM) (hR : RtI C cX8_readWatch w r.1 r.2) : Sg C w (0, 0) 110 [(2, .int v2_110)] [] M (j_X8_readWatch_110 a0 v2_110 M) (fun q => q = r) := by
  have hC := hB.1.1
  have hq1 : 1 ≤ d := by omega
  unfold j_X8_readWatch_110
  refine x_iload_n hC dX8_readWatch_110 rfl 0 rfl ?_
  exact r_retI hR dX8_readWatch_111 (fun h => h)
noncomputable def f_X8_readWatch (a0 : Nat) (M : zM) : Option (Int32 × zM) :=
  (loopW (fun s => b_X8_readWatch_2 a0 s.1 s.2) ((0 : Int32), M)).bind (fun q => Sum.elim (fun r => j_X8_readWatch_110 a0 r.1 r.2) some q)
set_option maxRecDepth 100000 in
theorem f_X8_readWatch_ok {C : zC} {d : Nat} {g : zG} {l : Launch} {w : zW} {r : Int32 × zM} {a0 : Nat} (hB : bOK C cX8_readWatch 3 RX8 d g l w true) (h0 : tO true 8 a0) (hd : 4 ≤ d) (M : zM) (hR : RtI C cX8_readWatch w r.1 r.2) : Sg C w (0, 0) 0 [(0, zr w a0), (1, zr w 78)] [] M (f_X8_readWatch a0 M) (fun q => q = r) := by
  have hC := hB.1.1
  have hq1 : 1 ≤ d := by omega
  unfold f_X8_readWatch
  refine x_iconst (v := (0 : Int32)) hC dX8_readWatch_0 ki_0 ?_
  refine x_istore_n hC dX8_readWatch_1 rfl [(2, .int (0 : Int32)), (0, zr w a0), (1, zr w 78)] (by decide) rfl ?_
  refine x_sub [1, 2, 0] rfl ?_
  refine x_loopR (pc2 := 110) (fun (s : (Int32 × zM)) => [(0, zr w a0), (1, zr w 78), (2, .int s.1)]) (fun (s : (Int32 × zM)) => s.2) (fun (s : (Int32 × zM)) => [(2, .int s.1)]) (fun (s : (Int32 × zM)) => s.2) ((0 : Int32), M) ?_ ?_
  · exact fun s => b_X8_readWatch_2_ok hB h0 hd s.2 hR
  · intro r9
    exact j_X8_readWatch_110_ok hB h0 hd r9.2 hR
theorem f_X8_readWatch_met {l : Launch} {d : Nat} {g : zG} {w : zW} {M0 : zM} {a0 : Nat} {M : zM} (hw : wS w) (h0 : tO true 8 a0) (hd : 4 ≤ d) {v : Int32} {M' : zM} (h : f_X8_readWatch a0 M = some (v, M')) : zMet l yX8_readWatch cX8_readWatch 3 (some .int) d g w (zin true) M0 [zr w a0, zr w 78] M (some (.int v)) M' :=
  met_i (by decide +kernel) (Nat.le_of_ble_eq_true rfl) rfl (fun C hB0 hR => f_X8_readWatch_ok (r := (v, M')) ⟨hB0, hw⟩ h0 hd M hR _ h rfl)
/-! WindingSquare$Texts.copyText(ILWindingSquare$Texts;)V -/
noncomputable def f_X8_copyText (a0 : Nat) (p1 : Int32) (a2 : Nat) (M : zM) : Option (zM) :=
  grd (inb p1 4) (
  grd (inb p1 4) (
  nm (mset M (a0 + 7) (ix p1) (M (a2 + 7) (ix p1))) fun M11 =>
  if p1 = (0 : Int32) then ((f_X3_copyFrom (a0 + 1) (a2 + 1) M11).bind fun M48 =>
  some M48)
  else (if p1 = (1 : Int32) then (nm (mrow M11 (a0 + 8) (va_cpy (M11 (a2 + 8)) (M11 (a0 + 8)) (ix (0 : Int32)) (ix (0 : Int32)) (ix (144 : Int32)))) fun M67 =>
  some M67)
  else (if p1 = (2 : Int32) then (nm (mrow M11 (a0 + 9) (va_cpy (M11 (a2 + 9)) (M11 (a0 + 9)) (ix (0 : Int32)) (ix (0 : Int32)) (ix (16 : Int32)))) fun M85 =>
  nm (mrow M85 (a0 + 10) (va_cpy (M85 (a2 + 10)) (M85 (a0 + 10)) (ix (0 : Int32)) (ix (0 : Int32)) (ix (192 : Int32)))) fun M101 =>
  nm (mrow M101 (a0 + 11) (va_cpy (M101 (a2 + 11)) (M101 (a0 + 11)) (ix (0 : Int32)) (ix (0 : Int32)) (ix (192 : Int32)))) fun M117 =>
  some M117)
  else (nm (mrow M11 (a0 + 12) (va_cpy (M11 (a2 + 12)) (M11 (a0 + 12)) (ix (0 : Int32)) (ix (0 : Int32)) (ix (16 : Int32)))) fun M135 =>
  nm (mrow M135 (a0 + 13) (va_cpy (M135 (a2 + 13)) (M135 (a0 + 13)) (ix (0 : Int32)) (ix (0 : Int32)) (ix (16 : Int32)))) fun M150 =>
  some M150)))))
set_option maxRecDepth 100000 in
theorem f_X8_copyText_ok {C : zC} {d : Nat} {g : zG} {l : Launch} {w : zW} {r : zM} {a0 : Nat} {p1 : Int32} {a2 : Nat} (hB : bOK C cX8_copyText 3 RX8 d g l w true) (h0 : tO true 8 a0) (h2 : tO true 8 a2) (hd : 4 ≤ d) (M : zM) (hR : RtV C cX8_copyText w r) : Sg C w (0, 0) 0 [(0, zr w a0), (1, .int p1), (2, zr w a2)] [] M (f_X8_copyText a0 p1 a2 M) (fun q => q = r) := by
  have hC := hB.1.1
  have hq1 : 1 ≤ d := by omega
  unfold f_X8_copyText
  refine x_aload_n hC dX8_copyText_0 rfl 0 rfl ?_
  refine r_getR hB dX8_copyText_1 kf_X8_18 rfl h0 (nv_8_1 h0).1 ?_
  refine x_iload_n hC dX8_copyText_4 rfl 1 rfl ?_
  refine x_aload_n hC dX8_copyText_5 rfl 2 rfl ?_
  refine r_getR hB dX8_copyText_6 kf_X8_18 rfl h2 (nv_8_1 h2).1 ?_
  refine x_iload_n hC dX8_copyText_9 rfl 1 rfl ?_
  refine r_iald hB dX8_copyText_10 (nv_8_1 h2).2 ?_
  refine r_iast hB dX8_copyText_11 (nv_8_1 h0).2 ?_
  refine x_mem (fun M11 => ?_)
  refine x_iload_n hC dX8_copyText_12 rfl 1 rfl ?_
  refine x_ite (fun hs => ?_) (fun hs0 => ?_)
  · refine x_tsI (tgt := 40) (off := 27) hC dX8_copyText_13 (by rw [hs]; decide +kernel) (by rw [hs]; decide +kernel) (by rw [hs]; decide +kernel) (by decide) ?_
    refine x_aload_n hC dX8_copyText_40 rfl 0 rfl ?_
    refine r_getR hB dX8_copyText_41 kf_X8_12 rfl h0 (nv_8_0 h0).1 ?_
    refine x_aload_n hC dX8_copyText_44 rfl 2 rfl ?_
    refine r_getR hB dX8_copyText_45 kf_X8_12 rfl h2 (nv_8_0 h2).1 ?_
    refine r_cVv (as := [zr w (a2 + 1)]) (rest := []) hB dX8_copyText_48 kv_X8_91 (nv_8_0 h0).2 hq1 rfl rfl (Nat.le_of_ble_eq_true rfl) (fun M' hv => f_X3_copyFrom_met hB.2 (nv_8_0 h0).2 (nv_8_0 h2).2 (by omega) hv) (fun M48 => ?_)
    refine x_goto (tgt := 153) hC dX8_copyText_51 (by decide) ?_
    exact r_retV hR dX8_copyText_153 (fun h => h)
  · skip
    refine x_ite (fun hs => ?_) (fun hs1 => ?_)
    · refine x_tsI (tgt := 54) (off := 41) hC dX8_copyText_13 (by rw [hs]; decide +kernel) (by rw [hs]; decide +kernel) (by rw [hs]; decide +kernel) (by decide) ?_
      refine x_aload_n hC dX8_copyText_54 rfl 2 rfl ?_
      refine r_getR hB dX8_copyText_55 kf_X8_22 rfl h2 (nv_8_2 h2).1 ?_
      refine x_iconst (v := (0 : Int32)) hC dX8_copyText_58 ki_0 ?_
      refine x_aload_n hC dX8_copyText_59 rfl 0 rfl ?_
      refine r_getR hB dX8_copyText_60 kf_X8_22 rfl h0 (nv_8_2 h0).1 ?_
      refine x_iconst (v := (0 : Int32)) hC dX8_copyText_63 ki_0 ?_
      refine x_sipush (v := (144 : Int32)) hC dX8_copyText_64 kh_144 ?_
      refine r_acp hB dX8_copyText_67 kac_X8_95 (Nat.le_trans (by decide) hd) (nv_8_2 h2).2 (nv_8_2 h0).2 (by decide) (by decide) (by decide) (by decide +kernel) (by decide +kernel) (Nat.le_of_ble_eq_true rfl) ?_
      refine x_mem (fun M67 => ?_)
      refine x_goto (tgt := 153) hC dX8_copyText_70 (by decide) ?_
      exact r_retV hR dX8_copyText_153 (fun h => h)
    · skip
      refine x_ite (fun hs => ?_) (fun hs2 => ?_)
      · refine x_tsI (tgt := 73) (off := 60) hC dX8_copyText_13 (by rw [hs]; decide +kernel) (by rw [hs]; decide +kernel) (by rw [hs]; decide +kernel) (by decide) ?_
        refine x_aload_n hC dX8_copyText_73 rfl 2 rfl ?_
        refine r_getR hB dX8_copyText_74 kf_X8_25 rfl h2 (nv_8_3 h2).1 ?_
        refine x_iconst (v := (0 : Int32)) hC dX8_copyText_77 ki_0 ?_
        refine x_aload_n hC dX8_copyText_78 rfl 0 rfl ?_
        refine r_getR hB dX8_copyText_79 kf_X8_25 rfl h0 (nv_8_3 h0).1 ?_
        refine x_iconst (v := (0 : Int32)) hC dX8_copyText_82 ki_0 ?_
        refine x_bipush (v := (16 : Int32)) hC dX8_copyText_83 kb_16 ?_
        refine r_acp hB dX8_copyText_85 kac_X8_95 (Nat.le_trans (by decide) hd) (nv_8_3 h2).2 (nv_8_3 h0).2 (by decide) (by decide) (by decide) (by decide +kernel) (by decide +kernel) (Nat.le_of_ble_eq_true rfl) ?_
        refine x_mem (fun M85 => ?_)
        refine x_aload_n hC dX8_copyText_88 rfl 2 rfl ?_
        refine r_getR hB dX8_copyText_89 kf_X8_28 rfl h2 (nv_8_4 h2).1 ?_
        refine x_iconst (v := (0 : Int32)) hC dX8_copyText_92 ki_0 ?_
        refine x_aload_n hC dX8_copyText_93 rfl 0 rfl ?_
        refine r_getR hB dX8_copyText_94 kf_X8_28 rfl h0 (nv_8_4 h0).1 ?_
        refine x_iconst (v := (0 : Int32)) hC dX8_copyText_97 ki_0 ?_
        refine x_sipush (v := (192 : Int32)) hC dX8_copyText_98 kh_192 ?_
        refine r_acp hB dX8_copyText_101 kac_X8_95 (Nat.le_trans (by decide) hd) (nv_8_4 h2).2 (nv_8_4 h0).2 (by decide) (by decide) (by decide) (by decide +kernel) (by decide +kernel) (Nat.le_of_ble_eq_true rfl) ?_
        refine x_mem (fun M101 => ?_)
        refine x_aload_n hC dX8_copyText_104 rfl 2 rfl ?_
        refine r_getR hB dX8_copyText_105 kf_X8_31 rfl h2 (nv_8_5 h2).1 ?_
        refine x_iconst (v := (0 : Int32)) hC dX8_copyText_108 ki_0 ?_
        refine x_aload_n hC dX8_copyText_109 rfl 0 rfl ?_
        refine r_getR hB dX8_copyText_110 kf_X8_31 rfl h0 (nv_8_5 h0).1 ?_
        refine x_iconst (v := (0 : Int32)) hC dX8_copyText_113 ki_0 ?_
        refine x_sipush (v := (192 : Int32)) hC dX8_copyText_114 kh_192 ?_
        refine r_acp hB dX8_copyText_117 kac_X8_95 (Nat.le_trans (by decide) hd) (nv_8_5 h2).2 (nv_8_5 h0).2 (by decide) (by decide) (by decide) (by decide +kernel) (by decide +kernel) (Nat.le_of_ble_eq_true rfl) ?_
        refine x_mem (fun M117 => ?_)
        refine x_goto (tgt := 153) hC dX8_copyText_120 (by decide) ?_
        exact r_retV hR dX8_copyText_153 (fun h => h)
      · skip
        refine x_tsO (tgt := 123) hC dX8_copyText_13 (by have q0 := x_ne (k := 0) hs0 (by decide); have q1 := x_ne (k := 1) hs1 (by decide); have q2 := x_ne (k := 2) hs2 (by decide); omega) (by decide) ?_
        refine x_aload_n hC dX8_copyText_123 rfl 2 rfl ?_
        refine r_getR hB dX8_copyText_124 kf_X8_34 rfl h2 (nv_8_6 h2).1 ?_
        refine x_iconst (v := (0 : Int32)) hC dX8_copyText_127 ki_0 ?_
        refine x_aload_n hC dX8_copyText_128 rfl 0 rfl ?_
        refine r_getR hB dX8_copyText_129 kf_X8_34 rfl h0 (nv_8_6 h0).1 ?_
        refine x_iconst (v := (0 : Int32)) hC dX8_copyText_132 ki_0 ?_
        refine x_bipush (v := (16 : Int32)) hC dX8_copyText_133 kb_16 ?_
        refine r_acp hB dX8_copyText_135 kac_X8_95 (Nat.le_trans (by decide) hd) (nv_8_6 h2).2 (nv_8_6 h0).2 (by decide) (by decide) (by decide) (by decide +kernel) (by decide +kernel) (Nat.le_of_ble_eq_true rfl) ?_
        refine x_mem (fun M135 => ?_)
        refine x_aload_n hC dX8_copyText_138 rfl 2 rfl ?_
        refine r_getR hB dX8_copyText_139 kf_X8_37 rfl h2 (nv_8_7 h2).1 ?_
        refine x_iconst (v := (0 : Int32)) hC dX8_copyText_142 ki_0 ?_
        refine x_aload_n hC dX8_copyText_143 rfl 0 rfl ?_
        refine r_getR hB dX8_copyText_144 kf_X8_37 rfl h0 (nv_8_7 h0).1 ?_
        refine x_iconst (v := (0 : Int32)) hC dX8_copyText_147 ki_0 ?_
        refine x_bipush (v := (16 : Int32)) hC dX8_copyText_148 kb_16 ?_
        refine r_acp hB dX8_copyText_150 kac_X8_95 (Nat.le_trans (by decide) hd) (nv_8_7 h2).2 (nv_8_7 h0).2 (by decide) (by decide) (by decide) (by decide +kernel) (by decide +kernel) (Nat.le_of_ble_eq_true rfl) ?_
        refine x_mem (fun M150 => ?_)
        exact r_retV hR dX8_copyText_153 (fun h => h)
theorem f_X8_copyText_met {l : Launch} {d : Nat} {g : zG} {w : zW} {M0 : zM} {a0 : Nat} {p1 : Int32} {a2 : Nat} {M : zM} (hw : wS w) (h0 : tO true 8 a0) (h2 : tO true 8 a2) (hd : 4 ≤ d) {M' : zM} (h : f_X8_copyText a0 p1 a2 M = some M') : zMet l yX8_copyText cX8_copyText 3 none d g w (zin true) M0 [zr w a0, .int p1, zr w a2] M none M' :=
  met_v (by decide +kernel) (Nat.le_of_ble_eq_true rfl) (fun C hB0 hR => f_X8_copyText_ok ⟨hB0, hw⟩ h0 h2 hd M hR _ h rfl)
/-! WindingSquare$Texts.readArea(LWindingSquare$Reader;I)Z -/
noncomputable def b_X8_readArea_110_99 (a0 : Nat) (v2_99 : Int32) (v5_99 : Int32) (v6_99 : Int32) (v8_99 : Int32) (v9_110_99 : Int32) (v10_110_99 : Int32) (M : zM) : Option ((Int32 × zM) ⊕ (zM)) :=
  if v6_99 < v10_110_99 then (some (.inr M))
  else (grd (inb (((12 : Int32) * v9_110_99) + v10_110_99) 144) (
  nm (mset M (a0 + 8) (ix (((12 : Int32) * v9_110_99) + v10_110_99)) v2_99) fun M130_99_110 =>
  some (.inl ((v10_110_99 + (1 : Int32)), M130_99_110))))
set_option maxRecDepth 100000 in
theorem b_X8_readArea_110_99_ok {C : zC} {d : Nat} {g : zG} {l : Launch} {w : zW} {r : Int32 × zM} {a0 : Nat} {v2_99 : Int32} {v5_99 : Int32} {v6_99 : Int32} {v8_99 : Int32} {v9_110_99 : Int32} {v10_110_99 : Int32} (hB : bOK C cX8_readArea 11 RX8 d g l w true) (h0 : tO true 8 a0) (hd : 4 ≤ d) (M : zM) (hR : RtZ C cX8_readArea w r.1 r.2) : Sg C w (0, 0) 110 [(0, zr w a0), (2, .int v2_99), (5, .int v5_99), (6, .int v6_99), (8, .int v8_99), (9, .int v9_110_99), (10, .int v10_110_99)] [] M (b_X8_readArea_110_99 a0 v2_99 v5_99 v6_99 v8_99 v9_110_99 v10_110_99 M) (fun o => Sum.elim (fun (s : (Int32 × zM)) => Zs C w (0, 0) 110 [(0, zr w a0), (2, .int v2_99), (5, .int v5_99), (6, .int v6_99), (8, .int v8_99), (9, .int v9_110_99), (10, .int s.1)] [] s.2) (fun (s : (zM)) => Zs C w (0, 0) 137 [(0, zr w a0), (2, .int v2_99), (5, .int v5_99), (6, .int v6_99), (8, .int v8_99), (9, .int v9_110_99)] [] s) o) := by
  have hC := hB.1.1
  have hq1 : 1 ≤ d := by omega
  unfold b_X8_readArea_110_99
  refine x_iload hC dX8_readArea_110 6 rfl ?_
  refine x_iload hC dX8_readArea_112 3 rfl ?_
  refine x_icmp_gt (tgt := 137) hC dX8_readArea_114 (by decide) ?_ ?_
  · refine x_sub [0, 1, 2, 3, 4, 5] rfl ?_
    exact x_done (fun h => h)
  · refine x_aload_n hC dX8_readArea_117 rfl 0 rfl ?_
    refine r_getR hB dX8_readArea_118 kf_X8_22 rfl h0 (nv_8_2 h0).1 ?_
    refine x_bipush (v := (12 : Int32)) hC dX8_readArea_121 kb_12 ?_
    refine x_iload hC dX8_readArea_123 5 rfl ?_
    refine x_imul hC dX8_readArea_125 ?_
    refine x_iload hC dX8_readArea_126 6 rfl ?_
    refine x_iadd hC dX8_readArea_128 ?_
    refine x_iload_n hC dX8_readArea_129 rfl 1 rfl ?_
    refine r_iast hB dX8_readArea_130 (nv_8_2 h0).2 ?_
    refine x_mem (fun M130_99_110 => ?_)
    refine x_iinc hC dX8_readArea_131 ki_1 [(10, .int (v10_110_99 + (1 : Int32))), (0, zr w a0), (2, .int v2_99), (5, .int v5_99), (6, .int v6_99), (8, .int v8_99), (9, .int v9_110_99)] 6 rfl (by decide) rfl ?_
    refine x_goto (tgt := 110) hC dX8_readArea_134 (by decide) ?_
    refine x_sub [1, 2, 3, 4, 5, 6, 0] rfl ?_
    exact x_done (fun h => h)
noncomputable def j_X8_readArea_137_99 (a0 : Nat) (v2_99 : Int32) (v5_99 : Int32) (v6_99 : Int32) (v8_99 : Int32) (v9_137_99 : Int32) (M : zM) : Option ((Int32 × zM) ⊕ (zM)) :=
  some (.inl ((v9_137_99 + (1 : Int32)), M))
set_option maxRecDepth 100000 in
theorem j_X8_readArea_137_99_ok {C : zC} {d : Nat} {g : zG} {l : Launch} {w : zW} {r : Int32 × zM} {a0 : Nat} {v2_99 : Int32} {v5_99 : Int32} {v6_99 : Int32} {v8_99 : Int32} {v9_137_99 : Int32} (hB : bOK C cX8_readArea 11 RX8 d g l w true) (h0 : tO true 8 a0) (hd : 4 ≤ d) (M : zM) (hR : RtZ C cX8_readArea w r.1 r.2) : Sg C w (0, 0) 137 [(0, zr w a0), (2, .int v2_99), (5, .int v5_99), (6, .int v6_99), (8, .int v8_99), (9, .int v9_137_99)] [] M (j_X8_readArea_137_99 a0 v2_99 v5_99 v6_99 v8_99 v9_137_99 M) (fun o => Sum.elim (fun (s : (Int32 × zM)) => Zs C w (0, 0) 99 [(0, zr w a0), (2, .int v2_99), (5, .int v5_99), (6, .int v6_99), (8, .int v8_99), (9, .int s.1)] [] s.2) (fun (s : (zM)) => Zs C w (0, 0) 143 [] [] s) o) := by
  have hC := hB.1.1
  have hq1 : 1 ≤ d := by omega
  unfold j_X8_readArea_137_99
  refine x_iinc hC dX8_readArea_137 ki_1 [(9, .int (v9_137_99 + (1 : Int32))), (0, zr w a0), (2, .int v2_99), (5, .int v5_99), (6, .int v6_99), (8, .int v8_99)] 5 rfl (by decide) rfl ?_
  refine x_goto (tgt := 99) hC dX8_readArea_140 (by decide) ?_
  refine x_sub [1, 2, 3, 4, 5, 0] rfl ?_
  exact x_done (fun h => h)
noncomputable def b_X8_readArea_99 (a0 : Nat) (v2_99 : Int32) (v5_99 : Int32) (v6_99 : Int32) (v8_99 : Int32) (v9_99 : Int32) (M : zM) : Option ((Int32 × zM) ⊕ (zM)) :=
  if v8_99 < v9_99 then (some (.inr M))
  else ((loopW (fun s => b_X8_readArea_110_99 a0 v2_99 v5_99 v6_99 v8_99 v9_99 s.1 s.2) (v5_99, M)).bind (fun r => j_X8_readArea_137_99 a0 v2_99 v5_99 v6_99 v8_99 v9_99 r))
set_option maxRecDepth 100000 in
theorem b_X8_readArea_99_ok {C : zC} {d : Nat} {g : zG} {l : Launch} {w : zW} {r : Int32 × zM} {a0 : Nat} {v2_99 : Int32} {v5_99 : Int32} {v6_99 : Int32} {v8_99 : Int32} {v9_99 : Int32} (hB : bOK C cX8_readArea 11 RX8 d g l w true) (h0 : tO true 8 a0) (hd : 4 ≤ d) (M : zM) (hR : RtZ C cX8_readArea w r.1 r.2) : Sg C w (0, 0) 99 [(0, zr w a0), (2, .int v2_99), (5, .int v5_99), (6, .int v6_99), (8, .int v8_99), (9, .int v9_99)] [] M (b_X8_readArea_99 a0 v2_99 v5_99 v6_99 v8_99 v9_99 M) (fun o => Sum.elim (fun (s : (Int32 × zM)) => Zs C w (0, 0) 99 [(0, zr w a0), (2, .int v2_99), (5, .int v5_99), (6, .int v6_99), (8, .int v8_99), (9, .int s.1)] [] s.2) (fun (s : (zM)) => Zs C w (0, 0) 143 [] [] s) o) := by
  have hC := hB.1.1
  have hq1 : 1 ≤ d := by omega
  unfold b_X8_readArea_99
  refine x_iload hC dX8_readArea_99 5 rfl ?_
  refine x_iload hC dX8_readArea_101 4 rfl ?_
  refine x_icmp_gt (tgt := 143) hC dX8_readArea_103 (by decide) ?_ ?_
  · refine x_sub [] rfl ?_
    exact x_done (fun h => h)
  · refine x_iload hC dX8_readArea_106 2 rfl ?_
    refine x_istore (f := 0) hC dX8_readArea_108 [(10, .int v5_99), (0, zr w a0), (2, .int v2_99), (5, .int v5_99), (6, .int v6_99), (8, .int v8_99), (9, .int v9_99)] (by decide) rfl ?_
    refine x_sub [1, 2, 3, 4, 5, 6, 0] rfl ?_
    refine x_loopB (pc2 := 137) (fun (s : (Int32 × zM)) => [(0, zr w a0), (2, .int v2_99), (5, .int v5_99), (6, .int v6_99), (8, .int v8_99), (9, .int v9_99), (10, .int s.1)]) (fun (s : (Int32 × zM)) => s.2) (fun (s : (zM)) => [(0, zr w a0), (2, .int v2_99), (5, .int v5_99), (6, .int v6_99), (8, .int v8_99), (9, .int v9_99)]) (fun (s : (zM)) => s) (v5_99, M) ?_ ?_
    · exact fun s => b_X8_readArea_110_99_ok hB h0 hd s.2 hR
    · intro r9
      exact j_X8_readArea_137_99_ok hB h0 hd r9 hR
noncomputable def j_X8_readArea_143 (a0 : Nat) (M : zM) : Option (Int32 × zM) :=
  some ((1 : Int32), M)
set_option maxRecDepth 100000 in
theorem j_X8_readArea_143_ok {C : zC} {d : Nat} {g : zG} {l : Launch} {w : zW} {r : Int32 × zM} {a0 : Nat} (hB : bOK C cX8_readArea 11 RX8 d g l w true) (h0 : tO true 8 a0) (hd : 4 ≤ d) (M : zM) (hR : RtZ C cX8_readArea w r.1 r.2) : Sg C w (0, 0) 143 [] [] M (j_X8_readArea_143 a0 M) (fun q => q = r) := by
  have hC := hB.1.1
  have hq1 : 1 ≤ d := by omega
  unfold j_X8_readArea_143
  refine x_iconst (v := (1 : Int32)) hC dX8_readArea_143 ki_1 ?_
  exact r_retZ hR dX8_readArea_144 (Or.inr rfl) (fun h => h)
noncomputable def j_X8_readArea_45 (a0 : Nat) (v2_45 : Int32) (v3_45 : Int32) (v4_45 : Int32) (M : zM) : Option (Int32 × zM) :=
  nm (f_J9_min_7cf53 (irem v3_45 (12 : Int32)) (irem v4_45 (12 : Int32))) fun v5_57 =>
  nm (f_J9_max_7cf53 (irem v3_45 (12 : Int32)) (irem v4_45 (12 : Int32))) fun v6_71 =>
  nm ((f_J9_min_7cf53 v3_45 v4_45) / (12 : Int32)) fun v7_82 =>
  nm ((f_J9_max_7cf53 v3_45 v4_45) / (12 : Int32)) fun v8_93 =>
  (loopW (fun s => b_X8_readArea_99 a0 v2_45 v5_57 v6_71 v8_93 s.1 s.2) (v7_82, M)).bind (fun r => j_X8_readArea_143 a0 r)
set_option maxRecDepth 100000 in
theorem j_X8_readArea_45_ok {C : zC} {d : Nat} {g : zG} {l : Launch} {w : zW} {r : Int32 × zM} {a0 : Nat} {v2_45 : Int32} {v3_45 : Int32} {v4_45 : Int32} (hB : bOK C cX8_readArea 11 RX8 d g l w true) (h0 : tO true 8 a0) (hd : 4 ≤ d) (M : zM) (hR : RtZ C cX8_readArea w r.1 r.2) : Sg C w (0, 0) 45 [(0, zr w a0), (2, .int v2_45), (3, .int v3_45), (4, .int v4_45)] [] M (j_X8_readArea_45 a0 v2_45 v3_45 v4_45 M) (fun q => q = r) := by
  have hC := hB.1.1
  have hq1 : 1 ≤ d := by omega
  unfold j_X8_readArea_45
  refine x_iload_n hC dX8_readArea_45 rfl 2 rfl ?_
  refine x_bipush (v := (12 : Int32)) hC dX8_readArea_46 kb_12 ?_
  refine x_irem0 hC dX8_readArea_48 nz_12 ?_
  refine x_iload hC dX8_readArea_49 3 rfl ?_
  refine x_bipush (v := (12 : Int32)) hC dX8_readArea_51 kb_12 ?_
  refine x_irem0 hC dX8_readArea_53 nz_12 ?_
  refine r_cS0 (as := [.int (irem v3_45 (12 : Int32)), .int (irem v4_45 (12 : Int32))]) (rest := []) hB dX8_readArea_54 ks_X8_108 hq1 rfl rfl (Nat.le_of_ble_eq_true rfl) (f_J9_min_7cf53_met hB.2 (by omega)) ?_
  refine x_top (fun v5_57 => ?_)
  refine x_istore (f := 0) hC dX8_readArea_57 [(5, .int v5_57), (0, zr w a0), (2, .int v2_45), (3, .int v3_45), (4, .int v4_45)] (by decide) rfl ?_
  refine x_iload_n hC dX8_readArea_59 rfl 3 rfl ?_
  refine x_bipush (v := (12 : Int32)) hC dX8_readArea_60 kb_12 ?_
  refine x_irem0 hC dX8_readArea_62 nz_12 ?_
  refine x_iload hC dX8_readArea_63 4 rfl ?_
  refine x_bipush (v := (12 : Int32)) hC dX8_readArea_65 kb_12 ?_
  refine x_irem0 hC dX8_readArea_67 nz_12 ?_
  refine r_cS0 (as := [.int (irem v3_45 (12 : Int32)), .int (irem v4_45 (12 : Int32))]) (rest := []) hB dX8_readArea_68 ks_X8_113 hq1 rfl rfl (Nat.le_of_ble_eq_true rfl) (f_J9_max_7cf53_met hB.2 (by omega)) ?_
  refine x_top (fun v6_71 => ?_)
  refine x_istore (f := 0) hC dX8_readArea_71 [(6, .int v6_71), (5, .int v5_57), (0, zr w a0), (2, .int v2_45), (3, .int v3_45), (4, .int v4_45)] (by decide) rfl ?_
  refine x_iload_n hC dX8_readArea_73 rfl 4 rfl ?_
  refine x_iload hC dX8_readArea_74 5 rfl ?_
  refine r_cS0 (as := [.int v3_45, .int v4_45]) (rest := []) hB dX8_readArea_76 ks_X8_108 hq1 rfl rfl (Nat.le_of_ble_eq_true rfl) (f_J9_min_7cf53_met hB.2 (by omega)) ?_
  refine x_bipush (v := (12 : Int32)) hC dX8_readArea_79 kb_12 ?_
  refine x_idiv0 hC dX8_readArea_81 nz_12 ?_
  refine x_top (fun v7_82 => ?_)
  refine x_istore (f := 0) hC dX8_readArea_82 [(7, .int v7_82), (6, .int v6_71), (5, .int v5_57), (0, zr w a0), (2, .int v2_45), (3, .int v3_45), (4, .int v4_45)] (by decide) rfl ?_
  refine x_iload_n hC dX8_readArea_84 rfl 5 rfl ?_
  refine x_iload hC dX8_readArea_85 6 rfl ?_
  refine r_cS0 (as := [.int v3_45, .int v4_45]) (rest := []) hB dX8_readArea_87 ks_X8_113 hq1 rfl rfl (Nat.le_of_ble_eq_true rfl) (f_J9_max_7cf53_met hB.2 (by omega)) ?_
  refine x_bipush (v := (12 : Int32)) hC dX8_readArea_90 kb_12 ?_
  refine x_idiv0 hC dX8_readArea_92 nz_12 ?_
  refine x_top (fun v8_93 => ?_)
  refine x_istore (f := 0) hC dX8_readArea_93 [(8, .int v8_93), (7, .int v7_82), (6, .int v6_71), (5, .int v5_57), (0, zr w a0), (2, .int v2_45), (3, .int v3_45), (4, .int v4_45)] (by decide) rfl ?_
  refine x_iload hC dX8_readArea_95 1 rfl ?_
  refine x_istore (f := 0) hC dX8_readArea_97 [(9, .int v7_82), (8, .int v8_93), (7, .int v7_82), (6, .int v6_71), (5, .int v5_57), (0, zr w a0), (2, .int v2_45), (3, .int v3_45), (4, .int v4_45)] (by decide) rfl ?_
  refine x_sub [5, 6, 4, 3, 1, 0] rfl ?_
  refine x_loopB (pc2 := 143) (fun (s : (Int32 × zM)) => [(0, zr w a0), (2, .int v2_45), (5, .int v5_57), (6, .int v6_71), (8, .int v8_93), (9, .int s.1)]) (fun (s : (Int32 × zM)) => s.2) (fun (s : (zM)) => []) (fun (s : (zM)) => s) (v7_82, M) ?_ ?_
  · exact fun s => b_X8_readArea_99_ok hB h0 hd s.2 hR
  · intro r9
    exact j_X8_readArea_143_ok hB h0 hd r9 hR
noncomputable def f_X8_readArea (a0 : Nat) (p2 : Int32) (M : zM) : Option (Int32 × zM) :=
  bnd2 (f_X8_readPlace a0 M) fun u2 M2 =>
  if u2 = (-1 : Int32) then (some ((0 : Int32), M2))
  else ((f_X5_kind M2).bind fun u17 =>
  if u17 = (148 : Int32) then ((f_X5_next M2).bind fun M27 =>
  bnd2 (f_X8_readPlace a0 M27) fun u32 M32 =>
  if u32 = (-1 : Int32) then (some ((0 : Int32), M32))
  else (j_X8_readArea_45 a0 p2 u2 u32 M32))
  else (j_X8_readArea_45 a0 p2 u2 u2 M2))
set_option maxRecDepth 100000 in
theorem f_X8_readArea_ok {C : zC} {d : Nat} {g : zG} {l : Launch} {w : zW} {r : Int32 × zM} {a0 : Nat} {p2 : Int32} (hB : bOK C cX8_readArea 11 RX8 d g l w true) (h0 : tO true 8 a0) (hd : 4 ≤ d) (M : zM) (hR : RtZ C cX8_readArea w r.1 r.2) : Sg C w (0, 0) 0 [(0, zr w a0), (1, zr w 78), (2, .int p2)] [] M (f_X8_readArea a0 p2 M) (fun q => q = r) := by
  have hC := hB.1.1
  have hq1 : 1 ≤ d := by omega
  unfold f_X8_readArea
  refine x_aload_n hC dX8_readArea_0 rfl 0 rfl ?_
  refine x_aload_n hC dX8_readArea_1 rfl 1 rfl ?_
  refine r_cV2 (as := [zr w 78]) (rest := []) hB dX8_readArea_2 kv_X8_105 h0 hq1 rfl rfl (Nat.le_of_ble_eq_true rfl) (fun v M' hv => f_X8_readPlace_met hB.2 h0 (by omega) hv) (fun u2 M2 => ?_)
  refine x_istore_n hC dX8_readArea_5 rfl [(3, .int u2), (0, zr w a0), (1, zr w 78), (2, .int p2)] (by decide) rfl ?_
  refine x_iload_n hC dX8_readArea_6 rfl 0 rfl ?_
  refine x_iconst (v := (-1 : Int32)) hC dX8_readArea_7 ki_m1 ?_
  refine x_icmp_ne (tgt := 13) hC dX8_readArea_8 (by decide) ?_ ?_
  · refine x_iconst (v := (0 : Int32)) hC dX8_readArea_11 ki_0 ?_
    exact r_retZ hR dX8_readArea_12 (Or.inl rfl) (fun h => h)
  · refine x_iload_n hC dX8_readArea_13 rfl 0 rfl ?_
    refine x_istore (f := 0) hC dX8_readArea_14 [(4, .int u2), (3, .int u2), (0, zr w a0), (1, zr w 78), (2, .int p2)] (by decide) rfl ?_
    refine x_aload_n hC dX8_readArea_16 rfl 3 rfl ?_
    refine r_cV1 (as := []) (rest := []) hB dX8_readArea_17 kv_X8_46 th_78 hq1 rfl rfl (Nat.le_of_ble_eq_true rfl) (fun v hv => f_X5_kind_met hB.2 (by omega) hv) (fun u17 => ?_)
    refine x_sipush (v := (148 : Int32)) hC dX8_readArea_20 kh_148 ?_
    refine x_icmp_ne (tgt := 45) hC dX8_readArea_23 (by decide) ?_ ?_
    · refine x_aload_n hC dX8_readArea_26 rfl 3 rfl ?_
      refine r_cVv (as := []) (rest := []) hB dX8_readArea_27 kv_X8_60 th_78 hq1 rfl rfl (Nat.le_of_ble_eq_true rfl) (fun M' hv => f_X5_next_met hB.2 (by omega) hv) (fun M27 => ?_)
      refine x_aload_n hC dX8_readArea_30 rfl 2 rfl ?_
      refine x_aload_n hC dX8_readArea_31 rfl 3 rfl ?_
      refine r_cV2 (as := [zr w 78]) (rest := []) hB dX8_readArea_32 kv_X8_105 h0 hq1 rfl rfl (Nat.le_of_ble_eq_true rfl) (fun v M' hv => f_X8_readPlace_met hB.2 h0 (by omega) hv) (fun u32 M32 => ?_)
      refine x_istore (f := 0) hC dX8_readArea_35 [(4, .int u32), (3, .int u2), (0, zr w a0), (1, zr w 78), (2, .int p2)] (by decide) rfl ?_
      refine x_iload hC dX8_readArea_37 0 rfl ?_
      refine x_iconst (v := (-1 : Int32)) hC dX8_readArea_39 ki_m1 ?_
      refine x_icmp_ne (tgt := 45) hC dX8_readArea_40 (by decide) ?_ ?_
      · refine x_iconst (v := (0 : Int32)) hC dX8_readArea_43 ki_0 ?_
        exact r_retZ hR dX8_readArea_44 (Or.inl rfl) (fun h => h)
      · refine x_sub [2, 4, 1, 0] rfl ?_
        exact j_X8_readArea_45_ok hB h0 hd M32 hR
    · refine x_sub [2, 4, 1, 0] rfl ?_
      exact j_X8_readArea_45_ok hB h0 hd M2 hR
theorem f_X8_readArea_met {l : Launch} {d : Nat} {g : zG} {w : zW} {M0 : zM} {a0 : Nat} {p2 : Int32} {M : zM} (hw : wS w) (h0 : tO true 8 a0) (hd : 4 ≤ d) {v : Int32} {M' : zM} (h : f_X8_readArea a0 p2 M = some (v, M')) : zMet l yX8_readArea cX8_readArea 11 (some .boolean) d g w (zin true) M0 [zr w a0, zr w 78, .int p2] M (some (.int v)) M' :=
  met_z (by decide +kernel) (Nat.le_of_ble_eq_true rfl) (fun C hB0 hR => f_X8_readArea_ok (r := (v, M')) ⟨hB0, hw⟩ h0 hd M hR _ h rfl)
/-! WindingSquare.seen(II)I -/
noncomputable def j_X10_seen_73_49 (v1_49 : Int32) (v3_73_49 : Int32) (v4_73_49 : Int32) (M : zM) : Option ((Int32 × Int32) ⊕ (Int32)) :=
  some (.inl (v3_73_49, (v4_73_49 + (1 : Int32))))
set_option maxRecDepth 100000 in
theorem j_X10_seen_73_49_ok {C : zC} {d : Nat} {g : zG} {l : Launch} {w : zW} {r : Int32} {v1_49 : Int32} {v3_73_49 : Int32} {v4_73_49 : Int32} (hB : bOK C cX10_seen 5 RX10 d g l w true) (hd : 4 ≤ d) (M : zM) (hR : RtI C cX10_seen w r M) : Sg C w (0, 0) 73 [(0, zr w 0), (1, .int v1_49), (3, .int v3_73_49), (4, .int v4_73_49)] [] M (j_X10_seen_73_49 v1_49 v3_73_49 v4_73_49 M) (fun o => Sum.elim (fun (s : (Int32 × Int32)) => Zs C w (0, 0) 49 [(0, zr w 0), (1, .int v1_49), (3, .int s.1), (4, .int s.2)] [] M) (fun (s : (Int32)) => Zs C w (0, 0) 79 [(3, .int s)] [] M) o) := by
  have hC := hB.1.1
  have hq1 : 1 ≤ d := by omega
  unfold j_X10_seen_73_49
  refine x_iinc hC dX10_seen_73 ki_1 [(4, .int (v4_73_49 + (1 : Int32))), (0, zr w 0), (1, .int v1_49), (3, .int v3_73_49)] 3 rfl (by decide) rfl ?_
  refine x_goto (tgt := 49) hC dX10_seen_76 (by decide) ?_
  refine x_sub [1, 2, 3, 0] rfl ?_
  exact x_done (fun h => h)
noncomputable def b_X10_seen_49 (v1_49 : Int32) (v3_49 : Int32) (v4_49 : Int32) (M : zM) : Option ((Int32 × Int32) ⊕ (Int32)) :=
  if (144 : Int32) ≤ v4_49 then (some (.inr v3_49))
  else ((f_X2_sees v1_49 v4_49 M).bind fun u64_49 =>
  if u64_49 = 0 then (j_X10_seen_73_49 v1_49 v3_49 v4_49 M)
  else (j_X10_seen_73_49 v1_49 (v3_49 + (1 : Int32)) v4_49 M))
set_option maxRecDepth 100000 in
theorem b_X10_seen_49_ok {C : zC} {d : Nat} {g : zG} {l : Launch} {w : zW} {r : Int32} {v1_49 : Int32} {v3_49 : Int32} {v4_49 : Int32} (hB : bOK C cX10_seen 5 RX10 d g l w true) (hd : 4 ≤ d) (M : zM) (hR : RtI C cX10_seen w r M) : Sg C w (0, 0) 49 [(0, zr w 0), (1, .int v1_49), (3, .int v3_49), (4, .int v4_49)] [] M (b_X10_seen_49 v1_49 v3_49 v4_49 M) (fun o => Sum.elim (fun (s : (Int32 × Int32)) => Zs C w (0, 0) 49 [(0, zr w 0), (1, .int v1_49), (3, .int s.1), (4, .int s.2)] [] M) (fun (s : (Int32)) => Zs C w (0, 0) 79 [(3, .int s)] [] M) o) := by
  have hC := hB.1.1
  have hq1 : 1 ≤ d := by omega
  unfold b_X10_seen_49
  refine x_iload hC dX10_seen_49 3 rfl ?_
  refine x_sipush (v := (144 : Int32)) hC dX10_seen_51 kh_144 ?_
  refine x_icmp_ge (tgt := 79) hC dX10_seen_54 (by decide) ?_ ?_
  · refine x_sub [2] rfl ?_
    exact x_done (fun h => h)
  · refine x_aload_n hC dX10_seen_57 rfl 0 rfl ?_
    refine r_getR hB dX10_seen_58 kf_X10_72 rfl th_0 rf_0_11 ?_
    refine x_iload_n hC dX10_seen_61 rfl 1 rfl ?_
    refine x_iload hC dX10_seen_62 3 rfl ?_
    refine r_cV1 (as := [.int v1_49, .int v4_49]) (rest := []) hB dX10_seen_64 kv_X10_251 th_87 hq1 rfl rfl (Nat.le_of_ble_eq_true rfl) (fun v hv => f_X2_sees_met hB.2 (by omega) hv) (fun u64_49 => ?_)
    refine x_if_eq (tgt := 73) hC dX10_seen_67 (by decide) ?_ ?_
    · exact j_X10_seen_73_49_ok hB hd M hR
    · refine x_iinc hC dX10_seen_70 ki_1 [(3, .int (v3_49 + (1 : Int32))), (0, zr w 0), (1, .int v1_49), (4, .int v4_49)] 2 rfl (by decide) rfl ?_
      refine x_sub [1, 2, 0, 3] rfl ?_
      exact j_X10_seen_73_49_ok hB hd M hR
noncomputable def j_X10_seen_79 (v3_79 : Int32) (M : zM) : Option (Int32) :=
  some v3_79
set_option maxRecDepth 100000 in
theorem j_X10_seen_79_ok {C : zC} {d : Nat} {g : zG} {l : Launch} {w : zW} {r : Int32} {v3_79 : Int32} (hB : bOK C cX10_seen 5 RX10 d g l w true) (hd : 4 ≤ d) (M : zM) (hR : RtI C cX10_seen w r M) : Sg C w (0, 0) 79 [(3, .int v3_79)] [] M (j_X10_seen_79 v3_79 M) (fun q => q = r) := by
  have hC := hB.1.1
  have hq1 : 1 ≤ d := by omega
  unfold j_X10_seen_79
  refine x_iload_n hC dX10_seen_79 rfl 0 rfl ?_
  exact r_retI hR dX10_seen_80 (fun h => congrArg (fun q => (q, M)) h)
noncomputable def j_X10_seen_21 (v1_21 : Int32) (v2_21 : Int32) (M : zM) : Option (Int32) :=
  if v2_21 = (-1 : Int32) then ((loopW (fun s => b_X10_seen_49 v1_21 s.1 s.2 M) ((0 : Int32), (0 : Int32))).bind (fun r => j_X10_seen_79 r M))
  else ((f_X2_sees v1_21 v2_21 M).bind fun u32 =>
  if u32 = 0 then (some (0 : Int32))
  else (some (1 : Int32)))
set_option maxRecDepth 100000 in
theorem j_X10_seen_21_ok {C : zC} {d : Nat} {g : zG} {l : Launch} {w : zW} {r : Int32} {v1_21 : Int32} {v2_21 : Int32} (hB : bOK C cX10_seen 5 RX10 d g l w true) (hd : 4 ≤ d) (M : zM) (hR : RtI C cX10_seen w r M) : Sg C w (0, 0) 21 [(0, zr w 0), (1, .int v1_21), (2, .int v2_21)] [] M (j_X10_seen_21 v1_21 v2_21 M) (fun q => q = r) := by
  have hC := hB.1.1
  have hq1 : 1 ≤ d := by omega
  unfold j_X10_seen_21
  refine x_iload_n hC dX10_seen_21 rfl 2 rfl ?_
  refine x_iconst (v := (-1 : Int32)) hC dX10_seen_22 ki_m1 ?_
  refine x_icmp_eq (tgt := 44) hC dX10_seen_23 (by decide) ?_ ?_
  · refine x_iconst (v := (0 : Int32)) hC dX10_seen_44 ki_0 ?_
    refine x_istore_n hC dX10_seen_45 rfl [(3, .int (0 : Int32)), (0, zr w 0), (1, .int v1_21), (2, .int v2_21)] (by decide) rfl ?_
    refine x_iconst (v := (0 : Int32)) hC dX10_seen_46 ki_0 ?_
    refine x_istore (f := 0) hC dX10_seen_47 [(4, .int (0 : Int32)), (3, .int (0 : Int32)), (0, zr w 0), (1, .int v1_21), (2, .int v2_21)] (by decide) rfl ?_
    refine x_sub [2, 3, 1, 0] rfl ?_
    refine x_loopB (pc2 := 79) (fun (s : (Int32 × Int32)) => [(0, zr w 0), (1, .int v1_21), (3, .int s.1), (4, .int s.2)]) (fun (s : (Int32 × Int32)) => M) (fun (s : (Int32)) => [(3, .int s)]) (fun (s : (Int32)) => M) ((0 : Int32), (0 : Int32)) ?_ ?_
    · exact fun s => b_X10_seen_49_ok hB hd M hR
    · intro r9
      exact j_X10_seen_79_ok hB hd M hR
  · refine x_aload_n hC dX10_seen_26 rfl 0 rfl ?_
    refine r_getR hB dX10_seen_27 kf_X10_72 rfl th_0 rf_0_11 ?_
    refine x_iload_n hC dX10_seen_30 rfl 1 rfl ?_
    refine x_iload_n hC dX10_seen_31 rfl 2 rfl ?_
    refine r_cV1 (as := [.int v1_21, .int v2_21]) (rest := []) hB dX10_seen_32 kv_X10_251 th_87 hq1 rfl rfl (Nat.le_of_ble_eq_true rfl) (fun v hv => f_X2_sees_met hB.2 (by omega) hv) (fun u32 => ?_)
    refine x_if_eq (tgt := 42) hC dX10_seen_35 (by decide) ?_ ?_
    · refine x_iconst (v := (0 : Int32)) hC dX10_seen_42 ki_0 ?_
      exact r_retI hR dX10_seen_43 (fun h => congrArg (fun q => (q, M)) h)
    · refine x_iconst (v := (1 : Int32)) hC dX10_seen_38 ki_1 ?_
      refine x_goto (tgt := 43) hC dX10_seen_39 (by decide) ?_
      exact r_retI hR dX10_seen_43 (fun h => congrArg (fun q => (q, M)) h)
noncomputable def f_X10_seen (p1 : Int32) (p2 : Int32) (M : zM) : Option (Int32) :=
  if (f_X10_isCell p1) = 0 then (some (-1 : Int32))
  else (if p2 = (-1 : Int32) then (j_X10_seen_21 p1 p2 M)
  else (if (f_X10_isCell p2) = 0 then (some (-1 : Int32))
  else (j_X10_seen_21 p1 p2 M)))
set_option maxRecDepth 100000 in
theorem f_X10_seen_ok {C : zC} {d : Nat} {g : zG} {l : Launch} {w : zW} {r : Int32} {p1 : Int32} {p2 : Int32} (hB : bOK C cX10_seen 5 RX10 d g l w true) (hd : 4 ≤ d) (M : zM) (hR : RtI C cX10_seen w r M) : Sg C w (0, 0) 0 [(0, zr w 0), (1, .int p1), (2, .int p2)] [] M (f_X10_seen p1 p2 M) (fun q => q = r) := by
  have hC := hB.1.1
  have hq1 : 1 ≤ d := by omega
  unfold f_X10_seen
  refine x_iload_n hC dX10_seen_0 rfl 1 rfl ?_
  refine r_cS0 (as := [.int p1]) (rest := []) hB dX10_seen_1 ks_X10_248 hq1 rfl rfl (Nat.le_of_ble_eq_true rfl) (f_X10_isCell_met hB.2 (by omega)) ?_
  refine x_if_eq (tgt := 19) hC dX10_seen_4 (by decide) ?_ ?_
  · refine x_iconst (v := (-1 : Int32)) hC dX10_seen_19 ki_m1 ?_
    exact r_retI hR dX10_seen_20 (fun h => congrArg (fun q => (q, M)) h)
  · refine x_iload_n hC dX10_seen_7 rfl 2 rfl ?_
    refine x_iconst (v := (-1 : Int32)) hC dX10_seen_8 ki_m1 ?_
    refine x_icmp_eq (tgt := 21) hC dX10_seen_9 (by decide) ?_ ?_
    · exact j_X10_seen_21_ok hB hd M hR
    · refine x_iload_n hC dX10_seen_12 rfl 2 rfl ?_
      refine r_cS0 (as := [.int p2]) (rest := []) hB dX10_seen_13 ks_X10_248 hq1 rfl rfl (Nat.le_of_ble_eq_true rfl) (f_X10_isCell_met hB.2 (by omega)) ?_
      refine x_if_ne (tgt := 21) hC dX10_seen_16 (by decide) ?_ ?_
      · refine x_iconst (v := (-1 : Int32)) hC dX10_seen_19 ki_m1 ?_
        exact r_retI hR dX10_seen_20 (fun h => congrArg (fun q => (q, M)) h)
      · exact j_X10_seen_21_ok hB hd M hR
theorem f_X10_seen_met {l : Launch} {d : Nat} {g : zG} {w : zW} {M0 : zM} {p1 : Int32} {p2 : Int32} {M : zM} (hw : wS w) (hd : 4 ≤ d) {v : Int32} (h : f_X10_seen p1 p2 M = some v) : zMet l yX10_seen cX10_seen 5 (some .int) d g w (zin true) M0 [zr w 0, .int p1, .int p2] M (some (.int v)) M :=
  met_i (by decide +kernel) (Nat.le_of_ble_eq_true rfl) rfl (fun C hB0 hR => f_X10_seen_ok ⟨hB0, hw⟩ hd M hR _ h rfl)
/-! WindingSquare.one(I)I -/
noncomputable def f_X10_one (p1 : Int32) (M : zM) : Option (Int32) :=
  if p1 = (0 : Int32) then ((f_X6_alike 70 M).bind fun u32 =>
  if u32 = 0 then (some (0 : Int32))
  else (some (1 : Int32)))
  else (if p1 = (1 : Int32) then ((f_X6_unlikeRows 70 M).bind fun u48 =>
  some u48)
  else (some (-1 : Int32)))
set_option maxRecDepth 100000 in
theorem f_X10_one_ok {C : zC} {d : Nat} {g : zG} {l : Launch} {w : zW} {r : Int32} {p1 : Int32} (hB : bOK C cX10_one 2 RX10 d g l w true) (hd : 4 ≤ d) (M : zM) (hR : RtI C cX10_one w r M) : Sg C w (0, 0) 0 [(0, zr w 0), (1, .int p1)] [] M (f_X10_one p1 M) (fun q => q = r) := by
  have hC := hB.1.1
  have hq1 : 1 ≤ d := by omega
  unfold f_X10_one
  refine x_iload_n hC dX10_one_0 rfl 1 rfl ?_
  refine x_ite (fun hs => ?_) (fun hs0 => ?_)
  · refine x_lsw (tgt := 28) (off := 27) hC dX10_one_1 (by decide +kernel) (by rw [hs]; decide +kernel) (by decide) ?_
    refine x_aload_n hC dX10_one_28 rfl 0 rfl ?_
    refine r_getR hB dX10_one_29 kf_X10_43 rfl th_0 rf_0_8 ?_
    refine r_cV1 (as := []) (rest := []) hB dX10_one_32 kv_X10_258 th_70 hq1 rfl rfl (Nat.le_of_ble_eq_true rfl) (fun v hv => f_X6_alike_met hB.2 th_70 (by omega) hv) (fun u32 => ?_)
    refine x_if_eq (tgt := 42) hC dX10_one_35 (by decide) ?_ ?_
    · refine x_iconst (v := (0 : Int32)) hC dX10_one_42 ki_0 ?_
      exact r_retI hR dX10_one_43 (fun h => congrArg (fun q => (q, M)) h)
    · refine x_iconst (v := (1 : Int32)) hC dX10_one_38 ki_1 ?_
      refine x_goto (tgt := 43) hC dX10_one_39 (by decide) ?_
      exact r_retI hR dX10_one_43 (fun h => congrArg (fun q => (q, M)) h)
  · skip
    refine x_ite (fun hs => ?_) (fun hs1 => ?_)
    · refine x_lsw (tgt := 44) (off := 43) hC dX10_one_1 (by decide +kernel) (by rw [hs]; decide +kernel) (by decide) ?_
      refine x_aload_n hC dX10_one_44 rfl 0 rfl ?_
      refine r_getR hB dX10_one_45 kf_X10_43 rfl th_0 rf_0_8 ?_
      refine r_cV1 (as := []) (rest := []) hB dX10_one_48 kv_X10_262 th_70 hq1 rfl rfl (Nat.le_of_ble_eq_true rfl) (fun v hv => f_X6_unlikeRows_met hB.2 th_70 (by omega) hv) (fun u48 => ?_)
      exact r_retI hR dX10_one_51 (fun h => congrArg (fun q => (q, M)) h)
    · skip
      refine x_lsw (tgt := 52) (off := 51) hC dX10_one_1 (by decide +kernel) (by have q0 := (x_ne (k := 0) hs0 (by decide)).symm; have q1 := (x_ne (k := 1) hs1 (by decide)).symm; simp [Op.lookupswitch.offset, *]; done) (by decide) ?_
      refine x_iconst (v := (-1 : Int32)) hC dX10_one_52 ki_m1 ?_
      exact r_retI hR dX10_one_53 (fun h => congrArg (fun q => (q, M)) h)
theorem f_X10_one_met {l : Launch} {d : Nat} {g : zG} {w : zW} {M0 : zM} {p1 : Int32} {M : zM} (hw : wS w) (hd : 4 ≤ d) {v : Int32} (h : f_X10_one p1 M = some v) : zMet l yX10_one cX10_one 2 (some .int) d g w (zin true) M0 [zr w 0, .int p1] M (some (.int v)) M :=
  met_i (by decide +kernel) (Nat.le_of_ble_eq_true rfl) rfl (fun C hB0 hR => f_X10_one_ok ⟨hB0, hw⟩ hd M hR _ h rfl)
/-! WindingSquare.ant(II)I -/
noncomputable def f_X10_ant (p1 : Int32) (p2 : Int32) (M : zM) : Option (Int32 × zM) :=
  if p1 < 0 then (some ((-10000 : Int32), M))
  else (if (2000 : Int32) < p1 then (some ((-10000 : Int32), M))
  else (if p2 < 0 then (some ((-10000 : Int32), M))
  else (if p2 ≤ (3 : Int32) then (bnd2 (f_X4_antLeaves p1 p2 M) fun u30 M30 =>
  some (u30, M30))
  else (some ((-10000 : Int32), M)))))
set_option maxRecDepth 100000 in
theorem f_X10_ant_ok {C : zC} {d : Nat} {g : zG} {l : Launch} {w : zW} {r : Int32 × zM} {p1 : Int32} {p2 : Int32} (hB : bOK C cX10_ant 3 RX10 d g l w true) (hd : 4 ≤ d) (M : zM) (hR : RtI C cX10_ant w r.1 r.2) : Sg C w (0, 0) 0 [(0, zr w 0), (1, .int p1), (2, .int p2)] [] M (f_X10_ant p1 p2 M) (fun q => q = r) := by
  have hC := hB.1.1
  have hq1 : 1 ≤ d := by omega
  unfold f_X10_ant
  refine x_iload_n hC dX10_ant_0 rfl 1 rfl ?_
  refine x_if_lt (tgt := 20) hC dX10_ant_1 (by decide) ?_ ?_
  · refine x_sipush (v := (-10000 : Int32)) hC dX10_ant_20 kh_m10000 ?_
    exact r_retI hR dX10_ant_23 (fun h => h)
  · refine x_iload_n hC dX10_ant_4 rfl 1 rfl ?_
    refine x_sipush (v := (2000 : Int32)) hC dX10_ant_5 kh_2000 ?_
    refine x_icmp_gt (tgt := 20) hC dX10_ant_8 (by decide) ?_ ?_
    · refine x_sipush (v := (-10000 : Int32)) hC dX10_ant_20 kh_m10000 ?_
      exact r_retI hR dX10_ant_23 (fun h => h)
    · refine x_iload_n hC dX10_ant_11 rfl 2 rfl ?_
      refine x_if_lt (tgt := 20) hC dX10_ant_12 (by decide) ?_ ?_
      · refine x_sipush (v := (-10000 : Int32)) hC dX10_ant_20 kh_m10000 ?_
        exact r_retI hR dX10_ant_23 (fun h => h)
      · refine x_iload_n hC dX10_ant_15 rfl 2 rfl ?_
        refine x_iconst (v := (3 : Int32)) hC dX10_ant_16 ki_3 ?_
        refine x_icmp_le (tgt := 24) hC dX10_ant_17 (by decide) ?_ ?_
        · refine x_aload_n hC dX10_ant_24 rfl 0 rfl ?_
          refine r_getR hB dX10_ant_25 kf_X10_79 rfl th_0 rf_0_12 ?_
          refine x_iload_n hC dX10_ant_28 rfl 1 rfl ?_
          refine x_iload_n hC dX10_ant_29 rfl 2 rfl ?_
          refine r_cV2 (as := [.int p1, .int p2]) (rest := []) hB dX10_ant_30 kv_X10_299 th_95 hq1 rfl rfl (Nat.le_of_ble_eq_true rfl) (fun v M' hv => f_X4_antLeaves_met hB.2 (by omega) hv) (fun u30 M30 => ?_)
          exact r_retI hR dX10_ant_33 (fun h => h)
        · refine x_sipush (v := (-10000 : Int32)) hC dX10_ant_20 kh_m10000 ?_
          exact r_retI hR dX10_ant_23 (fun h => h)
theorem f_X10_ant_met {l : Launch} {d : Nat} {g : zG} {w : zW} {M0 : zM} {p1 : Int32} {p2 : Int32} {M : zM} (hw : wS w) (hd : 4 ≤ d) {v : Int32} {M' : zM} (h : f_X10_ant p1 p2 M = some (v, M')) : zMet l yX10_ant cX10_ant 3 (some .int) d g w (zin true) M0 [zr w 0, .int p1, .int p2] M (some (.int v)) M' :=
  met_i (by decide +kernel) (Nat.le_of_ble_eq_true rfl) rfl (fun C hB0 hR => f_X10_ant_ok (r := (v, M')) ⟨hB0, hw⟩ hd M hR _ h rfl)
/-! WindingSquare.apart(I)I -/
noncomputable def f_X10_apart (p1 : Int32) (M : zM) : Option (Int32 × zM) :=
  if p1 < 0 then (some ((-1 : Int32), M))
  else (if p1 ≤ (1 : Int32) then (bnd2 (f_X2_fewestToPart M) fun u17 M17 =>
  some (u17, M17))
  else (some ((-1 : Int32), M)))
set_option maxRecDepth 100000 in
theorem f_X10_apart_ok {C : zC} {d : Nat} {g : zG} {l : Launch} {w : zW} {r : Int32 × zM} {p1 : Int32} (hB : bOK C cX10_apart 2 RX10 d g l w true) (hd : 4 ≤ d) (M : zM) (hR : RtI C cX10_apart w r.1 r.2) : Sg C w (0, 0) 0 [(0, zr w 0), (1, .int p1)] [] M (f_X10_apart p1 M) (fun q => q = r) := by
  have hC := hB.1.1
  have hq1 : 1 ≤ d := by omega
  unfold f_X10_apart
  refine x_iload_n hC dX10_apart_0 rfl 1 rfl ?_
  refine x_if_lt (tgt := 9) hC dX10_apart_1 (by decide) ?_ ?_
  · refine x_iconst (v := (-1 : Int32)) hC dX10_apart_9 ki_m1 ?_
    refine x_goto (tgt := 20) hC dX10_apart_10 (by decide) ?_
    exact r_retI hR dX10_apart_20 (fun h => h)
  · refine x_iload_n hC dX10_apart_4 rfl 1 rfl ?_
    refine x_iconst (v := (1 : Int32)) hC dX10_apart_5 ki_1 ?_
    refine x_icmp_le (tgt := 13) hC dX10_apart_6 (by decide) ?_ ?_
    · refine x_aload_n hC dX10_apart_13 rfl 0 rfl ?_
      refine r_getR hB dX10_apart_14 kf_X10_72 rfl th_0 rf_0_11 ?_
      refine r_cV2 (as := []) (rest := []) hB dX10_apart_17 kv_X10_308 th_87 hq1 rfl rfl (Nat.le_of_ble_eq_true rfl) (fun v M' hv => f_X2_fewestToPart_met hB.2 (by omega) hv) (fun u17 M17 => ?_)
      exact r_retI hR dX10_apart_20 (fun h => h)
    · refine x_iconst (v := (-1 : Int32)) hC dX10_apart_9 ki_m1 ?_
      refine x_goto (tgt := 20) hC dX10_apart_10 (by decide) ?_
      exact r_retI hR dX10_apart_20 (fun h => h)
theorem f_X10_apart_met {l : Launch} {d : Nat} {g : zG} {w : zW} {M0 : zM} {p1 : Int32} {M : zM} (hw : wS w) (hd : 4 ≤ d) {v : Int32} {M' : zM} (h : f_X10_apart p1 M = some (v, M')) : zMet l yX10_apart cX10_apart 2 (some .int) d g w (zin true) M0 [zr w 0, .int p1] M (some (.int v)) M' :=
  met_i (by decide +kernel) (Nat.le_of_ble_eq_true rfl) rfl (fun C hB0 hR => f_X10_apart_ok (r := (v, M')) ⟨hB0, hw⟩ hd M hR _ h rfl)
/-! WindingSquare.hedge()I -/
noncomputable def f_X10_hedge (M : zM) : Option (Int32 × zM) :=
  bnd2 (f_X6_sideways 70 M) fun u4 M4 =>
  some (u4, M4)
set_option maxRecDepth 100000 in
theorem f_X10_hedge_ok {C : zC} {d : Nat} {g : zG} {l : Launch} {w : zW} {r : Int32 × zM} (hB : bOK C cX10_hedge 1 RX10 d g l w true) (hd : 4 ≤ d) (M : zM) (hR : RtI C cX10_hedge w r.1 r.2) : Sg C w (0, 0) 0 [(0, zr w 0)] [] M (f_X10_hedge M) (fun q => q = r) := by
  have hC := hB.1.1
  have hq1 : 1 ≤ d := by omega
  unfold f_X10_hedge
  refine x_aload_n hC dX10_hedge_0 rfl 0 rfl ?_
  refine r_getR hB dX10_hedge_1 kf_X10_43 rfl th_0 rf_0_8 ?_
  refine r_cV2 (as := []) (rest := []) hB dX10_hedge_4 kv_X10_314 th_70 hq1 rfl rfl (Nat.le_of_ble_eq_true rfl) (fun v M' hv => f_X6_sideways_met hB.2 th_70 (by omega) hv) (fun u4 M4 => ?_)
  exact r_retI hR dX10_hedge_7 (fun h => h)
theorem f_X10_hedge_met {l : Launch} {d : Nat} {g : zG} {w : zW} {M0 : zM} {M : zM} (hw : wS w) (hd : 4 ≤ d) {v : Int32} {M' : zM} (h : f_X10_hedge M = some (v, M')) : zMet l yX10_hedge cX10_hedge 1 (some .int) d g w (zin true) M0 [zr w 0] M (some (.int v)) M' :=
  met_i (by decide +kernel) (Nat.le_of_ble_eq_true rfl) rfl (fun C hB0 hR => f_X10_hedge_ok (r := (v, M')) ⟨hB0, hw⟩ hd M hR _ h rfl)
/-! WindingSquare.game(III)I -/
noncomputable def f_X10_game (p1 : Int32) (p2 : Int32) (p3 : Int32) (M : zM) : Option (Int32 × zM) :=
  if p1 < 0 then (some ((-1 : Int32), M))
  else (if (30 : Int32) < p1 then (some ((-1 : Int32), M))
  else (if p2 < 0 then (some ((-1 : Int32), M))
  else (if p2 ≤ (30 : Int32) then (if p3 = (0 : Int32) then (bnd2 (f_X4_value p1 p2 M) fun u54 M54 =>
  some (u54, M54))
  else (if p3 = (1 : Int32) then (bnd2 (f_X4_wellGone p1 p2 M) fun u64 M64 =>
  some (u64, M64))
  else (some ((-1 : Int32), M))))
  else (some ((-1 : Int32), M)))))
set_option maxRecDepth 100000 in
theorem f_X10_game_ok {C : zC} {d : Nat} {g : zG} {l : Launch} {w : zW} {r : Int32 × zM} {p1 : Int32} {p2 : Int32} {p3 : Int32} (hB : bOK C cX10_game 4 RX10 d g l w true) (hd : 4 ≤ d) (M : zM) (hR : RtI C cX10_game w r.1 r.2) : Sg C w (0, 0) 0 [(0, zr w 0), (1, .int p1), (2, .int p2), (3, .int p3)] [] M (f_X10_game p1 p2 p3 M) (fun q => q = r) := by
  have hC := hB.1.1
  have hq1 : 1 ≤ d := by omega
  unfold f_X10_game
  refine x_iload_n hC dX10_game_0 rfl 1 rfl ?_
  refine x_if_lt (tgt := 20) hC dX10_game_1 (by decide) ?_ ?_
  · refine x_iconst (v := (-1 : Int32)) hC dX10_game_20 ki_m1 ?_
    exact r_retI hR dX10_game_21 (fun h => h)
  · refine x_iload_n hC dX10_game_4 rfl 1 rfl ?_
    refine x_bipush (v := (30 : Int32)) hC dX10_game_5 kb_30 ?_
    refine x_icmp_gt (tgt := 20) hC dX10_game_7 (by decide) ?_ ?_
    · refine x_iconst (v := (-1 : Int32)) hC dX10_game_20 ki_m1 ?_
      exact r_retI hR dX10_game_21 (fun h => h)
    · refine x_iload_n hC dX10_game_10 rfl 2 rfl ?_
      refine x_if_lt (tgt := 20) hC dX10_game_11 (by decide) ?_ ?_
      · refine x_iconst (v := (-1 : Int32)) hC dX10_game_20 ki_m1 ?_
        exact r_retI hR dX10_game_21 (fun h => h)
      · refine x_iload_n hC dX10_game_14 rfl 2 rfl ?_
        refine x_bipush (v := (30 : Int32)) hC dX10_game_15 kb_30 ?_
        refine x_icmp_le (tgt := 22) hC dX10_game_17 (by decide) ?_ ?_
        · refine x_iload_n hC dX10_game_22 rfl 3 rfl ?_
          refine x_ite (fun hs => ?_) (fun hs0 => ?_)
          · refine x_lsw (tgt := 48) (off := 25) hC dX10_game_23 (by decide +kernel) (by rw [hs]; decide +kernel) (by decide) ?_
            refine x_aload_n hC dX10_game_48 rfl 0 rfl ?_
            refine r_getR hB dX10_game_49 kf_X10_79 rfl th_0 rf_0_12 ?_
            refine x_iload_n hC dX10_game_52 rfl 1 rfl ?_
            refine x_iload_n hC dX10_game_53 rfl 2 rfl ?_
            refine r_cV2 (as := [.int p1, .int p2]) (rest := []) hB dX10_game_54 kv_X10_327 th_95 hq1 rfl rfl (Nat.le_of_ble_eq_true rfl) (fun v M' hv => f_X4_value_met hB.2 (by omega) hv) (fun u54 M54 => ?_)
            exact r_retI hR dX10_game_57 (fun h => h)
          · skip
            refine x_ite (fun hs => ?_) (fun hs1 => ?_)
            · refine x_lsw (tgt := 58) (off := 35) hC dX10_game_23 (by decide +kernel) (by rw [hs]; decide +kernel) (by decide) ?_
              refine x_aload_n hC dX10_game_58 rfl 0 rfl ?_
              refine r_getR hB dX10_game_59 kf_X10_79 rfl th_0 rf_0_12 ?_
              refine x_iload_n hC dX10_game_62 rfl 1 rfl ?_
              refine x_iload_n hC dX10_game_63 rfl 2 rfl ?_
              refine r_cV2 (as := [.int p1, .int p2]) (rest := []) hB dX10_game_64 kv_X10_330 th_95 hq1 rfl rfl (Nat.le_of_ble_eq_true rfl) (fun v M' hv => f_X4_wellGone_met hB.2 (by omega) hv) (fun u64 M64 => ?_)
              exact r_retI hR dX10_game_67 (fun h => h)
            · skip
              refine x_lsw (tgt := 68) (off := 45) hC dX10_game_23 (by decide +kernel) (by have q0 := (x_ne (k := 0) hs0 (by decide)).symm; have q1 := (x_ne (k := 1) hs1 (by decide)).symm; simp [Op.lookupswitch.offset, *]; done) (by decide) ?_
              refine x_iconst (v := (-1 : Int32)) hC dX10_game_68 ki_m1 ?_
              exact r_retI hR dX10_game_69 (fun h => h)
        · refine x_iconst (v := (-1 : Int32)) hC dX10_game_20 ki_m1 ?_
          exact r_retI hR dX10_game_21 (fun h => h)
theorem f_X10_game_met {l : Launch} {d : Nat} {g : zG} {w : zW} {M0 : zM} {p1 : Int32} {p2 : Int32} {p3 : Int32} {M : zM} (hw : wS w) (hd : 4 ≤ d) {v : Int32} {M' : zM} (h : f_X10_game p1 p2 p3 M = some (v, M')) : zMet l yX10_game cX10_game 4 (some .int) d g w (zin true) M0 [zr w 0, .int p1, .int p2, .int p3] M (some (.int v)) M' :=
  met_i (by decide +kernel) (Nat.le_of_ble_eq_true rfl) rfl (fun C hB0 hR => f_X10_game_ok (r := (v, M')) ⟨hB0, hw⟩ hd M hR _ h rfl)
/-! WindingSquare.undo()Z -/
noncomputable def f_X10_undo (M : zM) : Option (Int32 × zM) :=
  if 0 < (M 0 4) then (nm (mset M 0 4 ((M 0 4) - (1 : Int32))) fun M16 =>
  grd (inb (irem ((M16 0 3) + (M16 0 4)) (6 : Int32)) 6) (
  (f_X7_copyFrom 1 (143 + 19 * ix (irem ((M16 0 3) + (M16 0 4)) (6 : Int32))) M16).bind fun M40 =>
  some ((1 : Int32), M40)))
  else (some ((0 : Int32), M))
set_option maxRecDepth 100000 in
theorem f_X10_undo_ok {C : zC} {d : Nat} {g : zG} {l : Launch} {w : zW} {r : Int32 × zM} (hB : bOK C cX10_undo 1 RX10 d g l w true) (hd : 4 ≤ d) (M : zM) (hR : RtZ C cX10_undo w r.1 r.2) : Sg C w (0, 0) 0 [(0, zr w 0)] [] M (f_X10_undo M) (fun q => q = r) := by
  have hC := hB.1.1
  have hq1 : 1 ≤ d := by omega
  unfold f_X10_undo
  refine x_aload_n hC dX10_undo_0 rfl 0 rfl ?_
  refine r_getI hB dX10_undo_1 kf_X10_333 rfl th_0 ?_
  refine x_if_gt (tgt := 9) hC dX10_undo_4 (by decide) ?_ ?_
  · refine x_aload_n hC dX10_undo_9 rfl 0 rfl ?_
    refine x_dup hC dX10_undo_10 rfl ?_
    refine r_getI hB dX10_undo_11 kf_X10_333 rfl th_0 ?_
    refine x_iconst (v := (1 : Int32)) hC dX10_undo_14 ki_1 ?_
    refine x_isub hC dX10_undo_15 ?_
    refine r_putI hB dX10_undo_16 kf_X10_333 rfl th_0 ?_
    refine x_mem (fun M16 => ?_)
    refine x_aload_n hC dX10_undo_19 rfl 0 rfl ?_
    refine r_getR hB dX10_undo_20 kf_X10_10 rfl th_0 rf_0_0 ?_
    refine x_aload_n hC dX10_undo_23 rfl 0 rfl ?_
    refine r_getR hB dX10_undo_24 kf_X10_19 rfl th_0 rf_0_2 ?_
    refine x_aload_n hC dX10_undo_27 rfl 0 rfl ?_
    refine r_getI hB dX10_undo_28 kf_X10_336 rfl th_0 ?_
    refine x_aload_n hC dX10_undo_31 rfl 0 rfl ?_
    refine r_getI hB dX10_undo_32 kf_X10_333 rfl th_0 ?_
    refine x_iadd hC dX10_undo_35 ?_
    refine x_bipush (v := (6 : Int32)) hC dX10_undo_36 kb_6 ?_
    refine x_irem0 hC dX10_undo_38 nz_6 ?_
    refine r_aaK hB dX10_undo_39 (fun hg39 => ?_)
    refine r_cVv (as := [zr w (143 + 19 * ix (irem ((M16 0 3) + (M16 0 4)) (6 : Int32)))]) (rest := []) hB dX10_undo_40 kv_X10_339 th_1 hq1 rfl rfl (Nat.le_of_ble_eq_true rfl) (fun M' hv => f_X7_copyFrom_met hB.2 th_1 (nv_kp hg39).2 (by omega) hv) (fun M40 => ?_)
    refine x_iconst (v := (1 : Int32)) hC dX10_undo_43 ki_1 ?_
    exact r_retZ hR dX10_undo_44 (Or.inr rfl) (fun h => h)
  · refine x_iconst (v := (0 : Int32)) hC dX10_undo_7 ki_0 ?_
    exact r_retZ hR dX10_undo_8 (Or.inl rfl) (fun h => h)
theorem f_X10_undo_met {l : Launch} {d : Nat} {g : zG} {w : zW} {M0 : zM} {M : zM} (hw : wS w) (hd : 4 ≤ d) {v : Int32} {M' : zM} (h : f_X10_undo M = some (v, M')) : zMet l yX10_undo cX10_undo 1 (some .boolean) d g w (zin true) M0 [zr w 0] M (some (.int v)) M' :=
  met_z (by decide +kernel) (Nat.le_of_ble_eq_true rfl) (fun C hB0 hR => f_X10_undo_ok (r := (v, M')) ⟨hB0, hw⟩ hd M hR _ h rfl)
/-! WindingSquare.keep()V -/
noncomputable def j_X10_keep_32 (M : zM) : Option (zM) :=
  grd (inb (irem ((M 0 3) + (M 0 4)) (6 : Int32)) 6) (
  (f_X7_copyFrom (143 + 19 * ix (irem ((M 0 3) + (M 0 4)) (6 : Int32))) 1 M).bind fun M53 =>
  nm (mset M53 0 4 ((M53 0 4) + (1 : Int32))) fun M63 =>
  some M63)
set_option maxRecDepth 100000 in
theorem j_X10_keep_32_ok {C : zC} {d : Nat} {g : zG} {l : Launch} {w : zW} {r : zM} (hB : bOK C cX10_keep 1 RX10 d g l w true) (hd : 4 ≤ d) (M : zM) (hR : RtV C cX10_keep w r) : Sg C w (0, 0) 32 [(0, zr w 0)] [] M (j_X10_keep_32 M) (fun q => q = r) := by
  have hC := hB.1.1
  have hq1 : 1 ≤ d := by omega
  unfold j_X10_keep_32
  refine x_aload_n hC dX10_keep_32 rfl 0 rfl ?_
  refine r_getR hB dX10_keep_33 kf_X10_19 rfl th_0 rf_0_2 ?_
  refine x_aload_n hC dX10_keep_36 rfl 0 rfl ?_
  refine r_getI hB dX10_keep_37 kf_X10_336 rfl th_0 ?_
  refine x_aload_n hC dX10_keep_40 rfl 0 rfl ?_
  refine r_getI hB dX10_keep_41 kf_X10_333 rfl th_0 ?_
  refine x_iadd hC dX10_keep_44 ?_
  refine x_bipush (v := (6 : Int32)) hC dX10_keep_45 kb_6 ?_
  refine x_irem0 hC dX10_keep_47 nz_6 ?_
  refine r_aaK hB dX10_keep_48 (fun hg48 => ?_)
  refine x_aload_n hC dX10_keep_49 rfl 0 rfl ?_
  refine r_getR hB dX10_keep_50 kf_X10_10 rfl th_0 rf_0_0 ?_
  refine r_cVv (as := [zr w 1]) (rest := []) hB dX10_keep_53 kv_X10_339 (nv_kp hg48).2 hq1 rfl rfl (Nat.le_of_ble_eq_true rfl) (fun M' hv => f_X7_copyFrom_met hB.2 (nv_kp hg48).2 th_1 (by omega) hv) (fun M53 => ?_)
  refine x_aload_n hC dX10_keep_56 rfl 0 rfl ?_
  refine x_dup hC dX10_keep_57 rfl ?_
  refine r_getI hB dX10_keep_58 kf_X10_333 rfl th_0 ?_
  refine x_iconst (v := (1 : Int32)) hC dX10_keep_61 ki_1 ?_
  refine x_iadd hC dX10_keep_62 ?_
  refine r_putI hB dX10_keep_63 kf_X10_333 rfl th_0 ?_
  refine x_mem (fun M63 => ?_)
  exact r_retV hR dX10_keep_66 (fun h => h)
noncomputable def f_X10_keep (M : zM) : Option (zM) :=
  if (M 0 4) = (6 : Int32) then (nm (mset M 0 3 (irem ((M 0 3) + (1 : Int32)) (6 : Int32))) fun M19 =>
  nm (mset M19 0 4 ((M19 0 4) - (1 : Int32))) fun M29 =>
  j_X10_keep_32 M29)
  else (j_X10_keep_32 M)
set_option maxRecDepth 100000 in
theorem f_X10_keep_ok {C : zC} {d : Nat} {g : zG} {l : Launch} {w : zW} {r : zM} (hB : bOK C cX10_keep 1 RX10 d g l w true) (hd : 4 ≤ d) (M : zM) (hR : RtV C cX10_keep w r) : Sg C w (0, 0) 0 [(0, zr w 0)] [] M (f_X10_keep M) (fun q => q = r) := by
  have hC := hB.1.1
  have hq1 : 1 ≤ d := by omega
  unfold f_X10_keep
  refine x_aload_n hC dX10_keep_0 rfl 0 rfl ?_
  refine r_getI hB dX10_keep_1 kf_X10_333 rfl th_0 ?_
  refine x_bipush (v := (6 : Int32)) hC dX10_keep_4 kb_6 ?_
  refine x_icmp_ne (tgt := 32) hC dX10_keep_6 (by decide) ?_ ?_
  · refine x_aload_n hC dX10_keep_9 rfl 0 rfl ?_
    refine x_aload_n hC dX10_keep_10 rfl 0 rfl ?_
    refine r_getI hB dX10_keep_11 kf_X10_336 rfl th_0 ?_
    refine x_iconst (v := (1 : Int32)) hC dX10_keep_14 ki_1 ?_
    refine x_iadd hC dX10_keep_15 ?_
    refine x_bipush (v := (6 : Int32)) hC dX10_keep_16 kb_6 ?_
    refine x_irem0 hC dX10_keep_18 nz_6 ?_
    refine r_putI hB dX10_keep_19 kf_X10_336 rfl th_0 ?_
    refine x_mem (fun M19 => ?_)
    refine x_aload_n hC dX10_keep_22 rfl 0 rfl ?_
    refine x_dup hC dX10_keep_23 rfl ?_
    refine r_getI hB dX10_keep_24 kf_X10_333 rfl th_0 ?_
    refine x_iconst (v := (1 : Int32)) hC dX10_keep_27 ki_1 ?_
    refine x_isub hC dX10_keep_28 ?_
    refine r_putI hB dX10_keep_29 kf_X10_333 rfl th_0 ?_
    refine x_mem (fun M29 => ?_)
    exact j_X10_keep_32_ok hB hd M29 hR
  · exact j_X10_keep_32_ok hB hd M hR
theorem f_X10_keep_met {l : Launch} {d : Nat} {g : zG} {w : zW} {M0 : zM} {M : zM} (hw : wS w) (hd : 4 ≤ d) {M' : zM} (h : f_X10_keep M = some M') : zMet l yX10_keep cX10_keep 1 none d g w (zin true) M0 [zr w 0] M none M' :=
  met_v (by decide +kernel) (Nat.le_of_ble_eq_true rfl) (fun C hB0 hR => f_X10_keep_ok ⟨hB0, hw⟩ hd M hR _ h rfl)
/-! WindingSquare.beginThought()V -/
noncomputable def f_X10_beginThought (M : zM) : Option (zM) :=
  (f_X7_copyFrom 20 1 M).bind fun M8 =>
  nm (mset M8 83 0 (1 : Int32)) fun M16 =>
  some M16
set_option maxRecDepth 100000 in
theorem f_X10_beginThought_ok {C : zC} {d : Nat} {g : zG} {l : Launch} {w : zW} {r : zM} (hB : bOK C cX10_beginThought 1 RX10 d g l w true) (hd : 4 ≤ d) (M : zM) (hR : RtV C cX10_beginThought w r) : Sg C w (0, 0) 0 [(0, zr w 0)] [] M (f_X10_beginThought M) (fun q => q = r) := by
  have hC := hB.1.1
  have hq1 : 1 ≤ d := by omega
  unfold f_X10_beginThought
  refine x_aload_n hC dX10_beginThought_0 rfl 0 rfl ?_
  refine r_getR hB dX10_beginThought_1 kf_X10_16 rfl th_0 rf_0_1 ?_
  refine x_aload_n hC dX10_beginThought_4 rfl 0 rfl ?_
  refine r_getR hB dX10_beginThought_5 kf_X10_10 rfl th_0 rf_0_0 ?_
  refine r_cVv (as := [zr w 1]) (rest := []) hB dX10_beginThought_8 kv_X10_339 th_20 hq1 rfl rfl (Nat.le_of_ble_eq_true rfl) (fun M' hv => f_X7_copyFrom_met hB.2 th_20 th_1 (by omega) hv) (fun M8 => ?_)
  refine x_aload_n hC dX10_beginThought_11 rfl 0 rfl ?_
  refine r_getR hB dX10_beginThought_12 kf_X10_59 rfl th_0 rf_0_10 ?_
  refine x_iconst (v := (1 : Int32)) hC dX10_beginThought_15 ki_1 ?_
  refine r_putZ hB dX10_beginThought_16 kf_X10_397 rfl th_83 (Or.inr rfl) ?_
  refine x_mem (fun M16 => ?_)
  exact r_retV hR dX10_beginThought_19 (fun h => h)
theorem f_X10_beginThought_met {l : Launch} {d : Nat} {g : zG} {w : zW} {M0 : zM} {M : zM} (hw : wS w) (hd : 4 ≤ d) {M' : zM} (h : f_X10_beginThought M = some M') : zMet l yX10_beginThought cX10_beginThought 1 none d g w (zin true) M0 [zr w 0] M none M' :=
  met_v (by decide +kernel) (Nat.le_of_ble_eq_true rfl) (fun C hB0 hR => f_X10_beginThought_ok ⟨hB0, hw⟩ hd M hR _ h rfl)
/-! WindingSquare.endThought()V -/
noncomputable def f_X10_endThought (M : zM) : Option (zM) :=
  nm (mset M 83 0 (0 : Int32)) fun M5 =>
  (f_X7_copyFrom 1 20 M5).bind fun M16 =>
  some M16
set_option maxRecDepth 100000 in
theorem f_X10_endThought_ok {C : zC} {d : Nat} {g : zG} {l : Launch} {w : zW} {r : zM} (hB : bOK C cX10_endThought 1 RX10 d g l w true) (hd : 4 ≤ d) (M : zM) (hR : RtV C cX10_endThought w r) : Sg C w (0, 0) 0 [(0, zr w 0)] [] M (f_X10_endThought M) (fun q => q = r) := by
  have hC := hB.1.1
  have hq1 : 1 ≤ d := by omega
  unfold f_X10_endThought
  refine x_aload_n hC dX10_endThought_0 rfl 0 rfl ?_
  refine r_getR hB dX10_endThought_1 kf_X10_59 rfl th_0 rf_0_10 ?_
  refine x_iconst (v := (0 : Int32)) hC dX10_endThought_4 ki_0 ?_
  refine r_putZ hB dX10_endThought_5 kf_X10_397 rfl th_83 (Or.inl rfl) ?_
  refine x_mem (fun M5 => ?_)
  refine x_aload_n hC dX10_endThought_8 rfl 0 rfl ?_
  refine r_getR hB dX10_endThought_9 kf_X10_10 rfl th_0 rf_0_0 ?_
  refine x_aload_n hC dX10_endThought_12 rfl 0 rfl ?_
  refine r_getR hB dX10_endThought_13 kf_X10_16 rfl th_0 rf_0_1 ?_
  refine r_cVv (as := [zr w 20]) (rest := []) hB dX10_endThought_16 kv_X10_339 th_1 hq1 rfl rfl (Nat.le_of_ble_eq_true rfl) (fun M' hv => f_X7_copyFrom_met hB.2 th_1 th_20 (by omega) hv) (fun M16 => ?_)
  exact r_retV hR dX10_endThought_19 (fun h => h)
theorem f_X10_endThought_met {l : Launch} {d : Nat} {g : zG} {w : zW} {M0 : zM} {M : zM} (hw : wS w) (hd : 4 ≤ d) {M' : zM} (h : f_X10_endThought M = some M') : zMet l yX10_endThought cX10_endThought 1 none d g w (zin true) M0 [zr w 0] M none M' :=
  met_v (by decide +kernel) (Nat.le_of_ble_eq_true rfl) (fun C hB0 hR => f_X10_endThought_ok ⟨hB0, hw⟩ hd M hR _ h rfl)
/-! WindingSquareModel.isFree(I)Z -/
noncomputable def f_X11_isFree (p1 : Int32) (M : zM) : Option (Int32) :=
  grd (inb p1 2425) (
  if (M 259 (ix p1)) = (1 : Int32) then (some (0 : Int32))
  else ((f_X11_whoIsAt p1 M).bind fun u12 =>
  if u12 = (-1 : Int32) then (some (1 : Int32))
  else (some (0 : Int32))))
set_option maxRecDepth 100000 in
theorem f_X11_isFree_ok {C : zC} {d : Nat} {g : zG} {l : Launch} {w : zW} {r : Int32} {p1 : Int32} (hB : bOK C cX11_isFree 2 RX11 d g l w false) (hd : 4 ≤ d) (M : zM) (hR : RtZ C cX11_isFree w r M) : Sg C w (0, 0) 0 [(0, zr w 257), (1, .int p1)] [] M (f_X11_isFree p1 M) (fun q => q = r) := by
  have hC := hB.1.1
  have hq1 : 1 ≤ d := by omega
  unfold f_X11_isFree
  refine x_aload_n hC dX11_isFree_0 rfl 0 rfl ?_
  refine r_getR hB dX11_isFree_1 kf_X11_13 rfl th_257 rf_257_1 ?_
  refine x_iload_n hC dX11_isFree_4 rfl 1 rfl ?_
  refine r_iald hB dX11_isFree_5 th_259 ?_
  refine x_iconst (v := (1 : Int32)) hC dX11_isFree_6 ki_1 ?_
  refine x_icmp_eq (tgt := 23) hC dX11_isFree_7 (by decide) ?_ ?_
  · refine x_iconst (v := (0 : Int32)) hC dX11_isFree_23 ki_0 ?_
    exact r_retZ hR dX11_isFree_24 (Or.inl rfl) (fun h => congrArg (fun q => (q, M)) h)
  · refine x_aload_n hC dX11_isFree_10 rfl 0 rfl ?_
    refine x_iload_n hC dX11_isFree_11 rfl 1 rfl ?_
    refine r_cV1 (as := [.int p1]) (rest := []) hB dX11_isFree_12 kv_X11_115 th_257 hq1 rfl rfl (Nat.le_of_ble_eq_true rfl) (fun v hv => f_X11_whoIsAt_met hB.2 (by omega) hv) (fun u12 => ?_)
    refine x_iconst (v := (-1 : Int32)) hC dX11_isFree_15 ki_m1 ?_
    refine x_icmp_ne (tgt := 23) hC dX11_isFree_16 (by decide) ?_ ?_
    · refine x_iconst (v := (1 : Int32)) hC dX11_isFree_19 ki_1 ?_
      refine x_goto (tgt := 24) hC dX11_isFree_20 (by decide) ?_
      exact r_retZ hR dX11_isFree_24 (Or.inr rfl) (fun h => congrArg (fun q => (q, M)) h)
    · refine x_iconst (v := (0 : Int32)) hC dX11_isFree_23 ki_0 ?_
      exact r_retZ hR dX11_isFree_24 (Or.inl rfl) (fun h => congrArg (fun q => (q, M)) h)
theorem f_X11_isFree_met {l : Launch} {d : Nat} {g : zG} {w : zW} {M0 : zM} {p1 : Int32} {M : zM} (hw : wS w) (hd : 4 ≤ d) {v : Int32} (h : f_X11_isFree p1 M = some v) : zMet l yX11_isFree cX11_isFree 2 (some .boolean) d g w (zin false) M0 [zr w 257, .int p1] M (some (.int v)) M :=
  met_z (by decide +kernel) (Nat.le_of_ble_eq_true rfl) (fun C hB0 hR => f_X11_isFree_ok ⟨hB0, hw⟩ hd M hR _ h rfl)
/-! WindingSquareModel.readStones(I)V -/
noncomputable def j_X11_readStones_315_193 (v3_193 : Int32) (v4_193 : Int32) (v5_193 : Int32) (v6_193 : Int32) (v7_193 : Int32) (v8_315_193 : Int32) (s1_315_193 : Int32) (s2_315_193 : Int32) (M : zM) : Option ((Int32 × zM) ⊕ (zM)) :=
  grd (inb s1_315_193 2425) (
  nm (mset M 263 (ix s1_315_193) s2_315_193) fun M315_193 =>
  some (.inl ((v8_315_193 + (1 : Int32)), M315_193)))
set_option maxRecDepth 100000 in
theorem j_X11_readStones_315_193_ok {C : zC} {d : Nat} {g : zG} {l : Launch} {w : zW} {r : zM} {v3_193 : Int32} {v4_193 : Int32} {v5_193 : Int32} {v6_193 : Int32} {v7_193 : Int32} {v8_315_193 : Int32} {s1_315_193 : Int32} {s2_315_193 : Int32} (hB : bOK C cX11_readStones 10 RX11 d g l w false) (hd : 4 ≤ d) (M : zM) (hR : RtV C cX11_readStones w r) : Sg C w (0, 0) 315 [(0, zr w 257), (3, .int v3_193), (4, .int v4_193), (5, .int v5_193), (6, .int v6_193), (7, .int v7_193), (8, .int v8_315_193)] [.int s2_315_193, .int s1_315_193, zr w 263] M (j_X11_readStones_315_193 v3_193 v4_193 v5_193 v6_193 v7_193 v8_315_193 s1_315_193 s2_315_193 M) (fun o => Sum.elim (fun (s : (Int32 × zM)) => Zs C w (0, 0) 193 [(0, zr w 257), (3, .int v3_193), (4, .int v4_193), (5, .int v5_193), (6, .int v6_193), (7, .int v7_193), (8, .int s.1)] [] s.2) (fun (s : (zM)) => Zs C w (0, 0) 322 [] [] s) o) := by
  have hC := hB.1.1
  have hq1 : 1 ≤ d := by omega
  unfold j_X11_readStones_315_193
  refine r_iast hB dX11_readStones_315 th_263 ?_
  refine x_mem (fun M315_193 => ?_)
  refine x_iinc hC dX11_readStones_316 ki_1 [(8, .int (v8_315_193 + (1 : Int32))), (0, zr w 257), (3, .int v3_193), (4, .int v4_193), (5, .int v5_193), (6, .int v6_193), (7, .int v7_193)] 6 rfl (by decide) rfl ?_
  refine x_goto (tgt := 193) hC dX11_readStones_319 (by decide) ?_
  refine x_sub [1, 2, 3, 4, 5, 6, 0] rfl ?_
  exact x_done (fun h => h)
noncomputable def j_X11_readStones_291_193 (v3_193 : Int32) (v4_193 : Int32) (v5_193 : Int32) (v6_193 : Int32) (v7_193 : Int32) (v8_291_193 : Int32) (s0_291_193 : Int32) (M : zM) : Option ((Int32 × zM) ⊕ (zM)) :=
  if s0_291_193 = 0 then (grd (inb v8_291_193 2425) (
  j_X11_readStones_315_193 v3_193 v4_193 v5_193 v6_193 v7_193 v8_291_193 v8_291_193 (M 263 (ix v8_291_193)) M))
  else (j_X11_readStones_315_193 v3_193 v4_193 v5_193 v6_193 v7_193 v8_291_193 v8_291_193 v3_193 M)
set_option maxRecDepth 100000 in
theorem j_X11_readStones_291_193_ok {C : zC} {d : Nat} {g : zG} {l : Launch} {w : zW} {r : zM} {v3_193 : Int32} {v4_193 : Int32} {v5_193 : Int32} {v6_193 : Int32} {v7_193 : Int32} {v8_291_193 : Int32} {s0_291_193 : Int32} (hB : bOK C cX11_readStones 10 RX11 d g l w false) (hd : 4 ≤ d) (M : zM) (hR : RtV C cX11_readStones w r) : Sg C w (0, 0) 291 [(0, zr w 257), (3, .int v3_193), (4, .int v4_193), (5, .int v5_193), (6, .int v6_193), (7, .int v7_193), (8, .int v8_291_193)] [.int s0_291_193] M (j_X11_readStones_291_193 v3_193 v4_193 v5_193 v6_193 v7_193 v8_291_193 s0_291_193 M) (fun o => Sum.elim (fun (s : (Int32 × zM)) => Zs C w (0, 0) 193 [(0, zr w 257), (3, .int v3_193), (4, .int v4_193), (5, .int v5_193), (6, .int v6_193), (7, .int v7_193), (8, .int s.1)] [] s.2) (fun (s : (zM)) => Zs C w (0, 0) 322 [] [] s) o) := by
  have hC := hB.1.1
  have hq1 : 1 ≤ d := by omega
  unfold j_X11_readStones_291_193
  refine x_istore (f := 0) hC dX11_readStones_291 [(9, .int s0_291_193), (0, zr w 257), (3, .int v3_193), (4, .int v4_193), (5, .int v5_193), (6, .int v6_193), (7, .int v7_193), (8, .int v8_291_193)] (by decide) rfl ?_
  refine x_aload_n hC dX11_readStones_293 rfl 1 rfl ?_
  refine r_getR hB dX11_readStones_294 kf_X11_29 rfl th_257 rf_257_16 ?_
  refine x_iload hC dX11_readStones_297 7 rfl ?_
  refine x_iload hC dX11_readStones_299 0 rfl ?_
  refine x_if_eq (tgt := 308) hC dX11_readStones_301 (by decide) ?_ ?_
  · refine x_aload_n hC dX11_readStones_308 rfl 1 rfl ?_
    refine r_getR hB dX11_readStones_309 kf_X11_29 rfl th_257 rf_257_16 ?_
    refine x_iload hC dX11_readStones_312 7 rfl ?_
    refine r_iald hB dX11_readStones_314 th_263 ?_
    refine x_sub [1, 2, 3, 4, 5, 6, 7] rfl ?_
    exact j_X11_readStones_315_193_ok hB hd M hR
  · refine x_iload_n hC dX11_readStones_304 rfl 2 rfl ?_
    refine x_goto (tgt := 315) hC dX11_readStones_305 (by decide) ?_
    refine x_sub [1, 2, 3, 4, 5, 6, 7] rfl ?_
    exact j_X11_readStones_315_193_ok hB hd M hR
noncomputable def j_X11_readStones_290_193 (v3_193 : Int32) (v4_193 : Int32) (v5_193 : Int32) (v6_193 : Int32) (v7_193 : Int32) (v8_290_193 : Int32) (M : zM) : Option ((Int32 × zM) ⊕ (zM)) :=
  j_X11_readStones_291_193 v3_193 v4_193 v5_193 v6_193 v7_193 v8_290_193 (0 : Int32) M
set_option maxRecDepth 100000 in
theorem j_X11_readStones_290_193_ok {C : zC} {d : Nat} {g : zG} {l : Launch} {w : zW} {r : zM} {v3_193 : Int32} {v4_193 : Int32} {v5_193 : Int32} {v6_193 : Int32} {v7_193 : Int32} {v8_290_193 : Int32} (hB : bOK C cX11_readStones 10 RX11 d g l w false) (hd : 4 ≤ d) (M : zM) (hR : RtV C cX11_readStones w r) : Sg C w (0, 0) 290 [(0, zr w 257), (3, .int v3_193), (4, .int v4_193), (5, .int v5_193), (6, .int v6_193), (7, .int v7_193), (8, .int v8_290_193)] [] M (j_X11_readStones_290_193 v3_193 v4_193 v5_193 v6_193 v7_193 v8_290_193 M) (fun o => Sum.elim (fun (s : (Int32 × zM)) => Zs C w (0, 0) 193 [(0, zr w 257), (3, .int v3_193), (4, .int v4_193), (5, .int v5_193), (6, .int v6_193), (7, .int v7_193), (8, .int s.1)] [] s.2) (fun (s : (zM)) => Zs C w (0, 0) 322 [] [] s) o) := by
  have hC := hB.1.1
  have hq1 : 1 ≤ d := by omega
  unfold j_X11_readStones_290_193
  refine x_iconst (v := (0 : Int32)) hC dX11_readStones_290 ki_0 ?_
  exact j_X11_readStones_291_193_ok hB hd M hR
noncomputable def j_X11_readStones_280_193 (v3_193 : Int32) (v4_193 : Int32) (v5_193 : Int32) (v6_193 : Int32) (v7_193 : Int32) (v8_280_193 : Int32) (s0_280_193 : Int32) (s1_280_193 : Int32) (s2_280_193 : Int32) (M : zM) : Option ((Int32 × zM) ⊕ (zM)) :=
  if (f_X11_within s0_280_193 s1_280_193 s2_280_193) = 0 then (j_X11_readStones_290_193 v3_193 v4_193 v5_193 v6_193 v7_193 v8_280_193 M)
  else (j_X11_readStones_291_193 v3_193 v4_193 v5_193 v6_193 v7_193 v8_280_193 (1 : Int32) M)
set_option maxRecDepth 100000 in
theorem j_X11_readStones_280_193_ok {C : zC} {d : Nat} {g : zG} {l : Launch} {w : zW} {r : zM} {v3_193 : Int32} {v4_193 : Int32} {v5_193 : Int32} {v6_193 : Int32} {v7_193 : Int32} {v8_280_193 : Int32} {s0_280_193 : Int32} {s1_280_193 : Int32} {s2_280_193 : Int32} (hB : bOK C cX11_readStones 10 RX11 d g l w false) (hd : 4 ≤ d) (M : zM) (hR : RtV C cX11_readStones w r) : Sg C w (0, 0) 280 [(0, zr w 257), (3, .int v3_193), (4, .int v4_193), (5, .int v5_193), (6, .int v6_193), (7, .int v7_193), (8, .int v8_280_193)] [.int s2_280_193, .int s1_280_193, .int s0_280_193] M (j_X11_readStones_280_193 v3_193 v4_193 v5_193 v6_193 v7_193 v8_280_193 s0_280_193 s1_280_193 s2_280_193 M) (fun o => Sum.elim (fun (s : (Int32 × zM)) => Zs C w (0, 0) 193 [(0, zr w 257), (3, .int v3_193), (4, .int v4_193), (5, .int v5_193), (6, .int v6_193), (7, .int v7_193), (8, .int s.1)] [] s.2) (fun (s : (zM)) => Zs C w (0, 0) 322 [] [] s) o) := by
  have hC := hB.1.1
  have hq1 : 1 ≤ d := by omega
  unfold j_X11_readStones_280_193
  refine r_cS0 (as := [.int s0_280_193, .int s1_280_193, .int s2_280_193]) (rest := []) hB dX11_readStones_280 ks_X11_100 hq1 rfl rfl (Nat.le_of_ble_eq_true rfl) (f_X11_within_met hB.2 (by omega)) ?_
  refine x_if_eq (tgt := 290) hC dX11_readStones_283 (by decide) ?_ ?_
  · exact j_X11_readStones_290_193_ok hB hd M hR
  · refine x_iconst (v := (1 : Int32)) hC dX11_readStones_286 ki_1 ?_
    refine x_goto (tgt := 291) hC dX11_readStones_287 (by decide) ?_
    exact j_X11_readStones_291_193_ok hB hd M hR
noncomputable def j_X11_readStones_266_193 (v3_193 : Int32) (v4_193 : Int32) (v5_193 : Int32) (v6_193 : Int32) (v7_193 : Int32) (v8_266_193 : Int32) (s0_266_193 : Int32) (s1_266_193 : Int32) (M : zM) : Option ((Int32 × zM) ⊕ (zM)) :=
  if v7_193 ≤ v5_193 then (j_X11_readStones_280_193 v3_193 v4_193 v5_193 v6_193 v7_193 v8_266_193 s0_266_193 s1_266_193 v5_193 M)
  else (j_X11_readStones_280_193 v3_193 v4_193 v5_193 v6_193 v7_193 v8_266_193 s0_266_193 s1_266_193 v7_193 M)
set_option maxRecDepth 100000 in
theorem j_X11_readStones_266_193_ok {C : zC} {d : Nat} {g : zG} {l : Launch} {w : zW} {r : zM} {v3_193 : Int32} {v4_193 : Int32} {v5_193 : Int32} {v6_193 : Int32} {v7_193 : Int32} {v8_266_193 : Int32} {s0_266_193 : Int32} {s1_266_193 : Int32} (hB : bOK C cX11_readStones 10 RX11 d g l w false) (hd : 4 ≤ d) (M : zM) (hR : RtV C cX11_readStones w r) : Sg C w (0, 0) 266 [(0, zr w 257), (3, .int v3_193), (4, .int v4_193), (5, .int v5_193), (6, .int v6_193), (7, .int v7_193), (8, .int v8_266_193)] [.int s1_266_193, .int s0_266_193] M (j_X11_readStones_266_193 v3_193 v4_193 v5_193 v6_193 v7_193 v8_266_193 s0_266_193 s1_266_193 M) (fun o => Sum.elim (fun (s : (Int32 × zM)) => Zs C w (0, 0) 193 [(0, zr w 257), (3, .int v3_193), (4, .int v4_193), (5, .int v5_193), (6, .int v6_193), (7, .int v7_193), (8, .int s.1)] [] s.2) (fun (s : (zM)) => Zs C w (0, 0) 322 [] [] s) o) := by
  have hC := hB.1.1
  have hq1 : 1 ≤ d := by omega
  unfold j_X11_readStones_266_193
  refine x_iload hC dX11_readStones_266 3 rfl ?_
  refine x_iload hC dX11_readStones_268 5 rfl ?_
  refine x_icmp_ge (tgt := 278) hC dX11_readStones_270 (by decide) ?_ ?_
  · refine x_iload hC dX11_readStones_278 3 rfl ?_
    exact j_X11_readStones_280_193_ok hB hd M hR
  · refine x_iload hC dX11_readStones_273 5 rfl ?_
    refine x_goto (tgt := 280) hC dX11_readStones_275 (by decide) ?_
    exact j_X11_readStones_280_193_ok hB hd M hR
noncomputable def j_X11_readStones_241_193 (v3_193 : Int32) (v4_193 : Int32) (v5_193 : Int32) (v6_193 : Int32) (v7_193 : Int32) (v8_241_193 : Int32) (s0_241_193 : Int32) (s1_241_193 : Int32) (s2_241_193 : Int32) (M : zM) : Option ((Int32 × zM) ⊕ (zM)) :=
  if (f_X11_within s0_241_193 s1_241_193 s2_241_193) = 0 then (j_X11_readStones_290_193 v3_193 v4_193 v5_193 v6_193 v7_193 v8_241_193 M)
  else (if v7_193 ≤ v5_193 then (j_X11_readStones_266_193 v3_193 v4_193 v5_193 v6_193 v7_193 v8_241_193 (v8_241_193 / (12 : Int32)) v7_193 M)
  else (j_X11_readStones_266_193 v3_193 v4_193 v5_193 v6_193 v7_193 v8_241_193 (v8_241_193 / (12 : Int32)) v5_193 M))
set_option maxRecDepth 100000 in
theorem j_X11_readStones_241_193_ok {C : zC} {d : Nat} {g : zG} {l : Launch} {w : zW} {r : zM} {v3_193 : Int32} {v4_193 : Int32} {v5_193 : Int32} {v6_193 : Int32} {v7_193 : Int32} {v8_241_193 : Int32} {s0_241_193 : Int32} {s1_241_193 : Int32} {s2_241_193 : Int32} (hB : bOK C cX11_readStones 10 RX11 d g l w false) (hd : 4 ≤ d) (M : zM) (hR : RtV C cX11_readStones w r) : Sg C w (0, 0) 241 [(0, zr w 257), (3, .int v3_193), (4, .int v4_193), (5, .int v5_193), (6, .int v6_193), (7, .int v7_193), (8, .int v8_241_193)] [.int s2_241_193, .int s1_241_193, .int s0_241_193] M (j_X11_readStones_241_193 v3_193 v4_193 v5_193 v6_193 v7_193 v8_241_193 s0_241_193 s1_241_193 s2_241_193 M) (fun o => Sum.elim (fun (s : (Int32 × zM)) => Zs C w (0, 0) 193 [(0, zr w 257), (3, .int v3_193), (4, .int v4_193), (5, .int v5_193), (6, .int v6_193), (7, .int v7_193), (8, .int s.1)] [] s.2) (fun (s : (zM)) => Zs C w (0, 0) 322 [] [] s) o) := by
  have hC := hB.1.1
  have hq1 : 1 ≤ d := by omega
  unfold j_X11_readStones_241_193
  refine r_cS0 (as := [.int s0_241_193, .int s1_241_193, .int s2_241_193]) (rest := []) hB dX11_readStones_241 ks_X11_100 hq1 rfl rfl (Nat.le_of_ble_eq_true rfl) (f_X11_within_met hB.2 (by omega)) ?_
  refine x_if_eq (tgt := 290) hC dX11_readStones_244 (by decide) ?_ ?_
  · exact j_X11_readStones_290_193_ok hB hd M hR
  · refine x_iload hC dX11_readStones_247 6 rfl ?_
    refine x_bipush (v := (12 : Int32)) hC dX11_readStones_249 kb_12 ?_
    refine x_idiv0 hC dX11_readStones_251 nz_12 ?_
    refine x_iload hC dX11_readStones_252 3 rfl ?_
    refine x_iload hC dX11_readStones_254 5 rfl ?_
    refine x_icmp_ge (tgt := 264) hC dX11_readStones_256 (by decide) ?_ ?_
    · refine x_iload hC dX11_readStones_264 5 rfl ?_
      exact j_X11_readStones_266_193_ok hB hd M hR
    · refine x_iload hC dX11_readStones_259 3 rfl ?_
      refine x_goto (tgt := 266) hC dX11_readStones_261 (by decide) ?_
      exact j_X11_readStones_266_193_ok hB hd M hR
noncomputable def j_X11_readStones_227_193 (v3_193 : Int32) (v4_193 : Int32) (v5_193 : Int32) (v6_193 : Int32) (v7_193 : Int32) (v8_227_193 : Int32) (s0_227_193 : Int32) (s1_227_193 : Int32) (M : zM) : Option ((Int32 × zM) ⊕ (zM)) :=
  if v6_193 ≤ v4_193 then (j_X11_readStones_241_193 v3_193 v4_193 v5_193 v6_193 v7_193 v8_227_193 s0_227_193 s1_227_193 v4_193 M)
  else (j_X11_readStones_241_193 v3_193 v4_193 v5_193 v6_193 v7_193 v8_227_193 s0_227_193 s1_227_193 v6_193 M)
set_option maxRecDepth 100000 in
theorem j_X11_readStones_227_193_ok {C : zC} {d : Nat} {g : zG} {l : Launch} {w : zW} {r : zM} {v3_193 : Int32} {v4_193 : Int32} {v5_193 : Int32} {v6_193 : Int32} {v7_193 : Int32} {v8_227_193 : Int32} {s0_227_193 : Int32} {s1_227_193 : Int32} (hB : bOK C cX11_readStones 10 RX11 d g l w false) (hd : 4 ≤ d) (M : zM) (hR : RtV C cX11_readStones w r) : Sg C w (0, 0) 227 [(0, zr w 257), (3, .int v3_193), (4, .int v4_193), (5, .int v5_193), (6, .int v6_193), (7, .int v7_193), (8, .int v8_227_193)] [.int s1_227_193, .int s0_227_193] M (j_X11_readStones_227_193 v3_193 v4_193 v5_193 v6_193 v7_193 v8_227_193 s0_227_193 s1_227_193 M) (fun o => Sum.elim (fun (s : (Int32 × zM)) => Zs C w (0, 0) 193 [(0, zr w 257), (3, .int v3_193), (4, .int v4_193), (5, .int v5_193), (6, .int v6_193), (7, .int v7_193), (8, .int s.1)] [] s.2) (fun (s : (zM)) => Zs C w (0, 0) 322 [] [] s) o) := by
  have hC := hB.1.1
  have hq1 : 1 ≤ d := by omega
  unfold j_X11_readStones_227_193
  refine x_iload hC dX11_readStones_227 2 rfl ?_
  refine x_iload hC dX11_readStones_229 4 rfl ?_
  refine x_icmp_ge (tgt := 239) hC dX11_readStones_231 (by decide) ?_ ?_
  · refine x_iload hC dX11_readStones_239 2 rfl ?_
    exact j_X11_readStones_241_193_ok hB hd M hR
  · refine x_iload hC dX11_readStones_234 4 rfl ?_
    refine x_goto (tgt := 241) hC dX11_readStones_236 (by decide) ?_
    exact j_X11_readStones_241_193_ok hB hd M hR
noncomputable def b_X11_readStones_193 (v3_193 : Int32) (v4_193 : Int32) (v5_193 : Int32) (v6_193 : Int32) (v7_193 : Int32) (v8_193 : Int32) (M : zM) : Option ((Int32 × zM) ⊕ (zM)) :=
  if (144 : Int32) ≤ v8_193 then (some (.inr M))
  else (if (f_X11_fine M) = 0 then (some (.inr M))
  else (if v6_193 ≤ v4_193 then (j_X11_readStones_227_193 v3_193 v4_193 v5_193 v6_193 v7_193 v8_193 (irem v8_193 (12 : Int32)) v6_193 M)
  else (j_X11_readStones_227_193 v3_193 v4_193 v5_193 v6_193 v7_193 v8_193 (irem v8_193 (12 : Int32)) v4_193 M)))
set_option maxRecDepth 100000 in
theorem b_X11_readStones_193_ok {C : zC} {d : Nat} {g : zG} {l : Launch} {w : zW} {r : zM} {v3_193 : Int32} {v4_193 : Int32} {v5_193 : Int32} {v6_193 : Int32} {v7_193 : Int32} {v8_193 : Int32} (hB : bOK C cX11_readStones 10 RX11 d g l w false) (hd : 4 ≤ d) (M : zM) (hR : RtV C cX11_readStones w r) : Sg C w (0, 0) 193 [(0, zr w 257), (3, .int v3_193), (4, .int v4_193), (5, .int v5_193), (6, .int v6_193), (7, .int v7_193), (8, .int v8_193)] [] M (b_X11_readStones_193 v3_193 v4_193 v5_193 v6_193 v7_193 v8_193 M) (fun o => Sum.elim (fun (s : (Int32 × zM)) => Zs C w (0, 0) 193 [(0, zr w 257), (3, .int v3_193), (4, .int v4_193), (5, .int v5_193), (6, .int v6_193), (7, .int v7_193), (8, .int s.1)] [] s.2) (fun (s : (zM)) => Zs C w (0, 0) 322 [] [] s) o) := by
  have hC := hB.1.1
  have hq1 : 1 ≤ d := by omega
  unfold b_X11_readStones_193
  refine x_iload hC dX11_readStones_193 6 rfl ?_
  refine x_sipush (v := (144 : Int32)) hC dX11_readStones_195 kh_144 ?_
  refine x_icmp_ge (tgt := 322) hC dX11_readStones_198 (by decide) ?_ ?_
  · refine x_sub [] rfl ?_
    exact x_done (fun h => h)
  · refine x_aload_n hC dX11_readStones_201 rfl 0 rfl ?_
    refine r_cV0 (as := []) (rest := []) hB dX11_readStones_202 kv_X11_149 th_257 hq1 rfl rfl (Nat.le_of_ble_eq_true rfl) (f_X11_fine_met hB.2 (by omega)) ?_
    refine x_if_eq (tgt := 322) hC dX11_readStones_205 (by decide) ?_ ?_
    · refine x_sub [] rfl ?_
      exact x_done (fun h => h)
    · refine x_iload hC dX11_readStones_208 6 rfl ?_
      refine x_bipush (v := (12 : Int32)) hC dX11_readStones_210 kb_12 ?_
      refine x_irem0 hC dX11_readStones_212 nz_12 ?_
      refine x_iload hC dX11_readStones_213 2 rfl ?_
      refine x_iload hC dX11_readStones_215 4 rfl ?_
      refine x_icmp_ge (tgt := 225) hC dX11_readStones_217 (by decide) ?_ ?_
      · refine x_iload hC dX11_readStones_225 4 rfl ?_
        exact j_X11_readStones_227_193_ok hB hd M hR
      · refine x_iload hC dX11_readStones_220 2 rfl ?_
        refine x_goto (tgt := 227) hC dX11_readStones_222 (by decide) ?_
        exact j_X11_readStones_227_193_ok hB hd M hR
noncomputable def j_X11_readStones_322 (M : zM) : Option (zM) :=
  some M
set_option maxRecDepth 100000 in
theorem j_X11_readStones_322_ok {C : zC} {d : Nat} {g : zG} {l : Launch} {w : zW} {r : zM} (hB : bOK C cX11_readStones 10 RX11 d g l w false) (hd : 4 ≤ d) (M : zM) (hR : RtV C cX11_readStones w r) : Sg C w (0, 0) 322 [] [] M (j_X11_readStones_322 M) (fun q => q = r) := by
  have hC := hB.1.1
  have hq1 : 1 ≤ d := by omega
  unfold j_X11_readStones_322
  exact r_retV hR dX11_readStones_322 (fun h => h)
noncomputable def j_X11_readStones_190 (v3_190 : Int32) (v4_190 : Int32) (v5_190 : Int32) (v6_190 : Int32) (v7_190 : Int32) (M : zM) : Option (zM) :=
  (loopW (fun s => b_X11_readStones_193 v3_190 v4_190 v5_190 v6_190 v7_190 s.1 s.2) ((0 : Int32), M)).bind (fun r => j_X11_readStones_322 r)
set_option maxRecDepth 100000 in
theorem j_X11_readStones_190_ok {C : zC} {d : Nat} {g : zG} {l : Launch} {w : zW} {r : zM} {v3_190 : Int32} {v4_190 : Int32} {v5_190 : Int32} {v6_190 : Int32} {v7_190 : Int32} (hB : bOK C cX11_readStones 10 RX11 d g l w false) (hd : 4 ≤ d) (M : zM) (hR : RtV C cX11_readStones w r) : Sg C w (0, 0) 190 [(0, zr w 257), (3, .int v3_190), (4, .int v4_190), (5, .int v5_190), (6, .int v6_190), (7, .int v7_190)] [] M (j_X11_readStones_190 v3_190 v4_190 v5_190 v6_190 v7_190 M) (fun q => q = r) := by
  have hC := hB.1.1
  have hq1 : 1 ≤ d := by omega
  unfold j_X11_readStones_190
  refine x_iconst (v := (0 : Int32)) hC dX11_readStones_190 ki_0 ?_
  refine x_istore (f := 0) hC dX11_readStones_191 [(8, .int (0 : Int32)), (0, zr w 257), (3, .int v3_190), (4, .int v4_190), (5, .int v5_190), (6, .int v6_190), (7, .int v7_190)] (by decide) rfl ?_
  refine x_sub [1, 2, 3, 4, 5, 6, 0] rfl ?_
  refine x_loopB (pc2 := 322) (fun (s : (Int32 × zM)) => [(0, zr w 257), (3, .int v3_190), (4, .int v4_190), (5, .int v5_190), (6, .int v6_190), (7, .int v7_190), (8, .int s.1)]) (fun (s : (Int32 × zM)) => s.2) (fun (s : (zM)) => []) (fun (s : (zM)) => s) ((0 : Int32), M) ?_ ?_
  · exact fun s => b_X11_readStones_193_ok hB hd s.2 hR
  · intro r9
    exact j_X11_readStones_322_ok hB hd r9 hR
noncomputable def j_X11_readStones_114 (v3_114 : Int32) (s1_114 : Int32) (s2_114 : Int32) (M : zM) : Option (zM) :=
  (f_X11_mayBegin s1_114 s2_114 M).bind fun M114 =>
  bnd2 (f_X11_number (0 : Int32) (11 : Int32) M114) fun u121 M121 =>
  bnd2 (f_X11_number (0 : Int32) (11 : Int32) M121) fun u130 M130 =>
  if (f_X11_fine M130) = 0 then (j_X11_readStones_190 v3_114 u121 u130 u121 u130 M130)
  else (bnd2 (f_X11_word M130) fun u151 M151 =>
  if u151 = (f_X11_spelt (116 : Int32) (111 : Int32) (0 : Int32) (0 : Int32) (0 : Int32) (0 : Int32)) then ((f_X11_pass M151).bind fun M169 =>
  bnd2 (f_X11_number (0 : Int32) (11 : Int32) M169) fun u176 M176 =>
  bnd2 (f_X11_number (0 : Int32) (11 : Int32) M176) fun u185 M185 =>
  j_X11_readStones_190 v3_114 u121 u130 u176 u185 M185)
  else (j_X11_readStones_190 v3_114 u121 u130 u121 u130 M151))
set_option maxRecDepth 100000 in
theorem j_X11_readStones_114_ok {C : zC} {d : Nat} {g : zG} {l : Launch} {w : zW} {r : zM} {v3_114 : Int32} {s1_114 : Int32} {s2_114 : Int32} (hB : bOK C cX11_readStones 10 RX11 d g l w false) (hd : 4 ≤ d) (M : zM) (hR : RtV C cX11_readStones w r) : Sg C w (0, 0) 114 [(0, zr w 257), (3, .int v3_114)] [.int s2_114, .int s1_114, zr w 257] M (j_X11_readStones_114 v3_114 s1_114 s2_114 M) (fun q => q = r) := by
  have hC := hB.1.1
  have hq1 : 1 ≤ d := by omega
  unfold j_X11_readStones_114
  refine r_cVv (as := [.int s1_114, .int s2_114]) (rest := []) hB dX11_readStones_114 kv_X11_198 th_257 hq1 rfl rfl (Nat.le_of_ble_eq_true rfl) (fun M' hv => f_X11_mayBegin_met hB.2 (by omega) hv) (fun M114 => ?_)
  refine x_aload_n hC dX11_readStones_117 rfl 0 rfl ?_
  refine x_iconst (v := (0 : Int32)) hC dX11_readStones_118 ki_0 ?_
  refine x_bipush (v := (11 : Int32)) hC dX11_readStones_119 kb_11 ?_
  refine r_cV2 (as := [.int (0 : Int32), .int (11 : Int32)]) (rest := []) hB dX11_readStones_121 kv_X11_202 th_257 hq1 rfl rfl (Nat.le_of_ble_eq_true rfl) (fun v M' hv => f_X11_number_met hB.2 (by omega) hv) (fun u121 M121 => ?_)
  refine x_istore (f := 0) hC dX11_readStones_124 [(4, .int u121), (0, zr w 257), (3, .int v3_114)] (by decide) rfl ?_
  refine x_aload_n hC dX11_readStones_126 rfl 1 rfl ?_
  refine x_iconst (v := (0 : Int32)) hC dX11_readStones_127 ki_0 ?_
  refine x_bipush (v := (11 : Int32)) hC dX11_readStones_128 kb_11 ?_
  refine r_cV2 (as := [.int (0 : Int32), .int (11 : Int32)]) (rest := []) hB dX11_readStones_130 kv_X11_202 th_257 hq1 rfl rfl (Nat.le_of_ble_eq_true rfl) (fun v M' hv => f_X11_number_met hB.2 (by omega) hv) (fun u130 M130 => ?_)
  refine x_istore (f := 0) hC dX11_readStones_133 [(5, .int u130), (4, .int u121), (0, zr w 257), (3, .int v3_114)] (by decide) rfl ?_
  refine x_iload hC dX11_readStones_135 1 rfl ?_
  refine x_istore (f := 0) hC dX11_readStones_137 [(6, .int u121), (5, .int u130), (4, .int u121), (0, zr w 257), (3, .int v3_114)] (by decide) rfl ?_
  refine x_iload hC dX11_readStones_139 1 rfl ?_
  refine x_istore (f := 0) hC dX11_readStones_141 [(7, .int u130), (6, .int u121), (5, .int u130), (4, .int u121), (0, zr w 257), (3, .int v3_114)] (by decide) rfl ?_
  refine x_aload_n hC dX11_readStones_143 rfl 4 rfl ?_
  refine r_cV0 (as := []) (rest := []) hB dX11_readStones_144 kv_X11_149 th_257 hq1 rfl rfl (Nat.le_of_ble_eq_true rfl) (f_X11_fine_met hB.2 (by omega)) ?_
  refine x_if_eq (tgt := 190) hC dX11_readStones_147 (by decide) ?_ ?_
  · refine x_sub [4, 5, 3, 2, 1, 0] rfl ?_
    exact j_X11_readStones_190_ok hB hd M130 hR
  · refine x_aload_n hC dX11_readStones_150 rfl 4 rfl ?_
    refine r_cV2 (as := []) (rest := []) hB dX11_readStones_151 kv_X11_160 th_257 hq1 rfl rfl (Nat.le_of_ble_eq_true rfl) (fun v M' hv => f_X11_word_met hB.2 (by omega) hv) (fun u151 M151 => ?_)
    refine x_bipush (v := (116 : Int32)) hC dX11_readStones_154 kb_116 ?_
    refine x_bipush (v := (111 : Int32)) hC dX11_readStones_156 kb_111 ?_
    refine x_iconst (v := (0 : Int32)) hC dX11_readStones_158 ki_0 ?_
    refine x_iconst (v := (0 : Int32)) hC dX11_readStones_159 ki_0 ?_
    refine x_iconst (v := (0 : Int32)) hC dX11_readStones_160 ki_0 ?_
    refine x_iconst (v := (0 : Int32)) hC dX11_readStones_161 ki_0 ?_
    refine r_cS0 (as := [.int (116 : Int32), .int (111 : Int32), .int (0 : Int32), .int (0 : Int32), .int (0 : Int32), .int (0 : Int32)]) (rest := [.int u151]) hB dX11_readStones_162 ks_X11_194 hq1 rfl rfl (Nat.le_of_ble_eq_true rfl) (f_X11_spelt_met hB.2 (by omega)) ?_
    refine x_icmp_ne (tgt := 190) hC dX11_readStones_165 (by decide) ?_ ?_
    · refine x_aload_n hC dX11_readStones_168 rfl 4 rfl ?_
      refine r_cVv (as := []) (rest := []) hB dX11_readStones_169 kv_X11_163 th_257 hq1 rfl rfl (Nat.le_of_ble_eq_true rfl) (fun M' hv => f_X11_pass_met hB.2 (by omega) hv) (fun M169 => ?_)
      refine x_aload_n hC dX11_readStones_172 rfl 4 rfl ?_
      refine x_iconst (v := (0 : Int32)) hC dX11_readStones_173 ki_0 ?_
      refine x_bipush (v := (11 : Int32)) hC dX11_readStones_174 kb_11 ?_
      refine r_cV2 (as := [.int (0 : Int32), .int (11 : Int32)]) (rest := []) hB dX11_readStones_176 kv_X11_202 th_257 hq1 rfl rfl (Nat.le_of_ble_eq_true rfl) (fun v M' hv => f_X11_number_met hB.2 (by omega) hv) (fun u176 M176 => ?_)
      refine x_istore (f := 0) hC dX11_readStones_179 [(6, .int u176), (7, .int u130), (5, .int u130), (4, .int u121), (0, zr w 257), (3, .int v3_114)] (by decide) rfl ?_
      refine x_aload_n hC dX11_readStones_181 rfl 4 rfl ?_
      refine x_iconst (v := (0 : Int32)) hC dX11_readStones_182 ki_0 ?_
      refine x_bipush (v := (11 : Int32)) hC dX11_readStones_183 kb_11 ?_
      refine r_cV2 (as := [.int (0 : Int32), .int (11 : Int32)]) (rest := []) hB dX11_readStones_185 kv_X11_202 th_257 hq1 rfl rfl (Nat.le_of_ble_eq_true rfl) (fun v M' hv => f_X11_number_met hB.2 (by omega) hv) (fun u185 M185 => ?_)
      refine x_istore (f := 0) hC dX11_readStones_188 [(7, .int u185), (6, .int u176), (5, .int u130), (4, .int u121), (0, zr w 257), (3, .int v3_114)] (by decide) rfl ?_
      refine x_sub [4, 5, 3, 2, 1, 0] rfl ?_
      exact j_X11_readStones_190_ok hB hd M185 hR
    · refine x_sub [4, 5, 3, 2, 1, 0] rfl ?_
      exact j_X11_readStones_190_ok hB hd M151 hR
noncomputable def j_X11_readStones_103 (v1_103 : Int32) (v3_103 : Int32) (s1_103 : Int32) (M : zM) : Option (zM) :=
  if v1_103 = (16 : Int32) then (j_X11_readStones_114 v3_103 s1_103 (1 : Int32) M)
  else (j_X11_readStones_114 v3_103 s1_103 (0 : Int32) M)
set_option maxRecDepth 100000 in
theorem j_X11_readStones_103_ok {C : zC} {d : Nat} {g : zG} {l : Launch} {w : zW} {r : zM} {v1_103 : Int32} {v3_103 : Int32} {s1_103 : Int32} (hB : bOK C cX11_readStones 10 RX11 d g l w false) (hd : 4 ≤ d) (M : zM) (hR : RtV C cX11_readStones w r) : Sg C w (0, 0) 103 [(0, zr w 257), (1, .int v1_103), (3, .int v3_103)] [.int s1_103, zr w 257] M (j_X11_readStones_103 v1_103 v3_103 s1_103 M) (fun q => q = r) := by
  have hC := hB.1.1
  have hq1 : 1 ≤ d := by omega
  unfold j_X11_readStones_103
  refine x_iload_n hC dX11_readStones_103 rfl 1 rfl ?_
  refine x_bipush (v := (16 : Int32)) hC dX11_readStones_104 kb_16 ?_
  refine x_icmp_ne (tgt := 113) hC dX11_readStones_106 (by decide) ?_ ?_
  · refine x_iconst (v := (1 : Int32)) hC dX11_readStones_109 ki_1 ?_
    refine x_goto (tgt := 114) hC dX11_readStones_110 (by decide) ?_
    refine x_sub [0, 2] rfl ?_
    exact j_X11_readStones_114_ok hB hd M hR
  · refine x_iconst (v := (0 : Int32)) hC dX11_readStones_113 ki_0 ?_
    refine x_sub [0, 2] rfl ?_
    exact j_X11_readStones_114_ok hB hd M hR
noncomputable def j_X11_readStones_91 (v1_91 : Int32) (s0_91 : Int32) (M : zM) : Option (zM) :=
  if s0_91 = (-1 : Int32) then (j_X11_readStones_103 v1_91 s0_91 (0 : Int32) M)
  else (j_X11_readStones_103 v1_91 s0_91 (1 : Int32) M)
set_option maxRecDepth 100000 in
theorem j_X11_readStones_91_ok {C : zC} {d : Nat} {g : zG} {l : Launch} {w : zW} {r : zM} {v1_91 : Int32} {s0_91 : Int32} (hB : bOK C cX11_readStones 10 RX11 d g l w false) (hd : 4 ≤ d) (M : zM) (hR : RtV C cX11_readStones w r) : Sg C w (0, 0) 91 [(0, zr w 257), (1, .int v1_91)] [.int s0_91] M (j_X11_readStones_91 v1_91 s0_91 M) (fun q => q = r) := by
  have hC := hB.1.1
  have hq1 : 1 ≤ d := by omega
  unfold j_X11_readStones_91
  refine x_istore_n hC dX11_readStones_91 rfl [(3, .int s0_91), (0, zr w 257), (1, .int v1_91)] (by decide) rfl ?_
  refine x_aload_n hC dX11_readStones_92 rfl 1 rfl ?_
  refine x_iload_n hC dX11_readStones_93 rfl 0 rfl ?_
  refine x_iconst (v := (-1 : Int32)) hC dX11_readStones_94 ki_m1 ?_
  refine x_icmp_eq (tgt := 102) hC dX11_readStones_95 (by decide) ?_ ?_
  · refine x_iconst (v := (0 : Int32)) hC dX11_readStones_102 ki_0 ?_
    refine x_sub [1, 2, 0] rfl ?_
    exact j_X11_readStones_103_ok hB hd M hR
  · refine x_iconst (v := (1 : Int32)) hC dX11_readStones_98 ki_1 ?_
    refine x_goto (tgt := 103) hC dX11_readStones_99 (by decide) ?_
    refine x_sub [1, 2, 0] rfl ?_
    exact j_X11_readStones_103_ok hB hd M hR
noncomputable def f_X11_readStones (p1 : Int32) (M : zM) : Option (zM) :=
  bnd2 (f_X11_word M) fun u1 M1 =>
  if u1 = (f_X11_spelt (115 : Int32) (116 : Int32) (111 : Int32) (110 : Int32) (101 : Int32) (0 : Int32)) then (j_X11_readStones_91 p1 (1 : Int32) M1)
  else (if u1 = (f_X11_spelt (115 : Int32) (110 : Int32) (111 : Int32) (119 : Int32) (0 : Int32) (0 : Int32)) then (j_X11_readStones_91 p1 (2 : Int32) M1)
  else (if u1 = (f_X11_spelt (115 : Int32) (105 : Int32) (103 : Int32) (110 : Int32) (0 : Int32) (0 : Int32)) then (j_X11_readStones_91 p1 (3 : Int32) M1)
  else (if u1 = (f_X11_spelt (98 : Int32) (97 : Int32) (114 : Int32) (101 : Int32) (0 : Int32) (0 : Int32)) then (j_X11_readStones_91 p1 (0 : Int32) M1)
  else (j_X11_readStones_91 p1 (-1 : Int32) M1))))
set_option maxRecDepth 100000 in
theorem f_X11_readStones_ok {C : zC} {d : Nat} {g : zG} {l : Launch} {w : zW} {r : zM} {p1 : Int32} (hB : bOK C cX11_readStones 10 RX11 d g l w false) (hd : 4 ≤ d) (M : zM) (hR : RtV C cX11_readStones w r) : Sg C w (0, 0) 0 [(0, zr w 257), (1, .int p1)] [] M (f_X11_readStones p1 M) (fun q => q = r) := by
  have hC := hB.1.1
  have hq1 : 1 ≤ d := by omega
  unfold f_X11_readStones
  refine x_aload_n hC dX11_readStones_0 rfl 0 rfl ?_
  refine r_cV2 (as := []) (rest := []) hB dX11_readStones_1 kv_X11_160 th_257 hq1 rfl rfl (Nat.le_of_ble_eq_true rfl) (fun v M' hv => f_X11_word_met hB.2 (by omega) hv) (fun u1 M1 => ?_)
  refine x_istore_n hC dX11_readStones_4 rfl [(2, .int u1), (0, zr w 257), (1, .int p1)] (by decide) rfl ?_
  refine x_iload_n hC dX11_readStones_5 rfl 0 rfl ?_
  refine x_bipush (v := (115 : Int32)) hC dX11_readStones_6 kb_115 ?_
  refine x_bipush (v := (116 : Int32)) hC dX11_readStones_8 kb_116 ?_
  refine x_bipush (v := (111 : Int32)) hC dX11_readStones_10 kb_111 ?_
  refine x_bipush (v := (110 : Int32)) hC dX11_readStones_12 kb_110 ?_
  refine x_bipush (v := (101 : Int32)) hC dX11_readStones_14 kb_101 ?_
  refine x_iconst (v := (0 : Int32)) hC dX11_readStones_16 ki_0 ?_
  refine r_cS0 (as := [.int (115 : Int32), .int (116 : Int32), .int (111 : Int32), .int (110 : Int32), .int (101 : Int32), .int (0 : Int32)]) (rest := [.int u1]) hB dX11_readStones_17 ks_X11_194 hq1 rfl rfl (Nat.le_of_ble_eq_true rfl) (f_X11_spelt_met hB.2 (by omega)) ?_
  refine x_icmp_ne (tgt := 27) hC dX11_readStones_20 (by decide) ?_ ?_
  · refine x_iconst (v := (1 : Int32)) hC dX11_readStones_23 ki_1 ?_
    refine x_goto (tgt := 91) hC dX11_readStones_24 (by decide) ?_
    refine x_sub [1, 2] rfl ?_
    exact j_X11_readStones_91_ok hB hd M1 hR
  · refine x_iload_n hC dX11_readStones_27 rfl 0 rfl ?_
    refine x_bipush (v := (115 : Int32)) hC dX11_readStones_28 kb_115 ?_
    refine x_bipush (v := (110 : Int32)) hC dX11_readStones_30 kb_110 ?_
    refine x_bipush (v := (111 : Int32)) hC dX11_readStones_32 kb_111 ?_
    refine x_bipush (v := (119 : Int32)) hC dX11_readStones_34 kb_119 ?_
    refine x_iconst (v := (0 : Int32)) hC dX11_readStones_36 ki_0 ?_
    refine x_iconst (v := (0 : Int32)) hC dX11_readStones_37 ki_0 ?_
    refine r_cS0 (as := [.int (115 : Int32), .int (110 : Int32), .int (111 : Int32), .int (119 : Int32), .int (0 : Int32), .int (0 : Int32)]) (rest := [.int u1]) hB dX11_readStones_38 ks_X11_194 hq1 rfl rfl (Nat.le_of_ble_eq_true rfl) (f_X11_spelt_met hB.2 (by omega)) ?_
    refine x_icmp_ne (tgt := 48) hC dX11_readStones_41 (by decide) ?_ ?_
    · refine x_iconst (v := (2 : Int32)) hC dX11_readStones_44 ki_2 ?_
      refine x_goto (tgt := 91) hC dX11_readStones_45 (by decide) ?_
      refine x_sub [1, 2] rfl ?_
      exact j_X11_readStones_91_ok hB hd M1 hR
    · refine x_iload_n hC dX11_readStones_48 rfl 0 rfl ?_
      refine x_bipush (v := (115 : Int32)) hC dX11_readStones_49 kb_115 ?_
      refine x_bipush (v := (105 : Int32)) hC dX11_readStones_51 kb_105 ?_
      refine x_bipush (v := (103 : Int32)) hC dX11_readStones_53 kb_103 ?_
      refine x_bipush (v := (110 : Int32)) hC dX11_readStones_55 kb_110 ?_
      refine x_iconst (v := (0 : Int32)) hC dX11_readStones_57 ki_0 ?_
      refine x_iconst (v := (0 : Int32)) hC dX11_readStones_58 ki_0 ?_
      refine r_cS0 (as := [.int (115 : Int32), .int (105 : Int32), .int (103 : Int32), .int (110 : Int32), .int (0 : Int32), .int (0 : Int32)]) (rest := [.int u1]) hB dX11_readStones_59 ks_X11_194 hq1 rfl rfl (Nat.le_of_ble_eq_true rfl) (f_X11_spelt_met hB.2 (by omega)) ?_
      refine x_icmp_ne (tgt := 69) hC dX11_readStones_62 (by decide) ?_ ?_
      · refine x_iconst (v := (3 : Int32)) hC dX11_readStones_65 ki_3 ?_
        refine x_goto (tgt := 91) hC dX11_readStones_66 (by decide) ?_
        refine x_sub [1, 2] rfl ?_
        exact j_X11_readStones_91_ok hB hd M1 hR
      · refine x_iload_n hC dX11_readStones_69 rfl 0 rfl ?_
        refine x_bipush (v := (98 : Int32)) hC dX11_readStones_70 kb_98 ?_
        refine x_bipush (v := (97 : Int32)) hC dX11_readStones_72 kb_97 ?_
        refine x_bipush (v := (114 : Int32)) hC dX11_readStones_74 kb_114 ?_
        refine x_bipush (v := (101 : Int32)) hC dX11_readStones_76 kb_101 ?_
        refine x_iconst (v := (0 : Int32)) hC dX11_readStones_78 ki_0 ?_
        refine x_iconst (v := (0 : Int32)) hC dX11_readStones_79 ki_0 ?_
        refine r_cS0 (as := [.int (98 : Int32), .int (97 : Int32), .int (114 : Int32), .int (101 : Int32), .int (0 : Int32), .int (0 : Int32)]) (rest := [.int u1]) hB dX11_readStones_80 ks_X11_194 hq1 rfl rfl (Nat.le_of_ble_eq_true rfl) (f_X11_spelt_met hB.2 (by omega)) ?_
        refine x_icmp_ne (tgt := 90) hC dX11_readStones_83 (by decide) ?_ ?_
        · refine x_iconst (v := (0 : Int32)) hC dX11_readStones_86 ki_0 ?_
          refine x_goto (tgt := 91) hC dX11_readStones_87 (by decide) ?_
          refine x_sub [1, 2] rfl ?_
          exact j_X11_readStones_91_ok hB hd M1 hR
        · refine x_iconst (v := (-1 : Int32)) hC dX11_readStones_90 ki_m1 ?_
          refine x_sub [1, 2] rfl ?_
          exact j_X11_readStones_91_ok hB hd M1 hR
theorem f_X11_readStones_met {l : Launch} {d : Nat} {g : zG} {w : zW} {M0 : zM} {p1 : Int32} {M : zM} (hw : wS w) (hd : 4 ≤ d) {M' : zM} (h : f_X11_readStones p1 M = some M') : zMet l yX11_readStones cX11_readStones 10 none d g w (zin false) M0 [zr w 257, .int p1] M none M' :=
  met_v (by decide +kernel) (Nat.le_of_ble_eq_true rfl) (fun C hB0 hR => f_X11_readStones_ok ⟨hB0, hw⟩ hd M hR _ h rfl)
/-! WindingSquareModel.readWay(I)V -/
noncomputable def j_X11_readWay_139_70 (v3_70 : Int32) (v4_139_70 : Int32) (v5_139_70 : Int32) (s0_139_70 : Int32) (M : zM) : Option ((Int32 × zM) ⊕ ((Int32 × zM) ⊕ (zM))) :=
  if (f_X11_fine M) = 0 then (some (.inr (.inl (v4_139_70, M))))
  else (grd (inb ((v3_70 + (1 : Int32)) + ((2 : Int32) * v4_139_70)) 2425) (
  nm (mset M 263 (ix ((v3_70 + (1 : Int32)) + ((2 : Int32) * v4_139_70))) v5_139_70) fun M165_70 =>
  grd (inb ((v3_70 + (2 : Int32)) + ((2 : Int32) * v4_139_70)) 2425) (
  nm (mset M165_70 263 (ix ((v3_70 + (2 : Int32)) + ((2 : Int32) * v4_139_70))) s0_139_70) fun M180_70 =>
  some (.inl ((v4_139_70 + (1 : Int32)), M180_70)))))
set_option maxRecDepth 100000 in
theorem j_X11_readWay_139_70_ok {C : zC} {d : Nat} {g : zG} {l : Launch} {w : zW} {r : zM} {v3_70 : Int32} {v4_139_70 : Int32} {v5_139_70 : Int32} {s0_139_70 : Int32} (hB : bOK C cX11_readWay 7 RX11 d g l w false) (hd : 4 ≤ d) (M : zM) (hR : RtV C cX11_readWay w r) : Sg C w (0, 0) 139 [(0, zr w 257), (3, .int v3_70), (4, .int v4_139_70), (5, .int v5_139_70)] [.int s0_139_70] M (j_X11_readWay_139_70 v3_70 v4_139_70 v5_139_70 s0_139_70 M) (fun o => Sum.elim (fun (s : (Int32 × zM)) => Zs C w (0, 0) 70 [(0, zr w 257), (3, .int v3_70), (4, .int s.1)] [] s.2) (fun q => Sum.elim (fun (s : (Int32 × zM)) => Zs C w (0, 0) 187 [(0, zr w 257), (3, .int v3_70), (4, .int s.1)] [] s.2) (fun q => q = r) q) o) := by
  have hC := hB.1.1
  have hq1 : 1 ≤ d := by omega
  unfold j_X11_readWay_139_70
  refine x_istore (f := 0) hC dX11_readWay_139 [(6, .int s0_139_70), (0, zr w 257), (3, .int v3_70), (4, .int v4_139_70), (5, .int v5_139_70)] (by decide) rfl ?_
  refine x_aload_n hC dX11_readWay_141 rfl 1 rfl ?_
  refine r_cV0 (as := []) (rest := []) hB dX11_readWay_142 kv_X11_149 th_257 hq1 rfl rfl (Nat.le_of_ble_eq_true rfl) (f_X11_fine_met hB.2 (by omega)) ?_
  refine x_if_ne (tgt := 151) hC dX11_readWay_145 (by decide) ?_ ?_
  · refine x_goto (tgt := 187) hC dX11_readWay_148 (by decide) ?_
    refine x_sub [1, 2, 3] rfl ?_
    exact x_done (fun h => h)
  · refine x_aload_n hC dX11_readWay_151 rfl 1 rfl ?_
    refine r_getR hB dX11_readWay_152 kf_X11_29 rfl th_257 rf_257_16 ?_
    refine x_iload_n hC dX11_readWay_155 rfl 2 rfl ?_
    refine x_iconst (v := (1 : Int32)) hC dX11_readWay_156 ki_1 ?_
    refine x_iadd hC dX11_readWay_157 ?_
    refine x_iconst (v := (2 : Int32)) hC dX11_readWay_158 ki_2 ?_
    refine x_iload hC dX11_readWay_159 3 rfl ?_
    refine x_imul hC dX11_readWay_161 ?_
    refine x_iadd hC dX11_readWay_162 ?_
    refine x_iload hC dX11_readWay_163 4 rfl ?_
    refine r_iast hB dX11_readWay_165 th_263 ?_
    refine x_mem (fun M165_70 => ?_)
    refine x_aload_n hC dX11_readWay_166 rfl 1 rfl ?_
    refine r_getR hB dX11_readWay_167 kf_X11_29 rfl th_257 rf_257_16 ?_
    refine x_iload_n hC dX11_readWay_170 rfl 2 rfl ?_
    refine x_iconst (v := (2 : Int32)) hC dX11_readWay_171 ki_2 ?_
    refine x_iadd hC dX11_readWay_172 ?_
    refine x_iconst (v := (2 : Int32)) hC dX11_readWay_173 ki_2 ?_
    refine x_iload hC dX11_readWay_174 3 rfl ?_
    refine x_imul hC dX11_readWay_176 ?_
    refine x_iadd hC dX11_readWay_177 ?_
    refine x_iload hC dX11_readWay_178 0 rfl ?_
    refine r_iast hB dX11_readWay_180 th_263 ?_
    refine x_mem (fun M180_70 => ?_)
    refine x_iinc hC dX11_readWay_181 ki_1 [(4, .int (v4_139_70 + (1 : Int32))), (6, .int s0_139_70), (0, zr w 257), (3, .int v3_70), (5, .int v5_139_70)] 3 rfl (by decide) rfl ?_
    refine x_goto (tgt := 70) hC dX11_readWay_184 (by decide) ?_
    refine x_sub [2, 3, 0] rfl ?_
    exact x_done (fun h => h)
noncomputable def j_X11_readWay_119_70 (v3_70 : Int32) (v4_119_70 : Int32) (v5_119_70 : Int32) (s1_119_70 : Int32) (s2_119_70 : Int32) (M : zM) : Option ((Int32 × zM) ⊕ ((Int32 × zM) ⊕ (zM))) :=
  (f_X11_mayBegin s1_119_70 s2_119_70 M).bind fun M119_70 =>
  if (3 : Int32) ≤ v5_119_70 then (bnd2 (f_X11_number (1 : Int32) (11 : Int32) M119_70) fun u136_70 M136_70 =>
  j_X11_readWay_139_70 v3_70 v4_119_70 v5_119_70 u136_70 M136_70)
  else (j_X11_readWay_139_70 v3_70 v4_119_70 v5_119_70 (1 : Int32) M119_70)
set_option maxRecDepth 100000 in
theorem j_X11_readWay_119_70_ok {C : zC} {d : Nat} {g : zG} {l : Launch} {w : zW} {r : zM} {v3_70 : Int32} {v4_119_70 : Int32} {v5_119_70 : Int32} {s1_119_70 : Int32} {s2_119_70 : Int32} (hB : bOK C cX11_readWay 7 RX11 d g l w false) (hd : 4 ≤ d) (M : zM) (hR : RtV C cX11_readWay w r) : Sg C w (0, 0) 119 [(0, zr w 257), (3, .int v3_70), (4, .int v4_119_70), (5, .int v5_119_70)] [.int s2_119_70, .int s1_119_70, zr w 257] M (j_X11_readWay_119_70 v3_70 v4_119_70 v5_119_70 s1_119_70 s2_119_70 M) (fun o => Sum.elim (fun (s : (Int32 × zM)) => Zs C w (0, 0) 70 [(0, zr w 257), (3, .int v3_70), (4, .int s.1)] [] s.2) (fun q => Sum.elim (fun (s : (Int32 × zM)) => Zs C w (0, 0) 187 [(0, zr w 257), (3, .int v3_70), (4, .int s.1)] [] s.2) (fun q => q = r) q) o) := by
  have hC := hB.1.1
  have hq1 : 1 ≤ d := by omega
  unfold j_X11_readWay_119_70
  refine r_cVv (as := [.int s1_119_70, .int s2_119_70]) (rest := []) hB dX11_readWay_119 kv_X11_198 th_257 hq1 rfl rfl (Nat.le_of_ble_eq_true rfl) (fun M' hv => f_X11_mayBegin_met hB.2 (by omega) hv) (fun M119_70 => ?_)
  refine x_iload hC dX11_readWay_122 3 rfl ?_
  refine x_iconst (v := (3 : Int32)) hC dX11_readWay_124 ki_3 ?_
  refine x_icmp_ge (tgt := 132) hC dX11_readWay_125 (by decide) ?_ ?_
  · refine x_aload_n hC dX11_readWay_132 rfl 0 rfl ?_
    refine x_iconst (v := (1 : Int32)) hC dX11_readWay_133 ki_1 ?_
    refine x_bipush (v := (11 : Int32)) hC dX11_readWay_134 kb_11 ?_
    refine r_cV2 (as := [.int (1 : Int32), .int (11 : Int32)]) (rest := []) hB dX11_readWay_136 kv_X11_202 th_257 hq1 rfl rfl (Nat.le_of_ble_eq_true rfl) (fun v M' hv => f_X11_number_met hB.2 (by omega) hv) (fun u136_70 M136_70 => ?_)
    exact j_X11_readWay_139_70_ok hB hd M136_70 hR
  · refine x_iconst (v := (1 : Int32)) hC dX11_readWay_128 ki_1 ?_
    refine x_goto (tgt := 139) hC dX11_readWay_129 (by decide) ?_
    exact j_X11_readWay_139_70_ok hB hd M119_70 hR
noncomputable def j_X11_readWay_107_70 (v3_70 : Int32) (v4_107_70 : Int32) (v5_107_70 : Int32) (s1_107_70 : Int32) (M : zM) : Option ((Int32 × zM) ⊕ ((Int32 × zM) ⊕ (zM))) :=
  if v4_107_70 = (12 : Int32) then (j_X11_readWay_119_70 v3_70 v4_107_70 v5_107_70 s1_107_70 (1 : Int32) M)
  else (j_X11_readWay_119_70 v3_70 v4_107_70 v5_107_70 s1_107_70 (0 : Int32) M)
set_option maxRecDepth 100000 in
theorem j_X11_readWay_107_70_ok {C : zC} {d : Nat} {g : zG} {l : Launch} {w : zW} {r : zM} {v3_70 : Int32} {v4_107_70 : Int32} {v5_107_70 : Int32} {s1_107_70 : Int32} (hB : bOK C cX11_readWay 7 RX11 d g l w false) (hd : 4 ≤ d) (M : zM) (hR : RtV C cX11_readWay w r) : Sg C w (0, 0) 107 [(0, zr w 257), (3, .int v3_70), (4, .int v4_107_70), (5, .int v5_107_70)] [.int s1_107_70, zr w 257] M (j_X11_readWay_107_70 v3_70 v4_107_70 v5_107_70 s1_107_70 M) (fun o => Sum.elim (fun (s : (Int32 × zM)) => Zs C w (0, 0) 70 [(0, zr w 257), (3, .int v3_70), (4, .int s.1)] [] s.2) (fun q => Sum.elim (fun (s : (Int32 × zM)) => Zs C w (0, 0) 187 [(0, zr w 257), (3, .int v3_70), (4, .int s.1)] [] s.2) (fun q => q = r) q) o) := by
  have hC := hB.1.1
  have hq1 : 1 ≤ d := by omega
  unfold j_X11_readWay_107_70
  refine x_iload hC dX11_readWay_107 2 rfl ?_
  refine x_bipush (v := (12 : Int32)) hC dX11_readWay_109 kb_12 ?_
  refine x_icmp_ne (tgt := 118) hC dX11_readWay_111 (by decide) ?_ ?_
  · refine x_iconst (v := (1 : Int32)) hC dX11_readWay_114 ki_1 ?_
    refine x_goto (tgt := 119) hC dX11_readWay_115 (by decide) ?_
    exact j_X11_readWay_119_70_ok hB hd M hR
  · refine x_iconst (v := (0 : Int32)) hC dX11_readWay_118 ki_0 ?_
    exact j_X11_readWay_119_70_ok hB hd M hR
noncomputable def b_X11_readWay_70 (v3_70 : Int32) (v4_70 : Int32) (M : zM) : Option ((Int32 × zM) ⊕ ((Int32 × zM) ⊕ (zM))) :=
  if (f_X11_fine M) = 0 then (some (.inr (.inl (v4_70, M))))
  else (bnd2 (f_X11_here M) fun u78_70 M78_70 =>
  if u78_70 = (59 : Int32) then (some (.inr (.inl (v4_70, M78_70))))
  else (bnd2 (f_X11_word M78_70) fun u87_70 M87_70 =>
  nm (f_X11_wayWord u87_70) fun v5_93_70 =>
  if v5_93_70 = (-1 : Int32) then (j_X11_readWay_107_70 v3_70 v4_70 v5_93_70 (0 : Int32) M87_70)
  else (j_X11_readWay_107_70 v3_70 v4_70 v5_93_70 (1 : Int32) M87_70)))
set_option maxRecDepth 100000 in
theorem b_X11_readWay_70_ok {C : zC} {d : Nat} {g : zG} {l : Launch} {w : zW} {r : zM} {v3_70 : Int32} {v4_70 : Int32} (hB : bOK C cX11_readWay 7 RX11 d g l w false) (hd : 4 ≤ d) (M : zM) (hR : RtV C cX11_readWay w r) : Sg C w (0, 0) 70 [(0, zr w 257), (3, .int v3_70), (4, .int v4_70)] [] M (b_X11_readWay_70 v3_70 v4_70 M) (fun o => Sum.elim (fun (s : (Int32 × zM)) => Zs C w (0, 0) 70 [(0, zr w 257), (3, .int v3_70), (4, .int s.1)] [] s.2) (fun q => Sum.elim (fun (s : (Int32 × zM)) => Zs C w (0, 0) 187 [(0, zr w 257), (3, .int v3_70), (4, .int s.1)] [] s.2) (fun q => q = r) q) o) := by
  have hC := hB.1.1
  have hq1 : 1 ≤ d := by omega
  unfold b_X11_readWay_70
  refine x_aload_n hC dX11_readWay_70 rfl 0 rfl ?_
  refine r_cV0 (as := []) (rest := []) hB dX11_readWay_71 kv_X11_149 th_257 hq1 rfl rfl (Nat.le_of_ble_eq_true rfl) (f_X11_fine_met hB.2 (by omega)) ?_
  refine x_if_eq (tgt := 187) hC dX11_readWay_74 (by decide) ?_ ?_
  · exact x_done (fun h => h)
  · refine x_aload_n hC dX11_readWay_77 rfl 0 rfl ?_
    refine r_cV2 (as := []) (rest := []) hB dX11_readWay_78 kv_X11_138 th_257 hq1 rfl rfl (Nat.le_of_ble_eq_true rfl) (fun v M' hv => f_X11_here_met hB.2 (by omega) hv) (fun u78_70 M78_70 => ?_)
    refine x_bipush (v := (59 : Int32)) hC dX11_readWay_81 kb_59 ?_
    refine x_icmp_eq (tgt := 187) hC dX11_readWay_83 (by decide) ?_ ?_
    · exact x_done (fun h => h)
    · refine x_aload_n hC dX11_readWay_86 rfl 0 rfl ?_
      refine r_cV2 (as := []) (rest := []) hB dX11_readWay_87 kv_X11_160 th_257 hq1 rfl rfl (Nat.le_of_ble_eq_true rfl) (fun v M' hv => f_X11_word_met hB.2 (by omega) hv) (fun u87_70 M87_70 => ?_)
      refine r_cS0 (as := [.int u87_70]) (rest := []) hB dX11_readWay_90 ks_X11_205 hq1 rfl rfl (Nat.le_of_ble_eq_true rfl) (f_X11_wayWord_met hB.2 (by omega)) ?_
      refine x_top (fun v5_93_70 => ?_)
      refine x_istore (f := 0) hC dX11_readWay_93 [(5, .int v5_93_70), (0, zr w 257), (3, .int v3_70), (4, .int v4_70)] (by decide) rfl ?_
      refine x_aload_n hC dX11_readWay_95 rfl 1 rfl ?_
      refine x_iload hC dX11_readWay_96 0 rfl ?_
      refine x_iconst (v := (-1 : Int32)) hC dX11_readWay_98 ki_m1 ?_
      refine x_icmp_eq (tgt := 106) hC dX11_readWay_99 (by decide) ?_ ?_
      · refine x_iconst (v := (0 : Int32)) hC dX11_readWay_106 ki_0 ?_
        refine x_sub [1, 2, 3, 0] rfl ?_
        exact j_X11_readWay_107_70_ok hB hd M87_70 hR
      · refine x_iconst (v := (1 : Int32)) hC dX11_readWay_102 ki_1 ?_
        refine x_goto (tgt := 107) hC dX11_readWay_103 (by decide) ?_
        refine x_sub [1, 2, 3, 0] rfl ?_
        exact j_X11_readWay_107_70_ok hB hd M87_70 hR
noncomputable def j_X11_readWay_187 (v3_187 : Int32) (v4_187 : Int32) (M : zM) : Option (zM) :=
  if (f_X11_fine M) = 0 then (some M)
  else (grd (inb v3_187 2425) (
  nm (mset M 263 (ix v3_187) v4_187) fun M201 =>
  some M201))
set_option maxRecDepth 100000 in
theorem j_X11_readWay_187_ok {C : zC} {d : Nat} {g : zG} {l : Launch} {w : zW} {r : zM} {v3_187 : Int32} {v4_187 : Int32} (hB : bOK C cX11_readWay 7 RX11 d g l w false) (hd : 4 ≤ d) (M : zM) (hR : RtV C cX11_readWay w r) : Sg C w (0, 0) 187 [(0, zr w 257), (3, .int v3_187), (4, .int v4_187)] [] M (j_X11_readWay_187 v3_187 v4_187 M) (fun q => q = r) := by
  have hC := hB.1.1
  have hq1 : 1 ≤ d := by omega
  unfold j_X11_readWay_187
  refine x_aload_n hC dX11_readWay_187 rfl 0 rfl ?_
  refine r_cV0 (as := []) (rest := []) hB dX11_readWay_188 kv_X11_149 th_257 hq1 rfl rfl (Nat.le_of_ble_eq_true rfl) (f_X11_fine_met hB.2 (by omega)) ?_
  refine x_if_eq (tgt := 202) hC dX11_readWay_191 (by decide) ?_ ?_
  · exact r_retV hR dX11_readWay_202 (fun h => h)
  · refine x_aload_n hC dX11_readWay_194 rfl 0 rfl ?_
    refine r_getR hB dX11_readWay_195 kf_X11_29 rfl th_257 rf_257_16 ?_
    refine x_iload_n hC dX11_readWay_198 rfl 1 rfl ?_
    refine x_iload hC dX11_readWay_199 2 rfl ?_
    refine r_iast hB dX11_readWay_201 th_263 ?_
    refine x_mem (fun M201 => ?_)
    exact r_retV hR dX11_readWay_202 (fun h => h)
noncomputable def j_X11_readWay_39 (s1_39 : Int32) (s2_39 : Int32) (M : zM) : Option (zM) :=
  (f_X11_mayBegin s1_39 s2_39 M).bind fun M39 =>
  bnd2 (f_X11_number (0 : Int32) ((M39 258 (ix (940 : Int32))) - (1 : Int32)) M39) fun u54 M54 =>
  nm ((1925 : Int32) + ((25 : Int32) * u54)) fun v3_66 =>
  (loopW (fun s => b_X11_readWay_70 v3_66 s.1 s.2) ((0 : Int32), M54)).bind (fun q => Sum.elim (fun r => j_X11_readWay_187 v3_66 r.1 r.2) some q)
set_option maxRecDepth 100000 in
theorem j_X11_readWay_39_ok {C : zC} {d : Nat} {g : zG} {l : Launch} {w : zW} {r : zM} {s1_39 : Int32} {s2_39 : Int32} (hB : bOK C cX11_readWay 7 RX11 d g l w false) (hd : 4 ≤ d) (M : zM) (hR : RtV C cX11_readWay w r) : Sg C w (0, 0) 39 [(0, zr w 257)] [.int s2_39, .int s1_39, zr w 257] M (j_X11_readWay_39 s1_39 s2_39 M) (fun q => q = r) := by
  have hC := hB.1.1
  have hq1 : 1 ≤ d := by omega
  unfold j_X11_readWay_39
  refine r_cVv (as := [.int s1_39, .int s2_39]) (rest := []) hB dX11_readWay_39 kv_X11_198 th_257 hq1 rfl rfl (Nat.le_of_ble_eq_true rfl) (fun M' hv => f_X11_mayBegin_met hB.2 (by omega) hv) (fun M39 => ?_)
  refine x_aload_n hC dX11_readWay_42 rfl 0 rfl ?_
  refine x_iconst (v := (0 : Int32)) hC dX11_readWay_43 ki_0 ?_
  refine x_aload_n hC dX11_readWay_44 rfl 0 rfl ?_
  refine r_getR hB dX11_readWay_45 kf_X11_9 rfl th_257 rf_257_0 ?_
  refine x_sipush (v := (940 : Int32)) hC dX11_readWay_48 kh_940 ?_
  refine r_iald0 hB dX11_readWay_51 th_258 ib_940_2425 ?_
  refine x_iconst (v := (1 : Int32)) hC dX11_readWay_52 ki_1 ?_
  refine x_isub hC dX11_readWay_53 ?_
  refine r_cV2 (as := [.int (0 : Int32), .int ((M39 258 (ix (940 : Int32))) - (1 : Int32))]) (rest := []) hB dX11_readWay_54 kv_X11_202 th_257 hq1 rfl rfl (Nat.le_of_ble_eq_true rfl) (fun v M' hv => f_X11_number_met hB.2 (by omega) hv) (fun u54 M54 => ?_)
  refine x_istore_n hC dX11_readWay_57 rfl [(2, .int u54), (0, zr w 257)] (by decide) rfl ?_
  refine x_sipush (v := (1925 : Int32)) hC dX11_readWay_58 kh_1925 ?_
  refine x_bipush (v := (25 : Int32)) hC dX11_readWay_61 kb_25 ?_
  refine x_iload_n hC dX11_readWay_63 rfl 0 rfl ?_
  refine x_imul hC dX11_readWay_64 ?_
  refine x_iadd hC dX11_readWay_65 ?_
  refine x_top (fun v3_66 => ?_)
  refine x_istore_n hC dX11_readWay_66 rfl [(3, .int v3_66), (2, .int u54), (0, zr w 257)] (by decide) rfl ?_
  refine x_iconst (v := (0 : Int32)) hC dX11_readWay_67 ki_0 ?_
  refine x_istore (f := 0) hC dX11_readWay_68 [(4, .int (0 : Int32)), (3, .int v3_66), (2, .int u54), (0, zr w 257)] (by decide) rfl ?_
  refine x_sub [3, 1, 0] rfl ?_
  refine x_loopR (pc2 := 187) (fun (s : (Int32 × zM)) => [(0, zr w 257), (3, .int v3_66), (4, .int s.1)]) (fun (s : (Int32 × zM)) => s.2) (fun (s : (Int32 × zM)) => [(0, zr w 257), (3, .int v3_66), (4, .int s.1)]) (fun (s : (Int32 × zM)) => s.2) ((0 : Int32), M54) ?_ ?_
  · exact fun s => b_X11_readWay_70_ok hB hd s.2 hR
  · intro r9
    exact j_X11_readWay_187_ok hB hd r9.2 hR
noncomputable def j_X11_readWay_28 (v1_28 : Int32) (s1_28 : Int32) (M : zM) : Option (zM) :=
  if v1_28 = (16 : Int32) then (j_X11_readWay_39 s1_28 (1 : Int32) M)
  else (j_X11_readWay_39 s1_28 (0 : Int32) M)
set_option maxRecDepth 100000 in
theorem j_X11_readWay_28_ok {C : zC} {d : Nat} {g : zG} {l : Launch} {w : zW} {r : zM} {v1_28 : Int32} {s1_28 : Int32} (hB : bOK C cX11_readWay 7 RX11 d g l w false) (hd : 4 ≤ d) (M : zM) (hR : RtV C cX11_readWay w r) : Sg C w (0, 0) 28 [(0, zr w 257), (1, .int v1_28)] [.int s1_28, zr w 257] M (j_X11_readWay_28 v1_28 s1_28 M) (fun q => q = r) := by
  have hC := hB.1.1
  have hq1 : 1 ≤ d := by omega
  unfold j_X11_readWay_28
  refine x_iload_n hC dX11_readWay_28 rfl 1 rfl ?_
  refine x_bipush (v := (16 : Int32)) hC dX11_readWay_29 kb_16 ?_
  refine x_icmp_ne (tgt := 38) hC dX11_readWay_31 (by decide) ?_ ?_
  · refine x_iconst (v := (1 : Int32)) hC dX11_readWay_34 ki_1 ?_
    refine x_goto (tgt := 39) hC dX11_readWay_35 (by decide) ?_
    refine x_sub [0] rfl ?_
    exact j_X11_readWay_39_ok hB hd M hR
  · refine x_iconst (v := (0 : Int32)) hC dX11_readWay_38 ki_0 ?_
    refine x_sub [0] rfl ?_
    exact j_X11_readWay_39_ok hB hd M hR
noncomputable def f_X11_readWay (p1 : Int32) (M : zM) : Option (zM) :=
  bnd2 (f_X11_word M) fun u2 M2 =>
  if u2 = (f_X11_spelt (119 : Int32) (97 : Int32) (108 : Int32) (107 : Int32) (101 : Int32) (114 : Int32)) then (j_X11_readWay_28 p1 (1 : Int32) M2)
  else (j_X11_readWay_28 p1 (0 : Int32) M2)
set_option maxRecDepth 100000 in
theorem f_X11_readWay_ok {C : zC} {d : Nat} {g : zG} {l : Launch} {w : zW} {r : zM} {p1 : Int32} (hB : bOK C cX11_readWay 7 RX11 d g l w false) (hd : 4 ≤ d) (M : zM) (hR : RtV C cX11_readWay w r) : Sg C w (0, 0) 0 [(0, zr w 257), (1, .int p1)] [] M (f_X11_readWay p1 M) (fun q => q = r) := by
  have hC := hB.1.1
  have hq1 : 1 ≤ d := by omega
  unfold f_X11_readWay
  refine x_aload_n hC dX11_readWay_0 rfl 0 rfl ?_
  refine x_aload_n hC dX11_readWay_1 rfl 0 rfl ?_
  refine r_cV2 (as := []) (rest := [zr w 257]) hB dX11_readWay_2 kv_X11_160 th_257 hq1 rfl rfl (Nat.le_of_ble_eq_true rfl) (fun v M' hv => f_X11_word_met hB.2 (by omega) hv) (fun u2 M2 => ?_)
  refine x_bipush (v := (119 : Int32)) hC dX11_readWay_5 kb_119 ?_
  refine x_bipush (v := (97 : Int32)) hC dX11_readWay_7 kb_97 ?_
  refine x_bipush (v := (108 : Int32)) hC dX11_readWay_9 kb_108 ?_
  refine x_bipush (v := (107 : Int32)) hC dX11_readWay_11 kb_107 ?_
  refine x_bipush (v := (101 : Int32)) hC dX11_readWay_13 kb_101 ?_
  refine x_bipush (v := (114 : Int32)) hC dX11_readWay_15 kb_114 ?_
  refine r_cS0 (as := [.int (119 : Int32), .int (97 : Int32), .int (108 : Int32), .int (107 : Int32), .int (101 : Int32), .int (114 : Int32)]) (rest := [.int u2, zr w 257]) hB dX11_readWay_17 ks_X11_194 hq1 rfl rfl (Nat.le_of_ble_eq_true rfl) (f_X11_spelt_met hB.2 (by omega)) ?_
  refine x_icmp_ne (tgt := 27) hC dX11_readWay_20 (by decide) ?_ ?_
  · refine x_iconst (v := (1 : Int32)) hC dX11_readWay_23 ki_1 ?_
    refine x_goto (tgt := 28) hC dX11_readWay_24 (by decide) ?_
    exact j_X11_readWay_28_ok hB hd M2 hR
  · refine x_iconst (v := (0 : Int32)) hC dX11_readWay_27 ki_0 ?_
    exact j_X11_readWay_28_ok hB hd M2 hR
theorem f_X11_readWay_met {l : Launch} {d : Nat} {g : zG} {w : zW} {M0 : zM} {p1 : Int32} {M : zM} (hw : wS w) (hd : 4 ≤ d) {M' : zM} (h : f_X11_readWay p1 M = some M') : zMet l yX11_readWay cX11_readWay 7 none d g w (zin false) M0 [zr w 257, .int p1] M none M' :=
  met_v (by decide +kernel) (Nat.le_of_ble_eq_true rfl) (fun C hB0 hR => f_X11_readWay_ok ⟨hB0, hw⟩ hd M hR _ h rfl)
/-! WindingSquareModel.readHour(I)V -/
noncomputable def j_X11_readHour_158 (v1_158 : Int32) (v2_158 : Int32) (s0_158 : Int32) (M : zM) : Option (zM) :=
  if (f_X11_fine M) = 0 then (some M)
  else (grd (inb ((2325 : Int32) + ((2 : Int32) * v1_158)) 2425) (
  nm (mset M 263 (ix ((2325 : Int32) + ((2 : Int32) * v1_158))) v2_158) fun M180 =>
  grd (inb (((2325 : Int32) + ((2 : Int32) * v1_158)) + (1 : Int32)) 2425) (
  nm (mset M180 263 (ix (((2325 : Int32) + ((2 : Int32) * v1_158)) + (1 : Int32))) s0_158) fun M196 =>
  some M196)))
set_option maxRecDepth 100000 in
theorem j_X11_readHour_158_ok {C : zC} {d : Nat} {g : zG} {l : Launch} {w : zW} {r : zM} {v1_158 : Int32} {v2_158 : Int32} {s0_158 : Int32} (hB : bOK C cX11_readHour 5 RX11 d g l w false) (hd : 4 ≤ d) (M : zM) (hR : RtV C cX11_readHour w r) : Sg C w (0, 0) 158 [(0, zr w 257), (1, .int v1_158), (2, .int v2_158)] [.int s0_158] M (j_X11_readHour_158 v1_158 v2_158 s0_158 M) (fun q => q = r) := by
  have hC := hB.1.1
  have hq1 : 1 ≤ d := by omega
  unfold j_X11_readHour_158
  refine x_istore (f := 0) hC dX11_readHour_158 [(4, .int s0_158), (0, zr w 257), (1, .int v1_158), (2, .int v2_158)] (by decide) rfl ?_
  refine x_aload_n hC dX11_readHour_160 rfl 1 rfl ?_
  refine r_cV0 (as := []) (rest := []) hB dX11_readHour_161 kv_X11_149 th_257 hq1 rfl rfl (Nat.le_of_ble_eq_true rfl) (f_X11_fine_met hB.2 (by omega)) ?_
  refine x_if_ne (tgt := 168) hC dX11_readHour_164 (by decide) ?_ ?_
  · exact r_retV hR dX11_readHour_167 (fun h => h)
  · refine x_aload_n hC dX11_readHour_168 rfl 1 rfl ?_
    refine r_getR hB dX11_readHour_169 kf_X11_29 rfl th_257 rf_257_16 ?_
    refine x_sipush (v := (2325 : Int32)) hC dX11_readHour_172 kh_2325 ?_
    refine x_iconst (v := (2 : Int32)) hC dX11_readHour_175 ki_2 ?_
    refine x_iload_n hC dX11_readHour_176 rfl 2 rfl ?_
    refine x_imul hC dX11_readHour_177 ?_
    refine x_iadd hC dX11_readHour_178 ?_
    refine x_iload_n hC dX11_readHour_179 rfl 3 rfl ?_
    refine r_iast hB dX11_readHour_180 th_263 ?_
    refine x_mem (fun M180 => ?_)
    refine x_aload_n hC dX11_readHour_181 rfl 1 rfl ?_
    refine r_getR hB dX11_readHour_182 kf_X11_29 rfl th_257 rf_257_16 ?_
    refine x_sipush (v := (2325 : Int32)) hC dX11_readHour_185 kh_2325 ?_
    refine x_iconst (v := (2 : Int32)) hC dX11_readHour_188 ki_2 ?_
    refine x_iload_n hC dX11_readHour_189 rfl 2 rfl ?_
    refine x_imul hC dX11_readHour_190 ?_
    refine x_iadd hC dX11_readHour_191 ?_
    refine x_iconst (v := (1 : Int32)) hC dX11_readHour_192 ki_1 ?_
    refine x_iadd hC dX11_readHour_193 ?_
    refine x_iload hC dX11_readHour_194 0 rfl ?_
    refine r_iast hB dX11_readHour_196 th_263 ?_
    refine x_mem (fun M196 => ?_)
    exact r_retV hR dX11_readHour_197 (fun h => h)
noncomputable def j_X11_readHour_117 (v1_117 : Int32) (v2_117 : Int32) (v3_117 : Int32) (M : zM) : Option (zM) :=
  if (f_X11_fine M) = 0 then (some M)
  else ((f_X11_pass M).bind fun M126 =>
  if v3_117 = (f_X11_spelt (119 : Int32) (97 : Int32) (116 : Int32) (99 : Int32) (104 : Int32) (0 : Int32)) then (bnd2 (f_X11_number (1 : Int32) (9 : Int32) M126) fun u151 M151 =>
  j_X11_readHour_158 v1_117 v2_117 u151 M151)
  else (j_X11_readHour_158 v1_117 v2_117 (0 : Int32) M126))
set_option maxRecDepth 100000 in
theorem j_X11_readHour_117_ok {C : zC} {d : Nat} {g : zG} {l : Launch} {w : zW} {r : zM} {v1_117 : Int32} {v2_117 : Int32} {v3_117 : Int32} (hB : bOK C cX11_readHour 5 RX11 d g l w false) (hd : 4 ≤ d) (M : zM) (hR : RtV C cX11_readHour w r) : Sg C w (0, 0) 117 [(0, zr w 257), (1, .int v1_117), (2, .int v2_117), (3, .int v3_117)] [] M (j_X11_readHour_117 v1_117 v2_117 v3_117 M) (fun q => q = r) := by
  have hC := hB.1.1
  have hq1 : 1 ≤ d := by omega
  unfold j_X11_readHour_117
  refine x_aload_n hC dX11_readHour_117 rfl 0 rfl ?_
  refine r_cV0 (as := []) (rest := []) hB dX11_readHour_118 kv_X11_149 th_257 hq1 rfl rfl (Nat.le_of_ble_eq_true rfl) (f_X11_fine_met hB.2 (by omega)) ?_
  refine x_if_ne (tgt := 125) hC dX11_readHour_121 (by decide) ?_ ?_
  · exact r_retV hR dX11_readHour_124 (fun h => h)
  · refine x_aload_n hC dX11_readHour_125 rfl 0 rfl ?_
    refine r_cVv (as := []) (rest := []) hB dX11_readHour_126 kv_X11_163 th_257 hq1 rfl rfl (Nat.le_of_ble_eq_true rfl) (fun M' hv => f_X11_pass_met hB.2 (by omega) hv) (fun M126 => ?_)
    refine x_iload_n hC dX11_readHour_129 rfl 3 rfl ?_
    refine x_bipush (v := (119 : Int32)) hC dX11_readHour_130 kb_119 ?_
    refine x_bipush (v := (97 : Int32)) hC dX11_readHour_132 kb_97 ?_
    refine x_bipush (v := (116 : Int32)) hC dX11_readHour_134 kb_116 ?_
    refine x_bipush (v := (99 : Int32)) hC dX11_readHour_136 kb_99 ?_
    refine x_bipush (v := (104 : Int32)) hC dX11_readHour_138 kb_104 ?_
    refine x_iconst (v := (0 : Int32)) hC dX11_readHour_140 ki_0 ?_
    refine r_cS0 (as := [.int (119 : Int32), .int (97 : Int32), .int (116 : Int32), .int (99 : Int32), .int (104 : Int32), .int (0 : Int32)]) (rest := [.int v3_117]) hB dX11_readHour_141 ks_X11_194 hq1 rfl rfl (Nat.le_of_ble_eq_true rfl) (f_X11_spelt_met hB.2 (by omega)) ?_
    refine x_icmp_ne (tgt := 157) hC dX11_readHour_144 (by decide) ?_ ?_
    · refine x_aload_n hC dX11_readHour_147 rfl 0 rfl ?_
      refine x_iconst (v := (1 : Int32)) hC dX11_readHour_148 ki_1 ?_
      refine x_bipush (v := (9 : Int32)) hC dX11_readHour_149 kb_9 ?_
      refine r_cV2 (as := [.int (1 : Int32), .int (9 : Int32)]) (rest := []) hB dX11_readHour_151 kv_X11_202 th_257 hq1 rfl rfl (Nat.le_of_ble_eq_true rfl) (fun v M' hv => f_X11_number_met hB.2 (by omega) hv) (fun u151 M151 => ?_)
      refine x_goto (tgt := 158) hC dX11_readHour_154 (by decide) ?_
      refine x_sub [0, 1, 2] rfl ?_
      exact j_X11_readHour_158_ok hB hd M151 hR
    · refine x_iconst (v := (0 : Int32)) hC dX11_readHour_157 ki_0 ?_
      refine x_sub [0, 1, 2] rfl ?_
      exact j_X11_readHour_158_ok hB hd M126 hR
noncomputable def j_X11_readHour_64 (v1_64 : Int32) (v2_64 : Int32) (s0_64 : Int32) (M : zM) : Option (zM) :=
  if (f_X11_fine M) = 0 then (j_X11_readHour_117 v1_64 v2_64 s0_64 M)
  else (if s0_64 = (f_X11_spelt (119 : Int32) (97 : Int32) (116 : Int32) (99 : Int32) (104 : Int32) (0 : Int32)) then (j_X11_readHour_117 v1_64 v2_64 s0_64 M)
  else (if s0_64 = (f_X11_spelt (98 : Int32) (108 : Int32) (105 : Int32) (110 : Int32) (100 : Int32) (0 : Int32)) then (j_X11_readHour_117 v1_64 v2_64 s0_64 M)
  else ((f_X11_wrong (1 : Int32) (M 257 9) M).bind fun M114 =>
  j_X11_readHour_117 v1_64 v2_64 s0_64 M114)))
set_option maxRecDepth 100000 in
theorem j_X11_readHour_64_ok {C : zC} {d : Nat} {g : zG} {l : Launch} {w : zW} {r : zM} {v1_64 : Int32} {v2_64 : Int32} {s0_64 : Int32} (hB : bOK C cX11_readHour 5 RX11 d g l w false) (hd : 4 ≤ d) (M : zM) (hR : RtV C cX11_readHour w r) : Sg C w (0, 0) 64 [(0, zr w 257), (1, .int v1_64), (2, .int v2_64)] [.int s0_64] M (j_X11_readHour_64 v1_64 v2_64 s0_64 M) (fun q => q = r) := by
  have hC := hB.1.1
  have hq1 : 1 ≤ d := by omega
  unfold j_X11_readHour_64
  refine x_istore_n hC dX11_readHour_64 rfl [(3, .int s0_64), (0, zr w 257), (1, .int v1_64), (2, .int v2_64)] (by decide) rfl ?_
  refine x_aload_n hC dX11_readHour_65 rfl 1 rfl ?_
  refine r_cV0 (as := []) (rest := []) hB dX11_readHour_66 kv_X11_149 th_257 hq1 rfl rfl (Nat.le_of_ble_eq_true rfl) (f_X11_fine_met hB.2 (by omega)) ?_
  refine x_if_eq (tgt := 117) hC dX11_readHour_69 (by decide) ?_ ?_
  · refine x_sub [1, 2, 3, 0] rfl ?_
    exact j_X11_readHour_117_ok hB hd M hR
  · refine x_iload_n hC dX11_readHour_72 rfl 0 rfl ?_
    refine x_bipush (v := (119 : Int32)) hC dX11_readHour_73 kb_119 ?_
    refine x_bipush (v := (97 : Int32)) hC dX11_readHour_75 kb_97 ?_
    refine x_bipush (v := (116 : Int32)) hC dX11_readHour_77 kb_116 ?_
    refine x_bipush (v := (99 : Int32)) hC dX11_readHour_79 kb_99 ?_
    refine x_bipush (v := (104 : Int32)) hC dX11_readHour_81 kb_104 ?_
    refine x_iconst (v := (0 : Int32)) hC dX11_readHour_83 ki_0 ?_
    refine r_cS0 (as := [.int (119 : Int32), .int (97 : Int32), .int (116 : Int32), .int (99 : Int32), .int (104 : Int32), .int (0 : Int32)]) (rest := [.int s0_64]) hB dX11_readHour_84 ks_X11_194 hq1 rfl rfl (Nat.le_of_ble_eq_true rfl) (f_X11_spelt_met hB.2 (by omega)) ?_
    refine x_icmp_eq (tgt := 117) hC dX11_readHour_87 (by decide) ?_ ?_
    · refine x_sub [1, 2, 3, 0] rfl ?_
      exact j_X11_readHour_117_ok hB hd M hR
    · refine x_iload_n hC dX11_readHour_90 rfl 0 rfl ?_
      refine x_bipush (v := (98 : Int32)) hC dX11_readHour_91 kb_98 ?_
      refine x_bipush (v := (108 : Int32)) hC dX11_readHour_93 kb_108 ?_
      refine x_bipush (v := (105 : Int32)) hC dX11_readHour_95 kb_105 ?_
      refine x_bipush (v := (110 : Int32)) hC dX11_readHour_97 kb_110 ?_
      refine x_bipush (v := (100 : Int32)) hC dX11_readHour_99 kb_100 ?_
      refine x_iconst (v := (0 : Int32)) hC dX11_readHour_101 ki_0 ?_
      refine r_cS0 (as := [.int (98 : Int32), .int (108 : Int32), .int (105 : Int32), .int (110 : Int32), .int (100 : Int32), .int (0 : Int32)]) (rest := [.int s0_64]) hB dX11_readHour_102 ks_X11_194 hq1 rfl rfl (Nat.le_of_ble_eq_true rfl) (f_X11_spelt_met hB.2 (by omega)) ?_
      refine x_icmp_eq (tgt := 117) hC dX11_readHour_105 (by decide) ?_ ?_
      · refine x_sub [1, 2, 3, 0] rfl ?_
        exact j_X11_readHour_117_ok hB hd M hR
      · refine x_aload_n hC dX11_readHour_108 rfl 1 rfl ?_
        refine x_iconst (v := (1 : Int32)) hC dX11_readHour_109 ki_1 ?_
        refine x_aload_n hC dX11_readHour_110 rfl 1 rfl ?_
        refine r_getI hB dX11_readHour_111 kf_X11_132 rfl th_257 ?_
        refine r_cVv (as := [.int (1 : Int32), .int (M 257 9)]) (rest := []) hB dX11_readHour_114 kv_X11_156 th_257 hq1 rfl rfl (Nat.le_of_ble_eq_true rfl) (fun M' hv => f_X11_wrong_met hB.2 (by omega) hv) (fun M114 => ?_)
        refine x_sub [1, 2, 3, 0] rfl ?_
        exact j_X11_readHour_117_ok hB hd M114 hR
noncomputable def j_X11_readHour_37 (v1_37 : Int32) (s1_37 : Int32) (s2_37 : Int32) (M : zM) : Option (zM) :=
  (f_X11_mayBegin s1_37 s2_37 M).bind fun M37 =>
  bnd2 (f_X11_number (0 : Int32) (999 : Int32) M37) fun u45 M45 =>
  if (f_X11_fine M45) = 0 then (j_X11_readHour_64 v1_37 u45 (0 : Int32) M45)
  else (bnd2 (f_X11_word M45) fun u57 M57 =>
  j_X11_readHour_64 v1_37 u45 u57 M57)
set_option maxRecDepth 100000 in
theorem j_X11_readHour_37_ok {C : zC} {d : Nat} {g : zG} {l : Launch} {w : zW} {r : zM} {v1_37 : Int32} {s1_37 : Int32} {s2_37 : Int32} (hB : bOK C cX11_readHour 5 RX11 d g l w false) (hd : 4 ≤ d) (M : zM) (hR : RtV C cX11_readHour w r) : Sg C w (0, 0) 37 [(0, zr w 257), (1, .int v1_37)] [.int s2_37, .int s1_37, zr w 257] M (j_X11_readHour_37 v1_37 s1_37 s2_37 M) (fun q => q = r) := by
  have hC := hB.1.1
  have hq1 : 1 ≤ d := by omega
  unfold j_X11_readHour_37
  refine r_cVv (as := [.int s1_37, .int s2_37]) (rest := []) hB dX11_readHour_37 kv_X11_198 th_257 hq1 rfl rfl (Nat.le_of_ble_eq_true rfl) (fun M' hv => f_X11_mayBegin_met hB.2 (by omega) hv) (fun M37 => ?_)
  refine x_aload_n hC dX11_readHour_40 rfl 0 rfl ?_
  refine x_iconst (v := (0 : Int32)) hC dX11_readHour_41 ki_0 ?_
  refine x_sipush (v := (999 : Int32)) hC dX11_readHour_42 kh_999 ?_
  refine r_cV2 (as := [.int (0 : Int32), .int (999 : Int32)]) (rest := []) hB dX11_readHour_45 kv_X11_202 th_257 hq1 rfl rfl (Nat.le_of_ble_eq_true rfl) (fun v M' hv => f_X11_number_met hB.2 (by omega) hv) (fun u45 M45 => ?_)
  refine x_istore_n hC dX11_readHour_48 rfl [(2, .int u45), (0, zr w 257), (1, .int v1_37)] (by decide) rfl ?_
  refine x_aload_n hC dX11_readHour_49 rfl 1 rfl ?_
  refine r_cV0 (as := []) (rest := []) hB dX11_readHour_50 kv_X11_149 th_257 hq1 rfl rfl (Nat.le_of_ble_eq_true rfl) (f_X11_fine_met hB.2 (by omega)) ?_
  refine x_if_eq (tgt := 63) hC dX11_readHour_53 (by decide) ?_ ?_
  · refine x_iconst (v := (0 : Int32)) hC dX11_readHour_63 ki_0 ?_
    refine x_sub [1, 2, 0] rfl ?_
    exact j_X11_readHour_64_ok hB hd M45 hR
  · refine x_aload_n hC dX11_readHour_56 rfl 1 rfl ?_
    refine r_cV2 (as := []) (rest := []) hB dX11_readHour_57 kv_X11_160 th_257 hq1 rfl rfl (Nat.le_of_ble_eq_true rfl) (fun v M' hv => f_X11_word_met hB.2 (by omega) hv) (fun u57 M57 => ?_)
    refine x_goto (tgt := 64) hC dX11_readHour_60 (by decide) ?_
    refine x_sub [1, 2, 0] rfl ?_
    exact j_X11_readHour_64_ok hB hd M57 hR
noncomputable def j_X11_readHour_26 (v1_26 : Int32) (s1_26 : Int32) (M : zM) : Option (zM) :=
  if v1_26 = (16 : Int32) then (j_X11_readHour_37 v1_26 s1_26 (1 : Int32) M)
  else (j_X11_readHour_37 v1_26 s1_26 (0 : Int32) M)
set_option maxRecDepth 100000 in
theorem j_X11_readHour_26_ok {C : zC} {d : Nat} {g : zG} {l : Launch} {w : zW} {r : zM} {v1_26 : Int32} {s1_26 : Int32} (hB : bOK C cX11_readHour 5 RX11 d g l w false) (hd : 4 ≤ d) (M : zM) (hR : RtV C cX11_readHour w r) : Sg C w (0, 0) 26 [(0, zr w 257), (1, .int v1_26)] [.int s1_26, zr w 257] M (j_X11_readHour_26 v1_26 s1_26 M) (fun q => q = r) := by
  have hC := hB.1.1
  have hq1 : 1 ≤ d := by omega
  unfold j_X11_readHour_26
  refine x_iload_n hC dX11_readHour_26 rfl 1 rfl ?_
  refine x_bipush (v := (16 : Int32)) hC dX11_readHour_27 kb_16 ?_
  refine x_icmp_ne (tgt := 36) hC dX11_readHour_29 (by decide) ?_ ?_
  · refine x_iconst (v := (1 : Int32)) hC dX11_readHour_32 ki_1 ?_
    refine x_goto (tgt := 37) hC dX11_readHour_33 (by decide) ?_
    exact j_X11_readHour_37_ok hB hd M hR
  · refine x_iconst (v := (0 : Int32)) hC dX11_readHour_36 ki_0 ?_
    exact j_X11_readHour_37_ok hB hd M hR
noncomputable def f_X11_readHour (p1 : Int32) (M : zM) : Option (zM) :=
  bnd2 (f_X11_word M) fun u2 M2 =>
  if u2 = (f_X11_spelt (102 : Int32) (114 : Int32) (111 : Int32) (109 : Int32) (0 : Int32) (0 : Int32)) then (j_X11_readHour_26 p1 (1 : Int32) M2)
  else (j_X11_readHour_26 p1 (0 : Int32) M2)
set_option maxRecDepth 100000 in
theorem f_X11_readHour_ok {C : zC} {d : Nat} {g : zG} {l : Launch} {w : zW} {r : zM} {p1 : Int32} (hB : bOK C cX11_readHour 5 RX11 d g l w false) (hd : 4 ≤ d) (M : zM) (hR : RtV C cX11_readHour w r) : Sg C w (0, 0) 0 [(0, zr w 257), (1, .int p1)] [] M (f_X11_readHour p1 M) (fun q => q = r) := by
  have hC := hB.1.1
  have hq1 : 1 ≤ d := by omega
  unfold f_X11_readHour
  refine x_aload_n hC dX11_readHour_0 rfl 0 rfl ?_
  refine x_aload_n hC dX11_readHour_1 rfl 0 rfl ?_
  refine r_cV2 (as := []) (rest := [zr w 257]) hB dX11_readHour_2 kv_X11_160 th_257 hq1 rfl rfl (Nat.le_of_ble_eq_true rfl) (fun v M' hv => f_X11_word_met hB.2 (by omega) hv) (fun u2 M2 => ?_)
  refine x_bipush (v := (102 : Int32)) hC dX11_readHour_5 kb_102 ?_
  refine x_bipush (v := (114 : Int32)) hC dX11_readHour_7 kb_114 ?_
  refine x_bipush (v := (111 : Int32)) hC dX11_readHour_9 kb_111 ?_
  refine x_bipush (v := (109 : Int32)) hC dX11_readHour_11 kb_109 ?_
  refine x_iconst (v := (0 : Int32)) hC dX11_readHour_13 ki_0 ?_
  refine x_iconst (v := (0 : Int32)) hC dX11_readHour_14 ki_0 ?_
  refine r_cS0 (as := [.int (102 : Int32), .int (114 : Int32), .int (111 : Int32), .int (109 : Int32), .int (0 : Int32), .int (0 : Int32)]) (rest := [.int u2, zr w 257]) hB dX11_readHour_15 ks_X11_194 hq1 rfl rfl (Nat.le_of_ble_eq_true rfl) (f_X11_spelt_met hB.2 (by omega)) ?_
  refine x_icmp_ne (tgt := 25) hC dX11_readHour_18 (by decide) ?_ ?_
  · refine x_iconst (v := (1 : Int32)) hC dX11_readHour_21 ki_1 ?_
    refine x_goto (tgt := 26) hC dX11_readHour_22 (by decide) ?_
    exact j_X11_readHour_26_ok hB hd M2 hR
  · refine x_iconst (v := (0 : Int32)) hC dX11_readHour_25 ki_0 ?_
    exact j_X11_readHour_26_ok hB hd M2 hR
theorem f_X11_readHour_met {l : Launch} {d : Nat} {g : zG} {w : zW} {M0 : zM} {p1 : Int32} {M : zM} (hw : wS w) (hd : 4 ≤ d) {M' : zM} (h : f_X11_readHour p1 M = some M') : zMet l yX11_readHour cX11_readHour 5 none d g w (zin false) M0 [zr w 257, .int p1] M none M' :=
  met_v (by decide +kernel) (Nat.le_of_ble_eq_true rfl) (fun C hB0 hR => f_X11_readHour_ok ⟨hB0, hw⟩ hd M hR _ h rfl)
/-! WindingSquareModel.goesOnWith()Z -/
noncomputable def j_X11_goesOnWith_95 (M : zM) : Option (Int32 × zM) :=
  (f_X11_pass M).bind fun M96 =>
  nm (mset M96 257 19 ((M96 257 19) + (1 : Int32))) fun M106 =>
  some ((1 : Int32), M106)
set_option maxRecDepth 100000 in
theorem j_X11_goesOnWith_95_ok {C : zC} {d : Nat} {g : zG} {l : Launch} {w : zW} {r : Int32 × zM} (hB : bOK C cX11_goesOnWith 1 RX11 d g l w false) (hd : 4 ≤ d) (M : zM) (hR : RtZ C cX11_goesOnWith w r.1 r.2) : Sg C w (0, 0) 95 [(0, zr w 257)] [] M (j_X11_goesOnWith_95 M) (fun q => q = r) := by
  have hC := hB.1.1
  have hq1 : 1 ≤ d := by omega
  unfold j_X11_goesOnWith_95
  refine x_aload_n hC dX11_goesOnWith_95 rfl 0 rfl ?_
  refine r_cVv (as := []) (rest := []) hB dX11_goesOnWith_96 kv_X11_163 th_257 hq1 rfl rfl (Nat.le_of_ble_eq_true rfl) (fun M' hv => f_X11_pass_met hB.2 (by omega) hv) (fun M96 => ?_)
  refine x_aload_n hC dX11_goesOnWith_99 rfl 0 rfl ?_
  refine x_dup hC dX11_goesOnWith_100 rfl ?_
  refine r_getI hB dX11_goesOnWith_101 kf_X11_214 rfl th_257 ?_
  refine x_iconst (v := (1 : Int32)) hC dX11_goesOnWith_104 ki_1 ?_
  refine x_iadd hC dX11_goesOnWith_105 ?_
  refine r_putI hB dX11_goesOnWith_106 kf_X11_214 rfl th_257 ?_
  refine x_mem (fun M106 => ?_)
  refine x_iconst (v := (1 : Int32)) hC dX11_goesOnWith_109 ki_1 ?_
  exact r_retZ hR dX11_goesOnWith_110 (Or.inr rfl) (fun h => h)
noncomputable def f_X11_goesOnWith (M : zM) : Option (Int32 × zM) :=
  (f_X11_closes (2 : Int32) M).bind fun M2 =>
  bnd2 (f_X11_word M2) fun u6 M6 =>
  if u6 = (f_X11_spelt (97 : Int32) (110 : Int32) (100 : Int32) (0 : Int32) (0 : Int32) (0 : Int32)) then ((f_X11_closes (3 : Int32) M6).bind fun M26 =>
  grd (inb (M26 257 19) 420) (
  nm (mset M26 264 (ix (M26 257 19)) (3 : Int32)) fun M38 =>
  j_X11_goesOnWith_95 M38))
  else (bnd2 (f_X11_word M6) fun u43 M43 =>
  if u43 = (f_X11_spelt (111 : Int32) (114 : Int32) (0 : Int32) (0 : Int32) (0 : Int32) (0 : Int32)) then ((f_X11_closes (3 : Int32) M43).bind fun M62 =>
  (f_X11_closes (4 : Int32) M62).bind fun M67 =>
  grd (inb (M67 257 19) 420) (
  nm (mset M67 264 (ix (M67 257 19)) (4 : Int32)) fun M79 =>
  j_X11_goesOnWith_95 M79))
  else ((f_X11_closes (3 : Int32) M43).bind fun M85 =>
  (f_X11_closes (4 : Int32) M85).bind fun M90 =>
  some ((0 : Int32), M90)))
set_option maxRecDepth 100000 in
theorem f_X11_goesOnWith_ok {C : zC} {d : Nat} {g : zG} {l : Launch} {w : zW} {r : Int32 × zM} (hB : bOK C cX11_goesOnWith 1 RX11 d g l w false) (hd : 4 ≤ d) (M : zM) (hR : RtZ C cX11_goesOnWith w r.1 r.2) : Sg C w (0, 0) 0 [(0, zr w 257)] [] M (f_X11_goesOnWith M) (fun q => q = r) := by
  have hC := hB.1.1
  have hq1 : 1 ≤ d := by omega
  unfold f_X11_goesOnWith
  refine x_aload_n hC dX11_goesOnWith_0 rfl 0 rfl ?_
  refine x_iconst (v := (2 : Int32)) hC dX11_goesOnWith_1 ki_2 ?_
  refine r_cVv (as := [.int (2 : Int32)]) (rest := []) hB dX11_goesOnWith_2 kv_X11_222 th_257 hq1 rfl rfl (Nat.le_of_ble_eq_true rfl) (fun M' hv => f_X11_closes_met hB.2 (by omega) hv) (fun M2 => ?_)
  refine x_aload_n hC dX11_goesOnWith_5 rfl 0 rfl ?_
  refine r_cV2 (as := []) (rest := []) hB dX11_goesOnWith_6 kv_X11_160 th_257 hq1 rfl rfl (Nat.le_of_ble_eq_true rfl) (fun v M' hv => f_X11_word_met hB.2 (by omega) hv) (fun u6 M6 => ?_)
  refine x_bipush (v := (97 : Int32)) hC dX11_goesOnWith_9 kb_97 ?_
  refine x_bipush (v := (110 : Int32)) hC dX11_goesOnWith_11 kb_110 ?_
  refine x_bipush (v := (100 : Int32)) hC dX11_goesOnWith_13 kb_100 ?_
  refine x_iconst (v := (0 : Int32)) hC dX11_goesOnWith_15 ki_0 ?_
  refine x_iconst (v := (0 : Int32)) hC dX11_goesOnWith_16 ki_0 ?_
  refine x_iconst (v := (0 : Int32)) hC dX11_goesOnWith_17 ki_0 ?_
  refine r_cS0 (as := [.int (97 : Int32), .int (110 : Int32), .int (100 : Int32), .int (0 : Int32), .int (0 : Int32), .int (0 : Int32)]) (rest := [.int u6]) hB dX11_goesOnWith_18 ks_X11_194 hq1 rfl rfl (Nat.le_of_ble_eq_true rfl) (f_X11_spelt_met hB.2 (by omega)) ?_
  refine x_icmp_ne (tgt := 42) hC dX11_goesOnWith_21 (by decide) ?_ ?_
  · refine x_aload_n hC dX11_goesOnWith_24 rfl 0 rfl ?_
    refine x_iconst (v := (3 : Int32)) hC dX11_goesOnWith_25 ki_3 ?_
    refine r_cVv (as := [.int (3 : Int32)]) (rest := []) hB dX11_goesOnWith_26 kv_X11_222 th_257 hq1 rfl rfl (Nat.le_of_ble_eq_true rfl) (fun M' hv => f_X11_closes_met hB.2 (by omega) hv) (fun M26 => ?_)
    refine x_aload_n hC dX11_goesOnWith_29 rfl 0 rfl ?_
    refine r_getR hB dX11_goesOnWith_30 kf_X11_32 rfl th_257 rf_257_18 ?_
    refine x_aload_n hC dX11_goesOnWith_33 rfl 0 rfl ?_
    refine r_getI hB dX11_goesOnWith_34 kf_X11_214 rfl th_257 ?_
    refine x_iconst (v := (3 : Int32)) hC dX11_goesOnWith_37 ki_3 ?_
    refine r_iast hB dX11_goesOnWith_38 th_264 ?_
    refine x_mem (fun M38 => ?_)
    refine x_goto (tgt := 95) hC dX11_goesOnWith_39 (by decide) ?_
    exact j_X11_goesOnWith_95_ok hB hd M38 hR
  · refine x_aload_n hC dX11_goesOnWith_42 rfl 0 rfl ?_
    refine r_cV2 (as := []) (rest := []) hB dX11_goesOnWith_43 kv_X11_160 th_257 hq1 rfl rfl (Nat.le_of_ble_eq_true rfl) (fun v M' hv => f_X11_word_met hB.2 (by omega) hv) (fun u43 M43 => ?_)
    refine x_bipush (v := (111 : Int32)) hC dX11_goesOnWith_46 kb_111 ?_
    refine x_bipush (v := (114 : Int32)) hC dX11_goesOnWith_48 kb_114 ?_
    refine x_iconst (v := (0 : Int32)) hC dX11_goesOnWith_50 ki_0 ?_
    refine x_iconst (v := (0 : Int32)) hC dX11_goesOnWith_51 ki_0 ?_
    refine x_iconst (v := (0 : Int32)) hC dX11_goesOnWith_52 ki_0 ?_
    refine x_iconst (v := (0 : Int32)) hC dX11_goesOnWith_53 ki_0 ?_
    refine r_cS0 (as := [.int (111 : Int32), .int (114 : Int32), .int (0 : Int32), .int (0 : Int32), .int (0 : Int32), .int (0 : Int32)]) (rest := [.int u43]) hB dX11_goesOnWith_54 ks_X11_194 hq1 rfl rfl (Nat.le_of_ble_eq_true rfl) (f_X11_spelt_met hB.2 (by omega)) ?_
    refine x_icmp_ne (tgt := 83) hC dX11_goesOnWith_57 (by decide) ?_ ?_
    · refine x_aload_n hC dX11_goesOnWith_60 rfl 0 rfl ?_
      refine x_iconst (v := (3 : Int32)) hC dX11_goesOnWith_61 ki_3 ?_
      refine r_cVv (as := [.int (3 : Int32)]) (rest := []) hB dX11_goesOnWith_62 kv_X11_222 th_257 hq1 rfl rfl (Nat.le_of_ble_eq_true rfl) (fun M' hv => f_X11_closes_met hB.2 (by omega) hv) (fun M62 => ?_)
      refine x_aload_n hC dX11_goesOnWith_65 rfl 0 rfl ?_
      refine x_iconst (v := (4 : Int32)) hC dX11_goesOnWith_66 ki_4 ?_
      refine r_cVv (as := [.int (4 : Int32)]) (rest := []) hB dX11_goesOnWith_67 kv_X11_222 th_257 hq1 rfl rfl (Nat.le_of_ble_eq_true rfl) (fun M' hv => f_X11_closes_met hB.2 (by omega) hv) (fun M67 => ?_)
      refine x_aload_n hC dX11_goesOnWith_70 rfl 0 rfl ?_
      refine r_getR hB dX11_goesOnWith_71 kf_X11_32 rfl th_257 rf_257_18 ?_
      refine x_aload_n hC dX11_goesOnWith_74 rfl 0 rfl ?_
      refine r_getI hB dX11_goesOnWith_75 kf_X11_214 rfl th_257 ?_
      refine x_iconst (v := (4 : Int32)) hC dX11_goesOnWith_78 ki_4 ?_
      refine r_iast hB dX11_goesOnWith_79 th_264 ?_
      refine x_mem (fun M79 => ?_)
      refine x_goto (tgt := 95) hC dX11_goesOnWith_80 (by decide) ?_
      exact j_X11_goesOnWith_95_ok hB hd M79 hR
    · refine x_aload_n hC dX11_goesOnWith_83 rfl 0 rfl ?_
      refine x_iconst (v := (3 : Int32)) hC dX11_goesOnWith_84 ki_3 ?_
      refine r_cVv (as := [.int (3 : Int32)]) (rest := []) hB dX11_goesOnWith_85 kv_X11_222 th_257 hq1 rfl rfl (Nat.le_of_ble_eq_true rfl) (fun M' hv => f_X11_closes_met hB.2 (by omega) hv) (fun M85 => ?_)
      refine x_aload_n hC dX11_goesOnWith_88 rfl 0 rfl ?_
      refine x_iconst (v := (4 : Int32)) hC dX11_goesOnWith_89 ki_4 ?_
      refine r_cVv (as := [.int (4 : Int32)]) (rest := []) hB dX11_goesOnWith_90 kv_X11_222 th_257 hq1 rfl rfl (Nat.le_of_ble_eq_true rfl) (fun M' hv => f_X11_closes_met hB.2 (by omega) hv) (fun M90 => ?_)
      refine x_iconst (v := (0 : Int32)) hC dX11_goesOnWith_93 ki_0 ?_
      exact r_retZ hR dX11_goesOnWith_94 (Or.inl rfl) (fun h => h)
theorem f_X11_goesOnWith_met {l : Launch} {d : Nat} {g : zG} {w : zW} {M0 : zM} {M : zM} (hw : wS w) (hd : 4 ≤ d) {v : Int32} {M' : zM} (h : f_X11_goesOnWith M = some (v, M')) : zMet l yX11_goesOnWith cX11_goesOnWith 1 (some .boolean) d g w (zin false) M0 [zr w 257] M (some (.int v)) M' :=
  met_z (by decide +kernel) (Nat.le_of_ble_eq_true rfl) (fun C hB0 hR => f_X11_goesOnWith_ok (r := (v, M')) ⟨hB0, hw⟩ hd M hR _ h rfl)
/-! WindingSquareModel.readUnit()V -/
noncomputable def j_X11_readUnit_54 (v1_54 : Int32) (M : zM) : Option (zM) :=
  if (f_X11_fine M) = 0 then (some M)
  else ((f_X11_pass M).bind fun M63 =>
  (f_X11_codes (1 : Int32) v1_54 M63).bind fun M69 =>
  some M69)
set_option maxRecDepth 100000 in
theorem j_X11_readUnit_54_ok {C : zC} {d : Nat} {g : zG} {l : Launch} {w : zW} {r : zM} {v1_54 : Int32} (hB : bOK C cX11_readUnit 2 RX11 d g l w false) (hd : 4 ≤ d) (M : zM) (hR : RtV C cX11_readUnit w r) : Sg C w (0, 0) 54 [(0, zr w 257), (1, .int v1_54)] [] M (j_X11_readUnit_54 v1_54 M) (fun q => q = r) := by
  have hC := hB.1.1
  have hq1 : 1 ≤ d := by omega
  unfold j_X11_readUnit_54
  refine x_aload_n hC dX11_readUnit_54 rfl 0 rfl ?_
  refine r_cV0 (as := []) (rest := []) hB dX11_readUnit_55 kv_X11_149 th_257 hq1 rfl rfl (Nat.le_of_ble_eq_true rfl) (f_X11_fine_met hB.2 (by omega)) ?_
  refine x_if_ne (tgt := 62) hC dX11_readUnit_58 (by decide) ?_ ?_
  · exact r_retV hR dX11_readUnit_61 (fun h => h)
  · refine x_aload_n hC dX11_readUnit_62 rfl 0 rfl ?_
    refine r_cVv (as := []) (rest := []) hB dX11_readUnit_63 kv_X11_163 th_257 hq1 rfl rfl (Nat.le_of_ble_eq_true rfl) (fun M' hv => f_X11_pass_met hB.2 (by omega) hv) (fun M63 => ?_)
    refine x_aload_n hC dX11_readUnit_66 rfl 0 rfl ?_
    refine x_iconst (v := (1 : Int32)) hC dX11_readUnit_67 ki_1 ?_
    refine x_iload_n hC dX11_readUnit_68 rfl 1 rfl ?_
    refine r_cVv (as := [.int (1 : Int32), .int v1_54]) (rest := []) hB dX11_readUnit_69 kv_X11_217 th_257 hq1 rfl rfl (Nat.le_of_ble_eq_true rfl) (fun M' hv => f_X11_codes_met hB.2 (by omega) hv) (fun M69 => ?_)
    exact r_retV hR dX11_readUnit_72 (fun h => h)
noncomputable def f_X11_readUnit (M : zM) : Option (zM) :=
  if (f_X11_fine M) = 0 then (some M)
  else (bnd2 (f_X11_here M) fun u9 M9 =>
  if (f_X11_isDigit u9) = 0 then (bnd2 (f_X11_word M9) fun u33 M33 =>
  nm (f_X11_factOf u33) fun v1_39 =>
  if v1_39 = (-1 : Int32) then ((f_X11_wrong (1 : Int32) (M33 257 9) M33).bind fun M51 =>
  j_X11_readUnit_54 v1_39 M51)
  else (j_X11_readUnit_54 v1_39 M33))
  else (bnd2 (f_X11_number (0 : Int32) (9999 : Int32) M9) fun u25 M25 =>
  (f_X11_codes (0 : Int32) u25 M25).bind fun M28 =>
  some M28))
set_option maxRecDepth 100000 in
theorem f_X11_readUnit_ok {C : zC} {d : Nat} {g : zG} {l : Launch} {w : zW} {r : zM} (hB : bOK C cX11_readUnit 2 RX11 d g l w false) (hd : 4 ≤ d) (M : zM) (hR : RtV C cX11_readUnit w r) : Sg C w (0, 0) 0 [(0, zr w 257)] [] M (f_X11_readUnit M) (fun q => q = r) := by
  have hC := hB.1.1
  have hq1 : 1 ≤ d := by omega
  unfold f_X11_readUnit
  refine x_aload_n hC dX11_readUnit_0 rfl 0 rfl ?_
  refine r_cV0 (as := []) (rest := []) hB dX11_readUnit_1 kv_X11_149 th_257 hq1 rfl rfl (Nat.le_of_ble_eq_true rfl) (f_X11_fine_met hB.2 (by omega)) ?_
  refine x_if_ne (tgt := 8) hC dX11_readUnit_4 (by decide) ?_ ?_
  · exact r_retV hR dX11_readUnit_7 (fun h => h)
  · refine x_aload_n hC dX11_readUnit_8 rfl 0 rfl ?_
    refine r_cV2 (as := []) (rest := []) hB dX11_readUnit_9 kv_X11_138 th_257 hq1 rfl rfl (Nat.le_of_ble_eq_true rfl) (fun v M' hv => f_X11_here_met hB.2 (by omega) hv) (fun u9 M9 => ?_)
    refine r_cS0 (as := [.int u9]) (rest := []) hB dX11_readUnit_12 ks_X11_153 hq1 rfl rfl (Nat.le_of_ble_eq_true rfl) (f_X11_isDigit_met hB.2 (by omega)) ?_
    refine x_if_eq (tgt := 32) hC dX11_readUnit_15 (by decide) ?_ ?_
    · refine x_aload_n hC dX11_readUnit_32 rfl 0 rfl ?_
      refine r_cV2 (as := []) (rest := []) hB dX11_readUnit_33 kv_X11_160 th_257 hq1 rfl rfl (Nat.le_of_ble_eq_true rfl) (fun v M' hv => f_X11_word_met hB.2 (by omega) hv) (fun u33 M33 => ?_)
      refine r_cS0 (as := [.int u33]) (rest := []) hB dX11_readUnit_36 ks_X11_240 hq1 rfl rfl (Nat.le_of_ble_eq_true rfl) (f_X11_factOf_met hB.2 (by omega)) ?_
      refine x_top (fun v1_39 => ?_)
      refine x_istore_n hC dX11_readUnit_39 rfl [(1, .int v1_39), (0, zr w 257)] (by decide) rfl ?_
      refine x_iload_n hC dX11_readUnit_40 rfl 0 rfl ?_
      refine x_iconst (v := (-1 : Int32)) hC dX11_readUnit_41 ki_m1 ?_
      refine x_icmp_ne (tgt := 54) hC dX11_readUnit_42 (by decide) ?_ ?_
      · refine x_aload_n hC dX11_readUnit_45 rfl 1 rfl ?_
        refine x_iconst (v := (1 : Int32)) hC dX11_readUnit_46 ki_1 ?_
        refine x_aload_n hC dX11_readUnit_47 rfl 1 rfl ?_
        refine r_getI hB dX11_readUnit_48 kf_X11_132 rfl th_257 ?_
        refine r_cVv (as := [.int (1 : Int32), .int (M33 257 9)]) (rest := []) hB dX11_readUnit_51 kv_X11_156 th_257 hq1 rfl rfl (Nat.le_of_ble_eq_true rfl) (fun M' hv => f_X11_wrong_met hB.2 (by omega) hv) (fun M51 => ?_)
        refine x_sub [1, 0] rfl ?_
        exact j_X11_readUnit_54_ok hB hd M51 hR
      · refine x_sub [1, 0] rfl ?_
        exact j_X11_readUnit_54_ok hB hd M33 hR
    · refine x_aload_n hC dX11_readUnit_18 rfl 0 rfl ?_
      refine x_iconst (v := (0 : Int32)) hC dX11_readUnit_19 ki_0 ?_
      refine x_aload_n hC dX11_readUnit_20 rfl 0 rfl ?_
      refine x_iconst (v := (0 : Int32)) hC dX11_readUnit_21 ki_0 ?_
      refine x_sipush (v := (9999 : Int32)) hC dX11_readUnit_22 kh_9999 ?_
      refine r_cV2 (as := [.int (0 : Int32), .int (9999 : Int32)]) (rest := [.int (0 : Int32), zr w 257]) hB dX11_readUnit_25 kv_X11_202 th_257 hq1 rfl rfl (Nat.le_of_ble_eq_true rfl) (fun v M' hv => f_X11_number_met hB.2 (by omega) hv) (fun u25 M25 => ?_)
      refine r_cVv (as := [.int (0 : Int32), .int u25]) (rest := []) hB dX11_readUnit_28 kv_X11_217 th_257 hq1 rfl rfl (Nat.le_of_ble_eq_true rfl) (fun M' hv => f_X11_codes_met hB.2 (by omega) hv) (fun M28 => ?_)
      exact r_retV hR dX11_readUnit_31 (fun h => h)
theorem f_X11_readUnit_met {l : Launch} {d : Nat} {g : zG} {w : zW} {M0 : zM} {M : zM} (hw : wS w) (hd : 4 ≤ d) {M' : zM} (h : f_X11_readUnit M = some M') : zMet l yX11_readUnit cX11_readUnit 2 none d g w (zin false) M0 [zr w 257] M none M' :=
  met_v (by decide +kernel) (Nat.le_of_ble_eq_true rfl) (fun C hB0 hR => f_X11_readUnit_ok ⟨hB0, hw⟩ hd M hR _ h rfl)
/-! WindingSquareModel.tells(II)I -/
noncomputable def j_X11_tells_140_65 (v1_65 : Int32) (v5_140_65 : Int32) (M : zM) : Option ((Int32 × zM) ⊕ ((Int32 × zM) ⊕ (Int32 × zM))) :=
  grd (inb (v5_140_65 + (1 : Int32)) 2425) (
  grd (inb (v5_140_65 + (2 : Int32)) 2425) (
  bnd2 (f_X11_comesTo (M 259 (ix (v5_140_65 + (1 : Int32)))) (M 259 (ix (v5_140_65 + (2 : Int32)))) M) fun u159_65 M159_65 =>
  some (.inr (.inl (u159_65, M159_65)))))
set_option maxRecDepth 100000 in
theorem j_X11_tells_140_65_ok {C : zC} {d : Nat} {g : zG} {l : Launch} {w : zW} {r : Int32 × zM} {v1_65 : Int32} {v3_65 : Int32} {v5_140_65 : Int32} (hB : bOK C cX11_tells 6 RX11 d g l w false) (hd : 4 ≤ d) (M : zM) (hR : RtI C cX11_tells w r.1 r.2) : Sg C w (0, 0) 140 [(0, zr w 257), (1, .int v1_65), (5, .int v5_140_65)] [] M (j_X11_tells_140_65 v1_65 v5_140_65 M) (fun o => Sum.elim (fun (s : (Int32 × zM)) => Zs C w (0, 0) 65 [(0, zr w 257), (1, .int v1_65), (3, .int v3_65), (4, .int s.1)] [] s.2) (fun q => Sum.elim (fun (s : (Int32 × zM)) => Zs C w (0, 0) 172 [(1, .int v1_65), (3, .int s.1)] [] s.2) (fun q => q = r) q) o) := by
  have hC := hB.1.1
  have hq1 : 1 ≤ d := by omega
  unfold j_X11_tells_140_65
  refine x_aload_n hC dX11_tells_140 rfl 0 rfl ?_
  refine x_aload_n hC dX11_tells_141 rfl 0 rfl ?_
  refine r_getR hB dX11_tells_142 kf_X11_13 rfl th_257 rf_257_1 ?_
  refine x_iload hC dX11_tells_145 2 rfl ?_
  refine x_iconst (v := (1 : Int32)) hC dX11_tells_147 ki_1 ?_
  refine x_iadd hC dX11_tells_148 ?_
  refine r_iald hB dX11_tells_149 th_259 ?_
  refine x_aload_n hC dX11_tells_150 rfl 0 rfl ?_
  refine r_getR hB dX11_tells_151 kf_X11_13 rfl th_257 rf_257_1 ?_
  refine x_iload hC dX11_tells_154 2 rfl ?_
  refine x_iconst (v := (2 : Int32)) hC dX11_tells_156 ki_2 ?_
  refine x_iadd hC dX11_tells_157 ?_
  refine r_iald hB dX11_tells_158 th_259 ?_
  refine r_cV2 (as := [.int (M 259 (ix (v5_140_65 + (1 : Int32)))), .int (M 259 (ix (v5_140_65 + (2 : Int32))))]) (rest := []) hB dX11_tells_159 kv_X11_260 th_257 hq1 rfl rfl (Nat.le_of_ble_eq_true rfl) (fun v M' hv => f_X11_comesTo_met hB.2 (by omega) hv) (fun u159_65 M159_65 => ?_)
  refine x_istore_n hC dX11_tells_162 rfl [(3, .int u159_65), (0, zr w 257), (1, .int v1_65), (5, .int v5_140_65)] (by decide) rfl ?_
  refine x_goto (tgt := 172) hC dX11_tells_163 (by decide) ?_
  refine x_sub [2, 0] rfl ?_
  exact x_done (fun h => h)
noncomputable def j_X11_tells_166_65 (v1_65 : Int32) (v3_65 : Int32) (v4_166_65 : Int32) (M : zM) : Option ((Int32 × zM) ⊕ ((Int32 × zM) ⊕ (Int32 × zM))) :=
  some (.inl ((v4_166_65 + (1 : Int32)), M))
set_option maxRecDepth 100000 in
theorem j_X11_tells_166_65_ok {C : zC} {d : Nat} {g : zG} {l : Launch} {w : zW} {r : Int32 × zM} {v1_65 : Int32} {v3_65 : Int32} {v4_166_65 : Int32} (hB : bOK C cX11_tells 6 RX11 d g l w false) (hd : 4 ≤ d) (M : zM) (hR : RtI C cX11_tells w r.1 r.2) : Sg C w (0, 0) 166 [(0, zr w 257), (1, .int v1_65), (3, .int v3_65), (4, .int v4_166_65)] [] M (j_X11_tells_166_65 v1_65 v3_65 v4_166_65 M) (fun o => Sum.elim (fun (s : (Int32 × zM)) => Zs C w (0, 0) 65 [(0, zr w 257), (1, .int v1_65), (3, .int v3_65), (4, .int s.1)] [] s.2) (fun q => Sum.elim (fun (s : (Int32 × zM)) => Zs C w (0, 0) 172 [(1, .int v1_65), (3, .int s.1)] [] s.2) (fun q => q = r) q) o) := by
  have hC := hB.1.1
  have hq1 : 1 ≤ d := by omega
  unfold j_X11_tells_166_65
  refine x_iinc hC dX11_tells_166 ki_1 [(4, .int (v4_166_65 + (1 : Int32))), (0, zr w 257), (1, .int v1_65), (3, .int v3_65)] 3 rfl (by decide) rfl ?_
  refine x_goto (tgt := 65) hC dX11_tells_169 (by decide) ?_
  refine x_sub [1, 2, 3, 0] rfl ?_
  exact x_done (fun h => h)
noncomputable def b_X11_tells_65 (v1_65 : Int32) (v3_65 : Int32) (v4_65 : Int32) (M : zM) : Option ((Int32 × zM) ⊕ ((Int32 × zM) ⊕ (Int32 × zM))) :=
  if (M 259 (ix (941 : Int32))) ≤ v4_65 then (some (.inr (.inl (v3_65, M))))
  else (nm ((945 : Int32) + ((5 : Int32) * v4_65)) fun v5_86_65 =>
  grd (inb v5_86_65 2425) (
  if (M 259 (ix v5_86_65)) = v1_65 then (grd (inb (v5_86_65 + (4 : Int32)) 2425) (
  if (M 259 (ix (v5_86_65 + (4 : Int32)))) = (-1 : Int32) then (j_X11_tells_140_65 v1_65 v5_86_65 M)
  else (grd (inb (v5_86_65 + (3 : Int32)) 2425) (
  grd (inb (v5_86_65 + (4 : Int32)) 2425) (
  bnd2 (f_X11_comesTo (M 259 (ix (v5_86_65 + (3 : Int32)))) (M 259 (ix (v5_86_65 + (4 : Int32)))) M) fun u131_65 M131_65 =>
  if u131_65 = 0 then (j_X11_tells_166_65 v1_65 v3_65 v4_65 M131_65)
  else (j_X11_tells_140_65 v1_65 v5_86_65 M131_65))))))
  else (j_X11_tells_166_65 v1_65 v3_65 v4_65 M)))
set_option maxRecDepth 100000 in
theorem b_X11_tells_65_ok {C : zC} {d : Nat} {g : zG} {l : Launch} {w : zW} {r : Int32 × zM} {v1_65 : Int32} {v3_65 : Int32} {v4_65 : Int32} (hB : bOK C cX11_tells 6 RX11 d g l w false) (hd : 4 ≤ d) (M : zM) (hR : RtI C cX11_tells w r.1 r.2) : Sg C w (0, 0) 65 [(0, zr w 257), (1, .int v1_65), (3, .int v3_65), (4, .int v4_65)] [] M (b_X11_tells_65 v1_65 v3_65 v4_65 M) (fun o => Sum.elim (fun (s : (Int32 × zM)) => Zs C w (0, 0) 65 [(0, zr w 257), (1, .int v1_65), (3, .int v3_65), (4, .int s.1)] [] s.2) (fun q => Sum.elim (fun (s : (Int32 × zM)) => Zs C w (0, 0) 172 [(1, .int v1_65), (3, .int s.1)] [] s.2) (fun q => q = r) q) o) := by
  have hC := hB.1.1
  have hq1 : 1 ≤ d := by omega
  unfold b_X11_tells_65
  refine x_iload hC dX11_tells_65 3 rfl ?_
  refine x_aload_n hC dX11_tells_67 rfl 0 rfl ?_
  refine r_getR hB dX11_tells_68 kf_X11_13 rfl th_257 rf_257_1 ?_
  refine x_sipush (v := (941 : Int32)) hC dX11_tells_71 kh_941 ?_
  refine r_iald0 hB dX11_tells_74 th_259 ib_941_2425 ?_
  refine x_icmp_ge (tgt := 172) hC dX11_tells_75 (by decide) ?_ ?_
  · refine x_sub [1, 2] rfl ?_
    exact x_done (fun h => h)
  · refine x_sipush (v := (945 : Int32)) hC dX11_tells_78 kh_945 ?_
    refine x_iconst (v := (5 : Int32)) hC dX11_tells_81 ki_5 ?_
    refine x_iload hC dX11_tells_82 3 rfl ?_
    refine x_imul hC dX11_tells_84 ?_
    refine x_iadd hC dX11_tells_85 ?_
    refine x_top (fun v5_86_65 => ?_)
    refine x_istore (f := 0) hC dX11_tells_86 [(5, .int v5_86_65), (0, zr w 257), (1, .int v1_65), (3, .int v3_65), (4, .int v4_65)] (by decide) rfl ?_
    refine x_aload_n hC dX11_tells_88 rfl 1 rfl ?_
    refine r_getR hB dX11_tells_89 kf_X11_13 rfl th_257 rf_257_1 ?_
    refine x_iload hC dX11_tells_92 0 rfl ?_
    refine r_iald hB dX11_tells_94 th_259 ?_
    refine x_iload_n hC dX11_tells_95 rfl 2 rfl ?_
    refine x_icmp_ne (tgt := 166) hC dX11_tells_96 (by decide) ?_ ?_
    · refine x_aload_n hC dX11_tells_99 rfl 1 rfl ?_
      refine r_getR hB dX11_tells_100 kf_X11_13 rfl th_257 rf_257_1 ?_
      refine x_iload hC dX11_tells_103 0 rfl ?_
      refine x_iconst (v := (4 : Int32)) hC dX11_tells_105 ki_4 ?_
      refine x_iadd hC dX11_tells_106 ?_
      refine r_iald hB dX11_tells_107 th_259 ?_
      refine x_iconst (v := (-1 : Int32)) hC dX11_tells_108 ki_m1 ?_
      refine x_icmp_eq (tgt := 140) hC dX11_tells_109 (by decide) ?_ ?_
      · refine x_sub [1, 2, 0] rfl ?_
        exact j_X11_tells_140_65_ok hB hd M hR
      · refine x_aload_n hC dX11_tells_112 rfl 1 rfl ?_
        refine x_aload_n hC dX11_tells_113 rfl 1 rfl ?_
        refine r_getR hB dX11_tells_114 kf_X11_13 rfl th_257 rf_257_1 ?_
        refine x_iload hC dX11_tells_117 0 rfl ?_
        refine x_iconst (v := (3 : Int32)) hC dX11_tells_119 ki_3 ?_
        refine x_iadd hC dX11_tells_120 ?_
        refine r_iald hB dX11_tells_121 th_259 ?_
        refine x_aload_n hC dX11_tells_122 rfl 1 rfl ?_
        refine r_getR hB dX11_tells_123 kf_X11_13 rfl th_257 rf_257_1 ?_
        refine x_iload hC dX11_tells_126 0 rfl ?_
        refine x_iconst (v := (4 : Int32)) hC dX11_tells_128 ki_4 ?_
        refine x_iadd hC dX11_tells_129 ?_
        refine r_iald hB dX11_tells_130 th_259 ?_
        refine r_cV2 (as := [.int (M 259 (ix (v5_86_65 + (3 : Int32)))), .int (M 259 (ix (v5_86_65 + (4 : Int32))))]) (rest := []) hB dX11_tells_131 kv_X11_260 th_257 hq1 rfl rfl (Nat.le_of_ble_eq_true rfl) (fun v M' hv => f_X11_comesTo_met hB.2 (by omega) hv) (fun u131_65 M131_65 => ?_)
        refine x_if_ne (tgt := 140) hC dX11_tells_134 (by decide) ?_ ?_
        · refine x_goto (tgt := 166) hC dX11_tells_137 (by decide) ?_
          refine x_sub [1, 2, 3, 4] rfl ?_
          exact j_X11_tells_166_65_ok hB hd M131_65 hR
        · refine x_sub [1, 2, 0] rfl ?_
          exact j_X11_tells_140_65_ok hB hd M131_65 hR
    · refine x_sub [1, 2, 3, 4] rfl ?_
      exact j_X11_tells_166_65_ok hB hd M hR
noncomputable def j_X11_tells_185 (v3_185 : Int32) (s0_185 : Int32) (M : zM) : Option (Int32 × zM) :=
  if 0 ≤ v3_185 then (if v3_185 ≤ s0_185 then (some (v3_185, M))
  else (some (s0_185, M)))
  else (some ((0 : Int32), M))
set_option maxRecDepth 100000 in
theorem j_X11_tells_185_ok {C : zC} {d : Nat} {g : zG} {l : Launch} {w : zW} {r : Int32 × zM} {v3_185 : Int32} {s0_185 : Int32} (hB : bOK C cX11_tells 6 RX11 d g l w false) (hd : 4 ≤ d) (M : zM) (hR : RtI C cX11_tells w r.1 r.2) : Sg C w (0, 0) 185 [(3, .int v3_185)] [.int s0_185] M (j_X11_tells_185 v3_185 s0_185 M) (fun q => q = r) := by
  have hC := hB.1.1
  have hq1 : 1 ≤ d := by omega
  unfold j_X11_tells_185
  refine x_istore (f := 0) hC dX11_tells_185 [(4, .int s0_185), (3, .int v3_185)] (by decide) rfl ?_
  refine x_iload_n hC dX11_tells_187 rfl 1 rfl ?_
  refine x_if_ge (tgt := 195) hC dX11_tells_188 (by decide) ?_ ?_
  · refine x_iload_n hC dX11_tells_195 rfl 1 rfl ?_
    refine x_iload hC dX11_tells_196 0 rfl ?_
    refine x_icmp_le (tgt := 206) hC dX11_tells_198 (by decide) ?_ ?_
    · refine x_iload_n hC dX11_tells_206 rfl 1 rfl ?_
      exact r_retI hR dX11_tells_207 (fun h => h)
    · refine x_iload hC dX11_tells_201 0 rfl ?_
      refine x_goto (tgt := 207) hC dX11_tells_203 (by decide) ?_
      exact r_retI hR dX11_tells_207 (fun h => h)
  · refine x_iconst (v := (0 : Int32)) hC dX11_tells_191 ki_0 ?_
    refine x_goto (tgt := 207) hC dX11_tells_192 (by decide) ?_
    exact r_retI hR dX11_tells_207 (fun h => h)
noncomputable def j_X11_tells_172 (v1_172 : Int32) (v3_172 : Int32) (M : zM) : Option (Int32 × zM) :=
  if v1_172 = (2 : Int32) then (j_X11_tells_185 v3_172 (99 : Int32) M)
  else (j_X11_tells_185 v3_172 (1000 : Int32) M)
set_option maxRecDepth 100000 in
theorem j_X11_tells_172_ok {C : zC} {d : Nat} {g : zG} {l : Launch} {w : zW} {r : Int32 × zM} {v1_172 : Int32} {v3_172 : Int32} (hB : bOK C cX11_tells 6 RX11 d g l w false) (hd : 4 ≤ d) (M : zM) (hR : RtI C cX11_tells w r.1 r.2) : Sg C w (0, 0) 172 [(1, .int v1_172), (3, .int v3_172)] [] M (j_X11_tells_172 v1_172 v3_172 M) (fun q => q = r) := by
  have hC := hB.1.1
  have hq1 : 1 ≤ d := by omega
  unfold j_X11_tells_172
  refine x_iload_n hC dX11_tells_172 rfl 0 rfl ?_
  refine x_iconst (v := (2 : Int32)) hC dX11_tells_173 ki_2 ?_
  refine x_icmp_ne (tgt := 182) hC dX11_tells_174 (by decide) ?_ ?_
  · refine x_bipush (v := (99 : Int32)) hC dX11_tells_177 kb_99 ?_
    refine x_goto (tgt := 185) hC dX11_tells_179 (by decide) ?_
    refine x_sub [1] rfl ?_
    exact j_X11_tells_185_ok hB hd M hR
  · refine x_sipush (v := (1000 : Int32)) hC dX11_tells_182 kh_1000 ?_
    refine x_sub [1] rfl ?_
    exact j_X11_tells_185_ok hB hd M hR
noncomputable def j_X11_tells_61 (v1_61 : Int32) (s0_61 : Int32) (M : zM) : Option (Int32 × zM) :=
  (loopW (fun s => b_X11_tells_65 v1_61 s0_61 s.1 s.2) ((0 : Int32), M)).bind (fun q => Sum.elim (fun r => j_X11_tells_172 v1_61 r.1 r.2) some q)
set_option maxRecDepth 100000 in
theorem j_X11_tells_61_ok {C : zC} {d : Nat} {g : zG} {l : Launch} {w : zW} {r : Int32 × zM} {v1_61 : Int32} {s0_61 : Int32} (hB : bOK C cX11_tells 6 RX11 d g l w false) (hd : 4 ≤ d) (M : zM) (hR : RtI C cX11_tells w r.1 r.2) : Sg C w (0, 0) 61 [(0, zr w 257), (1, .int v1_61)] [.int s0_61] M (j_X11_tells_61 v1_61 s0_61 M) (fun q => q = r) := by
  have hC := hB.1.1
  have hq1 : 1 ≤ d := by omega
  unfold j_X11_tells_61
  refine x_istore_n hC dX11_tells_61 rfl [(3, .int s0_61), (0, zr w 257), (1, .int v1_61)] (by decide) rfl ?_
  refine x_iconst (v := (0 : Int32)) hC dX11_tells_62 ki_0 ?_
  refine x_istore (f := 0) hC dX11_tells_63 [(4, .int (0 : Int32)), (3, .int s0_61), (0, zr w 257), (1, .int v1_61)] (by decide) rfl ?_
  refine x_sub [2, 3, 1, 0] rfl ?_
  refine x_loopR (pc2 := 172) (fun (s : (Int32 × zM)) => [(0, zr w 257), (1, .int v1_61), (3, .int s0_61), (4, .int s.1)]) (fun (s : (Int32 × zM)) => s.2) (fun (s : (Int32 × zM)) => [(1, .int v1_61), (3, .int s.1)]) (fun (s : (Int32 × zM)) => s.2) ((0 : Int32), M) ?_ ?_
  · exact fun s => b_X11_tells_65_ok hB hd s.2 hR
  · intro r9
    exact j_X11_tells_172_ok hB hd r9.2 hR
noncomputable def f_X11_tells (p1 : Int32) (p2 : Int32) (M : zM) : Option (Int32 × zM) :=
  (f_X11_laysFacts p2 M).bind fun M2 =>
  if p1 = 0 then (j_X11_tells_61 p1 (((300 : Int32) * (M2 265 (ix (6 : Int32)))) + ((20 : Int32) * (M2 265 (ix (0 : Int32))))) M2)
  else (if p1 = (1 : Int32) then (j_X11_tells_61 p1 ((200 : Int32) * (M2 265 (ix (8 : Int32)))) M2)
  else (j_X11_tells_61 p1 ((10 : Int32) - (M2 265 (ix (1 : Int32)))) M2))
set_option maxRecDepth 100000 in
theorem f_X11_tells_ok {C : zC} {d : Nat} {g : zG} {l : Launch} {w : zW} {r : Int32 × zM} {p1 : Int32} {p2 : Int32} (hB : bOK C cX11_tells 6 RX11 d g l w false) (hd : 4 ≤ d) (M : zM) (hR : RtI C cX11_tells w r.1 r.2) : Sg C w (0, 0) 0 [(0, zr w 257), (1, .int p1), (2, .int p2)] [] M (f_X11_tells p1 p2 M) (fun q => q = r) := by
  have hC := hB.1.1
  have hq1 : 1 ≤ d := by omega
  unfold f_X11_tells
  refine x_aload_n hC dX11_tells_0 rfl 0 rfl ?_
  refine x_iload_n hC dX11_tells_1 rfl 2 rfl ?_
  refine r_cVv (as := [.int p2]) (rest := []) hB dX11_tells_2 kv_X11_257 th_257 hq1 rfl rfl (Nat.le_of_ble_eq_true rfl) (fun M' hv => f_X11_laysFacts_met hB.2 (by omega) hv) (fun M2 => ?_)
  refine x_iload_n hC dX11_tells_5 rfl 1 rfl ?_
  refine x_if_ne (tgt := 33) hC dX11_tells_6 (by decide) ?_ ?_
  · refine x_sipush (v := (300 : Int32)) hC dX11_tells_9 kh_300 ?_
    refine x_aload_n hC dX11_tells_12 rfl 0 rfl ?_
    refine r_getR hB dX11_tells_13 kf_X11_35 rfl th_257 rf_257_20 ?_
    refine x_bipush (v := (6 : Int32)) hC dX11_tells_16 kb_6 ?_
    refine r_iald0 hB dX11_tells_18 th_265 ib_6_10 ?_
    refine x_imul hC dX11_tells_19 ?_
    refine x_bipush (v := (20 : Int32)) hC dX11_tells_20 kb_20 ?_
    refine x_aload_n hC dX11_tells_22 rfl 0 rfl ?_
    refine r_getR hB dX11_tells_23 kf_X11_35 rfl th_257 rf_257_20 ?_
    refine x_iconst (v := (0 : Int32)) hC dX11_tells_26 ki_0 ?_
    refine r_iald0 hB dX11_tells_27 th_265 ib_0_10 ?_
    refine x_imul hC dX11_tells_28 ?_
    refine x_iadd hC dX11_tells_29 ?_
    refine x_goto (tgt := 61) hC dX11_tells_30 (by decide) ?_
    refine x_sub [0, 1] rfl ?_
    exact j_X11_tells_61_ok hB hd M2 hR
  · refine x_iload_n hC dX11_tells_33 rfl 1 rfl ?_
    refine x_iconst (v := (1 : Int32)) hC dX11_tells_34 ki_1 ?_
    refine x_icmp_ne (tgt := 52) hC dX11_tells_35 (by decide) ?_ ?_
    · refine x_sipush (v := (200 : Int32)) hC dX11_tells_38 kh_200 ?_
      refine x_aload_n hC dX11_tells_41 rfl 0 rfl ?_
      refine r_getR hB dX11_tells_42 kf_X11_35 rfl th_257 rf_257_20 ?_
      refine x_bipush (v := (8 : Int32)) hC dX11_tells_45 kb_8 ?_
      refine r_iald0 hB dX11_tells_47 th_265 ib_8_10 ?_
      refine x_imul hC dX11_tells_48 ?_
      refine x_goto (tgt := 61) hC dX11_tells_49 (by decide) ?_
      refine x_sub [0, 1] rfl ?_
      exact j_X11_tells_61_ok hB hd M2 hR
    · refine x_bipush (v := (10 : Int32)) hC dX11_tells_52 kb_10 ?_
      refine x_aload_n hC dX11_tells_54 rfl 0 rfl ?_
      refine r_getR hB dX11_tells_55 kf_X11_35 rfl th_257 rf_257_20 ?_
      refine x_iconst (v := (1 : Int32)) hC dX11_tells_58 ki_1 ?_
      refine r_iald0 hB dX11_tells_59 th_265 ib_1_10 ?_
      refine x_isub hC dX11_tells_60 ?_
      refine x_sub [0, 1] rfl ?_
      exact j_X11_tells_61_ok hB hd M2 hR
theorem f_X11_tells_met {l : Launch} {d : Nat} {g : zG} {w : zW} {M0 : zM} {p1 : Int32} {p2 : Int32} {M : zM} (hw : wS w) (hd : 4 ≤ d) {v : Int32} {M' : zM} (h : f_X11_tells p1 p2 M = some (v, M')) : zMet l yX11_tells cX11_tells 6 (some .int) d g w (zin false) M0 [zr w 257, .int p1, .int p2] M (some (.int v)) M' :=
  met_i (by decide +kernel) (Nat.le_of_ble_eq_true rfl) rfl (fun C hB0 hR => f_X11_tells_ok (r := (v, M')) ⟨hB0, hw⟩ hd M hR _ h rfl)
/-! WindingSquareModel.turn(II)Z -/
noncomputable def f_X11_turn (p1 : Int32) (p2 : Int32) (M : zM) : Option (Int32 × zM) :=
  (f_X11_isWalker p1 M).bind fun u2 =>
  if u2 = 0 then (some ((0 : Int32), M))
  else (if (f_X11_within p2 (0 : Int32) (2 : Int32)) = 0 then (some ((0 : Int32), M))
  else ((f_X11_begins M).bind fun M20 =>
  (f_X11_has p1 (1 : Int32) M20).bind fun u26 =>
  if u26 = 0 then (some ((0 : Int32), M20))
  else ((f_X11_turnsRound p1 p2 M20).bind fun M37 =>
  (f_X11_ends M37).bind fun M41 =>
  some ((1 : Int32), M41))))
set_option maxRecDepth 100000 in
theorem f_X11_turn_ok {C : zC} {d : Nat} {g : zG} {l : Launch} {w : zW} {r : Int32 × zM} {p1 : Int32} {p2 : Int32} (hB : bOK C cX11_turn 3 RX11 d g l w false) (hd : 4 ≤ d) (M : zM) (hR : RtZ C cX11_turn w r.1 r.2) : Sg C w (0, 0) 0 [(0, zr w 257), (1, .int p1), (2, .int p2)] [] M (f_X11_turn p1 p2 M) (fun q => q = r) := by
  have hC := hB.1.1
  have hq1 : 1 ≤ d := by omega
  unfold f_X11_turn
  refine x_aload_n hC dX11_turn_0 rfl 0 rfl ?_
  refine x_iload_n hC dX11_turn_1 rfl 1 rfl ?_
  refine r_cV1 (as := [.int p1]) (rest := []) hB dX11_turn_2 kv_X11_322 th_257 hq1 rfl rfl (Nat.le_of_ble_eq_true rfl) (fun v hv => f_X11_isWalker_met hB.2 (by omega) hv) (fun u2 => ?_)
  refine x_if_eq (tgt := 17) hC dX11_turn_5 (by decide) ?_ ?_
  · refine x_iconst (v := (0 : Int32)) hC dX11_turn_17 ki_0 ?_
    exact r_retZ hR dX11_turn_18 (Or.inl rfl) (fun h => h)
  · refine x_iload_n hC dX11_turn_8 rfl 2 rfl ?_
    refine x_iconst (v := (0 : Int32)) hC dX11_turn_9 ki_0 ?_
    refine x_iconst (v := (2 : Int32)) hC dX11_turn_10 ki_2 ?_
    refine r_cS0 (as := [.int p2, .int (0 : Int32), .int (2 : Int32)]) (rest := []) hB dX11_turn_11 ks_X11_100 hq1 rfl rfl (Nat.le_of_ble_eq_true rfl) (f_X11_within_met hB.2 (by omega)) ?_
    refine x_if_ne (tgt := 19) hC dX11_turn_14 (by decide) ?_ ?_
    · refine x_iconst (v := (0 : Int32)) hC dX11_turn_17 ki_0 ?_
      exact r_retZ hR dX11_turn_18 (Or.inl rfl) (fun h => h)
    · refine x_aload_n hC dX11_turn_19 rfl 0 rfl ?_
      refine r_cVv (as := []) (rest := []) hB dX11_turn_20 kv_X11_310 th_257 hq1 rfl rfl (Nat.le_of_ble_eq_true rfl) (fun M' hv => f_X11_begins_met hB.2 (by omega) hv) (fun M20 => ?_)
      refine x_aload_n hC dX11_turn_23 rfl 0 rfl ?_
      refine x_iload_n hC dX11_turn_24 rfl 1 rfl ?_
      refine x_iconst (v := (1 : Int32)) hC dX11_turn_25 ki_1 ?_
      refine r_cV1 (as := [.int p1, .int (1 : Int32)]) (rest := []) hB dX11_turn_26 kv_X11_104 th_257 hq1 rfl rfl (Nat.le_of_ble_eq_true rfl) (fun v hv => f_X11_has_met hB.2 (by omega) hv) (fun u26 => ?_)
      refine x_if_ne (tgt := 34) hC dX11_turn_29 (by decide) ?_ ?_
      · refine x_iconst (v := (0 : Int32)) hC dX11_turn_32 ki_0 ?_
        exact r_retZ hR dX11_turn_33 (Or.inl rfl) (fun h => h)
      · refine x_aload_n hC dX11_turn_34 rfl 0 rfl ?_
        refine x_iload_n hC dX11_turn_35 rfl 1 rfl ?_
        refine x_iload_n hC dX11_turn_36 rfl 2 rfl ?_
        refine r_cVv (as := [.int p1, .int p2]) (rest := []) hB dX11_turn_37 kv_X11_304 th_257 hq1 rfl rfl (Nat.le_of_ble_eq_true rfl) (fun M' hv => f_X11_turnsRound_met hB.2 (by omega) hv) (fun M37 => ?_)
        refine x_aload_n hC dX11_turn_40 rfl 0 rfl ?_
        refine r_cVv (as := []) (rest := []) hB dX11_turn_41 kv_X11_316 th_257 hq1 rfl rfl (Nat.le_of_ble_eq_true rfl) (fun M' hv => f_X11_ends_met hB.2 (by omega) hv) (fun M41 => ?_)
        refine x_iconst (v := (1 : Int32)) hC dX11_turn_44 ki_1 ?_
        exact r_retZ hR dX11_turn_45 (Or.inr rfl) (fun h => h)
theorem f_X11_turn_met {l : Launch} {d : Nat} {g : zG} {w : zW} {M0 : zM} {p1 : Int32} {p2 : Int32} {M : zM} (hw : wS w) (hd : 4 ≤ d) {v : Int32} {M' : zM} (h : f_X11_turn p1 p2 M = some (v, M')) : zMet l yX11_turn cX11_turn 3 (some .boolean) d g w (zin false) M0 [zr w 257, .int p1, .int p2] M (some (.int v)) M' :=
  met_z (by decide +kernel) (Nat.le_of_ble_eq_true rfl) (fun C hB0 hR => f_X11_turn_ok (r := (v, M')) ⟨hB0, hw⟩ hd M hR _ h rfl)
/-! WindingSquareModel.lay(III)Z -/
noncomputable def j_X11_lay_58 (v3_58 : Int32) (v4_58 : Int32) (M : zM) : Option (Int32 × zM) :=
  grd (inb v4_58 2425) (
  nm (mset M 259 (ix v4_58) v3_58) fun M65 =>
  (f_X11_ends M65).bind fun M67 =>
  some ((1 : Int32), M67))
set_option maxRecDepth 100000 in
theorem j_X11_lay_58_ok {C : zC} {d : Nat} {g : zG} {l : Launch} {w : zW} {r : Int32 × zM} {v3_58 : Int32} {v4_58 : Int32} (hB : bOK C cX11_lay 5 RX11 d g l w false) (hd : 4 ≤ d) (M : zM) (hR : RtZ C cX11_lay w r.1 r.2) : Sg C w (0, 0) 58 [(0, zr w 257), (3, .int v3_58), (4, .int v4_58)] [] M (j_X11_lay_58 v3_58 v4_58 M) (fun q => q = r) := by
  have hC := hB.1.1
  have hq1 : 1 ≤ d := by omega
  unfold j_X11_lay_58
  refine x_aload_n hC dX11_lay_58 rfl 0 rfl ?_
  refine r_getR hB dX11_lay_59 kf_X11_13 rfl th_257 rf_257_1 ?_
  refine x_iload hC dX11_lay_62 2 rfl ?_
  refine x_iload_n hC dX11_lay_64 rfl 1 rfl ?_
  refine r_iast hB dX11_lay_65 th_259 ?_
  refine x_mem (fun M65 => ?_)
  refine x_aload_n hC dX11_lay_66 rfl 0 rfl ?_
  refine r_cVv (as := []) (rest := []) hB dX11_lay_67 kv_X11_316 th_257 hq1 rfl rfl (Nat.le_of_ble_eq_true rfl) (fun M' hv => f_X11_ends_met hB.2 (by omega) hv) (fun M67 => ?_)
  refine x_iconst (v := (1 : Int32)) hC dX11_lay_70 ki_1 ?_
  exact r_retZ hR dX11_lay_71 (Or.inr rfl) (fun h => h)
noncomputable def f_X11_lay (p1 : Int32) (p2 : Int32) (p3 : Int32) (M : zM) : Option (Int32 × zM) :=
  if (f_X11_isIn p1 p2) = 0 then (some ((0 : Int32), M))
  else (if (f_X11_within p3 (0 : Int32) (3 : Int32)) = 0 then (some ((0 : Int32), M))
  else ((f_X11_begins M).bind fun M20 =>
  nm (f_X11_place p1 p2) fun v4_28 =>
  grd (inb v4_28 2425) (
  if (M20 259 (ix v4_28)) = p3 then (some ((0 : Int32), M20))
  else (if p3 = (1 : Int32) then ((f_X11_whoIsAt v4_28 M20).bind fun u49 =>
  if u49 = (-1 : Int32) then (j_X11_lay_58 p3 v4_28 M20)
  else (some ((0 : Int32), M20)))
  else (j_X11_lay_58 p3 v4_28 M20)))))
set_option maxRecDepth 100000 in
theorem f_X11_lay_ok {C : zC} {d : Nat} {g : zG} {l : Launch} {w : zW} {r : Int32 × zM} {p1 : Int32} {p2 : Int32} {p3 : Int32} (hB : bOK C cX11_lay 5 RX11 d g l w false) (hd : 4 ≤ d) (M : zM) (hR : RtZ C cX11_lay w r.1 r.2) : Sg C w (0, 0) 0 [(0, zr w 257), (1, .int p1), (2, .int p2), (3, .int p3)] [] M (f_X11_lay p1 p2 p3 M) (fun q => q = r) := by
  have hC := hB.1.1
  have hq1 : 1 ≤ d := by omega
  unfold f_X11_lay
  refine x_iload_n hC dX11_lay_0 rfl 1 rfl ?_
  refine x_iload_n hC dX11_lay_1 rfl 2 rfl ?_
  refine r_cS0 (as := [.int p1, .int p2]) (rest := []) hB dX11_lay_2 ks_X11_291 hq1 rfl rfl (Nat.le_of_ble_eq_true rfl) (f_X11_isIn_met hB.2 (by omega)) ?_
  refine x_if_eq (tgt := 17) hC dX11_lay_5 (by decide) ?_ ?_
  · refine x_iconst (v := (0 : Int32)) hC dX11_lay_17 ki_0 ?_
    exact r_retZ hR dX11_lay_18 (Or.inl rfl) (fun h => h)
  · refine x_iload_n hC dX11_lay_8 rfl 3 rfl ?_
    refine x_iconst (v := (0 : Int32)) hC dX11_lay_9 ki_0 ?_
    refine x_iconst (v := (3 : Int32)) hC dX11_lay_10 ki_3 ?_
    refine r_cS0 (as := [.int p3, .int (0 : Int32), .int (3 : Int32)]) (rest := []) hB dX11_lay_11 ks_X11_100 hq1 rfl rfl (Nat.le_of_ble_eq_true rfl) (f_X11_within_met hB.2 (by omega)) ?_
    refine x_if_ne (tgt := 19) hC dX11_lay_14 (by decide) ?_ ?_
    · refine x_iconst (v := (0 : Int32)) hC dX11_lay_17 ki_0 ?_
      exact r_retZ hR dX11_lay_18 (Or.inl rfl) (fun h => h)
    · refine x_aload_n hC dX11_lay_19 rfl 0 rfl ?_
      refine r_cVv (as := []) (rest := []) hB dX11_lay_20 kv_X11_310 th_257 hq1 rfl rfl (Nat.le_of_ble_eq_true rfl) (fun M' hv => f_X11_begins_met hB.2 (by omega) hv) (fun M20 => ?_)
      refine x_iload_n hC dX11_lay_23 rfl 1 rfl ?_
      refine x_iload_n hC dX11_lay_24 rfl 2 rfl ?_
      refine r_cS0 (as := [.int p1, .int p2]) (rest := []) hB dX11_lay_25 ks_X11_108 hq1 rfl rfl (Nat.le_of_ble_eq_true rfl) (f_X11_place_met hB.2 (by omega)) ?_
      refine x_top (fun v4_28 => ?_)
      refine x_istore (f := 0) hC dX11_lay_28 [(4, .int v4_28), (0, zr w 257), (1, .int p1), (2, .int p2), (3, .int p3)] (by decide) rfl ?_
      refine x_aload_n hC dX11_lay_30 rfl 1 rfl ?_
      refine r_getR hB dX11_lay_31 kf_X11_13 rfl th_257 rf_257_1 ?_
      refine x_iload hC dX11_lay_34 0 rfl ?_
      refine r_iald hB dX11_lay_36 th_259 ?_
      refine x_iload_n hC dX11_lay_37 rfl 4 rfl ?_
      refine x_icmp_eq (tgt := 56) hC dX11_lay_38 (by decide) ?_ ?_
      · refine x_iconst (v := (0 : Int32)) hC dX11_lay_56 ki_0 ?_
        exact r_retZ hR dX11_lay_57 (Or.inl rfl) (fun h => h)
      · refine x_iload_n hC dX11_lay_41 rfl 4 rfl ?_
        refine x_iconst (v := (1 : Int32)) hC dX11_lay_42 ki_1 ?_
        refine x_icmp_ne (tgt := 58) hC dX11_lay_43 (by decide) ?_ ?_
        · refine x_aload_n hC dX11_lay_46 rfl 1 rfl ?_
          refine x_iload hC dX11_lay_47 0 rfl ?_
          refine r_cV1 (as := [.int v4_28]) (rest := []) hB dX11_lay_49 kv_X11_115 th_257 hq1 rfl rfl (Nat.le_of_ble_eq_true rfl) (fun v hv => f_X11_whoIsAt_met hB.2 (by omega) hv) (fun u49 => ?_)
          refine x_iconst (v := (-1 : Int32)) hC dX11_lay_52 ki_m1 ?_
          refine x_icmp_eq (tgt := 58) hC dX11_lay_53 (by decide) ?_ ?_
          · refine x_sub [1, 4, 0] rfl ?_
            exact j_X11_lay_58_ok hB hd M20 hR
          · refine x_iconst (v := (0 : Int32)) hC dX11_lay_56 ki_0 ?_
            exact r_retZ hR dX11_lay_57 (Or.inl rfl) (fun h => h)
        · refine x_sub [1, 4, 0] rfl ?_
          exact j_X11_lay_58_ok hB hd M20 hR
theorem f_X11_lay_met {l : Launch} {d : Nat} {g : zG} {w : zW} {M0 : zM} {p1 : Int32} {p2 : Int32} {p3 : Int32} {M : zM} (hw : wS w) (hd : 4 ≤ d) {v : Int32} {M' : zM} (h : f_X11_lay p1 p2 p3 M = some (v, M')) : zMet l yX11_lay cX11_lay 5 (some .boolean) d g w (zin false) M0 [zr w 257, .int p1, .int p2, .int p3] M (some (.int v)) M' :=
  met_z (by decide +kernel) (Nat.le_of_ble_eq_true rfl) (fun C hB0 hR => f_X11_lay_ok (r := (v, M')) ⟨hB0, hw⟩ hd M hR _ h rfl)
/-! WindingSquareModel.cell(III)I -/
noncomputable def f_X11_cell (p1 : Int32) (p2 : Int32) (p3 : Int32) (M : zM) : Option (Int32 × zM) :=
  if (f_X11_isIn p1 p2) = 0 then (some ((-2 : Int32), M))
  else (if (f_X11_within p3 (0 : Int32) (1 : Int32)) = 0 then (some ((-2 : Int32), M))
  else ((f_X11_take M).bind fun M21 =>
  if p3 = 0 then (grd (inb (f_X11_place p1 p2) 2425) (
  some ((M21 259 (ix (f_X11_place p1 p2))), M21)))
  else ((f_X11_whoIsAt (f_X11_place p1 p2) M21).bind fun u47 =>
  some (u47, M21))))
set_option maxRecDepth 100000 in
theorem f_X11_cell_ok {C : zC} {d : Nat} {g : zG} {l : Launch} {w : zW} {r : Int32 × zM} {p1 : Int32} {p2 : Int32} {p3 : Int32} (hB : bOK C cX11_cell 4 RX11 d g l w false) (hd : 4 ≤ d) (M : zM) (hR : RtI C cX11_cell w r.1 r.2) : Sg C w (0, 0) 0 [(0, zr w 257), (1, .int p1), (2, .int p2), (3, .int p3)] [] M (f_X11_cell p1 p2 p3 M) (fun q => q = r) := by
  have hC := hB.1.1
  have hq1 : 1 ≤ d := by omega
  unfold f_X11_cell
  refine x_iload_n hC dX11_cell_0 rfl 1 rfl ?_
  refine x_iload_n hC dX11_cell_1 rfl 2 rfl ?_
  refine r_cS0 (as := [.int p1, .int p2]) (rest := []) hB dX11_cell_2 ks_X11_291 hq1 rfl rfl (Nat.le_of_ble_eq_true rfl) (f_X11_isIn_met hB.2 (by omega)) ?_
  refine x_if_eq (tgt := 17) hC dX11_cell_5 (by decide) ?_ ?_
  · refine x_bipush (v := (-2 : Int32)) hC dX11_cell_17 kb_m2 ?_
    exact r_retI hR dX11_cell_19 (fun h => h)
  · refine x_iload_n hC dX11_cell_8 rfl 3 rfl ?_
    refine x_iconst (v := (0 : Int32)) hC dX11_cell_9 ki_0 ?_
    refine x_iconst (v := (1 : Int32)) hC dX11_cell_10 ki_1 ?_
    refine r_cS0 (as := [.int p3, .int (0 : Int32), .int (1 : Int32)]) (rest := []) hB dX11_cell_11 ks_X11_100 hq1 rfl rfl (Nat.le_of_ble_eq_true rfl) (f_X11_within_met hB.2 (by omega)) ?_
    refine x_if_ne (tgt := 20) hC dX11_cell_14 (by decide) ?_ ?_
    · refine x_bipush (v := (-2 : Int32)) hC dX11_cell_17 kb_m2 ?_
      exact r_retI hR dX11_cell_19 (fun h => h)
    · refine x_aload_n hC dX11_cell_20 rfl 0 rfl ?_
      refine r_cVv (as := []) (rest := []) hB dX11_cell_21 kv_X11_328 th_257 hq1 rfl rfl (Nat.le_of_ble_eq_true rfl) (fun M' hv => f_X11_take_met hB.2 (by omega) hv) (fun M21 => ?_)
      refine x_iload_n hC dX11_cell_24 rfl 3 rfl ?_
      refine x_if_ne (tgt := 41) hC dX11_cell_25 (by decide) ?_ ?_
      · refine x_aload_n hC dX11_cell_28 rfl 0 rfl ?_
        refine r_getR hB dX11_cell_29 kf_X11_13 rfl th_257 rf_257_1 ?_
        refine x_iload_n hC dX11_cell_32 rfl 1 rfl ?_
        refine x_iload_n hC dX11_cell_33 rfl 2 rfl ?_
        refine r_cS0 (as := [.int p1, .int p2]) (rest := [zr w 259]) hB dX11_cell_34 ks_X11_108 hq1 rfl rfl (Nat.le_of_ble_eq_true rfl) (f_X11_place_met hB.2 (by omega)) ?_
        refine r_iald hB dX11_cell_37 th_259 ?_
        refine x_goto (tgt := 50) hC dX11_cell_38 (by decide) ?_
        exact r_retI hR dX11_cell_50 (fun h => h)
      · refine x_aload_n hC dX11_cell_41 rfl 0 rfl ?_
        refine x_iload_n hC dX11_cell_42 rfl 1 rfl ?_
        refine x_iload_n hC dX11_cell_43 rfl 2 rfl ?_
        refine r_cS0 (as := [.int p1, .int p2]) (rest := [zr w 257]) hB dX11_cell_44 ks_X11_108 hq1 rfl rfl (Nat.le_of_ble_eq_true rfl) (f_X11_place_met hB.2 (by omega)) ?_
        refine r_cV1 (as := [.int (f_X11_place p1 p2)]) (rest := []) hB dX11_cell_47 kv_X11_115 th_257 hq1 rfl rfl (Nat.le_of_ble_eq_true rfl) (fun v hv => f_X11_whoIsAt_met hB.2 (by omega) hv) (fun u47 => ?_)
        exact r_retI hR dX11_cell_50 (fun h => h)
theorem f_X11_cell_met {l : Launch} {d : Nat} {g : zG} {w : zW} {M0 : zM} {p1 : Int32} {p2 : Int32} {p3 : Int32} {M : zM} (hw : wS w) (hd : 4 ≤ d) {v : Int32} {M' : zM} (h : f_X11_cell p1 p2 p3 M = some (v, M')) : zMet l yX11_cell cX11_cell 4 (some .int) d g w (zin false) M0 [zr w 257, .int p1, .int p2, .int p3] M (some (.int v)) M' :=
  met_i (by decide +kernel) (Nat.le_of_ble_eq_true rfl) rfl (fun C hB0 hR => f_X11_cell_ok (r := (v, M')) ⟨hB0, hw⟩ hd M hR _ h rfl)
/-! WindingSquareModel.meets(II)I -/
noncomputable def b_X11_meets_24 (v1_24 : Int32) (v2_24 : Int32) (v3_24 : Int32) (M : zM) : Option ((Int32 × zM) ⊕ ((zM) ⊕ (Int32 × zM))) :=
  if (60 : Int32) < v3_24 then (some (.inr (.inl M)))
  else ((f_X11_has v1_24 (1 : Int32) M).bind fun u33_24 =>
  if u33_24 = 0 then (some (.inr (.inr ((-1 : Int32), M))))
  else ((f_X11_has v2_24 (1 : Int32) M).bind fun u42_24 =>
  if u42_24 = 0 then (some (.inr (.inr ((-1 : Int32), M))))
  else ((f_X11_standsAt v1_24 M).bind fun u52_24 =>
  (f_X11_standsAt v2_24 M).bind fun u57_24 =>
  if u52_24 = u57_24 then (some (.inr (.inr (v3_24, M))))
  else ((f_X11_goesAlone v1_24 M).bind fun M67_24 =>
  (f_X11_goesAlone v2_24 M67_24).bind fun M72_24 =>
  some (.inl ((v3_24 + (1 : Int32)), M72_24))))))
set_option maxRecDepth 100000 in
theorem b_X11_meets_24_ok {C : zC} {d : Nat} {g : zG} {l : Launch} {w : zW} {r : Int32 × zM} {v1_24 : Int32} {v2_24 : Int32} {v3_24 : Int32} (hB : bOK C cX11_meets 4 RX11 d g l w false) (hd : 4 ≤ d) (M : zM) (hR : RtI C cX11_meets w r.1 r.2) : Sg C w (0, 0) 24 [(0, zr w 257), (1, .int v1_24), (2, .int v2_24), (3, .int v3_24)] [] M (b_X11_meets_24 v1_24 v2_24 v3_24 M) (fun o => Sum.elim (fun (s : (Int32 × zM)) => Zs C w (0, 0) 24 [(0, zr w 257), (1, .int v1_24), (2, .int v2_24), (3, .int s.1)] [] s.2) (fun q => Sum.elim (fun (s : (zM)) => Zs C w (0, 0) 81 [] [] s) (fun q => q = r) q) o) := by
  have hC := hB.1.1
  have hq1 : 1 ≤ d := by omega
  unfold b_X11_meets_24
  refine x_iload_n hC dX11_meets_24 rfl 3 rfl ?_
  refine x_bipush (v := (60 : Int32)) hC dX11_meets_25 kb_60 ?_
  refine x_icmp_gt (tgt := 81) hC dX11_meets_27 (by decide) ?_ ?_
  · refine x_sub [] rfl ?_
    exact x_done (fun h => h)
  · refine x_aload_n hC dX11_meets_30 rfl 0 rfl ?_
    refine x_iload_n hC dX11_meets_31 rfl 1 rfl ?_
    refine x_iconst (v := (1 : Int32)) hC dX11_meets_32 ki_1 ?_
    refine r_cV1 (as := [.int v1_24, .int (1 : Int32)]) (rest := []) hB dX11_meets_33 kv_X11_104 th_257 hq1 rfl rfl (Nat.le_of_ble_eq_true rfl) (fun v hv => f_X11_has_met hB.2 (by omega) hv) (fun u33_24 => ?_)
    refine x_if_eq (tgt := 48) hC dX11_meets_36 (by decide) ?_ ?_
    · refine x_iconst (v := (-1 : Int32)) hC dX11_meets_48 ki_m1 ?_
      exact r_retI hR dX11_meets_49 (fun h => h)
    · refine x_aload_n hC dX11_meets_39 rfl 0 rfl ?_
      refine x_iload_n hC dX11_meets_40 rfl 2 rfl ?_
      refine x_iconst (v := (1 : Int32)) hC dX11_meets_41 ki_1 ?_
      refine r_cV1 (as := [.int v2_24, .int (1 : Int32)]) (rest := []) hB dX11_meets_42 kv_X11_104 th_257 hq1 rfl rfl (Nat.le_of_ble_eq_true rfl) (fun v hv => f_X11_has_met hB.2 (by omega) hv) (fun u42_24 => ?_)
      refine x_if_ne (tgt := 50) hC dX11_meets_45 (by decide) ?_ ?_
      · refine x_iconst (v := (-1 : Int32)) hC dX11_meets_48 ki_m1 ?_
        exact r_retI hR dX11_meets_49 (fun h => h)
      · refine x_aload_n hC dX11_meets_50 rfl 0 rfl ?_
        refine x_iload_n hC dX11_meets_51 rfl 1 rfl ?_
        refine r_cV1 (as := [.int v1_24]) (rest := []) hB dX11_meets_52 kv_X11_111 th_257 hq1 rfl rfl (Nat.le_of_ble_eq_true rfl) (fun v hv => f_X11_standsAt_met hB.2 (by omega) hv) (fun u52_24 => ?_)
        refine x_aload_n hC dX11_meets_55 rfl 0 rfl ?_
        refine x_iload_n hC dX11_meets_56 rfl 2 rfl ?_
        refine r_cV1 (as := [.int v2_24]) (rest := [.int u52_24]) hB dX11_meets_57 kv_X11_111 th_257 hq1 rfl rfl (Nat.le_of_ble_eq_true rfl) (fun v hv => f_X11_standsAt_met hB.2 (by omega) hv) (fun u57_24 => ?_)
        refine x_icmp_ne (tgt := 65) hC dX11_meets_60 (by decide) ?_ ?_
        · refine x_iload_n hC dX11_meets_63 rfl 3 rfl ?_
          exact r_retI hR dX11_meets_64 (fun h => h)
        · refine x_aload_n hC dX11_meets_65 rfl 0 rfl ?_
          refine x_iload_n hC dX11_meets_66 rfl 1 rfl ?_
          refine r_cVv (as := [.int v1_24]) (rest := []) hB dX11_meets_67 kv_X11_331 th_257 hq1 rfl rfl (Nat.le_of_ble_eq_true rfl) (fun M' hv => f_X11_goesAlone_met hB.2 (by omega) hv) (fun M67_24 => ?_)
          refine x_aload_n hC dX11_meets_70 rfl 0 rfl ?_
          refine x_iload_n hC dX11_meets_71 rfl 2 rfl ?_
          refine r_cVv (as := [.int v2_24]) (rest := []) hB dX11_meets_72 kv_X11_331 th_257 hq1 rfl rfl (Nat.le_of_ble_eq_true rfl) (fun M' hv => f_X11_goesAlone_met hB.2 (by omega) hv) (fun M72_24 => ?_)
          refine x_iinc hC dX11_meets_75 ki_1 [(3, .int (v3_24 + (1 : Int32))), (0, zr w 257), (1, .int v1_24), (2, .int v2_24)] 3 rfl (by decide) rfl ?_
          refine x_goto (tgt := 24) hC dX11_meets_78 (by decide) ?_
          refine x_sub [1, 2, 3, 0] rfl ?_
          exact x_done (fun h => h)
noncomputable def j_X11_meets_81 (M : zM) : Option (Int32 × zM) :=
  some ((-1 : Int32), M)
set_option maxRecDepth 100000 in
theorem j_X11_meets_81_ok {C : zC} {d : Nat} {g : zG} {l : Launch} {w : zW} {r : Int32 × zM} (hB : bOK C cX11_meets 4 RX11 d g l w false) (hd : 4 ≤ d) (M : zM) (hR : RtI C cX11_meets w r.1 r.2) : Sg C w (0, 0) 81 [] [] M (j_X11_meets_81 M) (fun q => q = r) := by
  have hC := hB.1.1
  have hq1 : 1 ≤ d := by omega
  unfold j_X11_meets_81
  refine x_iconst (v := (-1 : Int32)) hC dX11_meets_81 ki_m1 ?_
  exact r_retI hR dX11_meets_82 (fun h => h)
noncomputable def f_X11_meets (p1 : Int32) (p2 : Int32) (M : zM) : Option (Int32 × zM) :=
  (f_X11_isWalker p1 M).bind fun u2 =>
  if u2 = 0 then (some ((-1 : Int32), M))
  else ((f_X11_isWalker p2 M).bind fun u10 =>
  if u10 = 0 then (some ((-1 : Int32), M))
  else ((f_X11_take M).bind fun M19 =>
  (loopW (fun s => b_X11_meets_24 p1 p2 s.1 s.2) ((0 : Int32), M19)).bind (fun q => Sum.elim (fun r => j_X11_meets_81 r) some q)))
set_option maxRecDepth 100000 in
theorem f_X11_meets_ok {C : zC} {d : Nat} {g : zG} {l : Launch} {w : zW} {r : Int32 × zM} {p1 : Int32} {p2 : Int32} (hB : bOK C cX11_meets 4 RX11 d g l w false) (hd : 4 ≤ d) (M : zM) (hR : RtI C cX11_meets w r.1 r.2) : Sg C w (0, 0) 0 [(0, zr w 257), (1, .int p1), (2, .int p2)] [] M (f_X11_meets p1 p2 M) (fun q => q = r) := by
  have hC := hB.1.1
  have hq1 : 1 ≤ d := by omega
  unfold f_X11_meets
  refine x_aload_n hC dX11_meets_0 rfl 0 rfl ?_
  refine x_iload_n hC dX11_meets_1 rfl 1 rfl ?_
  refine r_cV1 (as := [.int p1]) (rest := []) hB dX11_meets_2 kv_X11_322 th_257 hq1 rfl rfl (Nat.le_of_ble_eq_true rfl) (fun v hv => f_X11_isWalker_met hB.2 (by omega) hv) (fun u2 => ?_)
  refine x_if_eq (tgt := 16) hC dX11_meets_5 (by decide) ?_ ?_
  · refine x_iconst (v := (-1 : Int32)) hC dX11_meets_16 ki_m1 ?_
    exact r_retI hR dX11_meets_17 (fun h => h)
  · refine x_aload_n hC dX11_meets_8 rfl 0 rfl ?_
    refine x_iload_n hC dX11_meets_9 rfl 2 rfl ?_
    refine r_cV1 (as := [.int p2]) (rest := []) hB dX11_meets_10 kv_X11_322 th_257 hq1 rfl rfl (Nat.le_of_ble_eq_true rfl) (fun v hv => f_X11_isWalker_met hB.2 (by omega) hv) (fun u10 => ?_)
    refine x_if_ne (tgt := 18) hC dX11_meets_13 (by decide) ?_ ?_
    · refine x_iconst (v := (-1 : Int32)) hC dX11_meets_16 ki_m1 ?_
      exact r_retI hR dX11_meets_17 (fun h => h)
    · refine x_aload_n hC dX11_meets_18 rfl 0 rfl ?_
      refine r_cVv (as := []) (rest := []) hB dX11_meets_19 kv_X11_328 th_257 hq1 rfl rfl (Nat.le_of_ble_eq_true rfl) (fun M' hv => f_X11_take_met hB.2 (by omega) hv) (fun M19 => ?_)
      refine x_iconst (v := (0 : Int32)) hC dX11_meets_22 ki_0 ?_
      refine x_istore_n hC dX11_meets_23 rfl [(3, .int (0 : Int32)), (0, zr w 257), (1, .int p1), (2, .int p2)] (by decide) rfl ?_
      refine x_sub [1, 2, 3, 0] rfl ?_
      refine x_loopR (pc2 := 81) (fun (s : (Int32 × zM)) => [(0, zr w 257), (1, .int p1), (2, .int p2), (3, .int s.1)]) (fun (s : (Int32 × zM)) => s.2) (fun (s : (zM)) => []) (fun (s : (zM)) => s) ((0 : Int32), M19) ?_ ?_
      · exact fun s => b_X11_meets_24_ok hB hd s.2 hR
      · intro r9
        exact j_X11_meets_81_ok hB hd r9 hR
theorem f_X11_meets_met {l : Launch} {d : Nat} {g : zG} {w : zW} {M0 : zM} {p1 : Int32} {p2 : Int32} {M : zM} (hw : wS w) (hd : 4 ≤ d) {v : Int32} {M' : zM} (h : f_X11_meets p1 p2 M = some (v, M')) : zMet l yX11_meets cX11_meets 4 (some .int) d g w (zin false) M0 [zr w 257, .int p1, .int p2] M (some (.int v)) M' :=
  met_i (by decide +kernel) (Nat.le_of_ble_eq_true rfl) rfl (fun C hB0 hR => f_X11_meets_ok (r := (v, M')) ⟨hB0, hw⟩ hd M hR _ h rfl)
/-! WindingSquareModel.straightOn(I)V -/
noncomputable def j_X11_straightOn_109_2_10 (v1_2 : Int32) (v2_10_2 : Int32) (v3_109_2_10 : Int32) (M : zM) : Option ((Int32 × zM) ⊕ (zM)) :=
  some (.inl ((v3_109_2_10 + (1 : Int32)), M))
set_option maxRecDepth 100000 in
theorem j_X11_straightOn_109_2_10_ok {C : zC} {d : Nat} {g : zG} {l : Launch} {w : zW} {r : zM} {v1_2 : Int32} {v2_10_2 : Int32} {v3_109_2_10 : Int32} (hB : bOK C cX11_straightOn 6 RX11 d g l w false) (hd : 4 ≤ d) (M : zM) (hR : RtV C cX11_straightOn w r) : Sg C w (0, 0) 109 [(0, zr w 257), (1, .int v1_2), (2, .int v2_10_2), (3, .int v3_109_2_10)] [] M (j_X11_straightOn_109_2_10 v1_2 v2_10_2 v3_109_2_10 M) (fun o => Sum.elim (fun (s : (Int32 × zM)) => Zs C w (0, 0) 10 [(0, zr w 257), (1, .int v1_2), (2, .int v2_10_2), (3, .int s.1)] [] s.2) (fun (s : (zM)) => Zs C w (0, 0) 115 [(0, zr w 257), (1, .int v1_2), (2, .int v2_10_2)] [] s) o) := by
  have hC := hB.1.1
  have hq1 : 1 ≤ d := by omega
  unfold j_X11_straightOn_109_2_10
  refine x_iinc hC dX11_straightOn_109 ki_1 [(3, .int (v3_109_2_10 + (1 : Int32))), (0, zr w 257), (1, .int v1_2), (2, .int v2_10_2)] 3 rfl (by decide) rfl ?_
  refine x_goto (tgt := 10) hC dX11_straightOn_112 (by decide) ?_
  refine x_sub [1, 2, 3, 0] rfl ?_
  exact x_done (fun h => h)
noncomputable def j_X11_straightOn_44_2_10 (v1_2 : Int32) (v2_10_2 : Int32) (v3_44_2_10 : Int32) (s0_44_2_10 : Int32) (M : zM) : Option ((Int32 × zM) ⊕ (zM)) :=
  if s0_44_2_10 = (-1 : Int32) then (j_X11_straightOn_109_2_10 v1_2 v2_10_2 v3_44_2_10 M)
  else (grd (inb (((v1_2 * (576 : Int32)) + ((4 : Int32) * s0_44_2_10)) + (irem v3_44_2_10 (4 : Int32))) 4032) (
  nm ((M 267 (ix (((v1_2 * (576 : Int32)) + ((4 : Int32) * s0_44_2_10)) + (irem v3_44_2_10 (4 : Int32))))) + (1 : Int32)) fun v5_76_2_10 =>
  grd (inb ((v1_2 * (576 : Int32)) + v3_44_2_10) 4032) (
  if (M 267 (ix ((v1_2 * (576 : Int32)) + v3_44_2_10))) ≤ v5_76_2_10 then (j_X11_straightOn_109_2_10 v1_2 v2_10_2 v3_44_2_10 M)
  else (grd (inb ((v1_2 * (576 : Int32)) + v3_44_2_10) 4032) (
  nm (mset M 267 (ix ((v1_2 * (576 : Int32)) + v3_44_2_10)) v5_76_2_10) fun M108_2_10 =>
  j_X11_straightOn_109_2_10 v1_2 v2_10_2 v3_44_2_10 M108_2_10)))))
set_option maxRecDepth 100000 in
theorem j_X11_straightOn_44_2_10_ok {C : zC} {d : Nat} {g : zG} {l : Launch} {w : zW} {r : zM} {v1_2 : Int32} {v2_10_2 : Int32} {v3_44_2_10 : Int32} {s0_44_2_10 : Int32} (hB : bOK C cX11_straightOn 6 RX11 d g l w false) (hd : 4 ≤ d) (M : zM) (hR : RtV C cX11_straightOn w r) : Sg C w (0, 0) 44 [(0, zr w 257), (1, .int v1_2), (2, .int v2_10_2), (3, .int v3_44_2_10)] [.int s0_44_2_10] M (j_X11_straightOn_44_2_10 v1_2 v2_10_2 v3_44_2_10 s0_44_2_10 M) (fun o => Sum.elim (fun (s : (Int32 × zM)) => Zs C w (0, 0) 10 [(0, zr w 257), (1, .int v1_2), (2, .int v2_10_2), (3, .int s.1)] [] s.2) (fun (s : (zM)) => Zs C w (0, 0) 115 [(0, zr w 257), (1, .int v1_2), (2, .int v2_10_2)] [] s) o) := by
  have hC := hB.1.1
  have hq1 : 1 ≤ d := by omega
  unfold j_X11_straightOn_44_2_10
  refine x_istore (f := 0) hC dX11_straightOn_44 [(4, .int s0_44_2_10), (0, zr w 257), (1, .int v1_2), (2, .int v2_10_2), (3, .int v3_44_2_10)] (by decide) rfl ?_
  refine x_iload hC dX11_straightOn_46 0 rfl ?_
  refine x_iconst (v := (-1 : Int32)) hC dX11_straightOn_48 ki_m1 ?_
  refine x_icmp_ne (tgt := 55) hC dX11_straightOn_49 (by decide) ?_ ?_
  · refine x_goto (tgt := 109) hC dX11_straightOn_52 (by decide) ?_
    refine x_sub [1, 2, 3, 4] rfl ?_
    exact j_X11_straightOn_109_2_10_ok hB hd M hR
  · refine x_aload_n hC dX11_straightOn_55 rfl 1 rfl ?_
    refine r_getR hB dX11_straightOn_56 kf_X11_41 rfl th_257 rf_257_22 ?_
    refine x_iload_n hC dX11_straightOn_59 rfl 2 rfl ?_
    refine x_sipush (v := (576 : Int32)) hC dX11_straightOn_60 kh_576 ?_
    refine x_imul hC dX11_straightOn_63 ?_
    refine x_iconst (v := (4 : Int32)) hC dX11_straightOn_64 ki_4 ?_
    refine x_iload hC dX11_straightOn_65 0 rfl ?_
    refine x_imul hC dX11_straightOn_67 ?_
    refine x_iadd hC dX11_straightOn_68 ?_
    refine x_iload_n hC dX11_straightOn_69 rfl 4 rfl ?_
    refine x_iconst (v := (4 : Int32)) hC dX11_straightOn_70 ki_4 ?_
    refine x_irem0 hC dX11_straightOn_71 nz_4 ?_
    refine x_iadd hC dX11_straightOn_72 ?_
    refine r_iald hB dX11_straightOn_73 th_267 ?_
    refine x_iconst (v := (1 : Int32)) hC dX11_straightOn_74 ki_1 ?_
    refine x_iadd hC dX11_straightOn_75 ?_
    refine x_top (fun v5_76_2_10 => ?_)
    refine x_istore (f := 0) hC dX11_straightOn_76 [(5, .int v5_76_2_10), (4, .int s0_44_2_10), (0, zr w 257), (1, .int v1_2), (2, .int v2_10_2), (3, .int v3_44_2_10)] (by decide) rfl ?_
    refine x_iload hC dX11_straightOn_78 0 rfl ?_
    refine x_aload_n hC dX11_straightOn_80 rfl 2 rfl ?_
    refine r_getR hB dX11_straightOn_81 kf_X11_41 rfl th_257 rf_257_22 ?_
    refine x_iload_n hC dX11_straightOn_84 rfl 3 rfl ?_
    refine x_sipush (v := (576 : Int32)) hC dX11_straightOn_85 kh_576 ?_
    refine x_imul hC dX11_straightOn_88 ?_
    refine x_iload_n hC dX11_straightOn_89 rfl 5 rfl ?_
    refine x_iadd hC dX11_straightOn_90 ?_
    refine r_iald hB dX11_straightOn_91 th_267 ?_
    refine x_icmp_ge (tgt := 109) hC dX11_straightOn_92 (by decide) ?_ ?_
    · refine x_sub [2, 3, 4, 5] rfl ?_
      exact j_X11_straightOn_109_2_10_ok hB hd M hR
    · refine x_aload_n hC dX11_straightOn_95 rfl 2 rfl ?_
      refine r_getR hB dX11_straightOn_96 kf_X11_41 rfl th_257 rf_257_22 ?_
      refine x_iload_n hC dX11_straightOn_99 rfl 3 rfl ?_
      refine x_sipush (v := (576 : Int32)) hC dX11_straightOn_100 kh_576 ?_
      refine x_imul hC dX11_straightOn_103 ?_
      refine x_iload_n hC dX11_straightOn_104 rfl 5 rfl ?_
      refine x_iadd hC dX11_straightOn_105 ?_
      refine x_iload hC dX11_straightOn_106 0 rfl ?_
      refine r_iast hB dX11_straightOn_108 th_267 ?_
      refine x_mem (fun M108_2_10 => ?_)
      refine x_sub [2, 3, 4, 5] rfl ?_
      exact j_X11_straightOn_109_2_10_ok hB hd M108_2_10 hR
noncomputable def b_X11_straightOn_10_2 (v1_2 : Int32) (v2_10_2 : Int32) (v3_10_2 : Int32) (M : zM) : Option ((Int32 × zM) ⊕ (zM)) :=
  if (576 : Int32) ≤ v3_10_2 then (some (.inr M))
  else (grd (inb (v3_10_2 / (4 : Int32)) 2425) (
  if (M 258 (ix (v3_10_2 / (4 : Int32)))) = (1 : Int32) then (j_X11_straightOn_44_2_10 v1_2 v2_10_2 v3_10_2 (-1 : Int32) M)
  else ((f_X11_onBy (v3_10_2 / (4 : Int32)) (irem v3_10_2 (4 : Int32)) (-1 : Int32) M).bind fun u41_2_10 =>
  j_X11_straightOn_44_2_10 v1_2 v2_10_2 v3_10_2 u41_2_10 M)))
set_option maxRecDepth 100000 in
theorem b_X11_straightOn_10_2_ok {C : zC} {d : Nat} {g : zG} {l : Launch} {w : zW} {r : zM} {v1_2 : Int32} {v2_10_2 : Int32} {v3_10_2 : Int32} (hB : bOK C cX11_straightOn 6 RX11 d g l w false) (hd : 4 ≤ d) (M : zM) (hR : RtV C cX11_straightOn w r) : Sg C w (0, 0) 10 [(0, zr w 257), (1, .int v1_2), (2, .int v2_10_2), (3, .int v3_10_2)] [] M (b_X11_straightOn_10_2 v1_2 v2_10_2 v3_10_2 M) (fun o => Sum.elim (fun (s : (Int32 × zM)) => Zs C w (0, 0) 10 [(0, zr w 257), (1, .int v1_2), (2, .int v2_10_2), (3, .int s.1)] [] s.2) (fun (s : (zM)) => Zs C w (0, 0) 115 [(0, zr w 257), (1, .int v1_2), (2, .int v2_10_2)] [] s) o) := by
  have hC := hB.1.1
  have hq1 : 1 ≤ d := by omega
  unfold b_X11_straightOn_10_2
  refine x_iload_n hC dX11_straightOn_10 rfl 3 rfl ?_
  refine x_sipush (v := (576 : Int32)) hC dX11_straightOn_11 kh_576 ?_
  refine x_icmp_ge (tgt := 115) hC dX11_straightOn_14 (by decide) ?_ ?_
  · refine x_sub [0, 1, 2] rfl ?_
    exact x_done (fun h => h)
  · refine x_aload_n hC dX11_straightOn_17 rfl 0 rfl ?_
    refine r_getR hB dX11_straightOn_18 kf_X11_9 rfl th_257 rf_257_0 ?_
    refine x_iload_n hC dX11_straightOn_21 rfl 3 rfl ?_
    refine x_iconst (v := (4 : Int32)) hC dX11_straightOn_22 ki_4 ?_
    refine x_idiv0 hC dX11_straightOn_23 nz_4 ?_
    refine r_iald hB dX11_straightOn_24 th_258 ?_
    refine x_iconst (v := (1 : Int32)) hC dX11_straightOn_25 ki_1 ?_
    refine x_icmp_ne (tgt := 33) hC dX11_straightOn_26 (by decide) ?_ ?_
    · refine x_iconst (v := (-1 : Int32)) hC dX11_straightOn_29 ki_m1 ?_
      refine x_goto (tgt := 44) hC dX11_straightOn_30 (by decide) ?_
      exact j_X11_straightOn_44_2_10_ok hB hd M hR
    · refine x_aload_n hC dX11_straightOn_33 rfl 0 rfl ?_
      refine x_iload_n hC dX11_straightOn_34 rfl 3 rfl ?_
      refine x_iconst (v := (4 : Int32)) hC dX11_straightOn_35 ki_4 ?_
      refine x_idiv0 hC dX11_straightOn_36 nz_4 ?_
      refine x_iload_n hC dX11_straightOn_37 rfl 3 rfl ?_
      refine x_iconst (v := (4 : Int32)) hC dX11_straightOn_38 ki_4 ?_
      refine x_irem0 hC dX11_straightOn_39 nz_4 ?_
      refine x_iconst (v := (-1 : Int32)) hC dX11_straightOn_40 ki_m1 ?_
      refine r_cV1 (as := [.int (v3_10_2 / (4 : Int32)), .int (irem v3_10_2 (4 : Int32)), .int (-1 : Int32)]) (rest := []) hB dX11_straightOn_41 kv_X11_334 th_257 hq1 rfl rfl (Nat.le_of_ble_eq_true rfl) (fun v hv => f_X11_onBy_met hB.2 (by omega) hv) (fun u41_2_10 => ?_)
      exact j_X11_straightOn_44_2_10_ok hB hd M hR
noncomputable def j_X11_straightOn_115_2 (v1_2 : Int32) (v2_115_2 : Int32) (M : zM) : Option ((Int32 × zM) ⊕ (zM)) :=
  some (.inl ((v2_115_2 + (1 : Int32)), M))
set_option maxRecDepth 100000 in
theorem j_X11_straightOn_115_2_ok {C : zC} {d : Nat} {g : zG} {l : Launch} {w : zW} {r : zM} {v1_2 : Int32} {v2_115_2 : Int32} (hB : bOK C cX11_straightOn 6 RX11 d g l w false) (hd : 4 ≤ d) (M : zM) (hR : RtV C cX11_straightOn w r) : Sg C w (0, 0) 115 [(0, zr w 257), (1, .int v1_2), (2, .int v2_115_2)] [] M (j_X11_straightOn_115_2 v1_2 v2_115_2 M) (fun o => Sum.elim (fun (s : (Int32 × zM)) => Zs C w (0, 0) 2 [(0, zr w 257), (1, .int v1_2), (2, .int s.1)] [] s.2) (fun (s : (zM)) => Zs C w (0, 0) 121 [] [] s) o) := by
  have hC := hB.1.1
  have hq1 : 1 ≤ d := by omega
  unfold j_X11_straightOn_115_2
  refine x_iinc hC dX11_straightOn_115 ki_1 [(2, .int (v2_115_2 + (1 : Int32))), (0, zr w 257), (1, .int v1_2)] 2 rfl (by decide) rfl ?_
  refine x_goto (tgt := 2) hC dX11_straightOn_118 (by decide) ?_
  refine x_sub [1, 2, 0] rfl ?_
  exact x_done (fun h => h)
noncomputable def b_X11_straightOn_2 (v1_2 : Int32) (v2_2 : Int32) (M : zM) : Option ((Int32 × zM) ⊕ (zM)) :=
  if (12 : Int32) ≤ v2_2 then (some (.inr M))
  else ((loopW (fun s => b_X11_straightOn_10_2 v1_2 v2_2 s.1 s.2) ((0 : Int32), M)).bind (fun r => j_X11_straightOn_115_2 v1_2 v2_2 r))
set_option maxRecDepth 100000 in
theorem b_X11_straightOn_2_ok {C : zC} {d : Nat} {g : zG} {l : Launch} {w : zW} {r : zM} {v1_2 : Int32} {v2_2 : Int32} (hB : bOK C cX11_straightOn 6 RX11 d g l w false) (hd : 4 ≤ d) (M : zM) (hR : RtV C cX11_straightOn w r) : Sg C w (0, 0) 2 [(0, zr w 257), (1, .int v1_2), (2, .int v2_2)] [] M (b_X11_straightOn_2 v1_2 v2_2 M) (fun o => Sum.elim (fun (s : (Int32 × zM)) => Zs C w (0, 0) 2 [(0, zr w 257), (1, .int v1_2), (2, .int s.1)] [] s.2) (fun (s : (zM)) => Zs C w (0, 0) 121 [] [] s) o) := by
  have hC := hB.1.1
  have hq1 : 1 ≤ d := by omega
  unfold b_X11_straightOn_2
  refine x_iload_n hC dX11_straightOn_2 rfl 2 rfl ?_
  refine x_bipush (v := (12 : Int32)) hC dX11_straightOn_3 kb_12 ?_
  refine x_icmp_ge (tgt := 121) hC dX11_straightOn_5 (by decide) ?_ ?_
  · refine x_sub [] rfl ?_
    exact x_done (fun h => h)
  · refine x_iconst (v := (0 : Int32)) hC dX11_straightOn_8 ki_0 ?_
    refine x_istore_n hC dX11_straightOn_9 rfl [(3, .int (0 : Int32)), (0, zr w 257), (1, .int v1_2), (2, .int v2_2)] (by decide) rfl ?_
    refine x_sub [1, 2, 3, 0] rfl ?_
    refine x_loopB (pc2 := 115) (fun (s : (Int32 × zM)) => [(0, zr w 257), (1, .int v1_2), (2, .int v2_2), (3, .int s.1)]) (fun (s : (Int32 × zM)) => s.2) (fun (s : (zM)) => [(0, zr w 257), (1, .int v1_2), (2, .int v2_2)]) (fun (s : (zM)) => s) ((0 : Int32), M) ?_ ?_
    · exact fun s => b_X11_straightOn_10_2_ok hB hd s.2 hR
    · intro r9
      exact j_X11_straightOn_115_2_ok hB hd r9 hR
noncomputable def j_X11_straightOn_121 (M : zM) : Option (zM) :=
  some M
set_option maxRecDepth 100000 in
theorem j_X11_straightOn_121_ok {C : zC} {d : Nat} {g : zG} {l : Launch} {w : zW} {r : zM} (hB : bOK C cX11_straightOn 6 RX11 d g l w false) (hd : 4 ≤ d) (M : zM) (hR : RtV C cX11_straightOn w r) : Sg C w (0, 0) 121 [] [] M (j_X11_straightOn_121 M) (fun q => q = r) := by
  have hC := hB.1.1
  have hq1 : 1 ≤ d := by omega
  unfold j_X11_straightOn_121
  exact r_retV hR dX11_straightOn_121 (fun h => h)
noncomputable def f_X11_straightOn (p1 : Int32) (M : zM) : Option (zM) :=
  (loopW (fun s => b_X11_straightOn_2 p1 s.1 s.2) ((1 : Int32), M)).bind (fun r => j_X11_straightOn_121 r)
set_option maxRecDepth 100000 in
theorem f_X11_straightOn_ok {C : zC} {d : Nat} {g : zG} {l : Launch} {w : zW} {r : zM} {p1 : Int32} (hB : bOK C cX11_straightOn 6 RX11 d g l w false) (hd : 4 ≤ d) (M : zM) (hR : RtV C cX11_straightOn w r) : Sg C w (0, 0) 0 [(0, zr w 257), (1, .int p1)] [] M (f_X11_straightOn p1 M) (fun q => q = r) := by
  have hC := hB.1.1
  have hq1 : 1 ≤ d := by omega
  unfold f_X11_straightOn
  refine x_iconst (v := (1 : Int32)) hC dX11_straightOn_0 ki_1 ?_
  refine x_istore_n hC dX11_straightOn_1 rfl [(2, .int (1 : Int32)), (0, zr w 257), (1, .int p1)] (by decide) rfl ?_
  refine x_sub [1, 2, 0] rfl ?_
  refine x_loopB (pc2 := 121) (fun (s : (Int32 × zM)) => [(0, zr w 257), (1, .int p1), (2, .int s.1)]) (fun (s : (Int32 × zM)) => s.2) (fun (s : (zM)) => []) (fun (s : (zM)) => s) ((1 : Int32), M) ?_ ?_
  · exact fun s => b_X11_straightOn_2_ok hB hd s.2 hR
  · intro r9
    exact j_X11_straightOn_121_ok hB hd r9 hR
theorem f_X11_straightOn_met {l : Launch} {d : Nat} {g : zG} {w : zW} {M0 : zM} {p1 : Int32} {M : zM} (hw : wS w) (hd : 4 ≤ d) {M' : zM} (h : f_X11_straightOn p1 M = some M') : zMet l yX11_straightOn cX11_straightOn 6 none d g w (zin false) M0 [zr w 257, .int p1] M none M' :=
  met_v (by decide +kernel) (Nat.le_of_ble_eq_true rfl) (fun C hB0 hR => f_X11_straightOn_ok ⟨hB0, hw⟩ hd M hR _ h rfl)
/-! WindingSquareModel.layFar(II)V -/
noncomputable def j_X11_layFar_30_2 (v1_2 : Int32) (v2_2 : Int32) (v3_30_2 : Int32) (s1_30_2 : Int32) (s2_30_2 : Int32) (M : zM) : Option ((Int32 × zM) ⊕ (zM)) :=
  grd (inb s1_30_2 576) (
  nm (mset M 268 (ix s1_30_2) s2_30_2) fun M30_2 =>
  some (.inl ((v3_30_2 + (1 : Int32)), M30_2)))
set_option maxRecDepth 100000 in
theorem j_X11_layFar_30_2_ok {C : zC} {d : Nat} {g : zG} {l : Launch} {w : zW} {r : zM} {v1_2 : Int32} {v2_2 : Int32} {v3_30_2 : Int32} {s1_30_2 : Int32} {s2_30_2 : Int32} (hB : bOK C cX11_layFar 9 RX11 d g l w false) (hd : 4 ≤ d) (M : zM) (hR : RtV C cX11_layFar w r) : Sg C w (0, 0) 30 [(0, zr w 257), (1, .int v1_2), (2, .int v2_2), (3, .int v3_30_2)] [.int s2_30_2, .int s1_30_2, zr w 268] M (j_X11_layFar_30_2 v1_2 v2_2 v3_30_2 s1_30_2 s2_30_2 M) (fun o => Sum.elim (fun (s : (Int32 × zM)) => Zs C w (0, 0) 2 [(0, zr w 257), (1, .int v1_2), (2, .int v2_2), (3, .int s.1)] [] s.2) (fun (s : (zM)) => Zs C w (0, 0) 37 [(0, zr w 257)] [] s) o) := by
  have hC := hB.1.1
  have hq1 : 1 ≤ d := by omega
  unfold j_X11_layFar_30_2
  refine r_iast hB dX11_layFar_30 th_268 ?_
  refine x_mem (fun M30_2 => ?_)
  refine x_iinc hC dX11_layFar_31 ki_1 [(3, .int (v3_30_2 + (1 : Int32))), (0, zr w 257), (1, .int v1_2), (2, .int v2_2)] 3 rfl (by decide) rfl ?_
  refine x_goto (tgt := 2) hC dX11_layFar_34 (by decide) ?_
  refine x_sub [1, 2, 3, 0] rfl ?_
  exact x_done (fun h => h)
noncomputable def b_X11_layFar_2 (v1_2 : Int32) (v2_2 : Int32) (v3_2 : Int32) (M : zM) : Option ((Int32 × zM) ⊕ (zM)) :=
  if (576 : Int32) ≤ v3_2 then (some (.inr M))
  else (if v3_2 = (((4 : Int32) * v1_2) + v2_2) then (j_X11_layFar_30_2 v1_2 v2_2 v3_2 v3_2 (0 : Int32) M)
  else (j_X11_layFar_30_2 v1_2 v2_2 v3_2 v3_2 (9999 : Int32) M))
set_option maxRecDepth 100000 in
theorem b_X11_layFar_2_ok {C : zC} {d : Nat} {g : zG} {l : Launch} {w : zW} {r : zM} {v1_2 : Int32} {v2_2 : Int32} {v3_2 : Int32} (hB : bOK C cX11_layFar 9 RX11 d g l w false) (hd : 4 ≤ d) (M : zM) (hR : RtV C cX11_layFar w r) : Sg C w (0, 0) 2 [(0, zr w 257), (1, .int v1_2), (2, .int v2_2), (3, .int v3_2)] [] M (b_X11_layFar_2 v1_2 v2_2 v3_2 M) (fun o => Sum.elim (fun (s : (Int32 × zM)) => Zs C w (0, 0) 2 [(0, zr w 257), (1, .int v1_2), (2, .int v2_2), (3, .int s.1)] [] s.2) (fun (s : (zM)) => Zs C w (0, 0) 37 [(0, zr w 257)] [] s) o) := by
  have hC := hB.1.1
  have hq1 : 1 ≤ d := by omega
  unfold b_X11_layFar_2
  refine x_iload_n hC dX11_layFar_2 rfl 3 rfl ?_
  refine x_sipush (v := (576 : Int32)) hC dX11_layFar_3 kh_576 ?_
  refine x_icmp_ge (tgt := 37) hC dX11_layFar_6 (by decide) ?_ ?_
  · refine x_sub [0] rfl ?_
    exact x_done (fun h => h)
  · refine x_aload_n hC dX11_layFar_9 rfl 0 rfl ?_
    refine r_getR hB dX11_layFar_10 kf_X11_44 rfl th_257 rf_257_23 ?_
    refine x_iload_n hC dX11_layFar_13 rfl 3 rfl ?_
    refine x_iload_n hC dX11_layFar_14 rfl 3 rfl ?_
    refine x_iconst (v := (4 : Int32)) hC dX11_layFar_15 ki_4 ?_
    refine x_iload_n hC dX11_layFar_16 rfl 1 rfl ?_
    refine x_imul hC dX11_layFar_17 ?_
    refine x_iload_n hC dX11_layFar_18 rfl 2 rfl ?_
    refine x_iadd hC dX11_layFar_19 ?_
    refine x_icmp_ne (tgt := 27) hC dX11_layFar_20 (by decide) ?_ ?_
    · refine x_iconst (v := (0 : Int32)) hC dX11_layFar_23 ki_0 ?_
      refine x_goto (tgt := 30) hC dX11_layFar_24 (by decide) ?_
      exact j_X11_layFar_30_2_ok hB hd M hR
    · refine x_sipush (v := (9999 : Int32)) hC dX11_layFar_27 kh_9999 ?_
      exact j_X11_layFar_30_2_ok hB hd M hR
noncomputable def j_X11_layFar_195_42_51_138 (v3_138_42_51 : Int32) (v4_51_42 : Int32) (v5_138_42_51 : Int32) (v7_195_42_51_138 : Int32) (s1_195_42_51_138 : Int32) (s2_195_42_51_138 : Int32) (M : zM) : Option ((Int32 × zM) ⊕ (zM)) :=
  grd (inb s1_195_42_51_138 576) (
  nm (mset M 268 (ix s1_195_42_51_138) s2_195_42_51_138) fun M195_42_51_138 =>
  some (.inl ((v7_195_42_51_138 + (1 : Int32)), M195_42_51_138)))
set_option maxRecDepth 100000 in
theorem j_X11_layFar_195_42_51_138_ok {C : zC} {d : Nat} {g : zG} {l : Launch} {w : zW} {r : zM} {v4_51_42 : Int32} {v3_138_42_51 : Int32} {v5_138_42_51 : Int32} {v7_195_42_51_138 : Int32} {s1_195_42_51_138 : Int32} {s2_195_42_51_138 : Int32} (hB : bOK C cX11_layFar 9 RX11 d g l w false) (hd : 4 ≤ d) (M : zM) (hR : RtV C cX11_layFar w r) : Sg C w (0, 0) 195 [(0, zr w 257), (3, .int v3_138_42_51), (4, .int v4_51_42), (5, .int v5_138_42_51), (7, .int v7_195_42_51_138)] [.int s2_195_42_51_138, .int s1_195_42_51_138, zr w 268] M (j_X11_layFar_195_42_51_138 v3_138_42_51 v4_51_42 v5_138_42_51 v7_195_42_51_138 s1_195_42_51_138 s2_195_42_51_138 M) (fun o => Sum.elim (fun (s : (Int32 × zM)) => Zs C w (0, 0) 138 [(0, zr w 257), (3, .int v3_138_42_51), (4, .int v4_51_42), (5, .int v5_138_42_51), (7, .int s.1)] [] s.2) (fun (s : (zM)) => Zs C w (0, 0) 202 [(0, zr w 257), (3, .int v3_138_42_51), (4, .int v4_51_42), (5, .int v5_138_42_51)] [] s) o) := by
  have hC := hB.1.1
  have hq1 : 1 ≤ d := by omega
  unfold j_X11_layFar_195_42_51_138
  refine r_iast hB dX11_layFar_195 th_268 ?_
  refine x_mem (fun M195_42_51_138 => ?_)
  refine x_iinc hC dX11_layFar_196 ki_1 [(7, .int (v7_195_42_51_138 + (1 : Int32))), (0, zr w 257), (3, .int v3_138_42_51), (4, .int v4_51_42), (5, .int v5_138_42_51)] 4 rfl (by decide) rfl ?_
  refine x_goto (tgt := 138) hC dX11_layFar_199 (by decide) ?_
  refine x_sub [1, 2, 3, 4, 0] rfl ?_
  exact x_done (fun h => h)
noncomputable def b_X11_layFar_138_42_51 (v3_138_42_51 : Int32) (v4_51_42 : Int32) (v5_138_42_51 : Int32) (v7_138_42_51 : Int32) (M : zM) : Option ((Int32 × zM) ⊕ (zM)) :=
  if (2 : Int32) ≤ v7_138_42_51 then (some (.inr M))
  else (nm (((v5_138_42_51 / (4 : Int32)) * (4 : Int32)) + (f_X11_turned (irem v5_138_42_51 (4 : Int32)) v7_138_42_51)) fun v8_160_42_51_138 =>
  grd (inb v8_160_42_51_138 576) (
  if (M 268 (ix v8_160_42_51_138)) = (9999 : Int32) then (j_X11_layFar_195_42_51_138 v3_138_42_51 v4_51_42 v5_138_42_51 v7_138_42_51 v8_160_42_51_138 (v4_51_42 + (1 : Int32)) M)
  else (grd (inb v8_160_42_51_138 576) (
  j_X11_layFar_195_42_51_138 v3_138_42_51 v4_51_42 v5_138_42_51 v7_138_42_51 v8_160_42_51_138 (M 268 (ix v8_160_42_51_138)) M))))
set_option maxRecDepth 100000 in
theorem b_X11_layFar_138_42_51_ok {C : zC} {d : Nat} {g : zG} {l : Launch} {w : zW} {r : zM} {v4_51_42 : Int32} {v3_138_42_51 : Int32} {v5_138_42_51 : Int32} {v7_138_42_51 : Int32} (hB : bOK C cX11_layFar 9 RX11 d g l w false) (hd : 4 ≤ d) (M : zM) (hR : RtV C cX11_layFar w r) : Sg C w (0, 0) 138 [(0, zr w 257), (3, .int v3_138_42_51), (4, .int v4_51_42), (5, .int v5_138_42_51), (7, .int v7_138_42_51)] [] M (b_X11_layFar_138_42_51 v3_138_42_51 v4_51_42 v5_138_42_51 v7_138_42_51 M) (fun o => Sum.elim (fun (s : (Int32 × zM)) => Zs C w (0, 0) 138 [(0, zr w 257), (3, .int v3_138_42_51), (4, .int v4_51_42), (5, .int v5_138_42_51), (7, .int s.1)] [] s.2) (fun (s : (zM)) => Zs C w (0, 0) 202 [(0, zr w 257), (3, .int v3_138_42_51), (4, .int v4_51_42), (5, .int v5_138_42_51)] [] s) o) := by
  have hC := hB.1.1
  have hq1 : 1 ≤ d := by omega
  unfold b_X11_layFar_138_42_51
  refine x_iload hC dX11_layFar_138 4 rfl ?_
  refine x_iconst (v := (2 : Int32)) hC dX11_layFar_140 ki_2 ?_
  refine x_icmp_ge (tgt := 202) hC dX11_layFar_141 (by decide) ?_ ?_
  · refine x_sub [0, 1, 2, 3] rfl ?_
    exact x_done (fun h => h)
  · refine x_iload hC dX11_layFar_144 3 rfl ?_
    refine x_iconst (v := (4 : Int32)) hC dX11_layFar_146 ki_4 ?_
    refine x_idiv0 hC dX11_layFar_147 nz_4 ?_
    refine x_iconst (v := (4 : Int32)) hC dX11_layFar_148 ki_4 ?_
    refine x_imul hC dX11_layFar_149 ?_
    refine x_iload hC dX11_layFar_150 3 rfl ?_
    refine x_iconst (v := (4 : Int32)) hC dX11_layFar_152 ki_4 ?_
    refine x_irem0 hC dX11_layFar_153 nz_4 ?_
    refine x_iload hC dX11_layFar_154 4 rfl ?_
    refine r_cS0 (as := [.int (irem v5_138_42_51 (4 : Int32)), .int v7_138_42_51]) (rest := [.int ((v5_138_42_51 / (4 : Int32)) * (4 : Int32))]) hB dX11_layFar_156 ks_X11_263 hq1 rfl rfl (Nat.le_of_ble_eq_true rfl) (f_X11_turned_met hB.2 (by omega)) ?_
    refine x_iadd hC dX11_layFar_159 ?_
    refine x_top (fun v8_160_42_51_138 => ?_)
    refine x_istore (f := 0) hC dX11_layFar_160 [(8, .int v8_160_42_51_138), (0, zr w 257), (3, .int v3_138_42_51), (4, .int v4_51_42), (5, .int v5_138_42_51), (7, .int v7_138_42_51)] (by decide) rfl ?_
    refine x_aload_n hC dX11_layFar_162 rfl 1 rfl ?_
    refine r_getR hB dX11_layFar_163 kf_X11_44 rfl th_257 rf_257_23 ?_
    refine x_iload hC dX11_layFar_166 0 rfl ?_
    refine x_aload_n hC dX11_layFar_168 rfl 1 rfl ?_
    refine r_getR hB dX11_layFar_169 kf_X11_44 rfl th_257 rf_257_23 ?_
    refine x_iload hC dX11_layFar_172 0 rfl ?_
    refine r_iald hB dX11_layFar_174 th_268 ?_
    refine x_sipush (v := (9999 : Int32)) hC dX11_layFar_175 kh_9999 ?_
    refine x_icmp_ne (tgt := 188) hC dX11_layFar_178 (by decide) ?_ ?_
    · refine x_iload hC dX11_layFar_181 3 rfl ?_
      refine x_iconst (v := (1 : Int32)) hC dX11_layFar_183 ki_1 ?_
      refine x_iadd hC dX11_layFar_184 ?_
      refine x_goto (tgt := 195) hC dX11_layFar_185 (by decide) ?_
      refine x_sub [1, 2, 3, 4, 5] rfl ?_
      exact j_X11_layFar_195_42_51_138_ok hB hd M hR
    · refine x_aload_n hC dX11_layFar_188 rfl 1 rfl ?_
      refine r_getR hB dX11_layFar_189 kf_X11_44 rfl th_257 rf_257_23 ?_
      refine x_iload hC dX11_layFar_192 0 rfl ?_
      refine r_iald hB dX11_layFar_194 th_268 ?_
      refine x_sub [1, 2, 3, 4, 5] rfl ?_
      exact j_X11_layFar_195_42_51_138_ok hB hd M hR
noncomputable def j_X11_layFar_202_42_51 (v3_202_42_51 : Int32) (v4_51_42 : Int32) (v5_202_42_51 : Int32) (M : zM) : Option ((Int32 × Int32 × zM) ⊕ (Int32 × zM)) :=
  some (.inl (v3_202_42_51, (v5_202_42_51 + (1 : Int32)), M))
set_option maxRecDepth 100000 in
theorem j_X11_layFar_202_42_51_ok {C : zC} {d : Nat} {g : zG} {l : Launch} {w : zW} {r : zM} {v4_51_42 : Int32} {v3_202_42_51 : Int32} {v5_202_42_51 : Int32} (hB : bOK C cX11_layFar 9 RX11 d g l w false) (hd : 4 ≤ d) (M : zM) (hR : RtV C cX11_layFar w r) : Sg C w (0, 0) 202 [(0, zr w 257), (3, .int v3_202_42_51), (4, .int v4_51_42), (5, .int v5_202_42_51)] [] M (j_X11_layFar_202_42_51 v3_202_42_51 v4_51_42 v5_202_42_51 M) (fun o => Sum.elim (fun (s : (Int32 × Int32 × zM)) => Zs C w (0, 0) 51 [(0, zr w 257), (3, .int s.1), (4, .int v4_51_42), (5, .int s.2.1)] [] s.2.2) (fun (s : (Int32 × zM)) => Zs C w (0, 0) 208 [(0, zr w 257), (3, .int s.1), (4, .int v4_51_42)] [] s.2) o) := by
  have hC := hB.1.1
  have hq1 : 1 ≤ d := by omega
  unfold j_X11_layFar_202_42_51
  refine x_iinc hC dX11_layFar_202 ki_1 [(5, .int (v5_202_42_51 + (1 : Int32))), (0, zr w 257), (3, .int v3_202_42_51), (4, .int v4_51_42)] 3 rfl (by decide) rfl ?_
  refine x_goto (tgt := 51) hC dX11_layFar_205 (by decide) ?_
  refine x_sub [1, 2, 3, 0] rfl ?_
  exact x_done (fun h => h)
noncomputable def j_X11_layFar_135_42_51 (v3_135_42_51 : Int32) (v4_51_42 : Int32) (v5_135_42_51 : Int32) (M : zM) : Option ((Int32 × Int32 × zM) ⊕ (Int32 × zM)) :=
  (loopW (fun s => b_X11_layFar_138_42_51 v3_135_42_51 v4_51_42 v5_135_42_51 s.1 s.2) ((0 : Int32), M)).bind (fun r => j_X11_layFar_202_42_51 v3_135_42_51 v4_51_42 v5_135_42_51 r)
set_option maxRecDepth 100000 in
theorem j_X11_layFar_135_42_51_ok {C : zC} {d : Nat} {g : zG} {l : Launch} {w : zW} {r : zM} {v4_51_42 : Int32} {v3_135_42_51 : Int32} {v5_135_42_51 : Int32} (hB : bOK C cX11_layFar 9 RX11 d g l w false) (hd : 4 ≤ d) (M : zM) (hR : RtV C cX11_layFar w r) : Sg C w (0, 0) 135 [(0, zr w 257), (3, .int v3_135_42_51), (4, .int v4_51_42), (5, .int v5_135_42_51)] [] M (j_X11_layFar_135_42_51 v3_135_42_51 v4_51_42 v5_135_42_51 M) (fun o => Sum.elim (fun (s : (Int32 × Int32 × zM)) => Zs C w (0, 0) 51 [(0, zr w 257), (3, .int s.1), (4, .int v4_51_42), (5, .int s.2.1)] [] s.2.2) (fun (s : (Int32 × zM)) => Zs C w (0, 0) 208 [(0, zr w 257), (3, .int s.1), (4, .int v4_51_42)] [] s.2) o) := by
  have hC := hB.1.1
  have hq1 : 1 ≤ d := by omega
  unfold j_X11_layFar_135_42_51
  refine x_iconst (v := (0 : Int32)) hC dX11_layFar_135 ki_0 ?_
  refine x_istore (f := 0) hC dX11_layFar_136 [(7, .int (0 : Int32)), (0, zr w 257), (3, .int v3_135_42_51), (4, .int v4_51_42), (5, .int v5_135_42_51)] (by decide) rfl ?_
  refine x_sub [1, 2, 3, 4, 0] rfl ?_
  refine x_loopB (pc2 := 202) (fun (s : (Int32 × zM)) => [(0, zr w 257), (3, .int v3_135_42_51), (4, .int v4_51_42), (5, .int v5_135_42_51), (7, .int s.1)]) (fun (s : (Int32 × zM)) => s.2) (fun (s : (zM)) => [(0, zr w 257), (3, .int v3_135_42_51), (4, .int v4_51_42), (5, .int v5_135_42_51)]) (fun (s : (zM)) => s) ((0 : Int32), M) ?_ ?_
  · exact fun s => b_X11_layFar_138_42_51_ok hB hd s.2 hR
  · intro r9
    exact j_X11_layFar_202_42_51_ok hB hd r9 hR
noncomputable def b_X11_layFar_51_42 (v4_51_42 : Int32) (v3_51_42 : Int32) (v5_51_42 : Int32) (M : zM) : Option ((Int32 × Int32 × zM) ⊕ (Int32 × zM)) :=
  if (576 : Int32) ≤ v5_51_42 then (some (.inr (v3_51_42, M)))
  else (grd (inb v5_51_42 576) (
  if (M 268 (ix v5_51_42)) = v4_51_42 then ((f_X11_onBy (v5_51_42 / (4 : Int32)) (irem v5_51_42 (4 : Int32)) (1 : Int32) M).bind fun u86_42_51 =>
  if u86_42_51 = (-1 : Int32) then (j_X11_layFar_135_42_51 (1 : Int32) v4_51_42 v5_51_42 M)
  else (grd (inb (((4 : Int32) * u86_42_51) + (irem v5_51_42 (4 : Int32))) 576) (
  if (M 268 (ix (((4 : Int32) * u86_42_51) + (irem v5_51_42 (4 : Int32))))) = (9999 : Int32) then (grd (inb (((4 : Int32) * u86_42_51) + (irem v5_51_42 (4 : Int32))) 576) (
  nm (mset M 268 (ix (((4 : Int32) * u86_42_51) + (irem v5_51_42 (4 : Int32)))) (v4_51_42 + (1 : Int32))) fun M134_42_51 =>
  j_X11_layFar_135_42_51 (1 : Int32) v4_51_42 v5_51_42 M134_42_51))
  else (j_X11_layFar_135_42_51 (1 : Int32) v4_51_42 v5_51_42 M))))
  else (j_X11_layFar_202_42_51 v3_51_42 v4_51_42 v5_51_42 M)))
set_option maxRecDepth 100000 in
theorem b_X11_layFar_51_42_ok {C : zC} {d : Nat} {g : zG} {l : Launch} {w : zW} {r : zM} {v4_51_42 : Int32} {v3_51_42 : Int32} {v5_51_42 : Int32} (hB : bOK C cX11_layFar 9 RX11 d g l w false) (hd : 4 ≤ d) (M : zM) (hR : RtV C cX11_layFar w r) : Sg C w (0, 0) 51 [(0, zr w 257), (3, .int v3_51_42), (4, .int v4_51_42), (5, .int v5_51_42)] [] M (b_X11_layFar_51_42 v4_51_42 v3_51_42 v5_51_42 M) (fun o => Sum.elim (fun (s : (Int32 × Int32 × zM)) => Zs C w (0, 0) 51 [(0, zr w 257), (3, .int s.1), (4, .int v4_51_42), (5, .int s.2.1)] [] s.2.2) (fun (s : (Int32 × zM)) => Zs C w (0, 0) 208 [(0, zr w 257), (3, .int s.1), (4, .int v4_51_42)] [] s.2) o) := by
  have hC := hB.1.1
  have hq1 : 1 ≤ d := by omega
  unfold b_X11_layFar_51_42
  refine x_iload hC dX11_layFar_51 3 rfl ?_
  refine x_sipush (v := (576 : Int32)) hC dX11_layFar_53 kh_576 ?_
  refine x_icmp_ge (tgt := 208) hC dX11_layFar_56 (by decide) ?_ ?_
  · refine x_sub [0, 1, 2] rfl ?_
    exact x_done (fun h => h)
  · refine x_aload_n hC dX11_layFar_59 rfl 0 rfl ?_
    refine r_getR hB dX11_layFar_60 kf_X11_44 rfl th_257 rf_257_23 ?_
    refine x_iload hC dX11_layFar_63 3 rfl ?_
    refine r_iald hB dX11_layFar_65 th_268 ?_
    refine x_iload hC dX11_layFar_66 2 rfl ?_
    refine x_icmp_eq (tgt := 74) hC dX11_layFar_68 (by decide) ?_ ?_
    · refine x_iconst (v := (1 : Int32)) hC dX11_layFar_74 ki_1 ?_
      refine x_istore_n hC dX11_layFar_75 rfl [(3, .int (1 : Int32)), (0, zr w 257), (4, .int v4_51_42), (5, .int v5_51_42)] (by decide) rfl ?_
      refine x_aload_n hC dX11_layFar_76 rfl 1 rfl ?_
      refine x_iload hC dX11_layFar_77 3 rfl ?_
      refine x_iconst (v := (4 : Int32)) hC dX11_layFar_79 ki_4 ?_
      refine x_idiv0 hC dX11_layFar_80 nz_4 ?_
      refine x_iload hC dX11_layFar_81 3 rfl ?_
      refine x_iconst (v := (4 : Int32)) hC dX11_layFar_83 ki_4 ?_
      refine x_irem0 hC dX11_layFar_84 nz_4 ?_
      refine x_iconst (v := (1 : Int32)) hC dX11_layFar_85 ki_1 ?_
      refine r_cV1 (as := [.int (v5_51_42 / (4 : Int32)), .int (irem v5_51_42 (4 : Int32)), .int (1 : Int32)]) (rest := []) hB dX11_layFar_86 kv_X11_334 th_257 hq1 rfl rfl (Nat.le_of_ble_eq_true rfl) (fun v hv => f_X11_onBy_met hB.2 (by omega) hv) (fun u86_42_51 => ?_)
      refine x_istore (f := 0) hC dX11_layFar_89 [(6, .int u86_42_51), (3, .int (1 : Int32)), (0, zr w 257), (4, .int v4_51_42), (5, .int v5_51_42)] (by decide) rfl ?_
      refine x_iload hC dX11_layFar_91 0 rfl ?_
      refine x_iconst (v := (-1 : Int32)) hC dX11_layFar_93 ki_m1 ?_
      refine x_icmp_eq (tgt := 135) hC dX11_layFar_94 (by decide) ?_ ?_
      · refine x_sub [2, 1, 3, 4] rfl ?_
        exact j_X11_layFar_135_42_51_ok hB hd M hR
      · refine x_aload_n hC dX11_layFar_97 rfl 2 rfl ?_
        refine r_getR hB dX11_layFar_98 kf_X11_44 rfl th_257 rf_257_23 ?_
        refine x_iconst (v := (4 : Int32)) hC dX11_layFar_101 ki_4 ?_
        refine x_iload hC dX11_layFar_102 0 rfl ?_
        refine x_imul hC dX11_layFar_104 ?_
        refine x_iload hC dX11_layFar_105 4 rfl ?_
        refine x_iconst (v := (4 : Int32)) hC dX11_layFar_107 ki_4 ?_
        refine x_irem0 hC dX11_layFar_108 nz_4 ?_
        refine x_iadd hC dX11_layFar_109 ?_
        refine r_iald hB dX11_layFar_110 th_268 ?_
        refine x_sipush (v := (9999 : Int32)) hC dX11_layFar_111 kh_9999 ?_
        refine x_icmp_ne (tgt := 135) hC dX11_layFar_114 (by decide) ?_ ?_
        · refine x_aload_n hC dX11_layFar_117 rfl 2 rfl ?_
          refine r_getR hB dX11_layFar_118 kf_X11_44 rfl th_257 rf_257_23 ?_
          refine x_iconst (v := (4 : Int32)) hC dX11_layFar_121 ki_4 ?_
          refine x_iload hC dX11_layFar_122 0 rfl ?_
          refine x_imul hC dX11_layFar_124 ?_
          refine x_iload hC dX11_layFar_125 4 rfl ?_
          refine x_iconst (v := (4 : Int32)) hC dX11_layFar_127 ki_4 ?_
          refine x_irem0 hC dX11_layFar_128 nz_4 ?_
          refine x_iadd hC dX11_layFar_129 ?_
          refine x_iload hC dX11_layFar_130 3 rfl ?_
          refine x_iconst (v := (1 : Int32)) hC dX11_layFar_132 ki_1 ?_
          refine x_iadd hC dX11_layFar_133 ?_
          refine r_iast hB dX11_layFar_134 th_268 ?_
          refine x_mem (fun M134_42_51 => ?_)
          refine x_sub [2, 1, 3, 4] rfl ?_
          exact j_X11_layFar_135_42_51_ok hB hd M134_42_51 hR
        · refine x_sub [2, 1, 3, 4] rfl ?_
          exact j_X11_layFar_135_42_51_ok hB hd M hR
    · refine x_goto (tgt := 202) hC dX11_layFar_71 (by decide) ?_
      exact j_X11_layFar_202_42_51_ok hB hd M hR
noncomputable def j_X11_layFar_208_42 (v3_208_42 : Int32) (v4_208_42 : Int32) (M : zM) : Option ((Int32 × Int32 × zM) ⊕ (zM)) :=
  some (.inl (v3_208_42, (v4_208_42 + (1 : Int32)), M))
set_option maxRecDepth 100000 in
theorem j_X11_layFar_208_42_ok {C : zC} {d : Nat} {g : zG} {l : Launch} {w : zW} {r : zM} {v3_208_42 : Int32} {v4_208_42 : Int32} (hB : bOK C cX11_layFar 9 RX11 d g l w false) (hd : 4 ≤ d) (M : zM) (hR : RtV C cX11_layFar w r) : Sg C w (0, 0) 208 [(0, zr w 257), (3, .int v3_208_42), (4, .int v4_208_42)] [] M (j_X11_layFar_208_42 v3_208_42 v4_208_42 M) (fun o => Sum.elim (fun (s : (Int32 × Int32 × zM)) => Zs C w (0, 0) 42 [(0, zr w 257), (3, .int s.1), (4, .int s.2.1)] [] s.2.2) (fun (s : (zM)) => Zs C w (0, 0) 214 [] [] s) o) := by
  have hC := hB.1.1
  have hq1 : 1 ≤ d := by omega
  unfold j_X11_layFar_208_42
  refine x_iinc hC dX11_layFar_208 ki_1 [(4, .int (v4_208_42 + (1 : Int32))), (0, zr w 257), (3, .int v3_208_42)] 2 rfl (by decide) rfl ?_
  refine x_goto (tgt := 42) hC dX11_layFar_211 (by decide) ?_
  refine x_sub [1, 2, 0] rfl ?_
  exact x_done (fun h => h)
noncomputable def b_X11_layFar_42 (v3_42 : Int32) (v4_42 : Int32) (M : zM) : Option ((Int32 × Int32 × zM) ⊕ (zM)) :=
  if v3_42 = 0 then (some (.inr M))
  else ((loopW (fun s => b_X11_layFar_51_42 v4_42 s.1 s.2.1 s.2.2) ((0 : Int32), (0 : Int32), M)).bind (fun r => j_X11_layFar_208_42 r.1 v4_42 r.2))
set_option maxRecDepth 100000 in
theorem b_X11_layFar_42_ok {C : zC} {d : Nat} {g : zG} {l : Launch} {w : zW} {r : zM} {v3_42 : Int32} {v4_42 : Int32} (hB : bOK C cX11_layFar 9 RX11 d g l w false) (hd : 4 ≤ d) (M : zM) (hR : RtV C cX11_layFar w r) : Sg C w (0, 0) 42 [(0, zr w 257), (3, .int v3_42), (4, .int v4_42)] [] M (b_X11_layFar_42 v3_42 v4_42 M) (fun o => Sum.elim (fun (s : (Int32 × Int32 × zM)) => Zs C w (0, 0) 42 [(0, zr w 257), (3, .int s.1), (4, .int s.2.1)] [] s.2.2) (fun (s : (zM)) => Zs C w (0, 0) 214 [] [] s) o) := by
  have hC := hB.1.1
  have hq1 : 1 ≤ d := by omega
  unfold b_X11_layFar_42
  refine x_iload_n hC dX11_layFar_42 rfl 1 rfl ?_
  refine x_if_eq (tgt := 214) hC dX11_layFar_43 (by decide) ?_ ?_
  · refine x_sub [] rfl ?_
    exact x_done (fun h => h)
  · refine x_iconst (v := (0 : Int32)) hC dX11_layFar_46 ki_0 ?_
    refine x_istore_n hC dX11_layFar_47 rfl [(3, .int (0 : Int32)), (0, zr w 257), (4, .int v4_42)] (by decide) rfl ?_
    refine x_iconst (v := (0 : Int32)) hC dX11_layFar_48 ki_0 ?_
    refine x_istore (f := 0) hC dX11_layFar_49 [(5, .int (0 : Int32)), (3, .int (0 : Int32)), (0, zr w 257), (4, .int v4_42)] (by decide) rfl ?_
    refine x_sub [2, 1, 3, 0] rfl ?_
    refine x_loopB (pc2 := 208) (fun (s : (Int32 × Int32 × zM)) => [(0, zr w 257), (3, .int s.1), (4, .int v4_42), (5, .int s.2.1)]) (fun (s : (Int32 × Int32 × zM)) => s.2.2) (fun (s : (Int32 × zM)) => [(0, zr w 257), (3, .int s.1), (4, .int v4_42)]) (fun (s : (Int32 × zM)) => s.2) ((0 : Int32), (0 : Int32), M) ?_ ?_
    · exact fun s => b_X11_layFar_51_42_ok hB hd s.2.2 hR
    · intro r9
      exact j_X11_layFar_208_42_ok hB hd r9.2 hR
noncomputable def j_X11_layFar_214 (M : zM) : Option (zM) :=
  some M
set_option maxRecDepth 100000 in
theorem j_X11_layFar_214_ok {C : zC} {d : Nat} {g : zG} {l : Launch} {w : zW} {r : zM} (hB : bOK C cX11_layFar 9 RX11 d g l w false) (hd : 4 ≤ d) (M : zM) (hR : RtV C cX11_layFar w r) : Sg C w (0, 0) 214 [] [] M (j_X11_layFar_214 M) (fun q => q = r) := by
  have hC := hB.1.1
  have hq1 : 1 ≤ d := by omega
  unfold j_X11_layFar_214
  exact r_retV hR dX11_layFar_214 (fun h => h)
noncomputable def j_X11_layFar_37 (M : zM) : Option (zM) :=
  (loopW (fun s => b_X11_layFar_42 s.1 s.2.1 s.2.2) ((1 : Int32), (0 : Int32), M)).bind (fun r => j_X11_layFar_214 r)
set_option maxRecDepth 100000 in
theorem j_X11_layFar_37_ok {C : zC} {d : Nat} {g : zG} {l : Launch} {w : zW} {r : zM} (hB : bOK C cX11_layFar 9 RX11 d g l w false) (hd : 4 ≤ d) (M : zM) (hR : RtV C cX11_layFar w r) : Sg C w (0, 0) 37 [(0, zr w 257)] [] M (j_X11_layFar_37 M) (fun q => q = r) := by
  have hC := hB.1.1
  have hq1 : 1 ≤ d := by omega
  unfold j_X11_layFar_37
  refine x_iconst (v := (1 : Int32)) hC dX11_layFar_37 ki_1 ?_
  refine x_istore_n hC dX11_layFar_38 rfl [(3, .int (1 : Int32)), (0, zr w 257)] (by decide) rfl ?_
  refine x_iconst (v := (0 : Int32)) hC dX11_layFar_39 ki_0 ?_
  refine x_istore (f := 0) hC dX11_layFar_40 [(4, .int (0 : Int32)), (3, .int (1 : Int32)), (0, zr w 257)] (by decide) rfl ?_
  refine x_sub [2, 1, 0] rfl ?_
  refine x_loopB (pc2 := 214) (fun (s : (Int32 × Int32 × zM)) => [(0, zr w 257), (3, .int s.1), (4, .int s.2.1)]) (fun (s : (Int32 × Int32 × zM)) => s.2.2) (fun (s : (zM)) => []) (fun (s : (zM)) => s) ((1 : Int32), (0 : Int32), M) ?_ ?_
  · exact fun s => b_X11_layFar_42_ok hB hd s.2.2 hR
  · intro r9
    exact j_X11_layFar_214_ok hB hd r9 hR
noncomputable def f_X11_layFar (p1 : Int32) (p2 : Int32) (M : zM) : Option (zM) :=
  (loopW (fun s => b_X11_layFar_2 p1 p2 s.1 s.2) ((0 : Int32), M)).bind (fun r => j_X11_layFar_37 r)
set_option maxRecDepth 100000 in
theorem f_X11_layFar_ok {C : zC} {d : Nat} {g : zG} {l : Launch} {w : zW} {r : zM} {p1 : Int32} {p2 : Int32} (hB : bOK C cX11_layFar 9 RX11 d g l w false) (hd : 4 ≤ d) (M : zM) (hR : RtV C cX11_layFar w r) : Sg C w (0, 0) 0 [(0, zr w 257), (1, .int p1), (2, .int p2)] [] M (f_X11_layFar p1 p2 M) (fun q => q = r) := by
  have hC := hB.1.1
  have hq1 : 1 ≤ d := by omega
  unfold f_X11_layFar
  refine x_iconst (v := (0 : Int32)) hC dX11_layFar_0 ki_0 ?_
  refine x_istore_n hC dX11_layFar_1 rfl [(3, .int (0 : Int32)), (0, zr w 257), (1, .int p1), (2, .int p2)] (by decide) rfl ?_
  refine x_sub [1, 2, 3, 0] rfl ?_
  refine x_loopB (pc2 := 37) (fun (s : (Int32 × zM)) => [(0, zr w 257), (1, .int p1), (2, .int p2), (3, .int s.1)]) (fun (s : (Int32 × zM)) => s.2) (fun (s : (zM)) => [(0, zr w 257)]) (fun (s : (zM)) => s) ((0 : Int32), M) ?_ ?_
  · exact fun s => b_X11_layFar_2_ok hB hd s.2 hR
  · intro r9
    exact j_X11_layFar_37_ok hB hd r9 hR
theorem f_X11_layFar_met {l : Launch} {d : Nat} {g : zG} {w : zW} {M0 : zM} {p1 : Int32} {p2 : Int32} {M : zM} (hw : wS w) (hd : 4 ≤ d) {M' : zM} (h : f_X11_layFar p1 p2 M = some M') : zMet l yX11_layFar cX11_layFar 9 none d g w (zin false) M0 [zr w 257, .int p1, .int p2] M none M' :=
  met_v (by decide +kernel) (Nat.le_of_ble_eq_true rfl) (fun C hB0 hR => f_X11_layFar_ok ⟨hB0, hw⟩ hd M hR _ h rfl)
/-! WindingSquareModel.stepRows(I)V -/
noncomputable def j_X11_stepRows_104_2_9 (v1_2 : Int32) (v2_9_2 : Int32) (v3_104_2_9 : Int32) (s0_104_2_9 : Int32) (M : zM) : Option ((Int32 × zM) ⊕ (zM)) :=
  grd (inb ((v2_9_2 * (1728 : Int32)) + ((3 : Int32) * v3_104_2_9)) 12096) (
  nm (mset M 270 (ix ((v2_9_2 * (1728 : Int32)) + ((3 : Int32) * v3_104_2_9))) s0_104_2_9) fun M121_2_9 =>
  grd (inb (((v2_9_2 * (1728 : Int32)) + ((3 : Int32) * v3_104_2_9)) + (1 : Int32)) 12096) (
  nm (mset M121_2_9 270 (ix (((v2_9_2 * (1728 : Int32)) + ((3 : Int32) * v3_104_2_9)) + (1 : Int32))) (0 : Int32)) fun M138_2_9 =>
  grd (inb (((v2_9_2 * (1728 : Int32)) + ((3 : Int32) * v3_104_2_9)) + (2 : Int32)) 12096) (
  nm (mset M138_2_9 270 (ix (((v2_9_2 * (1728 : Int32)) + ((3 : Int32) * v3_104_2_9)) + (2 : Int32))) (0 : Int32)) fun M155_2_9 =>
  some (.inl ((v3_104_2_9 + (1 : Int32)), M155_2_9)))))
set_option maxRecDepth 100000 in
theorem j_X11_stepRows_104_2_9_ok {C : zC} {d : Nat} {g : zG} {l : Launch} {w : zW} {r : zM} {v1_2 : Int32} {v2_9_2 : Int32} {v3_104_2_9 : Int32} {s0_104_2_9 : Int32} (hB : bOK C cX11_stepRows 7 RX11 d g l w false) (hd : 4 ≤ d) (M : zM) (hR : RtV C cX11_stepRows w r) : Sg C w (0, 0) 104 [(0, zr w 257), (1, .int v1_2), (2, .int v2_9_2), (3, .int v3_104_2_9)] [.int s0_104_2_9] M (j_X11_stepRows_104_2_9 v1_2 v2_9_2 v3_104_2_9 s0_104_2_9 M) (fun o => Sum.elim (fun (s : (Int32 × zM)) => Zs C w (0, 0) 9 [(0, zr w 257), (1, .int v1_2), (2, .int v2_9_2), (3, .int s.1)] [] s.2) (fun (s : (zM)) => Zs C w (0, 0) 162 [(0, zr w 257), (1, .int v1_2), (2, .int v2_9_2)] [] s) o) := by
  have hC := hB.1.1
  have hq1 : 1 ≤ d := by omega
  unfold j_X11_stepRows_104_2_9
  refine x_istore (f := 0) hC dX11_stepRows_104 [(6, .int s0_104_2_9), (0, zr w 257), (1, .int v1_2), (2, .int v2_9_2), (3, .int v3_104_2_9)] (by decide) rfl ?_
  refine x_aload_n hC dX11_stepRows_106 rfl 1 rfl ?_
  refine r_getR hB dX11_stepRows_107 kf_X11_50 rfl th_257 rf_257_25 ?_
  refine x_iload_n hC dX11_stepRows_110 rfl 3 rfl ?_
  refine x_sipush (v := (1728 : Int32)) hC dX11_stepRows_111 kh_1728 ?_
  refine x_imul hC dX11_stepRows_114 ?_
  refine x_iconst (v := (3 : Int32)) hC dX11_stepRows_115 ki_3 ?_
  refine x_iload_n hC dX11_stepRows_116 rfl 4 rfl ?_
  refine x_imul hC dX11_stepRows_117 ?_
  refine x_iadd hC dX11_stepRows_118 ?_
  refine x_iload hC dX11_stepRows_119 0 rfl ?_
  refine r_iast hB dX11_stepRows_121 th_270 ?_
  refine x_mem (fun M121_2_9 => ?_)
  refine x_aload_n hC dX11_stepRows_122 rfl 1 rfl ?_
  refine r_getR hB dX11_stepRows_123 kf_X11_50 rfl th_257 rf_257_25 ?_
  refine x_iload_n hC dX11_stepRows_126 rfl 3 rfl ?_
  refine x_sipush (v := (1728 : Int32)) hC dX11_stepRows_127 kh_1728 ?_
  refine x_imul hC dX11_stepRows_130 ?_
  refine x_iconst (v := (3 : Int32)) hC dX11_stepRows_131 ki_3 ?_
  refine x_iload_n hC dX11_stepRows_132 rfl 4 rfl ?_
  refine x_imul hC dX11_stepRows_133 ?_
  refine x_iadd hC dX11_stepRows_134 ?_
  refine x_iconst (v := (1 : Int32)) hC dX11_stepRows_135 ki_1 ?_
  refine x_iadd hC dX11_stepRows_136 ?_
  refine x_iconst (v := (0 : Int32)) hC dX11_stepRows_137 ki_0 ?_
  refine r_iast hB dX11_stepRows_138 th_270 ?_
  refine x_mem (fun M138_2_9 => ?_)
  refine x_aload_n hC dX11_stepRows_139 rfl 1 rfl ?_
  refine r_getR hB dX11_stepRows_140 kf_X11_50 rfl th_257 rf_257_25 ?_
  refine x_iload_n hC dX11_stepRows_143 rfl 3 rfl ?_
  refine x_sipush (v := (1728 : Int32)) hC dX11_stepRows_144 kh_1728 ?_
  refine x_imul hC dX11_stepRows_147 ?_
  refine x_iconst (v := (3 : Int32)) hC dX11_stepRows_148 ki_3 ?_
  refine x_iload_n hC dX11_stepRows_149 rfl 4 rfl ?_
  refine x_imul hC dX11_stepRows_150 ?_
  refine x_iadd hC dX11_stepRows_151 ?_
  refine x_iconst (v := (2 : Int32)) hC dX11_stepRows_152 ki_2 ?_
  refine x_iadd hC dX11_stepRows_153 ?_
  refine x_iconst (v := (0 : Int32)) hC dX11_stepRows_154 ki_0 ?_
  refine r_iast hB dX11_stepRows_155 th_270 ?_
  refine x_mem (fun M155_2_9 => ?_)
  refine x_iinc hC dX11_stepRows_156 ki_1 [(3, .int (v3_104_2_9 + (1 : Int32))), (6, .int s0_104_2_9), (0, zr w 257), (1, .int v1_2), (2, .int v2_9_2)] 4 rfl (by decide) rfl ?_
  refine x_goto (tgt := 9) hC dX11_stepRows_159 (by decide) ?_
  refine x_sub [2, 3, 4, 0] rfl ?_
  exact x_done (fun h => h)
noncomputable def j_X11_stepRows_43_2_9 (v1_2 : Int32) (v2_9_2 : Int32) (v3_43_2_9 : Int32) (s0_43_2_9 : Int32) (M : zM) : Option ((Int32 × zM) ⊕ (zM)) :=
  nm ((v2_9_2 * (1728 : Int32)) + ((3 : Int32) * (((4 : Int32) * s0_43_2_9) + (irem v3_43_2_9 (4 : Int32))))) fun v5_61_2_9 =>
  if s0_43_2_9 = (-1 : Int32) then (j_X11_stepRows_104_2_9 v1_2 v2_9_2 v3_43_2_9 (0 : Int32) M)
  else (grd (inb v5_61_2_9 12096) (
  grd (inb (v5_61_2_9 + (1 : Int32)) 12096) (
  grd (inb (v5_61_2_9 + (2 : Int32)) 12096) (
  j_X11_stepRows_104_2_9 v1_2 v2_9_2 v3_43_2_9 (f_X11_plus (f_X11_plus (M 269 (ix v5_61_2_9)) (M 269 (ix (v5_61_2_9 + (1 : Int32))))) (M 269 (ix (v5_61_2_9 + (2 : Int32))))) M))))
set_option maxRecDepth 100000 in
theorem j_X11_stepRows_43_2_9_ok {C : zC} {d : Nat} {g : zG} {l : Launch} {w : zW} {r : zM} {v1_2 : Int32} {v2_9_2 : Int32} {v3_43_2_9 : Int32} {s0_43_2_9 : Int32} (hB : bOK C cX11_stepRows 7 RX11 d g l w false) (hd : 4 ≤ d) (M : zM) (hR : RtV C cX11_stepRows w r) : Sg C w (0, 0) 43 [(0, zr w 257), (1, .int v1_2), (2, .int v2_9_2), (3, .int v3_43_2_9)] [.int s0_43_2_9] M (j_X11_stepRows_43_2_9 v1_2 v2_9_2 v3_43_2_9 s0_43_2_9 M) (fun o => Sum.elim (fun (s : (Int32 × zM)) => Zs C w (0, 0) 9 [(0, zr w 257), (1, .int v1_2), (2, .int v2_9_2), (3, .int s.1)] [] s.2) (fun (s : (zM)) => Zs C w (0, 0) 162 [(0, zr w 257), (1, .int v1_2), (2, .int v2_9_2)] [] s) o) := by
  have hC := hB.1.1
  have hq1 : 1 ≤ d := by omega
  unfold j_X11_stepRows_43_2_9
  refine x_istore (f := 0) hC dX11_stepRows_43 [(4, .int s0_43_2_9), (0, zr w 257), (1, .int v1_2), (2, .int v2_9_2), (3, .int v3_43_2_9)] (by decide) rfl ?_
  refine x_iload_n hC dX11_stepRows_45 rfl 3 rfl ?_
  refine x_sipush (v := (1728 : Int32)) hC dX11_stepRows_46 kh_1728 ?_
  refine x_imul hC dX11_stepRows_49 ?_
  refine x_iconst (v := (3 : Int32)) hC dX11_stepRows_50 ki_3 ?_
  refine x_iconst (v := (4 : Int32)) hC dX11_stepRows_51 ki_4 ?_
  refine x_iload hC dX11_stepRows_52 0 rfl ?_
  refine x_imul hC dX11_stepRows_54 ?_
  refine x_iload_n hC dX11_stepRows_55 rfl 4 rfl ?_
  refine x_iconst (v := (4 : Int32)) hC dX11_stepRows_56 ki_4 ?_
  refine x_irem0 hC dX11_stepRows_57 nz_4 ?_
  refine x_iadd hC dX11_stepRows_58 ?_
  refine x_imul hC dX11_stepRows_59 ?_
  refine x_iadd hC dX11_stepRows_60 ?_
  refine x_top (fun v5_61_2_9 => ?_)
  refine x_istore (f := 0) hC dX11_stepRows_61 [(5, .int v5_61_2_9), (4, .int s0_43_2_9), (0, zr w 257), (1, .int v1_2), (2, .int v2_9_2), (3, .int v3_43_2_9)] (by decide) rfl ?_
  refine x_iload hC dX11_stepRows_63 1 rfl ?_
  refine x_iconst (v := (-1 : Int32)) hC dX11_stepRows_65 ki_m1 ?_
  refine x_icmp_ne (tgt := 73) hC dX11_stepRows_66 (by decide) ?_ ?_
  · refine x_iconst (v := (0 : Int32)) hC dX11_stepRows_69 ki_0 ?_
    refine x_goto (tgt := 104) hC dX11_stepRows_70 (by decide) ?_
    refine x_sub [2, 3, 4, 5] rfl ?_
    exact j_X11_stepRows_104_2_9_ok hB hd M hR
  · refine x_aload_n hC dX11_stepRows_73 rfl 2 rfl ?_
    refine r_getR hB dX11_stepRows_74 kf_X11_47 rfl th_257 rf_257_24 ?_
    refine x_iload hC dX11_stepRows_77 0 rfl ?_
    refine r_iald hB dX11_stepRows_79 th_269 ?_
    refine x_aload_n hC dX11_stepRows_80 rfl 2 rfl ?_
    refine r_getR hB dX11_stepRows_81 kf_X11_47 rfl th_257 rf_257_24 ?_
    refine x_iload hC dX11_stepRows_84 0 rfl ?_
    refine x_iconst (v := (1 : Int32)) hC dX11_stepRows_86 ki_1 ?_
    refine x_iadd hC dX11_stepRows_87 ?_
    refine r_iald hB dX11_stepRows_88 th_269 ?_
    refine r_cS0 (as := [.int (M 269 (ix v5_61_2_9)), .int (M 269 (ix (v5_61_2_9 + (1 : Int32))))]) (rest := []) hB dX11_stepRows_89 ks_X11_350 hq1 rfl rfl (Nat.le_of_ble_eq_true rfl) (f_X11_plus_met hB.2 (by omega)) ?_
    refine x_aload_n hC dX11_stepRows_92 rfl 2 rfl ?_
    refine r_getR hB dX11_stepRows_93 kf_X11_47 rfl th_257 rf_257_24 ?_
    refine x_iload hC dX11_stepRows_96 0 rfl ?_
    refine x_iconst (v := (2 : Int32)) hC dX11_stepRows_98 ki_2 ?_
    refine x_iadd hC dX11_stepRows_99 ?_
    refine r_iald hB dX11_stepRows_100 th_269 ?_
    refine r_cS0 (as := [.int (f_X11_plus (M 269 (ix v5_61_2_9)) (M 269 (ix (v5_61_2_9 + (1 : Int32))))), .int (M 269 (ix (v5_61_2_9 + (2 : Int32))))]) (rest := []) hB dX11_stepRows_101 ks_X11_350 hq1 rfl rfl (Nat.le_of_ble_eq_true rfl) (f_X11_plus_met hB.2 (by omega)) ?_
    refine x_sub [2, 3, 4, 5] rfl ?_
    exact j_X11_stepRows_104_2_9_ok hB hd M hR
noncomputable def b_X11_stepRows_9_2 (v1_2 : Int32) (v2_9_2 : Int32) (v3_9_2 : Int32) (M : zM) : Option ((Int32 × zM) ⊕ (zM)) :=
  if (576 : Int32) ≤ v3_9_2 then (some (.inr M))
  else (grd (inb (v3_9_2 / (4 : Int32)) 2425) (
  if (M 258 (ix (v3_9_2 / (4 : Int32)))) = (1 : Int32) then (j_X11_stepRows_43_2_9 v1_2 v2_9_2 v3_9_2 (-1 : Int32) M)
  else ((f_X11_onBy (v3_9_2 / (4 : Int32)) (irem v3_9_2 (4 : Int32)) (-1 : Int32) M).bind fun u40_2_9 =>
  j_X11_stepRows_43_2_9 v1_2 v2_9_2 v3_9_2 u40_2_9 M)))
set_option maxRecDepth 100000 in
theorem b_X11_stepRows_9_2_ok {C : zC} {d : Nat} {g : zG} {l : Launch} {w : zW} {r : zM} {v1_2 : Int32} {v2_9_2 : Int32} {v3_9_2 : Int32} (hB : bOK C cX11_stepRows 7 RX11 d g l w false) (hd : 4 ≤ d) (M : zM) (hR : RtV C cX11_stepRows w r) : Sg C w (0, 0) 9 [(0, zr w 257), (1, .int v1_2), (2, .int v2_9_2), (3, .int v3_9_2)] [] M (b_X11_stepRows_9_2 v1_2 v2_9_2 v3_9_2 M) (fun o => Sum.elim (fun (s : (Int32 × zM)) => Zs C w (0, 0) 9 [(0, zr w 257), (1, .int v1_2), (2, .int v2_9_2), (3, .int s.1)] [] s.2) (fun (s : (zM)) => Zs C w (0, 0) 162 [(0, zr w 257), (1, .int v1_2), (2, .int v2_9_2)] [] s) o) := by
  have hC := hB.1.1
  have hq1 : 1 ≤ d := by omega
  unfold b_X11_stepRows_9_2
  refine x_iload_n hC dX11_stepRows_9 rfl 3 rfl ?_
  refine x_sipush (v := (576 : Int32)) hC dX11_stepRows_10 kh_576 ?_
  refine x_icmp_ge (tgt := 162) hC dX11_stepRows_13 (by decide) ?_ ?_
  · refine x_sub [0, 1, 2] rfl ?_
    exact x_done (fun h => h)
  · refine x_aload_n hC dX11_stepRows_16 rfl 0 rfl ?_
    refine r_getR hB dX11_stepRows_17 kf_X11_9 rfl th_257 rf_257_0 ?_
    refine x_iload_n hC dX11_stepRows_20 rfl 3 rfl ?_
    refine x_iconst (v := (4 : Int32)) hC dX11_stepRows_21 ki_4 ?_
    refine x_idiv0 hC dX11_stepRows_22 nz_4 ?_
    refine r_iald hB dX11_stepRows_23 th_258 ?_
    refine x_iconst (v := (1 : Int32)) hC dX11_stepRows_24 ki_1 ?_
    refine x_icmp_ne (tgt := 32) hC dX11_stepRows_25 (by decide) ?_ ?_
    · refine x_iconst (v := (-1 : Int32)) hC dX11_stepRows_28 ki_m1 ?_
      refine x_goto (tgt := 43) hC dX11_stepRows_29 (by decide) ?_
      exact j_X11_stepRows_43_2_9_ok hB hd M hR
    · refine x_aload_n hC dX11_stepRows_32 rfl 0 rfl ?_
      refine x_iload_n hC dX11_stepRows_33 rfl 3 rfl ?_
      refine x_iconst (v := (4 : Int32)) hC dX11_stepRows_34 ki_4 ?_
      refine x_idiv0 hC dX11_stepRows_35 nz_4 ?_
      refine x_iload_n hC dX11_stepRows_36 rfl 3 rfl ?_
      refine x_iconst (v := (4 : Int32)) hC dX11_stepRows_37 ki_4 ?_
      refine x_irem0 hC dX11_stepRows_38 nz_4 ?_
      refine x_iconst (v := (-1 : Int32)) hC dX11_stepRows_39 ki_m1 ?_
      refine r_cV1 (as := [.int (v3_9_2 / (4 : Int32)), .int (irem v3_9_2 (4 : Int32)), .int (-1 : Int32)]) (rest := []) hB dX11_stepRows_40 kv_X11_334 th_257 hq1 rfl rfl (Nat.le_of_ble_eq_true rfl) (fun v hv => f_X11_onBy_met hB.2 (by omega) hv) (fun u40_2_9 => ?_)
      exact j_X11_stepRows_43_2_9_ok hB hd M hR
noncomputable def j_X11_stepRows_162_2 (v1_2 : Int32) (v2_162_2 : Int32) (M : zM) : Option ((Int32 × zM) ⊕ (zM)) :=
  some (.inl ((v2_162_2 + (1 : Int32)), M))
set_option maxRecDepth 100000 in
theorem j_X11_stepRows_162_2_ok {C : zC} {d : Nat} {g : zG} {l : Launch} {w : zW} {r : zM} {v1_2 : Int32} {v2_162_2 : Int32} (hB : bOK C cX11_stepRows 7 RX11 d g l w false) (hd : 4 ≤ d) (M : zM) (hR : RtV C cX11_stepRows w r) : Sg C w (0, 0) 162 [(0, zr w 257), (1, .int v1_2), (2, .int v2_162_2)] [] M (j_X11_stepRows_162_2 v1_2 v2_162_2 M) (fun o => Sum.elim (fun (s : (Int32 × zM)) => Zs C w (0, 0) 2 [(0, zr w 257), (1, .int v1_2), (2, .int s.1)] [] s.2) (fun (s : (zM)) => Zs C w (0, 0) 168 [(0, zr w 257), (1, .int v1_2)] [] s) o) := by
  have hC := hB.1.1
  have hq1 : 1 ≤ d := by omega
  unfold j_X11_stepRows_162_2
  refine x_iinc hC dX11_stepRows_162 ki_1 [(2, .int (v2_162_2 + (1 : Int32))), (0, zr w 257), (1, .int v1_2)] 2 rfl (by decide) rfl ?_
  refine x_goto (tgt := 2) hC dX11_stepRows_165 (by decide) ?_
  refine x_sub [1, 2, 0] rfl ?_
  exact x_done (fun h => h)
noncomputable def b_X11_stepRows_2 (v1_2 : Int32) (v2_2 : Int32) (M : zM) : Option ((Int32 × zM) ⊕ (zM)) :=
  if v1_2 < v2_2 then (some (.inr M))
  else ((loopW (fun s => b_X11_stepRows_9_2 v1_2 v2_2 s.1 s.2) ((0 : Int32), M)).bind (fun r => j_X11_stepRows_162_2 v1_2 v2_2 r))
set_option maxRecDepth 100000 in
theorem b_X11_stepRows_2_ok {C : zC} {d : Nat} {g : zG} {l : Launch} {w : zW} {r : zM} {v1_2 : Int32} {v2_2 : Int32} (hB : bOK C cX11_stepRows 7 RX11 d g l w false) (hd : 4 ≤ d) (M : zM) (hR : RtV C cX11_stepRows w r) : Sg C w (0, 0) 2 [(0, zr w 257), (1, .int v1_2), (2, .int v2_2)] [] M (b_X11_stepRows_2 v1_2 v2_2 M) (fun o => Sum.elim (fun (s : (Int32 × zM)) => Zs C w (0, 0) 2 [(0, zr w 257), (1, .int v1_2), (2, .int s.1)] [] s.2) (fun (s : (zM)) => Zs C w (0, 0) 168 [(0, zr w 257), (1, .int v1_2)] [] s) o) := by
  have hC := hB.1.1
  have hq1 : 1 ≤ d := by omega
  unfold b_X11_stepRows_2
  refine x_iload_n hC dX11_stepRows_2 rfl 2 rfl ?_
  refine x_iload_n hC dX11_stepRows_3 rfl 1 rfl ?_
  refine x_icmp_gt (tgt := 168) hC dX11_stepRows_4 (by decide) ?_ ?_
  · refine x_sub [0, 1] rfl ?_
    exact x_done (fun h => h)
  · refine x_iconst (v := (0 : Int32)) hC dX11_stepRows_7 ki_0 ?_
    refine x_istore_n hC dX11_stepRows_8 rfl [(3, .int (0 : Int32)), (0, zr w 257), (1, .int v1_2), (2, .int v2_2)] (by decide) rfl ?_
    refine x_sub [1, 2, 3, 0] rfl ?_
    refine x_loopB (pc2 := 162) (fun (s : (Int32 × zM)) => [(0, zr w 257), (1, .int v1_2), (2, .int v2_2), (3, .int s.1)]) (fun (s : (Int32 × zM)) => s.2) (fun (s : (zM)) => [(0, zr w 257), (1, .int v1_2), (2, .int v2_2)]) (fun (s : (zM)) => s) ((0 : Int32), M) ?_ ?_
    · exact fun s => b_X11_stepRows_9_2_ok hB hd s.2 hR
    · intro r9
      exact j_X11_stepRows_162_2_ok hB hd r9 hR
noncomputable def j_X11_stepRows_168 (v1_168 : Int32) (M : zM) : Option (zM) :=
  (f_X11_copies 270 269 ((v1_168 + (1 : Int32)) * (1728 : Int32)) M).bind fun M183 =>
  some M183
set_option maxRecDepth 100000 in
theorem j_X11_stepRows_168_ok {C : zC} {d : Nat} {g : zG} {l : Launch} {w : zW} {r : zM} {v1_168 : Int32} (hB : bOK C cX11_stepRows 7 RX11 d g l w false) (hd : 4 ≤ d) (M : zM) (hR : RtV C cX11_stepRows w r) : Sg C w (0, 0) 168 [(0, zr w 257), (1, .int v1_168)] [] M (j_X11_stepRows_168 v1_168 M) (fun q => q = r) := by
  have hC := hB.1.1
  have hq1 : 1 ≤ d := by omega
  unfold j_X11_stepRows_168
  refine x_aload_n hC dX11_stepRows_168 rfl 0 rfl ?_
  refine r_getR hB dX11_stepRows_169 kf_X11_50 rfl th_257 rf_257_25 ?_
  refine x_aload_n hC dX11_stepRows_172 rfl 0 rfl ?_
  refine r_getR hB dX11_stepRows_173 kf_X11_47 rfl th_257 rf_257_24 ?_
  refine x_iload_n hC dX11_stepRows_176 rfl 1 rfl ?_
  refine x_iconst (v := (1 : Int32)) hC dX11_stepRows_177 ki_1 ?_
  refine x_iadd hC dX11_stepRows_178 ?_
  refine x_sipush (v := (1728 : Int32)) hC dX11_stepRows_179 kh_1728 ?_
  refine x_imul hC dX11_stepRows_182 ?_
  refine r_cSv (as := [zr w 270, zr w 269, .int ((v1_168 + (1 : Int32)) * (1728 : Int32))]) (rest := []) hB dX11_stepRows_183 ks_X11_86 hq1 rfl rfl (Nat.le_of_ble_eq_true rfl) (fun M' hv => f_X11_copies_met hB.2 (tA.toI th_270) (tA.toI th_269) (by omega) hv) (fun M183 => ?_)
  exact r_retV hR dX11_stepRows_186 (fun h => h)
noncomputable def f_X11_stepRows (p1 : Int32) (M : zM) : Option (zM) :=
  (loopW (fun s => b_X11_stepRows_2 p1 s.1 s.2) ((0 : Int32), M)).bind (fun r => j_X11_stepRows_168 p1 r)
set_option maxRecDepth 100000 in
theorem f_X11_stepRows_ok {C : zC} {d : Nat} {g : zG} {l : Launch} {w : zW} {r : zM} {p1 : Int32} (hB : bOK C cX11_stepRows 7 RX11 d g l w false) (hd : 4 ≤ d) (M : zM) (hR : RtV C cX11_stepRows w r) : Sg C w (0, 0) 0 [(0, zr w 257), (1, .int p1)] [] M (f_X11_stepRows p1 M) (fun q => q = r) := by
  have hC := hB.1.1
  have hq1 : 1 ≤ d := by omega
  unfold f_X11_stepRows
  refine x_iconst (v := (0 : Int32)) hC dX11_stepRows_0 ki_0 ?_
  refine x_istore_n hC dX11_stepRows_1 rfl [(2, .int (0 : Int32)), (0, zr w 257), (1, .int p1)] (by decide) rfl ?_
  refine x_sub [1, 2, 0] rfl ?_
  refine x_loopB (pc2 := 168) (fun (s : (Int32 × zM)) => [(0, zr w 257), (1, .int p1), (2, .int s.1)]) (fun (s : (Int32 × zM)) => s.2) (fun (s : (zM)) => [(0, zr w 257), (1, .int p1)]) (fun (s : (zM)) => s) ((0 : Int32), M) ?_ ?_
  · exact fun s => b_X11_stepRows_2_ok hB hd s.2 hR
  · intro r9
    exact j_X11_stepRows_168_ok hB hd r9 hR
theorem f_X11_stepRows_met {l : Launch} {d : Nat} {g : zG} {w : zW} {M0 : zM} {p1 : Int32} {M : zM} (hw : wS w) (hd : 4 ≤ d) {M' : zM} (h : f_X11_stepRows p1 M = some M') : zMet l yX11_stepRows cX11_stepRows 7 none d g w (zin false) M0 [zr w 257, .int p1] M none M' :=
  met_v (by decide +kernel) (Nat.le_of_ble_eq_true rfl) (fun C hB0 hR => f_X11_stepRows_ok ⟨hB0, hw⟩ hd M hR _ h rfl)
