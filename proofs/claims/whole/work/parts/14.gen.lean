/-! WindingSquareModel.apart(I)I -/
noncomputable def b_X11_apart_13 (v2_13 : Int32) (M : zM) : Option ((Int32 × zM) ⊕ (zM)) :=
  if (144 : Int32) ≤ v2_13 then (some (.inr M))
  else (grd (inb v2_13 144) (
  nm (mset M 279 (ix v2_13) (9999 : Int32)) fun M28_13 =>
  some (.inl ((v2_13 + (1 : Int32)), M28_13))))
set_option maxRecDepth 100000 in
theorem b_X11_apart_13_ok {C : zC} {d : Nat} {g : zG} {l : Launch} {w : zW} {r : Int32 × zM} {v2_13 : Int32} (hB : bOK C cX11_apart 5 RX11 d g l w false) (hd : 4 ≤ d) (M : zM) (hR : RtI C cX11_apart w r.1 r.2) : Sg C w (0, 0) 13 [(0, zr w 257), (2, .int v2_13)] [] M (b_X11_apart_13 v2_13 M) (fun o => Sum.elim (fun (s : (Int32 × zM)) => Zs C w (0, 0) 13 [(0, zr w 257), (2, .int s.1)] [] s.2) (fun (s : (zM)) => Zs C w (0, 0) 35 [(0, zr w 257)] [] s) o) := by
  have hC := hB.1.1
  have hq1 : 1 ≤ d := by omega
  unfold b_X11_apart_13
  refine x_iload_n hC dX11_apart_13 rfl 1 rfl ?_
  refine x_sipush (v := (144 : Int32)) hC dX11_apart_14 kh_144 ?_
  refine x_icmp_ge (tgt := 35) hC dX11_apart_17 (by decide) ?_ ?_
  · refine x_sub [0] rfl ?_
    exact x_done (fun h => h)
  · refine x_aload_n hC dX11_apart_20 rfl 0 rfl ?_
    refine r_getR hB dX11_apart_21 kf_X11_77 rfl th_257 rf_257_37 ?_
    refine x_iload_n hC dX11_apart_24 rfl 1 rfl ?_
    refine x_sipush (v := (9999 : Int32)) hC dX11_apart_25 kh_9999 ?_
    refine r_iast hB dX11_apart_28 th_279 ?_
    refine x_mem (fun M28_13 => ?_)
    refine x_iinc hC dX11_apart_29 ki_1 [(2, .int (v2_13 + (1 : Int32))), (0, zr w 257)] 1 rfl (by decide) rfl ?_
    refine x_goto (tgt := 13) hC dX11_apart_32 (by decide) ?_
    refine x_sub [1, 0] rfl ?_
    exact x_done (fun h => h)
noncomputable def j_X11_apart_99_37_45 (v2_99_37_45 : Int32) (v3_99_37_45 : Int32) (M : zM) : Option ((Int32 × Int32 × zM) ⊕ (Int32 × zM)) :=
  some (.inl (v2_99_37_45, (v3_99_37_45 + (1 : Int32)), M))
set_option maxRecDepth 100000 in
theorem j_X11_apart_99_37_45_ok {C : zC} {d : Nat} {g : zG} {l : Launch} {w : zW} {r : Int32 × zM} {v2_99_37_45 : Int32} {v3_99_37_45 : Int32} (hB : bOK C cX11_apart 5 RX11 d g l w false) (hd : 4 ≤ d) (M : zM) (hR : RtI C cX11_apart w r.1 r.2) : Sg C w (0, 0) 99 [(0, zr w 257), (2, .int v2_99_37_45), (3, .int v3_99_37_45)] [] M (j_X11_apart_99_37_45 v2_99_37_45 v3_99_37_45 M) (fun o => Sum.elim (fun (s : (Int32 × Int32 × zM)) => Zs C w (0, 0) 45 [(0, zr w 257), (2, .int s.1), (3, .int s.2.1)] [] s.2.2) (fun (s : (Int32 × zM)) => Zs C w (0, 0) 105 [(0, zr w 257), (2, .int s.1)] [] s.2) o) := by
  have hC := hB.1.1
  have hq1 : 1 ≤ d := by omega
  unfold j_X11_apart_99_37_45
  refine x_iinc hC dX11_apart_99 ki_1 [(3, .int (v3_99_37_45 + (1 : Int32))), (0, zr w 257), (2, .int v2_99_37_45)] 2 rfl (by decide) rfl ?_
  refine x_goto (tgt := 45) hC dX11_apart_102 (by decide) ?_
  refine x_sub [1, 2, 0] rfl ?_
  exact x_done (fun h => h)
noncomputable def j_X11_apart_72_37_45 (v2_72_37_45 : Int32) (v3_72_37_45 : Int32) (s0_72_37_45 : Int32) (s1_72_37_45 : Int32) (M : zM) : Option ((Int32 × Int32 × zM) ⊕ (Int32 × zM)) :=
  nm (s0_72_37_45 + s1_72_37_45) fun v4_73_37_45 =>
  grd (inb v3_72_37_45 144) (
  if v4_73_37_45 < (M 279 (ix v3_72_37_45)) then (grd (inb v3_72_37_45 144) (
  nm (mset M 279 (ix v3_72_37_45) v4_73_37_45) fun M96_37_45 =>
  j_X11_apart_99_37_45 (1 : Int32) v3_72_37_45 M96_37_45))
  else (j_X11_apart_99_37_45 v2_72_37_45 v3_72_37_45 M))
set_option maxRecDepth 100000 in
theorem j_X11_apart_72_37_45_ok {C : zC} {d : Nat} {g : zG} {l : Launch} {w : zW} {r : Int32 × zM} {v2_72_37_45 : Int32} {v3_72_37_45 : Int32} {s0_72_37_45 : Int32} {s1_72_37_45 : Int32} (hB : bOK C cX11_apart 5 RX11 d g l w false) (hd : 4 ≤ d) (M : zM) (hR : RtI C cX11_apart w r.1 r.2) : Sg C w (0, 0) 72 [(0, zr w 257), (2, .int v2_72_37_45), (3, .int v3_72_37_45)] [.int s1_72_37_45, .int s0_72_37_45] M (j_X11_apart_72_37_45 v2_72_37_45 v3_72_37_45 s0_72_37_45 s1_72_37_45 M) (fun o => Sum.elim (fun (s : (Int32 × Int32 × zM)) => Zs C w (0, 0) 45 [(0, zr w 257), (2, .int s.1), (3, .int s.2.1)] [] s.2.2) (fun (s : (Int32 × zM)) => Zs C w (0, 0) 105 [(0, zr w 257), (2, .int s.1)] [] s.2) o) := by
  have hC := hB.1.1
  have hq1 : 1 ≤ d := by omega
  unfold j_X11_apart_72_37_45
  refine x_iadd hC dX11_apart_72 ?_
  refine x_top (fun v4_73_37_45 => ?_)
  refine x_istore (f := 0) hC dX11_apart_73 [(4, .int v4_73_37_45), (0, zr w 257), (2, .int v2_72_37_45), (3, .int v3_72_37_45)] (by decide) rfl ?_
  refine x_iload hC dX11_apart_75 0 rfl ?_
  refine x_aload_n hC dX11_apart_77 rfl 1 rfl ?_
  refine r_getR hB dX11_apart_78 kf_X11_77 rfl th_257 rf_257_37 ?_
  refine x_iload_n hC dX11_apart_81 rfl 3 rfl ?_
  refine r_iald hB dX11_apart_82 th_279 ?_
  refine x_icmp_lt (tgt := 89) hC dX11_apart_83 (by decide) ?_ ?_
  · refine x_aload_n hC dX11_apart_89 rfl 1 rfl ?_
    refine r_getR hB dX11_apart_90 kf_X11_77 rfl th_257 rf_257_37 ?_
    refine x_iload_n hC dX11_apart_93 rfl 3 rfl ?_
    refine x_iload hC dX11_apart_94 0 rfl ?_
    refine r_iast hB dX11_apart_96 th_279 ?_
    refine x_mem (fun M96_37_45 => ?_)
    refine x_iconst (v := (1 : Int32)) hC dX11_apart_97 ki_1 ?_
    refine x_istore_n hC dX11_apart_98 rfl [(2, .int (1 : Int32)), (4, .int v4_73_37_45), (0, zr w 257), (3, .int v3_72_37_45)] (by decide) rfl ?_
    refine x_sub [2, 0, 3] rfl ?_
    exact j_X11_apart_99_37_45_ok hB hd M96_37_45 hR
  · refine x_goto (tgt := 99) hC dX11_apart_86 (by decide) ?_
    refine x_sub [1, 2, 3] rfl ?_
    exact j_X11_apart_99_37_45_ok hB hd M hR
noncomputable def b_X11_apart_45_37 (v2_45_37 : Int32) (v3_45_37 : Int32) (M : zM) : Option ((Int32 × Int32 × zM) ⊕ (Int32 × zM)) :=
  if (144 : Int32) ≤ v3_45_37 then (some (.inr (v2_45_37, M)))
  else ((f_X11_besides v3_45_37 M).bind fun u54_37_45 =>
  grd (inb v3_45_37 2425) (
  if (M 258 (ix v3_45_37)) = (1 : Int32) then (j_X11_apart_72_37_45 v2_45_37 v3_45_37 u54_37_45 (0 : Int32) M)
  else (j_X11_apart_72_37_45 v2_45_37 v3_45_37 u54_37_45 (1 : Int32) M)))
set_option maxRecDepth 100000 in
theorem b_X11_apart_45_37_ok {C : zC} {d : Nat} {g : zG} {l : Launch} {w : zW} {r : Int32 × zM} {v2_45_37 : Int32} {v3_45_37 : Int32} (hB : bOK C cX11_apart 5 RX11 d g l w false) (hd : 4 ≤ d) (M : zM) (hR : RtI C cX11_apart w r.1 r.2) : Sg C w (0, 0) 45 [(0, zr w 257), (2, .int v2_45_37), (3, .int v3_45_37)] [] M (b_X11_apart_45_37 v2_45_37 v3_45_37 M) (fun o => Sum.elim (fun (s : (Int32 × Int32 × zM)) => Zs C w (0, 0) 45 [(0, zr w 257), (2, .int s.1), (3, .int s.2.1)] [] s.2.2) (fun (s : (Int32 × zM)) => Zs C w (0, 0) 105 [(0, zr w 257), (2, .int s.1)] [] s.2) o) := by
  have hC := hB.1.1
  have hq1 : 1 ≤ d := by omega
  unfold b_X11_apart_45_37
  refine x_iload_n hC dX11_apart_45 rfl 2 rfl ?_
  refine x_sipush (v := (144 : Int32)) hC dX11_apart_46 kh_144 ?_
  refine x_icmp_ge (tgt := 105) hC dX11_apart_49 (by decide) ?_ ?_
  · refine x_sub [0, 1] rfl ?_
    exact x_done (fun h => h)
  · refine x_aload_n hC dX11_apart_52 rfl 0 rfl ?_
    refine x_iload_n hC dX11_apart_53 rfl 2 rfl ?_
    refine r_cV1 (as := [.int v3_45_37]) (rest := []) hB dX11_apart_54 kv_X11_396 th_257 hq1 rfl rfl (Nat.le_of_ble_eq_true rfl) (fun v hv => f_X11_besides_met hB.2 (by omega) hv) (fun u54_37_45 => ?_)
    refine x_aload_n hC dX11_apart_57 rfl 0 rfl ?_
    refine r_getR hB dX11_apart_58 kf_X11_9 rfl th_257 rf_257_0 ?_
    refine x_iload_n hC dX11_apart_61 rfl 2 rfl ?_
    refine r_iald hB dX11_apart_62 th_258 ?_
    refine x_iconst (v := (1 : Int32)) hC dX11_apart_63 ki_1 ?_
    refine x_icmp_ne (tgt := 71) hC dX11_apart_64 (by decide) ?_ ?_
    · refine x_iconst (v := (0 : Int32)) hC dX11_apart_67 ki_0 ?_
      refine x_goto (tgt := 72) hC dX11_apart_68 (by decide) ?_
      exact j_X11_apart_72_37_45_ok hB hd M hR
    · refine x_iconst (v := (1 : Int32)) hC dX11_apart_71 ki_1 ?_
      exact j_X11_apart_72_37_45_ok hB hd M hR
noncomputable def j_X11_apart_105_37 (v2_105_37 : Int32) (M : zM) : Option ((Int32 × zM) ⊕ (zM)) :=
  some (.inl (v2_105_37, M))
set_option maxRecDepth 100000 in
theorem j_X11_apart_105_37_ok {C : zC} {d : Nat} {g : zG} {l : Launch} {w : zW} {r : Int32 × zM} {v2_105_37 : Int32} (hB : bOK C cX11_apart 5 RX11 d g l w false) (hd : 4 ≤ d) (M : zM) (hR : RtI C cX11_apart w r.1 r.2) : Sg C w (0, 0) 105 [(0, zr w 257), (2, .int v2_105_37)] [] M (j_X11_apart_105_37 v2_105_37 M) (fun o => Sum.elim (fun (s : (Int32 × zM)) => Zs C w (0, 0) 37 [(0, zr w 257), (2, .int s.1)] [] s.2) (fun (s : (zM)) => Zs C w (0, 0) 108 [(0, zr w 257)] [] s) o) := by
  have hC := hB.1.1
  have hq1 : 1 ≤ d := by omega
  unfold j_X11_apart_105_37
  refine x_goto (tgt := 37) hC dX11_apart_105 (by decide) ?_
  exact x_done (fun h => h)
noncomputable def b_X11_apart_37 (v2_37 : Int32) (M : zM) : Option ((Int32 × zM) ⊕ (zM)) :=
  if v2_37 = 0 then (some (.inr M))
  else ((loopW (fun s => b_X11_apart_45_37 s.1 s.2.1 s.2.2) ((0 : Int32), (0 : Int32), M)).bind (fun r => j_X11_apart_105_37 r.1 r.2))
set_option maxRecDepth 100000 in
theorem b_X11_apart_37_ok {C : zC} {d : Nat} {g : zG} {l : Launch} {w : zW} {r : Int32 × zM} {v2_37 : Int32} (hB : bOK C cX11_apart 5 RX11 d g l w false) (hd : 4 ≤ d) (M : zM) (hR : RtI C cX11_apart w r.1 r.2) : Sg C w (0, 0) 37 [(0, zr w 257), (2, .int v2_37)] [] M (b_X11_apart_37 v2_37 M) (fun o => Sum.elim (fun (s : (Int32 × zM)) => Zs C w (0, 0) 37 [(0, zr w 257), (2, .int s.1)] [] s.2) (fun (s : (zM)) => Zs C w (0, 0) 108 [(0, zr w 257)] [] s) o) := by
  have hC := hB.1.1
  have hq1 : 1 ≤ d := by omega
  unfold b_X11_apart_37
  refine x_iload_n hC dX11_apart_37 rfl 1 rfl ?_
  refine x_if_eq (tgt := 108) hC dX11_apart_38 (by decide) ?_ ?_
  · refine x_sub [0] rfl ?_
    exact x_done (fun h => h)
  · refine x_iconst (v := (0 : Int32)) hC dX11_apart_41 ki_0 ?_
    refine x_istore_n hC dX11_apart_42 rfl [(2, .int (0 : Int32)), (0, zr w 257)] (by decide) rfl ?_
    refine x_iconst (v := (0 : Int32)) hC dX11_apart_43 ki_0 ?_
    refine x_istore_n hC dX11_apart_44 rfl [(3, .int (0 : Int32)), (2, .int (0 : Int32)), (0, zr w 257)] (by decide) rfl ?_
    refine x_sub [2, 1, 0] rfl ?_
    refine x_loopB (pc2 := 105) (fun (s : (Int32 × Int32 × zM)) => [(0, zr w 257), (2, .int s.1), (3, .int s.2.1)]) (fun (s : (Int32 × Int32 × zM)) => s.2.2) (fun (s : (Int32 × zM)) => [(0, zr w 257), (2, .int s.1)]) (fun (s : (Int32 × zM)) => s.2) ((0 : Int32), (0 : Int32), M) ?_ ?_
    · exact fun s => b_X11_apart_45_37_ok hB hd s.2.2 hR
    · intro r9
      exact j_X11_apart_105_37_ok hB hd r9.2 hR
noncomputable def j_X11_apart_154_115 (v4_154_115 : Int32) (s0_154_115 : Int32) (M : zM) : Option ((Int32 × Int32) ⊕ (Int32)) :=
  some (.inl (s0_154_115, (v4_154_115 + (1 : Int32))))
set_option maxRecDepth 100000 in
theorem j_X11_apart_154_115_ok {C : zC} {d : Nat} {g : zG} {l : Launch} {w : zW} {r : Int32 × zM} {v4_154_115 : Int32} {s0_154_115 : Int32} (hB : bOK C cX11_apart 5 RX11 d g l w false) (hd : 4 ≤ d) (M : zM) (hR : RtI C cX11_apart w r.1 r.2) : Sg C w (0, 0) 154 [(0, zr w 257), (4, .int v4_154_115)] [.int s0_154_115] M (j_X11_apart_154_115 v4_154_115 s0_154_115 M) (fun o => Sum.elim (fun (s : (Int32 × Int32)) => Zs C w (0, 0) 115 [(0, zr w 257), (3, .int s.1), (4, .int s.2)] [] M) (fun (s : (Int32)) => Zs C w (0, 0) 161 [(3, .int s)] [] M) o) := by
  have hC := hB.1.1
  have hq1 : 1 ≤ d := by omega
  unfold j_X11_apart_154_115
  refine x_istore_n hC dX11_apart_154 rfl [(3, .int s0_154_115), (0, zr w 257), (4, .int v4_154_115)] (by decide) rfl ?_
  refine x_iinc hC dX11_apart_155 ki_1 [(4, .int (v4_154_115 + (1 : Int32))), (3, .int s0_154_115), (0, zr w 257)] 2 rfl (by decide) rfl ?_
  refine x_goto (tgt := 115) hC dX11_apart_158 (by decide) ?_
  refine x_sub [2, 1, 0] rfl ?_
  exact x_done (fun h => h)
noncomputable def b_X11_apart_115 (v3_115 : Int32) (v4_115 : Int32) (M : zM) : Option ((Int32 × Int32) ⊕ (Int32)) :=
  if (12 : Int32) ≤ v4_115 then (some (.inr v3_115))
  else (grd (inb (f_X11_place (11 : Int32) v4_115) 144) (
  if v3_115 ≤ (M 279 (ix (f_X11_place (11 : Int32) v4_115))) then (j_X11_apart_154_115 v4_115 v3_115 M)
  else (grd (inb (f_X11_place (11 : Int32) v4_115) 144) (
  j_X11_apart_154_115 v4_115 (M 279 (ix (f_X11_place (11 : Int32) v4_115))) M))))
set_option maxRecDepth 100000 in
theorem b_X11_apart_115_ok {C : zC} {d : Nat} {g : zG} {l : Launch} {w : zW} {r : Int32 × zM} {v3_115 : Int32} {v4_115 : Int32} (hB : bOK C cX11_apart 5 RX11 d g l w false) (hd : 4 ≤ d) (M : zM) (hR : RtI C cX11_apart w r.1 r.2) : Sg C w (0, 0) 115 [(0, zr w 257), (3, .int v3_115), (4, .int v4_115)] [] M (b_X11_apart_115 v3_115 v4_115 M) (fun o => Sum.elim (fun (s : (Int32 × Int32)) => Zs C w (0, 0) 115 [(0, zr w 257), (3, .int s.1), (4, .int s.2)] [] M) (fun (s : (Int32)) => Zs C w (0, 0) 161 [(3, .int s)] [] M) o) := by
  have hC := hB.1.1
  have hq1 : 1 ≤ d := by omega
  unfold b_X11_apart_115
  refine x_iload hC dX11_apart_115 2 rfl ?_
  refine x_bipush (v := (12 : Int32)) hC dX11_apart_117 kb_12 ?_
  refine x_icmp_ge (tgt := 161) hC dX11_apart_119 (by decide) ?_ ?_
  · refine x_sub [1] rfl ?_
    exact x_done (fun h => h)
  · refine x_aload_n hC dX11_apart_122 rfl 0 rfl ?_
    refine r_getR hB dX11_apart_123 kf_X11_77 rfl th_257 rf_257_37 ?_
    refine x_bipush (v := (11 : Int32)) hC dX11_apart_126 kb_11 ?_
    refine x_iload hC dX11_apart_128 2 rfl ?_
    refine r_cS0 (as := [.int (11 : Int32), .int v4_115]) (rest := [zr w 279]) hB dX11_apart_130 ks_X11_108 hq1 rfl rfl (Nat.le_of_ble_eq_true rfl) (f_X11_place_met hB.2 (by omega)) ?_
    refine r_iald hB dX11_apart_133 th_279 ?_
    refine x_iload_n hC dX11_apart_134 rfl 1 rfl ?_
    refine x_icmp_ge (tgt := 153) hC dX11_apart_135 (by decide) ?_ ?_
    · refine x_iload_n hC dX11_apart_153 rfl 1 rfl ?_
      refine x_sub [0, 2] rfl ?_
      exact j_X11_apart_154_115_ok hB hd M hR
    · refine x_aload_n hC dX11_apart_138 rfl 0 rfl ?_
      refine r_getR hB dX11_apart_139 kf_X11_77 rfl th_257 rf_257_37 ?_
      refine x_bipush (v := (11 : Int32)) hC dX11_apart_142 kb_11 ?_
      refine x_iload hC dX11_apart_144 2 rfl ?_
      refine r_cS0 (as := [.int (11 : Int32), .int v4_115]) (rest := [zr w 279]) hB dX11_apart_146 ks_X11_108 hq1 rfl rfl (Nat.le_of_ble_eq_true rfl) (f_X11_place_met hB.2 (by omega)) ?_
      refine r_iald hB dX11_apart_149 th_279 ?_
      refine x_goto (tgt := 154) hC dX11_apart_150 (by decide) ?_
      refine x_sub [0, 2] rfl ?_
      exact j_X11_apart_154_115_ok hB hd M hR
noncomputable def j_X11_apart_161 (v3_161 : Int32) (M : zM) : Option (Int32 × zM) :=
  some (v3_161, M)
set_option maxRecDepth 100000 in
theorem j_X11_apart_161_ok {C : zC} {d : Nat} {g : zG} {l : Launch} {w : zW} {r : Int32 × zM} {v3_161 : Int32} (hB : bOK C cX11_apart 5 RX11 d g l w false) (hd : 4 ≤ d) (M : zM) (hR : RtI C cX11_apart w r.1 r.2) : Sg C w (0, 0) 161 [(3, .int v3_161)] [] M (j_X11_apart_161 v3_161 M) (fun q => q = r) := by
  have hC := hB.1.1
  have hq1 : 1 ≤ d := by omega
  unfold j_X11_apart_161
  refine x_iload_n hC dX11_apart_161 rfl 0 rfl ?_
  exact r_retI hR dX11_apart_162 (fun h => h)
noncomputable def j_X11_apart_108 (M : zM) : Option (Int32 × zM) :=
  (loopW (fun s => b_X11_apart_115 s.1 s.2 M) ((9999 : Int32), (0 : Int32))).bind (fun r => j_X11_apart_161 r M)
set_option maxRecDepth 100000 in
theorem j_X11_apart_108_ok {C : zC} {d : Nat} {g : zG} {l : Launch} {w : zW} {r : Int32 × zM} (hB : bOK C cX11_apart 5 RX11 d g l w false) (hd : 4 ≤ d) (M : zM) (hR : RtI C cX11_apart w r.1 r.2) : Sg C w (0, 0) 108 [(0, zr w 257)] [] M (j_X11_apart_108 M) (fun q => q = r) := by
  have hC := hB.1.1
  have hq1 : 1 ≤ d := by omega
  unfold j_X11_apart_108
  refine x_sipush (v := (9999 : Int32)) hC dX11_apart_108 kh_9999 ?_
  refine x_istore_n hC dX11_apart_111 rfl [(3, .int (9999 : Int32)), (0, zr w 257)] (by decide) rfl ?_
  refine x_iconst (v := (0 : Int32)) hC dX11_apart_112 ki_0 ?_
  refine x_istore (f := 0) hC dX11_apart_113 [(4, .int (0 : Int32)), (3, .int (9999 : Int32)), (0, zr w 257)] (by decide) rfl ?_
  refine x_sub [2, 1, 0] rfl ?_
  refine x_loopB (pc2 := 161) (fun (s : (Int32 × Int32)) => [(0, zr w 257), (3, .int s.1), (4, .int s.2)]) (fun (s : (Int32 × Int32)) => M) (fun (s : (Int32)) => [(3, .int s)]) (fun (s : (Int32)) => M) ((9999 : Int32), (0 : Int32)) ?_ ?_
  · exact fun s => b_X11_apart_115_ok hB hd M hR
  · intro r9
    exact j_X11_apart_161_ok hB hd M hR
noncomputable def j_X11_apart_35 (M : zM) : Option (Int32 × zM) :=
  (loopW (fun s => b_X11_apart_37 s.1 s.2) ((1 : Int32), M)).bind (fun r => j_X11_apart_108 r)
set_option maxRecDepth 100000 in
theorem j_X11_apart_35_ok {C : zC} {d : Nat} {g : zG} {l : Launch} {w : zW} {r : Int32 × zM} (hB : bOK C cX11_apart 5 RX11 d g l w false) (hd : 4 ≤ d) (M : zM) (hR : RtI C cX11_apart w r.1 r.2) : Sg C w (0, 0) 35 [(0, zr w 257)] [] M (j_X11_apart_35 M) (fun q => q = r) := by
  have hC := hB.1.1
  have hq1 : 1 ≤ d := by omega
  unfold j_X11_apart_35
  refine x_iconst (v := (1 : Int32)) hC dX11_apart_35 ki_1 ?_
  refine x_istore_n hC dX11_apart_36 rfl [(2, .int (1 : Int32)), (0, zr w 257)] (by decide) rfl ?_
  refine x_sub [1, 0] rfl ?_
  refine x_loopB (pc2 := 108) (fun (s : (Int32 × zM)) => [(0, zr w 257), (2, .int s.1)]) (fun (s : (Int32 × zM)) => s.2) (fun (s : (zM)) => [(0, zr w 257)]) (fun (s : (zM)) => s) ((1 : Int32), M) ?_ ?_
  · exact fun s => b_X11_apart_37_ok hB hd s.2 hR
  · intro r9
    exact j_X11_apart_108_ok hB hd r9 hR
noncomputable def f_X11_apart (p1 : Int32) (M : zM) : Option (Int32 × zM) :=
  if (f_X11_within p1 (0 : Int32) (1 : Int32)) = 0 then (some ((-1 : Int32), M))
  else ((loopW (fun s => b_X11_apart_13 s.1 s.2) ((0 : Int32), M)).bind (fun r => j_X11_apart_35 r))
set_option maxRecDepth 100000 in
theorem f_X11_apart_ok {C : zC} {d : Nat} {g : zG} {l : Launch} {w : zW} {r : Int32 × zM} {p1 : Int32} (hB : bOK C cX11_apart 5 RX11 d g l w false) (hd : 4 ≤ d) (M : zM) (hR : RtI C cX11_apart w r.1 r.2) : Sg C w (0, 0) 0 [(0, zr w 257), (1, .int p1)] [] M (f_X11_apart p1 M) (fun q => q = r) := by
  have hC := hB.1.1
  have hq1 : 1 ≤ d := by omega
  unfold f_X11_apart
  refine x_iload_n hC dX11_apart_0 rfl 1 rfl ?_
  refine x_iconst (v := (0 : Int32)) hC dX11_apart_1 ki_0 ?_
  refine x_iconst (v := (1 : Int32)) hC dX11_apart_2 ki_1 ?_
  refine r_cS0 (as := [.int p1, .int (0 : Int32), .int (1 : Int32)]) (rest := []) hB dX11_apart_3 ks_X11_100 hq1 rfl rfl (Nat.le_of_ble_eq_true rfl) (f_X11_within_met hB.2 (by omega)) ?_
  refine x_if_ne (tgt := 11) hC dX11_apart_6 (by decide) ?_ ?_
  · refine x_iconst (v := (-1 : Int32)) hC dX11_apart_9 ki_m1 ?_
    exact r_retI hR dX11_apart_10 (fun h => h)
  · refine x_iconst (v := (0 : Int32)) hC dX11_apart_11 ki_0 ?_
    refine x_istore_n hC dX11_apart_12 rfl [(2, .int (0 : Int32)), (0, zr w 257), (1, .int p1)] (by decide) rfl ?_
    refine x_sub [1, 0] rfl ?_
    refine x_loopB (pc2 := 35) (fun (s : (Int32 × zM)) => [(0, zr w 257), (2, .int s.1)]) (fun (s : (Int32 × zM)) => s.2) (fun (s : (zM)) => [(0, zr w 257)]) (fun (s : (zM)) => s) ((0 : Int32), M) ?_ ?_
    · exact fun s => b_X11_apart_13_ok hB hd s.2 hR
    · intro r9
      exact j_X11_apart_35_ok hB hd r9 hR
theorem f_X11_apart_met {l : Launch} {d : Nat} {g : zG} {w : zW} {M0 : zM} {p1 : Int32} {M : zM} (hw : wS w) (hd : 4 ≤ d) {v : Int32} {M' : zM} (h : f_X11_apart p1 M = some (v, M')) : zMet l yX11_apart cX11_apart 5 (some .int) d g w (zin false) M0 [zr w 257, .int p1] M (some (.int v)) M' :=
  met_i (by decide +kernel) (Nat.le_of_ble_eq_true rfl) rfl (fun C hB0 hR => f_X11_apart_ok (r := (v, M')) ⟨hB0, hw⟩ hd M hR _ h rfl)
/-! WindingSquareModel.besideOne(I)I -/
noncomputable def j_X11_besideOne_26_4 (v1_4 : Int32) (v3_26_4 : Int32) (s0_26_4 : Int32) (s1_26_4 : Int32) (M : zM) : Option ((Int32 × Int32) ⊕ (Int32)) :=
  nm (s0_26_4 + s1_26_4) fun v2_27_4 =>
  some (.inl (v2_27_4, (v3_26_4 + (1 : Int32))))
set_option maxRecDepth 100000 in
theorem j_X11_besideOne_26_4_ok {C : zC} {d : Nat} {g : zG} {l : Launch} {w : zW} {r : Int32} {v1_4 : Int32} {v3_26_4 : Int32} {s0_26_4 : Int32} {s1_26_4 : Int32} (hB : bOK C cX11_besideOne 4 RX11 d g l w false) (hd : 4 ≤ d) (M : zM) (hR : RtI C cX11_besideOne w r M) : Sg C w (0, 0) 26 [(0, zr w 257), (1, .int v1_4), (3, .int v3_26_4)] [.int s1_26_4, .int s0_26_4] M (j_X11_besideOne_26_4 v1_4 v3_26_4 s0_26_4 s1_26_4 M) (fun o => Sum.elim (fun (s : (Int32 × Int32)) => Zs C w (0, 0) 4 [(0, zr w 257), (1, .int v1_4), (2, .int s.1), (3, .int s.2)] [] M) (fun (s : (Int32)) => Zs C w (0, 0) 34 [(2, .int s)] [] M) o) := by
  have hC := hB.1.1
  have hq1 : 1 ≤ d := by omega
  unfold j_X11_besideOne_26_4
  refine x_iadd hC dX11_besideOne_26 ?_
  refine x_top (fun v2_27_4 => ?_)
  refine x_istore_n hC dX11_besideOne_27 rfl [(2, .int v2_27_4), (0, zr w 257), (1, .int v1_4), (3, .int v3_26_4)] (by decide) rfl ?_
  refine x_iinc hC dX11_besideOne_28 ki_1 [(3, .int (v3_26_4 + (1 : Int32))), (2, .int v2_27_4), (0, zr w 257), (1, .int v1_4)] 3 rfl (by decide) rfl ?_
  refine x_goto (tgt := 4) hC dX11_besideOne_31 (by decide) ?_
  refine x_sub [2, 3, 1, 0] rfl ?_
  exact x_done (fun h => h)
noncomputable def b_X11_besideOne_4 (v1_4 : Int32) (v2_4 : Int32) (v3_4 : Int32) (M : zM) : Option ((Int32 × Int32) ⊕ (Int32)) :=
  if (4 : Int32) ≤ v3_4 then (some (.inr v2_4))
  else ((f_X11_onBy v1_4 v3_4 (1 : Int32) M).bind fun u14_4 =>
  if u14_4 = (-1 : Int32) then (j_X11_besideOne_26_4 v1_4 v3_4 v2_4 (0 : Int32) M)
  else (j_X11_besideOne_26_4 v1_4 v3_4 v2_4 (1 : Int32) M))
set_option maxRecDepth 100000 in
theorem b_X11_besideOne_4_ok {C : zC} {d : Nat} {g : zG} {l : Launch} {w : zW} {r : Int32} {v1_4 : Int32} {v2_4 : Int32} {v3_4 : Int32} (hB : bOK C cX11_besideOne 4 RX11 d g l w false) (hd : 4 ≤ d) (M : zM) (hR : RtI C cX11_besideOne w r M) : Sg C w (0, 0) 4 [(0, zr w 257), (1, .int v1_4), (2, .int v2_4), (3, .int v3_4)] [] M (b_X11_besideOne_4 v1_4 v2_4 v3_4 M) (fun o => Sum.elim (fun (s : (Int32 × Int32)) => Zs C w (0, 0) 4 [(0, zr w 257), (1, .int v1_4), (2, .int s.1), (3, .int s.2)] [] M) (fun (s : (Int32)) => Zs C w (0, 0) 34 [(2, .int s)] [] M) o) := by
  have hC := hB.1.1
  have hq1 : 1 ≤ d := by omega
  unfold b_X11_besideOne_4
  refine x_iload_n hC dX11_besideOne_4 rfl 3 rfl ?_
  refine x_iconst (v := (4 : Int32)) hC dX11_besideOne_5 ki_4 ?_
  refine x_icmp_ge (tgt := 34) hC dX11_besideOne_6 (by decide) ?_ ?_
  · refine x_sub [2] rfl ?_
    exact x_done (fun h => h)
  · refine x_iload_n hC dX11_besideOne_9 rfl 2 rfl ?_
    refine x_aload_n hC dX11_besideOne_10 rfl 0 rfl ?_
    refine x_iload_n hC dX11_besideOne_11 rfl 1 rfl ?_
    refine x_iload_n hC dX11_besideOne_12 rfl 3 rfl ?_
    refine x_iconst (v := (1 : Int32)) hC dX11_besideOne_13 ki_1 ?_
    refine r_cV1 (as := [.int v1_4, .int v3_4, .int (1 : Int32)]) (rest := [.int v2_4]) hB dX11_besideOne_14 kv_X11_334 th_257 hq1 rfl rfl (Nat.le_of_ble_eq_true rfl) (fun v hv => f_X11_onBy_met hB.2 (by omega) hv) (fun u14_4 => ?_)
    refine x_iconst (v := (-1 : Int32)) hC dX11_besideOne_17 ki_m1 ?_
    refine x_icmp_ne (tgt := 25) hC dX11_besideOne_18 (by decide) ?_ ?_
    · refine x_iconst (v := (0 : Int32)) hC dX11_besideOne_21 ki_0 ?_
      refine x_goto (tgt := 26) hC dX11_besideOne_22 (by decide) ?_
      refine x_sub [0, 1, 3] rfl ?_
      exact j_X11_besideOne_26_4_ok hB hd M hR
    · refine x_iconst (v := (1 : Int32)) hC dX11_besideOne_25 ki_1 ?_
      refine x_sub [0, 1, 3] rfl ?_
      exact j_X11_besideOne_26_4_ok hB hd M hR
noncomputable def j_X11_besideOne_34 (v2_34 : Int32) (M : zM) : Option (Int32) :=
  some v2_34
set_option maxRecDepth 100000 in
theorem j_X11_besideOne_34_ok {C : zC} {d : Nat} {g : zG} {l : Launch} {w : zW} {r : Int32} {v2_34 : Int32} (hB : bOK C cX11_besideOne 4 RX11 d g l w false) (hd : 4 ≤ d) (M : zM) (hR : RtI C cX11_besideOne w r M) : Sg C w (0, 0) 34 [(2, .int v2_34)] [] M (j_X11_besideOne_34 v2_34 M) (fun q => q = r) := by
  have hC := hB.1.1
  have hq1 : 1 ≤ d := by omega
  unfold j_X11_besideOne_34
  refine x_iload_n hC dX11_besideOne_34 rfl 0 rfl ?_
  exact r_retI hR dX11_besideOne_35 (fun h => congrArg (fun q => (q, M)) h)
noncomputable def f_X11_besideOne (p1 : Int32) (M : zM) : Option (Int32) :=
  (loopW (fun s => b_X11_besideOne_4 p1 s.1 s.2 M) ((0 : Int32), (0 : Int32))).bind (fun r => j_X11_besideOne_34 r M)
set_option maxRecDepth 100000 in
theorem f_X11_besideOne_ok {C : zC} {d : Nat} {g : zG} {l : Launch} {w : zW} {r : Int32} {p1 : Int32} (hB : bOK C cX11_besideOne 4 RX11 d g l w false) (hd : 4 ≤ d) (M : zM) (hR : RtI C cX11_besideOne w r M) : Sg C w (0, 0) 0 [(0, zr w 257), (1, .int p1)] [] M (f_X11_besideOne p1 M) (fun q => q = r) := by
  have hC := hB.1.1
  have hq1 : 1 ≤ d := by omega
  unfold f_X11_besideOne
  refine x_iconst (v := (0 : Int32)) hC dX11_besideOne_0 ki_0 ?_
  refine x_istore_n hC dX11_besideOne_1 rfl [(2, .int (0 : Int32)), (0, zr w 257), (1, .int p1)] (by decide) rfl ?_
  refine x_iconst (v := (0 : Int32)) hC dX11_besideOne_2 ki_0 ?_
  refine x_istore_n hC dX11_besideOne_3 rfl [(3, .int (0 : Int32)), (2, .int (0 : Int32)), (0, zr w 257), (1, .int p1)] (by decide) rfl ?_
  refine x_sub [2, 3, 1, 0] rfl ?_
  refine x_loopB (pc2 := 34) (fun (s : (Int32 × Int32)) => [(0, zr w 257), (1, .int p1), (2, .int s.1), (3, .int s.2)]) (fun (s : (Int32 × Int32)) => M) (fun (s : (Int32)) => [(2, .int s)]) (fun (s : (Int32)) => M) ((0 : Int32), (0 : Int32)) ?_ ?_
  · exact fun s => b_X11_besideOne_4_ok hB hd M hR
  · intro r9
    exact j_X11_besideOne_34_ok hB hd M hR
theorem f_X11_besideOne_met {l : Launch} {d : Nat} {g : zG} {w : zW} {M0 : zM} {p1 : Int32} {M : zM} (hw : wS w) (hd : 4 ≤ d) {v : Int32} (h : f_X11_besideOne p1 M = some v) : zMet l yX11_besideOne cX11_besideOne 4 (some .int) d g w (zin false) M0 [zr w 257, .int p1] M (some (.int v)) M :=
  met_i (by decide +kernel) (Nat.le_of_ble_eq_true rfl) rfl (fun C hB0 hR => f_X11_besideOne_ok ⟨hB0, hw⟩ hd M hR _ h rfl)
/-! WindingSquareModel.layFlocks()V -/
noncomputable def j_X11_layFlocks_29_2 (v1_29_2 : Int32) (s1_29_2 : Int32) (s2_29_2 : Int32) (M : zM) : Option ((Int32 × zM) ⊕ (zM)) :=
  grd (inb s1_29_2 144) (
  nm (mset M 280 (ix s1_29_2) s2_29_2) fun M29_2 =>
  some (.inl ((v1_29_2 + (1 : Int32)), M29_2)))
set_option maxRecDepth 100000 in
theorem j_X11_layFlocks_29_2_ok {C : zC} {d : Nat} {g : zG} {l : Launch} {w : zW} {r : zM} {v1_29_2 : Int32} {s1_29_2 : Int32} {s2_29_2 : Int32} (hB : bOK C cX11_layFlocks 4 RX11 d g l w false) (hd : 4 ≤ d) (M : zM) (hR : RtV C cX11_layFlocks w r) : Sg C w (0, 0) 29 [(0, zr w 257), (1, .int v1_29_2)] [.int s2_29_2, .int s1_29_2, zr w 280] M (j_X11_layFlocks_29_2 v1_29_2 s1_29_2 s2_29_2 M) (fun o => Sum.elim (fun (s : (Int32 × zM)) => Zs C w (0, 0) 2 [(0, zr w 257), (1, .int s.1)] [] s.2) (fun (s : (zM)) => Zs C w (0, 0) 36 [(0, zr w 257)] [] s) o) := by
  have hC := hB.1.1
  have hq1 : 1 ≤ d := by omega
  unfold j_X11_layFlocks_29_2
  refine r_iast hB dX11_layFlocks_29 th_280 ?_
  refine x_mem (fun M29_2 => ?_)
  refine x_iinc hC dX11_layFlocks_30 ki_1 [(1, .int (v1_29_2 + (1 : Int32))), (0, zr w 257)] 1 rfl (by decide) rfl ?_
  refine x_goto (tgt := 2) hC dX11_layFlocks_33 (by decide) ?_
  refine x_sub [1, 0] rfl ?_
  exact x_done (fun h => h)
noncomputable def b_X11_layFlocks_2 (v1_2 : Int32) (M : zM) : Option ((Int32 × zM) ⊕ (zM)) :=
  if (144 : Int32) ≤ v1_2 then (some (.inr M))
  else (grd (inb v1_2 2425) (
  if (M 258 (ix v1_2)) = (1 : Int32) then (j_X11_layFlocks_29_2 v1_2 v1_2 (-1 : Int32) M)
  else (j_X11_layFlocks_29_2 v1_2 v1_2 v1_2 M)))
set_option maxRecDepth 100000 in
theorem b_X11_layFlocks_2_ok {C : zC} {d : Nat} {g : zG} {l : Launch} {w : zW} {r : zM} {v1_2 : Int32} (hB : bOK C cX11_layFlocks 4 RX11 d g l w false) (hd : 4 ≤ d) (M : zM) (hR : RtV C cX11_layFlocks w r) : Sg C w (0, 0) 2 [(0, zr w 257), (1, .int v1_2)] [] M (b_X11_layFlocks_2 v1_2 M) (fun o => Sum.elim (fun (s : (Int32 × zM)) => Zs C w (0, 0) 2 [(0, zr w 257), (1, .int s.1)] [] s.2) (fun (s : (zM)) => Zs C w (0, 0) 36 [(0, zr w 257)] [] s) o) := by
  have hC := hB.1.1
  have hq1 : 1 ≤ d := by omega
  unfold b_X11_layFlocks_2
  refine x_iload_n hC dX11_layFlocks_2 rfl 1 rfl ?_
  refine x_sipush (v := (144 : Int32)) hC dX11_layFlocks_3 kh_144 ?_
  refine x_icmp_ge (tgt := 36) hC dX11_layFlocks_6 (by decide) ?_ ?_
  · refine x_sub [0] rfl ?_
    exact x_done (fun h => h)
  · refine x_aload_n hC dX11_layFlocks_9 rfl 0 rfl ?_
    refine r_getR hB dX11_layFlocks_10 kf_X11_80 rfl th_257 rf_257_38 ?_
    refine x_iload_n hC dX11_layFlocks_13 rfl 1 rfl ?_
    refine x_aload_n hC dX11_layFlocks_14 rfl 0 rfl ?_
    refine r_getR hB dX11_layFlocks_15 kf_X11_9 rfl th_257 rf_257_0 ?_
    refine x_iload_n hC dX11_layFlocks_18 rfl 1 rfl ?_
    refine r_iald hB dX11_layFlocks_19 th_258 ?_
    refine x_iconst (v := (1 : Int32)) hC dX11_layFlocks_20 ki_1 ?_
    refine x_icmp_ne (tgt := 28) hC dX11_layFlocks_21 (by decide) ?_ ?_
    · refine x_iconst (v := (-1 : Int32)) hC dX11_layFlocks_24 ki_m1 ?_
      refine x_goto (tgt := 29) hC dX11_layFlocks_25 (by decide) ?_
      exact j_X11_layFlocks_29_2_ok hB hd M hR
    · refine x_iload_n hC dX11_layFlocks_28 rfl 1 rfl ?_
      exact j_X11_layFlocks_29_2_ok hB hd M hR
noncomputable def j_X11_layFlocks_122_38_46 (v1_122_38_46 : Int32) (v2_122_38_46 : Int32) (M : zM) : Option ((Int32 × Int32 × zM) ⊕ (Int32 × zM)) :=
  some (.inl (v1_122_38_46, (v2_122_38_46 + (1 : Int32)), M))
set_option maxRecDepth 100000 in
theorem j_X11_layFlocks_122_38_46_ok {C : zC} {d : Nat} {g : zG} {l : Launch} {w : zW} {r : zM} {v1_122_38_46 : Int32} {v2_122_38_46 : Int32} (hB : bOK C cX11_layFlocks 4 RX11 d g l w false) (hd : 4 ≤ d) (M : zM) (hR : RtV C cX11_layFlocks w r) : Sg C w (0, 0) 122 [(0, zr w 257), (1, .int v1_122_38_46), (2, .int v2_122_38_46)] [] M (j_X11_layFlocks_122_38_46 v1_122_38_46 v2_122_38_46 M) (fun o => Sum.elim (fun (s : (Int32 × Int32 × zM)) => Zs C w (0, 0) 46 [(0, zr w 257), (1, .int s.1), (2, .int s.2.1)] [] s.2.2) (fun (s : (Int32 × zM)) => Zs C w (0, 0) 128 [(0, zr w 257), (1, .int s.1)] [] s.2) o) := by
  have hC := hB.1.1
  have hq1 : 1 ≤ d := by omega
  unfold j_X11_layFlocks_122_38_46
  refine x_iinc hC dX11_layFlocks_122 ki_1 [(2, .int (v2_122_38_46 + (1 : Int32))), (0, zr w 257), (1, .int v1_122_38_46)] 2 rfl (by decide) rfl ?_
  refine x_goto (tgt := 46) hC dX11_layFlocks_125 (by decide) ?_
  refine x_sub [1, 2, 0] rfl ?_
  exact x_done (fun h => h)
noncomputable def j_X11_layFlocks_80_38_46 (v1_80_38_46 : Int32) (v2_80_38_46 : Int32) (s0_80_38_46 : Int32) (M : zM) : Option ((Int32 × Int32 × zM) ⊕ (Int32 × zM)) :=
  if s0_80_38_46 = (-1 : Int32) then (j_X11_layFlocks_122_38_46 v1_80_38_46 v2_80_38_46 M)
  else (grd (inb s0_80_38_46 144) (
  grd (inb (v2_80_38_46 / (4 : Int32)) 144) (
  if (M 280 (ix s0_80_38_46)) < (M 280 (ix (v2_80_38_46 / (4 : Int32)))) then (grd (inb s0_80_38_46 144) (
  grd (inb (v2_80_38_46 / (4 : Int32)) 144) (
  nm (mset M 280 (ix (v2_80_38_46 / (4 : Int32))) (M 280 (ix s0_80_38_46))) fun M119_38_46 =>
  j_X11_layFlocks_122_38_46 (1 : Int32) v2_80_38_46 M119_38_46)))
  else (j_X11_layFlocks_122_38_46 v1_80_38_46 v2_80_38_46 M))))
set_option maxRecDepth 100000 in
theorem j_X11_layFlocks_80_38_46_ok {C : zC} {d : Nat} {g : zG} {l : Launch} {w : zW} {r : zM} {v1_80_38_46 : Int32} {v2_80_38_46 : Int32} {s0_80_38_46 : Int32} (hB : bOK C cX11_layFlocks 4 RX11 d g l w false) (hd : 4 ≤ d) (M : zM) (hR : RtV C cX11_layFlocks w r) : Sg C w (0, 0) 80 [(0, zr w 257), (1, .int v1_80_38_46), (2, .int v2_80_38_46)] [.int s0_80_38_46] M (j_X11_layFlocks_80_38_46 v1_80_38_46 v2_80_38_46 s0_80_38_46 M) (fun o => Sum.elim (fun (s : (Int32 × Int32 × zM)) => Zs C w (0, 0) 46 [(0, zr w 257), (1, .int s.1), (2, .int s.2.1)] [] s.2.2) (fun (s : (Int32 × zM)) => Zs C w (0, 0) 128 [(0, zr w 257), (1, .int s.1)] [] s.2) o) := by
  have hC := hB.1.1
  have hq1 : 1 ≤ d := by omega
  unfold j_X11_layFlocks_80_38_46
  refine x_istore_n hC dX11_layFlocks_80 rfl [(3, .int s0_80_38_46), (0, zr w 257), (1, .int v1_80_38_46), (2, .int v2_80_38_46)] (by decide) rfl ?_
  refine x_iload_n hC dX11_layFlocks_81 rfl 0 rfl ?_
  refine x_iconst (v := (-1 : Int32)) hC dX11_layFlocks_82 ki_m1 ?_
  refine x_icmp_eq (tgt := 122) hC dX11_layFlocks_83 (by decide) ?_ ?_
  · refine x_sub [1, 2, 3] rfl ?_
    exact j_X11_layFlocks_122_38_46_ok hB hd M hR
  · refine x_aload_n hC dX11_layFlocks_86 rfl 1 rfl ?_
    refine r_getR hB dX11_layFlocks_87 kf_X11_80 rfl th_257 rf_257_38 ?_
    refine x_iload_n hC dX11_layFlocks_90 rfl 0 rfl ?_
    refine r_iald hB dX11_layFlocks_91 th_280 ?_
    refine x_aload_n hC dX11_layFlocks_92 rfl 1 rfl ?_
    refine r_getR hB dX11_layFlocks_93 kf_X11_80 rfl th_257 rf_257_38 ?_
    refine x_iload_n hC dX11_layFlocks_96 rfl 3 rfl ?_
    refine x_iconst (v := (4 : Int32)) hC dX11_layFlocks_97 ki_4 ?_
    refine x_idiv0 hC dX11_layFlocks_98 nz_4 ?_
    refine r_iald hB dX11_layFlocks_99 th_280 ?_
    refine x_icmp_lt (tgt := 106) hC dX11_layFlocks_100 (by decide) ?_ ?_
    · refine x_aload_n hC dX11_layFlocks_106 rfl 1 rfl ?_
      refine r_getR hB dX11_layFlocks_107 kf_X11_80 rfl th_257 rf_257_38 ?_
      refine x_iload_n hC dX11_layFlocks_110 rfl 3 rfl ?_
      refine x_iconst (v := (4 : Int32)) hC dX11_layFlocks_111 ki_4 ?_
      refine x_idiv0 hC dX11_layFlocks_112 nz_4 ?_
      refine x_aload_n hC dX11_layFlocks_113 rfl 1 rfl ?_
      refine r_getR hB dX11_layFlocks_114 kf_X11_80 rfl th_257 rf_257_38 ?_
      refine x_iload_n hC dX11_layFlocks_117 rfl 0 rfl ?_
      refine r_iald hB dX11_layFlocks_118 th_280 ?_
      refine r_iast hB dX11_layFlocks_119 th_280 ?_
      refine x_mem (fun M119_38_46 => ?_)
      refine x_iconst (v := (1 : Int32)) hC dX11_layFlocks_120 ki_1 ?_
      refine x_istore_n hC dX11_layFlocks_121 rfl [(1, .int (1 : Int32)), (3, .int s0_80_38_46), (0, zr w 257), (2, .int v2_80_38_46)] (by decide) rfl ?_
      refine x_sub [2, 0, 3] rfl ?_
      exact j_X11_layFlocks_122_38_46_ok hB hd M119_38_46 hR
    · refine x_goto (tgt := 122) hC dX11_layFlocks_103 (by decide) ?_
      refine x_sub [1, 2, 3] rfl ?_
      exact j_X11_layFlocks_122_38_46_ok hB hd M hR
noncomputable def b_X11_layFlocks_46_38 (v1_46_38 : Int32) (v2_46_38 : Int32) (M : zM) : Option ((Int32 × Int32 × zM) ⊕ (Int32 × zM)) :=
  if (576 : Int32) ≤ v2_46_38 then (some (.inr (v1_46_38, M)))
  else (grd (inb (v2_46_38 / (4 : Int32)) 2425) (
  if (M 258 (ix (v2_46_38 / (4 : Int32)))) = (1 : Int32) then (j_X11_layFlocks_80_38_46 v1_46_38 v2_46_38 (-1 : Int32) M)
  else ((f_X11_onBy (v2_46_38 / (4 : Int32)) (irem v2_46_38 (4 : Int32)) (1 : Int32) M).bind fun u77_38_46 =>
  j_X11_layFlocks_80_38_46 v1_46_38 v2_46_38 u77_38_46 M)))
set_option maxRecDepth 100000 in
theorem b_X11_layFlocks_46_38_ok {C : zC} {d : Nat} {g : zG} {l : Launch} {w : zW} {r : zM} {v1_46_38 : Int32} {v2_46_38 : Int32} (hB : bOK C cX11_layFlocks 4 RX11 d g l w false) (hd : 4 ≤ d) (M : zM) (hR : RtV C cX11_layFlocks w r) : Sg C w (0, 0) 46 [(0, zr w 257), (1, .int v1_46_38), (2, .int v2_46_38)] [] M (b_X11_layFlocks_46_38 v1_46_38 v2_46_38 M) (fun o => Sum.elim (fun (s : (Int32 × Int32 × zM)) => Zs C w (0, 0) 46 [(0, zr w 257), (1, .int s.1), (2, .int s.2.1)] [] s.2.2) (fun (s : (Int32 × zM)) => Zs C w (0, 0) 128 [(0, zr w 257), (1, .int s.1)] [] s.2) o) := by
  have hC := hB.1.1
  have hq1 : 1 ≤ d := by omega
  unfold b_X11_layFlocks_46_38
  refine x_iload_n hC dX11_layFlocks_46 rfl 2 rfl ?_
  refine x_sipush (v := (576 : Int32)) hC dX11_layFlocks_47 kh_576 ?_
  refine x_icmp_ge (tgt := 128) hC dX11_layFlocks_50 (by decide) ?_ ?_
  · refine x_sub [0, 1] rfl ?_
    exact x_done (fun h => h)
  · refine x_aload_n hC dX11_layFlocks_53 rfl 0 rfl ?_
    refine r_getR hB dX11_layFlocks_54 kf_X11_9 rfl th_257 rf_257_0 ?_
    refine x_iload_n hC dX11_layFlocks_57 rfl 2 rfl ?_
    refine x_iconst (v := (4 : Int32)) hC dX11_layFlocks_58 ki_4 ?_
    refine x_idiv0 hC dX11_layFlocks_59 nz_4 ?_
    refine r_iald hB dX11_layFlocks_60 th_258 ?_
    refine x_iconst (v := (1 : Int32)) hC dX11_layFlocks_61 ki_1 ?_
    refine x_icmp_ne (tgt := 69) hC dX11_layFlocks_62 (by decide) ?_ ?_
    · refine x_iconst (v := (-1 : Int32)) hC dX11_layFlocks_65 ki_m1 ?_
      refine x_goto (tgt := 80) hC dX11_layFlocks_66 (by decide) ?_
      exact j_X11_layFlocks_80_38_46_ok hB hd M hR
    · refine x_aload_n hC dX11_layFlocks_69 rfl 0 rfl ?_
      refine x_iload_n hC dX11_layFlocks_70 rfl 2 rfl ?_
      refine x_iconst (v := (4 : Int32)) hC dX11_layFlocks_71 ki_4 ?_
      refine x_idiv0 hC dX11_layFlocks_72 nz_4 ?_
      refine x_iload_n hC dX11_layFlocks_73 rfl 2 rfl ?_
      refine x_iconst (v := (4 : Int32)) hC dX11_layFlocks_74 ki_4 ?_
      refine x_irem0 hC dX11_layFlocks_75 nz_4 ?_
      refine x_iconst (v := (1 : Int32)) hC dX11_layFlocks_76 ki_1 ?_
      refine r_cV1 (as := [.int (v2_46_38 / (4 : Int32)), .int (irem v2_46_38 (4 : Int32)), .int (1 : Int32)]) (rest := []) hB dX11_layFlocks_77 kv_X11_334 th_257 hq1 rfl rfl (Nat.le_of_ble_eq_true rfl) (fun v hv => f_X11_onBy_met hB.2 (by omega) hv) (fun u77_38_46 => ?_)
      exact j_X11_layFlocks_80_38_46_ok hB hd M hR
noncomputable def j_X11_layFlocks_128_38 (v1_128_38 : Int32) (M : zM) : Option ((Int32 × zM) ⊕ (zM)) :=
  some (.inl (v1_128_38, M))
set_option maxRecDepth 100000 in
theorem j_X11_layFlocks_128_38_ok {C : zC} {d : Nat} {g : zG} {l : Launch} {w : zW} {r : zM} {v1_128_38 : Int32} (hB : bOK C cX11_layFlocks 4 RX11 d g l w false) (hd : 4 ≤ d) (M : zM) (hR : RtV C cX11_layFlocks w r) : Sg C w (0, 0) 128 [(0, zr w 257), (1, .int v1_128_38)] [] M (j_X11_layFlocks_128_38 v1_128_38 M) (fun o => Sum.elim (fun (s : (Int32 × zM)) => Zs C w (0, 0) 38 [(0, zr w 257), (1, .int s.1)] [] s.2) (fun (s : (zM)) => Zs C w (0, 0) 131 [] [] s) o) := by
  have hC := hB.1.1
  have hq1 : 1 ≤ d := by omega
  unfold j_X11_layFlocks_128_38
  refine x_goto (tgt := 38) hC dX11_layFlocks_128 (by decide) ?_
  exact x_done (fun h => h)
noncomputable def b_X11_layFlocks_38 (v1_38 : Int32) (M : zM) : Option ((Int32 × zM) ⊕ (zM)) :=
  if v1_38 = 0 then (some (.inr M))
  else ((loopW (fun s => b_X11_layFlocks_46_38 s.1 s.2.1 s.2.2) ((0 : Int32), (0 : Int32), M)).bind (fun r => j_X11_layFlocks_128_38 r.1 r.2))
set_option maxRecDepth 100000 in
theorem b_X11_layFlocks_38_ok {C : zC} {d : Nat} {g : zG} {l : Launch} {w : zW} {r : zM} {v1_38 : Int32} (hB : bOK C cX11_layFlocks 4 RX11 d g l w false) (hd : 4 ≤ d) (M : zM) (hR : RtV C cX11_layFlocks w r) : Sg C w (0, 0) 38 [(0, zr w 257), (1, .int v1_38)] [] M (b_X11_layFlocks_38 v1_38 M) (fun o => Sum.elim (fun (s : (Int32 × zM)) => Zs C w (0, 0) 38 [(0, zr w 257), (1, .int s.1)] [] s.2) (fun (s : (zM)) => Zs C w (0, 0) 131 [] [] s) o) := by
  have hC := hB.1.1
  have hq1 : 1 ≤ d := by omega
  unfold b_X11_layFlocks_38
  refine x_iload_n hC dX11_layFlocks_38 rfl 1 rfl ?_
  refine x_if_eq (tgt := 131) hC dX11_layFlocks_39 (by decide) ?_ ?_
  · refine x_sub [] rfl ?_
    exact x_done (fun h => h)
  · refine x_iconst (v := (0 : Int32)) hC dX11_layFlocks_42 ki_0 ?_
    refine x_istore_n hC dX11_layFlocks_43 rfl [(1, .int (0 : Int32)), (0, zr w 257)] (by decide) rfl ?_
    refine x_iconst (v := (0 : Int32)) hC dX11_layFlocks_44 ki_0 ?_
    refine x_istore_n hC dX11_layFlocks_45 rfl [(2, .int (0 : Int32)), (1, .int (0 : Int32)), (0, zr w 257)] (by decide) rfl ?_
    refine x_sub [2, 1, 0] rfl ?_
    refine x_loopB (pc2 := 128) (fun (s : (Int32 × Int32 × zM)) => [(0, zr w 257), (1, .int s.1), (2, .int s.2.1)]) (fun (s : (Int32 × Int32 × zM)) => s.2.2) (fun (s : (Int32 × zM)) => [(0, zr w 257), (1, .int s.1)]) (fun (s : (Int32 × zM)) => s.2) ((0 : Int32), (0 : Int32), M) ?_ ?_
    · exact fun s => b_X11_layFlocks_46_38_ok hB hd s.2.2 hR
    · intro r9
      exact j_X11_layFlocks_128_38_ok hB hd r9.2 hR
noncomputable def j_X11_layFlocks_131 (M : zM) : Option (zM) :=
  some M
set_option maxRecDepth 100000 in
theorem j_X11_layFlocks_131_ok {C : zC} {d : Nat} {g : zG} {l : Launch} {w : zW} {r : zM} (hB : bOK C cX11_layFlocks 4 RX11 d g l w false) (hd : 4 ≤ d) (M : zM) (hR : RtV C cX11_layFlocks w r) : Sg C w (0, 0) 131 [] [] M (j_X11_layFlocks_131 M) (fun q => q = r) := by
  have hC := hB.1.1
  have hq1 : 1 ≤ d := by omega
  unfold j_X11_layFlocks_131
  exact r_retV hR dX11_layFlocks_131 (fun h => h)
noncomputable def j_X11_layFlocks_36 (M : zM) : Option (zM) :=
  (loopW (fun s => b_X11_layFlocks_38 s.1 s.2) ((1 : Int32), M)).bind (fun r => j_X11_layFlocks_131 r)
set_option maxRecDepth 100000 in
theorem j_X11_layFlocks_36_ok {C : zC} {d : Nat} {g : zG} {l : Launch} {w : zW} {r : zM} (hB : bOK C cX11_layFlocks 4 RX11 d g l w false) (hd : 4 ≤ d) (M : zM) (hR : RtV C cX11_layFlocks w r) : Sg C w (0, 0) 36 [(0, zr w 257)] [] M (j_X11_layFlocks_36 M) (fun q => q = r) := by
  have hC := hB.1.1
  have hq1 : 1 ≤ d := by omega
  unfold j_X11_layFlocks_36
  refine x_iconst (v := (1 : Int32)) hC dX11_layFlocks_36 ki_1 ?_
  refine x_istore_n hC dX11_layFlocks_37 rfl [(1, .int (1 : Int32)), (0, zr w 257)] (by decide) rfl ?_
  refine x_sub [1, 0] rfl ?_
  refine x_loopB (pc2 := 131) (fun (s : (Int32 × zM)) => [(0, zr w 257), (1, .int s.1)]) (fun (s : (Int32 × zM)) => s.2) (fun (s : (zM)) => []) (fun (s : (zM)) => s) ((1 : Int32), M) ?_ ?_
  · exact fun s => b_X11_layFlocks_38_ok hB hd s.2 hR
  · intro r9
    exact j_X11_layFlocks_131_ok hB hd r9 hR
noncomputable def f_X11_layFlocks (M : zM) : Option (zM) :=
  (loopW (fun s => b_X11_layFlocks_2 s.1 s.2) ((0 : Int32), M)).bind (fun r => j_X11_layFlocks_36 r)
set_option maxRecDepth 100000 in
theorem f_X11_layFlocks_ok {C : zC} {d : Nat} {g : zG} {l : Launch} {w : zW} {r : zM} (hB : bOK C cX11_layFlocks 4 RX11 d g l w false) (hd : 4 ≤ d) (M : zM) (hR : RtV C cX11_layFlocks w r) : Sg C w (0, 0) 0 [(0, zr w 257)] [] M (f_X11_layFlocks M) (fun q => q = r) := by
  have hC := hB.1.1
  have hq1 : 1 ≤ d := by omega
  unfold f_X11_layFlocks
  refine x_iconst (v := (0 : Int32)) hC dX11_layFlocks_0 ki_0 ?_
  refine x_istore_n hC dX11_layFlocks_1 rfl [(1, .int (0 : Int32)), (0, zr w 257)] (by decide) rfl ?_
  refine x_sub [1, 0] rfl ?_
  refine x_loopB (pc2 := 36) (fun (s : (Int32 × zM)) => [(0, zr w 257), (1, .int s.1)]) (fun (s : (Int32 × zM)) => s.2) (fun (s : (zM)) => [(0, zr w 257)]) (fun (s : (zM)) => s) ((0 : Int32), M) ?_ ?_
  · exact fun s => b_X11_layFlocks_2_ok hB hd s.2 hR
  · intro r9
    exact j_X11_layFlocks_36_ok hB hd r9 hR
theorem f_X11_layFlocks_met {l : Launch} {d : Nat} {g : zG} {w : zW} {M0 : zM} {M : zM} (hw : wS w) (hd : 4 ≤ d) {M' : zM} (h : f_X11_layFlocks M = some M') : zMet l yX11_layFlocks cX11_layFlocks 4 none d g w (zin false) M0 [zr w 257] M none M' :=
  met_v (by decide +kernel) (Nat.le_of_ble_eq_true rfl) (fun C hB0 hR => f_X11_layFlocks_ok ⟨hB0, hw⟩ hd M hR _ h rfl)
/-! WindingSquare$Day.leave(I)V -/
noncomputable def j_X1_leave_30 (v1_30 : Int32) (v2_30 : Nat) (s0_30 : Int32) (M : zM) : Option (zM) :=
  if s0_30 = 0 then (nm (mset M 83 1 ((M 83 1) + (1 : Int32))) fun M42 =>
  nm (mset M42 v2_30 10 ((M42 v2_30 10) + (1 : Int32))) fun M52 =>
  bnd2 (f_X1_ask (130 : Int32) v2_30 M52) fun u68 M68 =>
  nm (mset M68 1 4 ((M52 1 4) + u68)) fun M72 =>
  (f_X0_write 68 1 (3 : Int32) v1_30 (M72 v2_30 5) M72).bind fun M89 =>
  if (M89 v2_30 5) = 0 then (bnd2 (f_X1_ask (129 : Int32) v2_30 M89) fun u105 M105 =>
  bnd2 (f_X1_falls u105 M105) fun u108 M108 =>
  if u108 = 0 then (nm (mset M108 v2_30 1 (0 : Int32)) fun M155 =>
  some M155)
  else (nm (mset M108 v2_30 11 ((M108 v2_30 11) + (1 : Int32))) fun M121 =>
  nm (mset M121 1 4 ((M121 1 4) + (50 : Int32))) fun M135 =>
  (f_X0_write 68 1 (4 : Int32) v1_30 (50 : Int32) M135).bind fun M150 =>
  nm (mset M150 v2_30 1 (0 : Int32)) fun M155 =>
  some M155))
  else (nm (mset M89 v2_30 1 (0 : Int32)) fun M155 =>
  some M155))
  else (nm (mset M v2_30 1 (0 : Int32)) fun M155 =>
  some M155)
set_option maxRecDepth 100000 in
theorem j_X1_leave_30_ok {C : zC} {d : Nat} {g : zG} {l : Launch} {w : zW} {r : zM} {v1_30 : Int32} {v2_30 : Nat} {s0_30 : Int32} (hB : bOK C cX1_leave 4 RX1 d g l w true) (hd : 5 ≤ d) (h_v2_30 : tO true 9 v2_30) (M : zM) (hR : RtV C cX1_leave w r) : Sg C w (0, 0) 30 [(0, zr w 83), (1, .int v1_30), (2, zr w v2_30)] [.int s0_30] M (j_X1_leave_30 v1_30 v2_30 s0_30 M) (fun q => q = r) := by
  have hC := hB.1.1
  have hq1 : 1 ≤ d := by omega
  unfold j_X1_leave_30
  refine x_istore_n hC dX1_leave_30 rfl [(3, .int s0_30), (0, zr w 83), (1, .int v1_30), (2, zr w v2_30)] (by decide) rfl ?_
  refine x_iload_n hC dX1_leave_31 rfl 0 rfl ?_
  refine x_if_ne (tgt := 153) hC dX1_leave_32 (by decide) ?_ ?_
  · refine x_aload_n hC dX1_leave_35 rfl 1 rfl ?_
    refine x_dup hC dX1_leave_36 rfl ?_
    refine r_getI hB dX1_leave_37 kf_X1_163 rfl th_83 ?_
    refine x_iconst (v := (1 : Int32)) hC dX1_leave_40 ki_1 ?_
    refine x_iadd hC dX1_leave_41 ?_
    refine r_putI hB dX1_leave_42 kf_X1_163 rfl th_83 ?_
    refine x_mem (fun M42 => ?_)
    refine x_aload_n hC dX1_leave_45 rfl 3 rfl ?_
    refine x_dup hC dX1_leave_46 rfl ?_
    refine r_getI hB dX1_leave_47 kf_X1_166 rfl h_v2_30 ?_
    refine x_iconst (v := (1 : Int32)) hC dX1_leave_50 ki_1 ?_
    refine x_iadd hC dX1_leave_51 ?_
    refine r_putI hB dX1_leave_52 kf_X1_166 rfl h_v2_30 ?_
    refine x_mem (fun M52 => ?_)
    refine x_aload_n hC dX1_leave_55 rfl 1 rfl ?_
    refine r_getR hB dX1_leave_56 kf_X1_25 rfl th_83 rf_83_2 ?_
    refine x_dup hC dX1_leave_59 rfl ?_
    refine r_getI hB dX1_leave_60 kf_X1_169 rfl th_1 ?_
    refine x_aload_n hC dX1_leave_63 rfl 1 rfl ?_
    refine x_sipush (v := (130 : Int32)) hC dX1_leave_64 kh_130 ?_
    refine x_aload_n hC dX1_leave_67 rfl 3 rfl ?_
    refine r_cV2 (as := [.int (130 : Int32), zr w v2_30]) (rest := [.int (M52 1 4), zr w 1]) hB dX1_leave_68 kv_X1_138 th_83 hq1 rfl rfl (Nat.le_of_ble_eq_true rfl) (fun v M' hv => f_X1_ask_met hB.2 h_v2_30 (by omega) hv) (fun u68 M68 => ?_)
    refine x_iadd hC dX1_leave_71 ?_
    refine r_putI hB dX1_leave_72 kf_X1_169 rfl th_1 ?_
    refine x_mem (fun M72 => ?_)
    refine x_aload_n hC dX1_leave_75 rfl 1 rfl ?_
    refine r_getR hB dX1_leave_76 kf_X1_33 rfl th_83 rf_83_4 ?_
    refine x_aload_n hC dX1_leave_79 rfl 1 rfl ?_
    refine r_getR hB dX1_leave_80 kf_X1_25 rfl th_83 rf_83_2 ?_
    refine x_iconst (v := (3 : Int32)) hC dX1_leave_83 ki_3 ?_
    refine x_iload_n hC dX1_leave_84 rfl 2 rfl ?_
    refine x_aload_n hC dX1_leave_85 rfl 3 rfl ?_
    refine r_getI hB dX1_leave_86 kf_X1_61 rfl h_v2_30 ?_
    refine r_cVv (as := [zr w 1, .int (3 : Int32), .int v1_30, .int (M72 v2_30 5)]) (rest := []) hB dX1_leave_89 kv_X1_76 th_68 hq1 rfl rfl (Nat.le_of_ble_eq_true rfl) (fun M' hv => f_X0_write_met hB.2 th_68 th_1 (by omega) hv) (fun M89 => ?_)
    refine x_aload_n hC dX1_leave_92 rfl 3 rfl ?_
    refine r_getI hB dX1_leave_93 kf_X1_61 rfl h_v2_30 ?_
    refine x_if_ne (tgt := 153) hC dX1_leave_96 (by decide) ?_ ?_
    · refine x_aload_n hC dX1_leave_99 rfl 1 rfl ?_
      refine x_aload_n hC dX1_leave_100 rfl 1 rfl ?_
      refine x_sipush (v := (129 : Int32)) hC dX1_leave_101 kh_129 ?_
      refine x_aload_n hC dX1_leave_104 rfl 3 rfl ?_
      refine r_cV2 (as := [.int (129 : Int32), zr w v2_30]) (rest := [zr w 83]) hB dX1_leave_105 kv_X1_138 th_83 hq1 rfl rfl (Nat.le_of_ble_eq_true rfl) (fun v M' hv => f_X1_ask_met hB.2 h_v2_30 (by omega) hv) (fun u105 M105 => ?_)
      refine r_cV2 (as := [.int u105]) (rest := []) hB dX1_leave_108 kv_X1_141 th_83 hq1 rfl rfl (Nat.le_of_ble_eq_true rfl) (fun v M' hv => f_X1_falls_met hB.2 (by omega) hv) (fun u108 M108 => ?_)
      refine x_if_eq (tgt := 153) hC dX1_leave_111 (by decide) ?_ ?_
      · refine x_aload_n hC dX1_leave_153 rfl 3 rfl ?_
        refine x_iconst (v := (0 : Int32)) hC dX1_leave_154 ki_0 ?_
        refine r_putZ hB dX1_leave_155 kf_X1_47 rfl h_v2_30 (Or.inl rfl) ?_
        refine x_mem (fun M155 => ?_)
        exact r_retV hR dX1_leave_158 (fun h => h)
      · refine x_aload_n hC dX1_leave_114 rfl 3 rfl ?_
        refine x_dup hC dX1_leave_115 rfl ?_
        refine r_getI hB dX1_leave_116 kf_X1_172 rfl h_v2_30 ?_
        refine x_iconst (v := (1 : Int32)) hC dX1_leave_119 ki_1 ?_
        refine x_iadd hC dX1_leave_120 ?_
        refine r_putI hB dX1_leave_121 kf_X1_172 rfl h_v2_30 ?_
        refine x_mem (fun M121 => ?_)
        refine x_aload_n hC dX1_leave_124 rfl 1 rfl ?_
        refine r_getR hB dX1_leave_125 kf_X1_25 rfl th_83 rf_83_2 ?_
        refine x_dup hC dX1_leave_128 rfl ?_
        refine r_getI hB dX1_leave_129 kf_X1_169 rfl th_1 ?_
        refine x_bipush (v := (50 : Int32)) hC dX1_leave_132 kb_50 ?_
        refine x_iadd hC dX1_leave_134 ?_
        refine r_putI hB dX1_leave_135 kf_X1_169 rfl th_1 ?_
        refine x_mem (fun M135 => ?_)
        refine x_aload_n hC dX1_leave_138 rfl 1 rfl ?_
        refine r_getR hB dX1_leave_139 kf_X1_33 rfl th_83 rf_83_4 ?_
        refine x_aload_n hC dX1_leave_142 rfl 1 rfl ?_
        refine r_getR hB dX1_leave_143 kf_X1_25 rfl th_83 rf_83_2 ?_
        refine x_iconst (v := (4 : Int32)) hC dX1_leave_146 ki_4 ?_
        refine x_iload_n hC dX1_leave_147 rfl 2 rfl ?_
        refine x_bipush (v := (50 : Int32)) hC dX1_leave_148 kb_50 ?_
        refine r_cVv (as := [zr w 1, .int (4 : Int32), .int v1_30, .int (50 : Int32)]) (rest := []) hB dX1_leave_150 kv_X1_76 th_68 hq1 rfl rfl (Nat.le_of_ble_eq_true rfl) (fun M' hv => f_X0_write_met hB.2 th_68 th_1 (by omega) hv) (fun M150 => ?_)
        refine x_aload_n hC dX1_leave_153 rfl 3 rfl ?_
        refine x_iconst (v := (0 : Int32)) hC dX1_leave_154 ki_0 ?_
        refine r_putZ hB dX1_leave_155 kf_X1_47 rfl h_v2_30 (Or.inl rfl) ?_
        refine x_mem (fun M155 => ?_)
        exact r_retV hR dX1_leave_158 (fun h => h)
    · refine x_aload_n hC dX1_leave_153 rfl 3 rfl ?_
      refine x_iconst (v := (0 : Int32)) hC dX1_leave_154 ki_0 ?_
      refine r_putZ hB dX1_leave_155 kf_X1_47 rfl h_v2_30 (Or.inl rfl) ?_
      refine x_mem (fun M155 => ?_)
      exact r_retV hR dX1_leave_158 (fun h => h)
  · refine x_aload_n hC dX1_leave_153 rfl 3 rfl ?_
    refine x_iconst (v := (0 : Int32)) hC dX1_leave_154 ki_0 ?_
    refine r_putZ hB dX1_leave_155 kf_X1_47 rfl h_v2_30 (Or.inl rfl) ?_
    refine x_mem (fun M155 => ?_)
    exact r_retV hR dX1_leave_158 (fun h => h)
noncomputable def f_X1_leave (p1 : Int32) (M : zM) : Option (zM) :=
  grd (inb p1 16) (
  if (M (1 + 3 + ix p1) 4) = (irem ((M (1 + 3 + ix p1) 7) + (2 : Int32)) (4 : Int32)) then (j_X1_leave_30 p1 (1 + 3 + ix p1) (1 : Int32) M)
  else (j_X1_leave_30 p1 (1 + 3 + ix p1) (0 : Int32) M))
set_option maxRecDepth 100000 in
theorem f_X1_leave_ok {C : zC} {d : Nat} {g : zG} {l : Launch} {w : zW} {r : zM} {p1 : Int32} (hB : bOK C cX1_leave 4 RX1 d g l w true) (hd : 5 ≤ d) (M : zM) (hR : RtV C cX1_leave w r) : Sg C w (0, 0) 0 [(0, zr w 83), (1, .int p1)] [] M (f_X1_leave p1 M) (fun q => q = r) := by
  have hC := hB.1.1
  have hq1 : 1 ≤ d := by omega
  unfold f_X1_leave
  refine x_aload_n hC dX1_leave_0 rfl 0 rfl ?_
  refine r_getR hB dX1_leave_1 kf_X1_25 rfl th_83 rf_83_2 ?_
  refine r_getR hB dX1_leave_4 kf_X1_43 rfl th_1 rf_1_0 ?_
  refine x_iload_n hC dX1_leave_7 rfl 1 rfl ?_
  refine r_aaW (a := 1) hB dX1_leave_8 th_1 (fun hg8 => ?_)
  refine x_astore_n hC dX1_leave_9 rfl [(2, zr w (1 + 3 + ix p1)), (0, zr w 83), (1, .int p1)] (by decide) rfl ?_
  refine x_aload_n hC dX1_leave_10 rfl 0 rfl ?_
  refine r_getI hB dX1_leave_11 kf_X1_95 rfl (nv_wk th_1 hg8).2 ?_
  refine x_aload_n hC dX1_leave_14 rfl 0 rfl ?_
  refine r_getI hB dX1_leave_15 kf_X1_160 rfl (nv_wk th_1 hg8).2 ?_
  refine x_iconst (v := (2 : Int32)) hC dX1_leave_18 ki_2 ?_
  refine x_iadd hC dX1_leave_19 ?_
  refine x_iconst (v := (4 : Int32)) hC dX1_leave_20 ki_4 ?_
  refine x_irem0 hC dX1_leave_21 nz_4 ?_
  refine x_icmp_ne (tgt := 29) hC dX1_leave_22 (by decide) ?_ ?_
  · refine x_iconst (v := (1 : Int32)) hC dX1_leave_25 ki_1 ?_
    refine x_goto (tgt := 30) hC dX1_leave_26 (by decide) ?_
    refine x_sub [1, 2, 0] rfl ?_
    exact j_X1_leave_30_ok hB hd (nv_wk th_1 hg8).2 M hR
  · refine x_iconst (v := (0 : Int32)) hC dX1_leave_29 ki_0 ?_
    refine x_sub [1, 2, 0] rfl ?_
    exact j_X1_leave_30_ok hB hd (nv_wk th_1 hg8).2 M hR
theorem f_X1_leave_met {l : Launch} {d : Nat} {g : zG} {w : zW} {M0 : zM} {p1 : Int32} {M : zM} (hw : wS w) (hd : 5 ≤ d) {M' : zM} (h : f_X1_leave p1 M = some M') : zMet l yX1_leave cX1_leave 4 none d g w (zin true) M0 [zr w 83, .int p1] M none M' :=
  met_v (by decide +kernel) (Nat.le_of_ble_eq_true rfl) (fun C hB0 hR => f_X1_leave_ok ⟨hB0, hw⟩ hd M hR _ h rfl)
/-! WindingSquare$Grid.fewestSteps(IIII)I -/
noncomputable def b_X2_fewestSteps_29 (v3_29 : Int32) (v4_29 : Int32) (v5_29 : Int32) (M : zM) : Option ((Int32 × zM) ⊕ (zM)) :=
  if v4_29 ≤ v5_29 then (some (.inr M))
  else ((f_X2_turnOnce M).bind fun M37_29 =>
  (f_X2_goStraight M37_29).bind fun M41_29 =>
  some (.inl ((v5_29 + (1 : Int32)), M41_29)))
set_option maxRecDepth 100000 in
theorem b_X2_fewestSteps_29_ok {C : zC} {d : Nat} {g : zG} {l : Launch} {w : zW} {r : Int32 × zM} {v3_29 : Int32} {v4_29 : Int32} {v5_29 : Int32} (hB : bOK C cX2_fewestSteps 7 RX2 d g l w true) (hd : 5 ≤ d) (M : zM) (hR : RtI C cX2_fewestSteps w r.1 r.2) : Sg C w (0, 0) 29 [(0, zr w 87), (3, .int v3_29), (4, .int v4_29), (5, .int v5_29)] [] M (b_X2_fewestSteps_29 v3_29 v4_29 v5_29 M) (fun o => Sum.elim (fun (s : (Int32 × zM)) => Zs C w (0, 0) 29 [(0, zr w 87), (3, .int v3_29), (4, .int v4_29), (5, .int s.1)] [] s.2) (fun (s : (zM)) => Zs C w (0, 0) 50 [(0, zr w 87), (3, .int v3_29)] [] s) o) := by
  have hC := hB.1.1
  have hq1 : 1 ≤ d := by omega
  unfold b_X2_fewestSteps_29
  refine x_iload hC dX2_fewestSteps_29 3 rfl ?_
  refine x_iload hC dX2_fewestSteps_31 2 rfl ?_
  refine x_icmp_ge (tgt := 50) hC dX2_fewestSteps_33 (by decide) ?_ ?_
  · refine x_sub [0, 1] rfl ?_
    exact x_done (fun h => h)
  · refine x_aload_n hC dX2_fewestSteps_36 rfl 0 rfl ?_
    refine r_cVv (as := []) (rest := []) hB dX2_fewestSteps_37 kv_X2_54 th_87 hq1 rfl rfl (Nat.le_of_ble_eq_true rfl) (fun M' hv => f_X2_turnOnce_met hB.2 (by omega) hv) (fun M37_29 => ?_)
    refine x_aload_n hC dX2_fewestSteps_40 rfl 0 rfl ?_
    refine r_cVv (as := []) (rest := []) hB dX2_fewestSteps_41 kv_X2_51 th_87 hq1 rfl rfl (Nat.le_of_ble_eq_true rfl) (fun M' hv => f_X2_goStraight_met hB.2 (by omega) hv) (fun M41_29 => ?_)
    refine x_iinc hC dX2_fewestSteps_44 ki_1 [(5, .int (v5_29 + (1 : Int32))), (0, zr w 87), (3, .int v3_29), (4, .int v4_29)] 3 rfl (by decide) rfl ?_
    refine x_goto (tgt := 29) hC dX2_fewestSteps_47 (by decide) ?_
    refine x_sub [1, 2, 3, 0] rfl ?_
    exact x_done (fun h => h)
noncomputable def b_X2_fewestSteps_57 (v3_57 : Int32) (v5_57 : Int32) (v6_57 : Int32) (M : zM) : Option ((Int32 × Int32) ⊕ (Int32)) :=
  if (4 : Int32) ≤ v6_57 then (some (.inr v5_57))
  else (grd (inb (((144 : Int32) * v6_57) + v3_57) 576) (
  nm (f_J9_min_7cf53 v5_57 (M 88 (ix (((144 : Int32) * v6_57) + v3_57)))) fun v5_81_57 =>
  some (.inl (v5_81_57, (v6_57 + (1 : Int32))))))
set_option maxRecDepth 100000 in
theorem b_X2_fewestSteps_57_ok {C : zC} {d : Nat} {g : zG} {l : Launch} {w : zW} {r : Int32 × zM} {v3_57 : Int32} {v5_57 : Int32} {v6_57 : Int32} (hB : bOK C cX2_fewestSteps 7 RX2 d g l w true) (hd : 5 ≤ d) (M : zM) (hR : RtI C cX2_fewestSteps w r.1 r.2) : Sg C w (0, 0) 57 [(0, zr w 87), (3, .int v3_57), (5, .int v5_57), (6, .int v6_57)] [] M (b_X2_fewestSteps_57 v3_57 v5_57 v6_57 M) (fun o => Sum.elim (fun (s : (Int32 × Int32)) => Zs C w (0, 0) 57 [(0, zr w 87), (3, .int v3_57), (5, .int s.1), (6, .int s.2)] [] M) (fun (s : (Int32)) => Zs C w (0, 0) 89 [(5, .int s)] [] M) o) := by
  have hC := hB.1.1
  have hq1 : 1 ≤ d := by omega
  unfold b_X2_fewestSteps_57
  refine x_iload hC dX2_fewestSteps_57 3 rfl ?_
  refine x_iconst (v := (4 : Int32)) hC dX2_fewestSteps_59 ki_4 ?_
  refine x_icmp_ge (tgt := 89) hC dX2_fewestSteps_60 (by decide) ?_ ?_
  · refine x_sub [2] rfl ?_
    exact x_done (fun h => h)
  · refine x_iload hC dX2_fewestSteps_63 2 rfl ?_
    refine x_aload_n hC dX2_fewestSteps_65 rfl 0 rfl ?_
    refine r_getR hB dX2_fewestSteps_66 kf_X2_11 rfl th_87 rf_87_1 ?_
    refine x_sipush (v := (144 : Int32)) hC dX2_fewestSteps_69 kh_144 ?_
    refine x_iload hC dX2_fewestSteps_72 3 rfl ?_
    refine x_imul hC dX2_fewestSteps_74 ?_
    refine x_iload_n hC dX2_fewestSteps_75 rfl 1 rfl ?_
    refine x_iadd hC dX2_fewestSteps_76 ?_
    refine r_iald hB dX2_fewestSteps_77 th_88 ?_
    refine r_cS0 (as := [.int v5_57, .int (M 88 (ix (((144 : Int32) * v6_57) + v3_57)))]) (rest := []) hB dX2_fewestSteps_78 ks_X2_57 hq1 rfl rfl (Nat.le_of_ble_eq_true rfl) (f_J9_min_7cf53_met hB.2 (by omega)) ?_
    refine x_top (fun v5_81_57 => ?_)
    refine x_istore (f := 0) hC dX2_fewestSteps_81 [(5, .int v5_81_57), (0, zr w 87), (3, .int v3_57), (6, .int v6_57)] (by decide) rfl ?_
    refine x_iinc hC dX2_fewestSteps_83 ki_1 [(6, .int (v6_57 + (1 : Int32))), (5, .int v5_81_57), (0, zr w 87), (3, .int v3_57)] 3 rfl (by decide) rfl ?_
    refine x_goto (tgt := 57) hC dX2_fewestSteps_86 (by decide) ?_
    refine x_sub [2, 3, 1, 0] rfl ?_
    exact x_done (fun h => h)
noncomputable def j_X2_fewestSteps_89 (v5_89 : Int32) (M : zM) : Option (Int32 × zM) :=
  if v5_89 < (1000000 : Int32) then (some (v5_89, M))
  else (some ((-1 : Int32), M))
set_option maxRecDepth 100000 in
theorem j_X2_fewestSteps_89_ok {C : zC} {d : Nat} {g : zG} {l : Launch} {w : zW} {r : Int32 × zM} {v5_89 : Int32} (hB : bOK C cX2_fewestSteps 7 RX2 d g l w true) (hd : 5 ≤ d) (M : zM) (hR : RtI C cX2_fewestSteps w r.1 r.2) : Sg C w (0, 0) 89 [(5, .int v5_89)] [] M (j_X2_fewestSteps_89 v5_89 M) (fun q => q = r) := by
  have hC := hB.1.1
  have hq1 : 1 ≤ d := by omega
  unfold j_X2_fewestSteps_89
  refine x_iload hC dX2_fewestSteps_89 0 rfl ?_
  refine x_ldc hC dX2_fewestSteps_91 wd_1063 ?_
  refine x_icmp_lt (tgt := 100) hC dX2_fewestSteps_93 (by decide) ?_ ?_
  · refine x_iload hC dX2_fewestSteps_100 0 rfl ?_
    exact r_retI hR dX2_fewestSteps_102 (fun h => h)
  · refine x_iconst (v := (-1 : Int32)) hC dX2_fewestSteps_96 ki_m1 ?_
    refine x_goto (tgt := 102) hC dX2_fewestSteps_97 (by decide) ?_
    exact r_retI hR dX2_fewestSteps_102 (fun h => h)
noncomputable def j_X2_fewestSteps_50 (v3_50 : Int32) (M : zM) : Option (Int32 × zM) :=
  (loopW (fun s => b_X2_fewestSteps_57 v3_50 s.1 s.2 M) ((1000000 : Int32), (0 : Int32))).bind (fun r => j_X2_fewestSteps_89 r M)
set_option maxRecDepth 100000 in
theorem j_X2_fewestSteps_50_ok {C : zC} {d : Nat} {g : zG} {l : Launch} {w : zW} {r : Int32 × zM} {v3_50 : Int32} (hB : bOK C cX2_fewestSteps 7 RX2 d g l w true) (hd : 5 ≤ d) (M : zM) (hR : RtI C cX2_fewestSteps w r.1 r.2) : Sg C w (0, 0) 50 [(0, zr w 87), (3, .int v3_50)] [] M (j_X2_fewestSteps_50 v3_50 M) (fun q => q = r) := by
  have hC := hB.1.1
  have hq1 : 1 ≤ d := by omega
  unfold j_X2_fewestSteps_50
  refine x_ldc hC dX2_fewestSteps_50 wd_1063 ?_
  refine x_istore (f := 0) hC dX2_fewestSteps_52 [(5, .int (1000000 : Int32)), (0, zr w 87), (3, .int v3_50)] (by decide) rfl ?_
  refine x_iconst (v := (0 : Int32)) hC dX2_fewestSteps_54 ki_0 ?_
  refine x_istore (f := 0) hC dX2_fewestSteps_55 [(6, .int (0 : Int32)), (5, .int (1000000 : Int32)), (0, zr w 87), (3, .int v3_50)] (by decide) rfl ?_
  refine x_sub [2, 3, 1, 0] rfl ?_
  refine x_loopB (pc2 := 89) (fun (s : (Int32 × Int32)) => [(0, zr w 87), (3, .int v3_50), (5, .int s.1), (6, .int s.2)]) (fun (s : (Int32 × Int32)) => M) (fun (s : (Int32)) => [(5, .int s)]) (fun (s : (Int32)) => M) ((1000000 : Int32), (0 : Int32)) ?_ ?_
  · exact fun s => b_X2_fewestSteps_57_ok hB hd M hR
  · intro r9
    exact j_X2_fewestSteps_89_ok hB hd M hR
noncomputable def f_X2_fewestSteps (p1 : Int32) (p2 : Int32) (p3 : Int32) (p4 : Int32) (M : zM) : Option (Int32 × zM) :=
  (f_J7_fill_53178 88 (1000000 : Int32) M).bind fun M6 =>
  grd (inb (((144 : Int32) * p2) + p1) 576) (
  nm (mset M6 88 (ix (((144 : Int32) * p2) + p1)) (0 : Int32)) fun M21 =>
  (f_X2_goStraight M21).bind fun M23 =>
  (loopW (fun s => b_X2_fewestSteps_29 p3 p4 s.1 s.2) ((0 : Int32), M23)).bind (fun r => j_X2_fewestSteps_50 p3 r))
set_option maxRecDepth 100000 in
theorem f_X2_fewestSteps_ok {C : zC} {d : Nat} {g : zG} {l : Launch} {w : zW} {r : Int32 × zM} {p1 : Int32} {p2 : Int32} {p3 : Int32} {p4 : Int32} (hB : bOK C cX2_fewestSteps 7 RX2 d g l w true) (hd : 5 ≤ d) (M : zM) (hR : RtI C cX2_fewestSteps w r.1 r.2) : Sg C w (0, 0) 0 [(0, zr w 87), (1, .int p1), (2, .int p2), (3, .int p3), (4, .int p4)] [] M (f_X2_fewestSteps p1 p2 p3 p4 M) (fun q => q = r) := by
  have hC := hB.1.1
  have hq1 : 1 ≤ d := by omega
  unfold f_X2_fewestSteps
  refine x_aload_n hC dX2_fewestSteps_0 rfl 0 rfl ?_
  refine r_getR hB dX2_fewestSteps_1 kf_X2_11 rfl th_87 rf_87_1 ?_
  refine x_ldc hC dX2_fewestSteps_4 wd_1063 ?_
  refine r_cSv (as := [zr w 88, .int (1000000 : Int32)]) (rest := []) hB dX2_fewestSteps_6 ks_X2_40 hq1 rfl rfl (Nat.le_of_ble_eq_true rfl) (fun M' hv => f_J7_fill_53178_met hB.2 (tA.toI th_88) (by omega) hv) (fun M6 => ?_)
  refine x_aload_n hC dX2_fewestSteps_9 rfl 0 rfl ?_
  refine r_getR hB dX2_fewestSteps_10 kf_X2_11 rfl th_87 rf_87_1 ?_
  refine x_sipush (v := (144 : Int32)) hC dX2_fewestSteps_13 kh_144 ?_
  refine x_iload_n hC dX2_fewestSteps_16 rfl 2 rfl ?_
  refine x_imul hC dX2_fewestSteps_17 ?_
  refine x_iload_n hC dX2_fewestSteps_18 rfl 1 rfl ?_
  refine x_iadd hC dX2_fewestSteps_19 ?_
  refine x_iconst (v := (0 : Int32)) hC dX2_fewestSteps_20 ki_0 ?_
  refine r_iast hB dX2_fewestSteps_21 th_88 ?_
  refine x_mem (fun M21 => ?_)
  refine x_aload_n hC dX2_fewestSteps_22 rfl 0 rfl ?_
  refine r_cVv (as := []) (rest := []) hB dX2_fewestSteps_23 kv_X2_51 th_87 hq1 rfl rfl (Nat.le_of_ble_eq_true rfl) (fun M' hv => f_X2_goStraight_met hB.2 (by omega) hv) (fun M23 => ?_)
  refine x_iconst (v := (0 : Int32)) hC dX2_fewestSteps_26 ki_0 ?_
  refine x_istore (f := 0) hC dX2_fewestSteps_27 [(5, .int (0 : Int32)), (0, zr w 87), (1, .int p1), (2, .int p2), (3, .int p3), (4, .int p4)] (by decide) rfl ?_
  refine x_sub [1, 4, 5, 0] rfl ?_
  refine x_loopB (pc2 := 50) (fun (s : (Int32 × zM)) => [(0, zr w 87), (3, .int p3), (4, .int p4), (5, .int s.1)]) (fun (s : (Int32 × zM)) => s.2) (fun (s : (zM)) => [(0, zr w 87), (3, .int p3)]) (fun (s : (zM)) => s) ((0 : Int32), M23) ?_ ?_
  · exact fun s => b_X2_fewestSteps_29_ok hB hd s.2 hR
  · intro r9
    exact j_X2_fewestSteps_50_ok hB hd r9 hR
theorem f_X2_fewestSteps_met {l : Launch} {d : Nat} {g : zG} {w : zW} {M0 : zM} {p1 : Int32} {p2 : Int32} {p3 : Int32} {p4 : Int32} {M : zM} (hw : wS w) (hd : 5 ≤ d) {v : Int32} {M' : zM} (h : f_X2_fewestSteps p1 p2 p3 p4 M = some (v, M')) : zMet l yX2_fewestSteps cX2_fewestSteps 7 (some .int) d g w (zin true) M0 [zr w 87, .int p1, .int p2, .int p3, .int p4] M (some (.int v)) M' :=
  met_i (by decide +kernel) (Nat.le_of_ble_eq_true rfl) rfl (fun C hB0 hR => f_X2_fewestSteps_ok (r := (v, M')) ⟨hB0, hw⟩ hd M hR _ h rfl)
/-! WindingSquare$Texts.readStones(LWindingSquare$Reader;)I -/
noncomputable def j_X8_readStones_42_10 (a0 : Nat) (v2_42_10 : Int32) (v3_42_10 : Int32) (s1_42_10 : Int32) (M : zM) : Option ((Int32 × zM) ⊕ ((Int32 × zM) ⊕ (Int32 × zM))) :=
  bnd2 (f_X5_opens s1_42_10 v2_42_10 (16 : Int32) M) fun u45_10 M45_10 =>
  if u45_10 = 0 then (some (.inr (.inr ((-1 : Int32), M45_10))))
  else ((f_X5_next M45_10).bind fun M54_10 =>
  bnd2 (f_X8_readArea a0 v3_42_10 M54_10) fun u60_10 M60_10 =>
  if u60_10 = 0 then (some (.inr (.inr ((-1 : Int32), M60_10))))
  else (bnd2 (f_X5_take (59 : Int32) M60_10) fun u69_10 M69_10 =>
  if u69_10 = 0 then (some (.inr (.inr ((-1 : Int32), M69_10))))
  else (some (.inl ((v2_42_10 + (1 : Int32)), M69_10)))))
set_option maxRecDepth 100000 in
theorem j_X8_readStones_42_10_ok {C : zC} {d : Nat} {g : zG} {l : Launch} {w : zW} {r : Int32 × zM} {a0 : Nat} {v2_42_10 : Int32} {v3_42_10 : Int32} {s1_42_10 : Int32} (hB : bOK C cX8_readStones 4 RX8 d g l w true) (h0 : tO true 8 a0) (hd : 5 ≤ d) (M : zM) (hR : RtI C cX8_readStones w r.1 r.2) : Sg C w (0, 0) 42 [(0, zr w a0), (1, zr w 78), (2, .int v2_42_10), (3, .int v3_42_10)] [.int s1_42_10, zr w 78] M (j_X8_readStones_42_10 a0 v2_42_10 v3_42_10 s1_42_10 M) (fun o => Sum.elim (fun (s : (Int32 × zM)) => Zs C w (0, 0) 10 [(0, zr w a0), (1, zr w 78), (2, .int s.1)] [] s.2) (fun q => Sum.elim (fun (s : (Int32 × zM)) => Zs C w (0, 0) 83 [(2, .int s.1)] [] s.2) (fun q => q = r) q) o) := by
  have hC := hB.1.1
  have hq1 : 1 ≤ d := by omega
  unfold j_X8_readStones_42_10
  refine x_iload_n hC dX8_readStones_42 rfl 2 rfl ?_
  refine x_bipush (v := (16 : Int32)) hC dX8_readStones_43 kb_16 ?_
  refine r_cV2 (as := [.int s1_42_10, .int v2_42_10, .int (16 : Int32)]) (rest := []) hB dX8_readStones_45 kv_X8_56 th_78 hq1 rfl rfl (Nat.le_of_ble_eq_true rfl) (fun v M' hv => f_X5_opens_met hB.2 (by omega) hv) (fun u45_10 M45_10 => ?_)
  refine x_if_ne (tgt := 53) hC dX8_readStones_48 (by decide) ?_ ?_
  · refine x_iconst (v := (-1 : Int32)) hC dX8_readStones_51 ki_m1 ?_
    exact r_retI hR dX8_readStones_52 (fun h => h)
  · refine x_aload_n hC dX8_readStones_53 rfl 1 rfl ?_
    refine r_cVv (as := []) (rest := []) hB dX8_readStones_54 kv_X8_60 th_78 hq1 rfl rfl (Nat.le_of_ble_eq_true rfl) (fun M' hv => f_X5_next_met hB.2 (by omega) hv) (fun M54_10 => ?_)
    refine x_aload_n hC dX8_readStones_57 rfl 0 rfl ?_
    refine x_aload_n hC dX8_readStones_58 rfl 1 rfl ?_
    refine x_iload_n hC dX8_readStones_59 rfl 3 rfl ?_
    refine r_cV2 (as := [zr w 78, .int v3_42_10]) (rest := []) hB dX8_readStones_60 kv_X8_63 h0 hq1 rfl rfl (Nat.le_of_ble_eq_true rfl) (fun v M' hv => f_X8_readArea_met hB.2 h0 (by omega) hv) (fun u60_10 M60_10 => ?_)
    refine x_if_eq (tgt := 75) hC dX8_readStones_63 (by decide) ?_ ?_
    · refine x_iconst (v := (-1 : Int32)) hC dX8_readStones_75 ki_m1 ?_
      exact r_retI hR dX8_readStones_76 (fun h => h)
    · refine x_aload_n hC dX8_readStones_66 rfl 1 rfl ?_
      refine x_bipush (v := (59 : Int32)) hC dX8_readStones_67 kb_59 ?_
      refine r_cV2 (as := [.int (59 : Int32)]) (rest := []) hB dX8_readStones_69 kv_X8_67 th_78 hq1 rfl rfl (Nat.le_of_ble_eq_true rfl) (fun v M' hv => f_X5_take_met hB.2 (by omega) hv) (fun u69_10 M69_10 => ?_)
      refine x_if_ne (tgt := 77) hC dX8_readStones_72 (by decide) ?_ ?_
      · refine x_iconst (v := (-1 : Int32)) hC dX8_readStones_75 ki_m1 ?_
        exact r_retI hR dX8_readStones_76 (fun h => h)
      · refine x_iinc hC dX8_readStones_77 ki_1 [(2, .int (v2_42_10 + (1 : Int32))), (0, zr w a0), (1, zr w 78), (3, .int v3_42_10)] 2 rfl (by decide) rfl ?_
        refine x_goto (tgt := 10) hC dX8_readStones_80 (by decide) ?_
        refine x_sub [1, 2, 0] rfl ?_
        exact x_done (fun h => h)
noncomputable def b_X8_readStones_10 (a0 : Nat) (v2_10 : Int32) (M : zM) : Option ((Int32 × zM) ⊕ ((Int32 × zM) ⊕ (Int32 × zM))) :=
  if (16 : Int32) < v2_10 then (some (.inr (.inl (v2_10, M))))
  else ((f_X5_kind M).bind fun u17_10 =>
  if u17_10 = 0 then (some (.inr (.inl (v2_10, M))))
  else ((f_X5_kind M).bind fun u24_10 =>
  nm (f_X8_stoneOf u24_10) fun v3_30_10 =>
  if v3_30_10 = (-1 : Int32) then (j_X8_readStones_42_10 a0 v2_10 v3_30_10 (0 : Int32) M)
  else (j_X8_readStones_42_10 a0 v2_10 v3_30_10 (1 : Int32) M)))
set_option maxRecDepth 100000 in
theorem b_X8_readStones_10_ok {C : zC} {d : Nat} {g : zG} {l : Launch} {w : zW} {r : Int32 × zM} {a0 : Nat} {v2_10 : Int32} (hB : bOK C cX8_readStones 4 RX8 d g l w true) (h0 : tO true 8 a0) (hd : 5 ≤ d) (M : zM) (hR : RtI C cX8_readStones w r.1 r.2) : Sg C w (0, 0) 10 [(0, zr w a0), (1, zr w 78), (2, .int v2_10)] [] M (b_X8_readStones_10 a0 v2_10 M) (fun o => Sum.elim (fun (s : (Int32 × zM)) => Zs C w (0, 0) 10 [(0, zr w a0), (1, zr w 78), (2, .int s.1)] [] s.2) (fun q => Sum.elim (fun (s : (Int32 × zM)) => Zs C w (0, 0) 83 [(2, .int s.1)] [] s.2) (fun q => q = r) q) o) := by
  have hC := hB.1.1
  have hq1 : 1 ≤ d := by omega
  unfold b_X8_readStones_10
  refine x_iload_n hC dX8_readStones_10 rfl 2 rfl ?_
  refine x_bipush (v := (16 : Int32)) hC dX8_readStones_11 kb_16 ?_
  refine x_icmp_gt (tgt := 83) hC dX8_readStones_13 (by decide) ?_ ?_
  · refine x_sub [2] rfl ?_
    exact x_done (fun h => h)
  · refine x_aload_n hC dX8_readStones_16 rfl 1 rfl ?_
    refine r_cV1 (as := []) (rest := []) hB dX8_readStones_17 kv_X8_46 th_78 hq1 rfl rfl (Nat.le_of_ble_eq_true rfl) (fun v hv => f_X5_kind_met hB.2 (by omega) hv) (fun u17_10 => ?_)
    refine x_if_eq (tgt := 83) hC dX8_readStones_20 (by decide) ?_ ?_
    · refine x_sub [2] rfl ?_
      exact x_done (fun h => h)
    · refine x_aload_n hC dX8_readStones_23 rfl 1 rfl ?_
      refine r_cV1 (as := []) (rest := []) hB dX8_readStones_24 kv_X8_46 th_78 hq1 rfl rfl (Nat.le_of_ble_eq_true rfl) (fun v hv => f_X5_kind_met hB.2 (by omega) hv) (fun u24_10 => ?_)
      refine r_cS0 (as := [.int u24_10]) (rest := []) hB dX8_readStones_27 ks_X8_52 hq1 rfl rfl (Nat.le_of_ble_eq_true rfl) (f_X8_stoneOf_met hB.2 (by omega)) ?_
      refine x_top (fun v3_30_10 => ?_)
      refine x_istore_n hC dX8_readStones_30 rfl [(3, .int v3_30_10), (0, zr w a0), (1, zr w 78), (2, .int v2_10)] (by decide) rfl ?_
      refine x_aload_n hC dX8_readStones_31 rfl 2 rfl ?_
      refine x_iload_n hC dX8_readStones_32 rfl 0 rfl ?_
      refine x_iconst (v := (-1 : Int32)) hC dX8_readStones_33 ki_m1 ?_
      refine x_icmp_eq (tgt := 41) hC dX8_readStones_34 (by decide) ?_ ?_
      · refine x_iconst (v := (0 : Int32)) hC dX8_readStones_41 ki_0 ?_
        refine x_sub [1, 2, 3, 0] rfl ?_
        exact j_X8_readStones_42_10_ok hB h0 hd M hR
      · refine x_iconst (v := (1 : Int32)) hC dX8_readStones_37 ki_1 ?_
        refine x_goto (tgt := 42) hC dX8_readStones_38 (by decide) ?_
        refine x_sub [1, 2, 3, 0] rfl ?_
        exact j_X8_readStones_42_10_ok hB h0 hd M hR
noncomputable def j_X8_readStones_83 (a0 : Nat) (v2_83 : Int32) (M : zM) : Option (Int32 × zM) :=
  some (v2_83, M)
set_option maxRecDepth 100000 in
theorem j_X8_readStones_83_ok {C : zC} {d : Nat} {g : zG} {l : Launch} {w : zW} {r : Int32 × zM} {a0 : Nat} {v2_83 : Int32} (hB : bOK C cX8_readStones 4 RX8 d g l w true) (h0 : tO true 8 a0) (hd : 5 ≤ d) (M : zM) (hR : RtI C cX8_readStones w r.1 r.2) : Sg C w (0, 0) 83 [(2, .int v2_83)] [] M (j_X8_readStones_83 a0 v2_83 M) (fun q => q = r) := by
  have hC := hB.1.1
  have hq1 : 1 ≤ d := by omega
  unfold j_X8_readStones_83
  refine x_iload_n hC dX8_readStones_83 rfl 0 rfl ?_
  exact r_retI hR dX8_readStones_84 (fun h => h)
noncomputable def f_X8_readStones (a0 : Nat) (M : zM) : Option (Int32 × zM) :=
  (f_J7_fill_53178 (a0 + 8) (0 : Int32) M).bind fun M5 =>
  (loopW (fun s => b_X8_readStones_10 a0 s.1 s.2) ((0 : Int32), M5)).bind (fun q => Sum.elim (fun r => j_X8_readStones_83 a0 r.1 r.2) some q)
set_option maxRecDepth 100000 in
theorem f_X8_readStones_ok {C : zC} {d : Nat} {g : zG} {l : Launch} {w : zW} {r : Int32 × zM} {a0 : Nat} (hB : bOK C cX8_readStones 4 RX8 d g l w true) (h0 : tO true 8 a0) (hd : 5 ≤ d) (M : zM) (hR : RtI C cX8_readStones w r.1 r.2) : Sg C w (0, 0) 0 [(0, zr w a0), (1, zr w 78)] [] M (f_X8_readStones a0 M) (fun q => q = r) := by
  have hC := hB.1.1
  have hq1 : 1 ≤ d := by omega
  unfold f_X8_readStones
  refine x_aload_n hC dX8_readStones_0 rfl 0 rfl ?_
  refine r_getR hB dX8_readStones_1 kf_X8_22 rfl h0 (nv_8_2 h0).1 ?_
  refine x_iconst (v := (0 : Int32)) hC dX8_readStones_4 ki_0 ?_
  refine r_cSv (as := [zr w (a0 + 8), .int (0 : Int32)]) (rest := []) hB dX8_readStones_5 ks_X8_40 hq1 rfl rfl (Nat.le_of_ble_eq_true rfl) (fun M' hv => f_J7_fill_53178_met hB.2 (tA.toI (nv_8_2 h0).2) (by omega) hv) (fun M5 => ?_)
  refine x_iconst (v := (0 : Int32)) hC dX8_readStones_8 ki_0 ?_
  refine x_istore_n hC dX8_readStones_9 rfl [(2, .int (0 : Int32)), (0, zr w a0), (1, zr w 78)] (by decide) rfl ?_
  refine x_sub [1, 2, 0] rfl ?_
  refine x_loopR (pc2 := 83) (fun (s : (Int32 × zM)) => [(0, zr w a0), (1, zr w 78), (2, .int s.1)]) (fun (s : (Int32 × zM)) => s.2) (fun (s : (Int32 × zM)) => [(2, .int s.1)]) (fun (s : (Int32 × zM)) => s.2) ((0 : Int32), M5) ?_ ?_
  · exact fun s => b_X8_readStones_10_ok hB h0 hd s.2 hR
  · intro r9
    exact j_X8_readStones_83_ok hB h0 hd r9.2 hR
theorem f_X8_readStones_met {l : Launch} {d : Nat} {g : zG} {w : zW} {M0 : zM} {a0 : Nat} {M : zM} (hw : wS w) (h0 : tO true 8 a0) (hd : 5 ≤ d) {v : Int32} {M' : zM} (h : f_X8_readStones a0 M = some (v, M')) : zMet l yX8_readStones cX8_readStones 4 (some .int) d g w (zin true) M0 [zr w a0, zr w 78] M (some (.int v)) M' :=
  met_i (by decide +kernel) (Nat.le_of_ble_eq_true rfl) rfl (fun C hB0 hR => f_X8_readStones_ok (r := (v, M')) ⟨hB0, hw⟩ h0 hd M hR _ h rfl)
/-! WindingSquare$Texts.copyFrom(LWindingSquare$Texts;)V -/
noncomputable def b_X8_copyFrom_2 (a0 : Nat) (a1 : Nat) (v2_2 : Int32) (M : zM) : Option ((Int32 × zM) ⊕ (zM)) :=
  if (3 : Int32) < v2_2 then (some (.inr M))
  else ((f_X8_copyText a0 v2_2 a1 M).bind fun M10_2 =>
  some (.inl ((v2_2 + (1 : Int32)), M10_2)))
set_option maxRecDepth 100000 in
theorem b_X8_copyFrom_2_ok {C : zC} {d : Nat} {g : zG} {l : Launch} {w : zW} {r : zM} {a0 : Nat} {a1 : Nat} {v2_2 : Int32} (hB : bOK C cX8_copyFrom 3 RX8 d g l w true) (h0 : tO true 8 a0) (h1 : tO true 8 a1) (hd : 5 ≤ d) (M : zM) (hR : RtV C cX8_copyFrom w r) : Sg C w (0, 0) 2 [(0, zr w a0), (1, zr w a1), (2, .int v2_2)] [] M (b_X8_copyFrom_2 a0 a1 v2_2 M) (fun o => Sum.elim (fun (s : (Int32 × zM)) => Zs C w (0, 0) 2 [(0, zr w a0), (1, zr w a1), (2, .int s.1)] [] s.2) (fun (s : (zM)) => Zs C w (0, 0) 19 [] [] s) o) := by
  have hC := hB.1.1
  have hq1 : 1 ≤ d := by omega
  unfold b_X8_copyFrom_2
  refine x_iload_n hC dX8_copyFrom_2 rfl 2 rfl ?_
  refine x_iconst (v := (3 : Int32)) hC dX8_copyFrom_3 ki_3 ?_
  refine x_icmp_gt (tgt := 19) hC dX8_copyFrom_4 (by decide) ?_ ?_
  · refine x_sub [] rfl ?_
    exact x_done (fun h => h)
  · refine x_aload_n hC dX8_copyFrom_7 rfl 0 rfl ?_
    refine x_iload_n hC dX8_copyFrom_8 rfl 2 rfl ?_
    refine x_aload_n hC dX8_copyFrom_9 rfl 1 rfl ?_
    refine r_cVv (as := [.int v2_2, zr w a1]) (rest := []) hB dX8_copyFrom_10 kv_X8_101 h0 hq1 rfl rfl (Nat.le_of_ble_eq_true rfl) (fun M' hv => f_X8_copyText_met hB.2 h0 h1 (by omega) hv) (fun M10_2 => ?_)
    refine x_iinc hC dX8_copyFrom_13 ki_1 [(2, .int (v2_2 + (1 : Int32))), (0, zr w a0), (1, zr w a1)] 2 rfl (by decide) rfl ?_
    refine x_goto (tgt := 2) hC dX8_copyFrom_16 (by decide) ?_
    refine x_sub [1, 2, 0] rfl ?_
    exact x_done (fun h => h)
noncomputable def j_X8_copyFrom_19 (a0 : Nat) (a1 : Nat) (M : zM) : Option (zM) :=
  some M
set_option maxRecDepth 100000 in
theorem j_X8_copyFrom_19_ok {C : zC} {d : Nat} {g : zG} {l : Launch} {w : zW} {r : zM} {a0 : Nat} {a1 : Nat} (hB : bOK C cX8_copyFrom 3 RX8 d g l w true) (h0 : tO true 8 a0) (h1 : tO true 8 a1) (hd : 5 ≤ d) (M : zM) (hR : RtV C cX8_copyFrom w r) : Sg C w (0, 0) 19 [] [] M (j_X8_copyFrom_19 a0 a1 M) (fun q => q = r) := by
  have hC := hB.1.1
  have hq1 : 1 ≤ d := by omega
  unfold j_X8_copyFrom_19
  exact r_retV hR dX8_copyFrom_19 (fun h => h)
noncomputable def f_X8_copyFrom (a0 : Nat) (a1 : Nat) (M : zM) : Option (zM) :=
  (loopW (fun s => b_X8_copyFrom_2 a0 a1 s.1 s.2) ((0 : Int32), M)).bind (fun r => j_X8_copyFrom_19 a0 a1 r)
set_option maxRecDepth 100000 in
theorem f_X8_copyFrom_ok {C : zC} {d : Nat} {g : zG} {l : Launch} {w : zW} {r : zM} {a0 : Nat} {a1 : Nat} (hB : bOK C cX8_copyFrom 3 RX8 d g l w true) (h0 : tO true 8 a0) (h1 : tO true 8 a1) (hd : 5 ≤ d) (M : zM) (hR : RtV C cX8_copyFrom w r) : Sg C w (0, 0) 0 [(0, zr w a0), (1, zr w a1)] [] M (f_X8_copyFrom a0 a1 M) (fun q => q = r) := by
  have hC := hB.1.1
  have hq1 : 1 ≤ d := by omega
  unfold f_X8_copyFrom
  refine x_iconst (v := (0 : Int32)) hC dX8_copyFrom_0 ki_0 ?_
  refine x_istore_n hC dX8_copyFrom_1 rfl [(2, .int (0 : Int32)), (0, zr w a0), (1, zr w a1)] (by decide) rfl ?_
  refine x_sub [1, 2, 0] rfl ?_
  refine x_loopB (pc2 := 19) (fun (s : (Int32 × zM)) => [(0, zr w a0), (1, zr w a1), (2, .int s.1)]) (fun (s : (Int32 × zM)) => s.2) (fun (s : (zM)) => []) (fun (s : (zM)) => s) ((0 : Int32), M) ?_ ?_
  · exact fun s => b_X8_copyFrom_2_ok hB h0 h1 hd s.2 hR
  · intro r9
    exact j_X8_copyFrom_19_ok hB h0 h1 hd r9 hR
theorem f_X8_copyFrom_met {l : Launch} {d : Nat} {g : zG} {w : zW} {M0 : zM} {a0 : Nat} {a1 : Nat} {M : zM} (hw : wS w) (h0 : tO true 8 a0) (h1 : tO true 8 a1) (hd : 5 ≤ d) {M' : zM} (h : f_X8_copyFrom a0 a1 M = some M') : zMet l yX8_copyFrom cX8_copyFrom 3 none d g w (zin true) M0 [zr w a0, zr w a1] M none M' :=
  met_v (by decide +kernel) (Nat.le_of_ble_eq_true rfl) (fun C hB0 hR => f_X8_copyFrom_ok ⟨hB0, hw⟩ h0 h1 hd M hR _ h rfl)
/-! WindingSquare.comes(III)Z -/
noncomputable def f_X10_comes (p1 : Int32) (p2 : Int32) (p3 : Int32) (M : zM) : Option (Int32 × zM) :=
  if (f_X7_has 1 p1 M) = 0 then (some ((0 : Int32), M))
  else (grd (inb p1 16) (
  if (M (1 + 3 + ix p1) 1) = 0 then (if p2 < 0 then (some ((0 : Int32), M))
  else (if (3 : Int32) < p2 then (some ((0 : Int32), M))
  else (if (f_X10_inRow p3) = 0 then (some ((0 : Int32), M))
  else (nm (f_X10_entry p2 p3) fun v4_49 =>
  grd (inb v4_49 144) (
  if (M 3 (ix v4_49)) = (1 : Int32) then (some ((0 : Int32), M))
  else ((f_X7_whoAt 1 v4_49 M).bind fun u71 =>
  if u71 = (-1 : Int32) then ((f_X10_keep M).bind fun M81 =>
  grd (inb p1 16) (
  (f_X9_enter (1 + 3 + ix p1) p2 v4_49 M81).bind fun M96 =>
  (f_X0_write 68 1 (0 : Int32) p1 v4_49 M96).bind fun M111 =>
  some ((1 : Int32), M111)))
  else (some ((0 : Int32), M))))))))
  else (some ((0 : Int32), M))))
set_option maxRecDepth 100000 in
theorem f_X10_comes_ok {C : zC} {d : Nat} {g : zG} {l : Launch} {w : zW} {r : Int32 × zM} {p1 : Int32} {p2 : Int32} {p3 : Int32} (hB : bOK C cX10_comes 5 RX10 d g l w true) (hd : 5 ≤ d) (M : zM) (hR : RtZ C cX10_comes w r.1 r.2) : Sg C w (0, 0) 0 [(0, zr w 0), (1, .int p1), (2, .int p2), (3, .int p3)] [] M (f_X10_comes p1 p2 p3 M) (fun q => q = r) := by
  have hC := hB.1.1
  have hq1 : 1 ≤ d := by omega
  unfold f_X10_comes
  refine x_aload_n hC dX10_comes_0 rfl 0 rfl ?_
  refine r_getR hB dX10_comes_1 kf_X10_10 rfl th_0 rf_0_0 ?_
  refine x_iload_n hC dX10_comes_4 rfl 1 rfl ?_
  refine r_cV0 (as := [.int p1]) (rest := []) hB dX10_comes_5 kv_X10_115 th_1 hq1 rfl rfl (Nat.le_of_ble_eq_true rfl) (f_X7_has_met hB.2 th_1 (by omega)) ?_
  refine x_if_eq (tgt := 42) hC dX10_comes_8 (by decide) ?_ ?_
  · refine x_iconst (v := (0 : Int32)) hC dX10_comes_42 ki_0 ?_
    exact r_retZ hR dX10_comes_43 (Or.inl rfl) (fun h => h)
  · refine x_aload_n hC dX10_comes_11 rfl 0 rfl ?_
    refine r_getR hB dX10_comes_12 kf_X10_10 rfl th_0 rf_0_0 ?_
    refine r_getR hB dX10_comes_15 kf_X10_105 rfl th_1 rf_1_0 ?_
    refine x_iload_n hC dX10_comes_18 rfl 1 rfl ?_
    refine r_aaW (a := 1) hB dX10_comes_19 th_1 (fun hg19 => ?_)
    refine r_getI hB dX10_comes_20 kf_X10_119 rfl (nv_wk th_1 hg19).2 ?_
    refine x_if_ne (tgt := 42) hC dX10_comes_23 (by decide) ?_ ?_
    · refine x_iload_n hC dX10_comes_26 rfl 2 rfl ?_
      refine x_if_lt (tgt := 42) hC dX10_comes_27 (by decide) ?_ ?_
      · refine x_iconst (v := (0 : Int32)) hC dX10_comes_42 ki_0 ?_
        exact r_retZ hR dX10_comes_43 (Or.inl rfl) (fun h => h)
      · refine x_iload_n hC dX10_comes_30 rfl 2 rfl ?_
        refine x_iconst (v := (3 : Int32)) hC dX10_comes_31 ki_3 ?_
        refine x_icmp_gt (tgt := 42) hC dX10_comes_32 (by decide) ?_ ?_
        · refine x_iconst (v := (0 : Int32)) hC dX10_comes_42 ki_0 ?_
          exact r_retZ hR dX10_comes_43 (Or.inl rfl) (fun h => h)
        · refine x_iload_n hC dX10_comes_35 rfl 3 rfl ?_
          refine r_cS0 (as := [.int p3]) (rest := []) hB dX10_comes_36 ks_X10_123 hq1 rfl rfl (Nat.le_of_ble_eq_true rfl) (f_X10_inRow_met hB.2 (by omega)) ?_
          refine x_if_ne (tgt := 44) hC dX10_comes_39 (by decide) ?_ ?_
          · refine x_iconst (v := (0 : Int32)) hC dX10_comes_42 ki_0 ?_
            exact r_retZ hR dX10_comes_43 (Or.inl rfl) (fun h => h)
          · refine x_iload_n hC dX10_comes_44 rfl 2 rfl ?_
            refine x_iload_n hC dX10_comes_45 rfl 3 rfl ?_
            refine r_cS0 (as := [.int p2, .int p3]) (rest := []) hB dX10_comes_46 ks_X10_126 hq1 rfl rfl (Nat.le_of_ble_eq_true rfl) (f_X10_entry_met hB.2 (by omega)) ?_
            refine x_top (fun v4_49 => ?_)
            refine x_istore (f := 0) hC dX10_comes_49 [(4, .int v4_49), (0, zr w 0), (1, .int p1), (2, .int p2), (3, .int p3)] (by decide) rfl ?_
            refine x_aload_n hC dX10_comes_51 rfl 1 rfl ?_
            refine r_getR hB dX10_comes_52 kf_X10_10 rfl th_0 rf_0_0 ?_
            refine r_getR hB dX10_comes_55 kf_X10_65 rfl th_1 rf_1_1 ?_
            refine x_iload hC dX10_comes_58 0 rfl ?_
            refine r_iald hB dX10_comes_60 th_3 ?_
            refine x_iconst (v := (1 : Int32)) hC dX10_comes_61 ki_1 ?_
            refine x_icmp_eq (tgt := 78) hC dX10_comes_62 (by decide) ?_ ?_
            · refine x_iconst (v := (0 : Int32)) hC dX10_comes_78 ki_0 ?_
              exact r_retZ hR dX10_comes_79 (Or.inl rfl) (fun h => h)
            · refine x_aload_n hC dX10_comes_65 rfl 1 rfl ?_
              refine r_getR hB dX10_comes_66 kf_X10_10 rfl th_0 rf_0_0 ?_
              refine x_iload hC dX10_comes_69 0 rfl ?_
              refine r_cV1 (as := [.int v4_49]) (rest := []) hB dX10_comes_71 kv_X10_130 th_1 hq1 rfl rfl (Nat.le_of_ble_eq_true rfl) (fun v hv => f_X7_whoAt_met hB.2 th_1 (by omega) hv) (fun u71 => ?_)
              refine x_iconst (v := (-1 : Int32)) hC dX10_comes_74 ki_m1 ?_
              refine x_icmp_eq (tgt := 80) hC dX10_comes_75 (by decide) ?_ ?_
              · refine x_aload_n hC dX10_comes_80 rfl 1 rfl ?_
                refine r_cVv (as := []) (rest := []) hB dX10_comes_81 kv_X10_134 th_0 hq1 rfl rfl (Nat.le_of_ble_eq_true rfl) (fun M' hv => f_X10_keep_met hB.2 (by omega) hv) (fun M81 => ?_)
                refine x_aload_n hC dX10_comes_84 rfl 1 rfl ?_
                refine r_getR hB dX10_comes_85 kf_X10_10 rfl th_0 rf_0_0 ?_
                refine r_getR hB dX10_comes_88 kf_X10_105 rfl th_1 rf_1_0 ?_
                refine x_iload_n hC dX10_comes_91 rfl 2 rfl ?_
                refine r_aaW (a := 1) hB dX10_comes_92 th_1 (fun hg92 => ?_)
                refine x_iload_n hC dX10_comes_93 rfl 3 rfl ?_
                refine x_iload hC dX10_comes_94 0 rfl ?_
                refine r_cVv (as := [.int p2, .int v4_49]) (rest := []) hB dX10_comes_96 kv_X10_137 (nv_wk th_1 hg92).2 hq1 rfl rfl (Nat.le_of_ble_eq_true rfl) (fun M' hv => f_X9_enter_met hB.2 (nv_wk th_1 hg92).2 (by omega) hv) (fun M96 => ?_)
                refine x_aload_n hC dX10_comes_99 rfl 1 rfl ?_
                refine r_getR hB dX10_comes_100 kf_X10_36 rfl th_0 rf_0_7 ?_
                refine x_aload_n hC dX10_comes_103 rfl 1 rfl ?_
                refine r_getR hB dX10_comes_104 kf_X10_10 rfl th_0 rf_0_0 ?_
                refine x_iconst (v := (0 : Int32)) hC dX10_comes_107 ki_0 ?_
                refine x_iload_n hC dX10_comes_108 rfl 2 rfl ?_
                refine x_iload hC dX10_comes_109 0 rfl ?_
                refine r_cVv (as := [zr w 1, .int (0 : Int32), .int p1, .int v4_49]) (rest := []) hB dX10_comes_111 kv_X10_141 th_68 hq1 rfl rfl (Nat.le_of_ble_eq_true rfl) (fun M' hv => f_X0_write_met hB.2 th_68 th_1 (by omega) hv) (fun M111 => ?_)
                refine x_iconst (v := (1 : Int32)) hC dX10_comes_114 ki_1 ?_
                exact r_retZ hR dX10_comes_115 (Or.inr rfl) (fun h => h)
              · refine x_iconst (v := (0 : Int32)) hC dX10_comes_78 ki_0 ?_
                exact r_retZ hR dX10_comes_79 (Or.inl rfl) (fun h => h)
    · refine x_iconst (v := (0 : Int32)) hC dX10_comes_42 ki_0 ?_
      exact r_retZ hR dX10_comes_43 (Or.inl rfl) (fun h => h)
theorem f_X10_comes_met {l : Launch} {d : Nat} {g : zG} {w : zW} {M0 : zM} {p1 : Int32} {p2 : Int32} {p3 : Int32} {M : zM} (hw : wS w) (hd : 5 ≤ d) {v : Int32} {M' : zM} (h : f_X10_comes p1 p2 p3 M = some (v, M')) : zMet l yX10_comes cX10_comes 5 (some .boolean) d g w (zin true) M0 [zr w 0, .int p1, .int p2, .int p3] M (some (.int v)) M' :=
  met_z (by decide +kernel) (Nat.le_of_ble_eq_true rfl) (fun C hB0 hR => f_X10_comes_ok (r := (v, M')) ⟨hB0, hw⟩ hd M hR _ h rfl)
/-! WindingSquare.turn(II)Z -/
noncomputable def f_X10_turn (p1 : Int32) (p2 : Int32) (M : zM) : Option (Int32 × zM) :=
  (f_X7_hasIn 1 p1 M).bind fun u5 =>
  if u5 = 0 then (some ((0 : Int32), M))
  else (if p2 < 0 then (some ((0 : Int32), M))
  else (if p2 ≤ (2 : Int32) then ((f_X10_keep M).bind fun M23 =>
  (f_X1_turnRound p1 p2 M23).bind fun M32 =>
  some ((1 : Int32), M32))
  else (some ((0 : Int32), M))))
set_option maxRecDepth 100000 in
theorem f_X10_turn_ok {C : zC} {d : Nat} {g : zG} {l : Launch} {w : zW} {r : Int32 × zM} {p1 : Int32} {p2 : Int32} (hB : bOK C cX10_turn 3 RX10 d g l w true) (hd : 5 ≤ d) (M : zM) (hR : RtZ C cX10_turn w r.1 r.2) : Sg C w (0, 0) 0 [(0, zr w 0), (1, .int p1), (2, .int p2)] [] M (f_X10_turn p1 p2 M) (fun q => q = r) := by
  have hC := hB.1.1
  have hq1 : 1 ≤ d := by omega
  unfold f_X10_turn
  refine x_aload_n hC dX10_turn_0 rfl 0 rfl ?_
  refine r_getR hB dX10_turn_1 kf_X10_10 rfl th_0 rf_0_0 ?_
  refine x_iload_n hC dX10_turn_4 rfl 1 rfl ?_
  refine r_cV1 (as := [.int p1]) (rest := []) hB dX10_turn_5 kv_X10_145 th_1 hq1 rfl rfl (Nat.le_of_ble_eq_true rfl) (fun v hv => f_X7_hasIn_met hB.2 th_1 (by omega) hv) (fun u5 => ?_)
  refine x_if_eq (tgt := 20) hC dX10_turn_8 (by decide) ?_ ?_
  · refine x_iconst (v := (0 : Int32)) hC dX10_turn_20 ki_0 ?_
    exact r_retZ hR dX10_turn_21 (Or.inl rfl) (fun h => h)
  · refine x_iload_n hC dX10_turn_11 rfl 2 rfl ?_
    refine x_if_lt (tgt := 20) hC dX10_turn_12 (by decide) ?_ ?_
    · refine x_iconst (v := (0 : Int32)) hC dX10_turn_20 ki_0 ?_
      exact r_retZ hR dX10_turn_21 (Or.inl rfl) (fun h => h)
    · refine x_iload_n hC dX10_turn_15 rfl 2 rfl ?_
      refine x_iconst (v := (2 : Int32)) hC dX10_turn_16 ki_2 ?_
      refine x_icmp_le (tgt := 22) hC dX10_turn_17 (by decide) ?_ ?_
      · refine x_aload_n hC dX10_turn_22 rfl 0 rfl ?_
        refine r_cVv (as := []) (rest := []) hB dX10_turn_23 kv_X10_134 th_0 hq1 rfl rfl (Nat.le_of_ble_eq_true rfl) (fun M' hv => f_X10_keep_met hB.2 (by omega) hv) (fun M23 => ?_)
        refine x_aload_n hC dX10_turn_26 rfl 0 rfl ?_
        refine r_getR hB dX10_turn_27 kf_X10_59 rfl th_0 rf_0_10 ?_
        refine x_iload_n hC dX10_turn_30 rfl 1 rfl ?_
        refine x_iload_n hC dX10_turn_31 rfl 2 rfl ?_
        refine r_cVv (as := [.int p1, .int p2]) (rest := []) hB dX10_turn_32 kv_X10_148 th_83 hq1 rfl rfl (Nat.le_of_ble_eq_true rfl) (fun M' hv => f_X1_turnRound_met hB.2 (by omega) hv) (fun M32 => ?_)
        refine x_iconst (v := (1 : Int32)) hC dX10_turn_35 ki_1 ?_
        exact r_retZ hR dX10_turn_36 (Or.inr rfl) (fun h => h)
      · refine x_iconst (v := (0 : Int32)) hC dX10_turn_20 ki_0 ?_
        exact r_retZ hR dX10_turn_21 (Or.inl rfl) (fun h => h)
theorem f_X10_turn_met {l : Launch} {d : Nat} {g : zG} {w : zW} {M0 : zM} {p1 : Int32} {p2 : Int32} {M : zM} (hw : wS w) (hd : 5 ≤ d) {v : Int32} {M' : zM} (h : f_X10_turn p1 p2 M = some (v, M')) : zMet l yX10_turn cX10_turn 3 (some .boolean) d g w (zin true) M0 [zr w 0, .int p1, .int p2] M (some (.int v)) M' :=
  met_z (by decide +kernel) (Nat.le_of_ble_eq_true rfl) (fun C hB0 hR => f_X10_turn_ok (r := (v, M')) ⟨hB0, hw⟩ hd M hR _ h rfl)
/-! WindingSquare.lay(III)Z -/
noncomputable def j_X10_lay_67 (v3_67 : Int32) (v4_67 : Int32) (M : zM) : Option (Int32 × zM) :=
  (f_X10_keep M).bind fun M68 =>
  grd (inb v4_67 144) (
  nm (mset M68 3 (ix v4_67) v3_67) fun M81 =>
  some ((1 : Int32), M81))
set_option maxRecDepth 100000 in
theorem j_X10_lay_67_ok {C : zC} {d : Nat} {g : zG} {l : Launch} {w : zW} {r : Int32 × zM} {v3_67 : Int32} {v4_67 : Int32} (hB : bOK C cX10_lay 5 RX10 d g l w true) (hd : 5 ≤ d) (M : zM) (hR : RtZ C cX10_lay w r.1 r.2) : Sg C w (0, 0) 67 [(0, zr w 0), (3, .int v3_67), (4, .int v4_67)] [] M (j_X10_lay_67 v3_67 v4_67 M) (fun q => q = r) := by
  have hC := hB.1.1
  have hq1 : 1 ≤ d := by omega
  unfold j_X10_lay_67
  refine x_aload_n hC dX10_lay_67 rfl 0 rfl ?_
  refine r_cVv (as := []) (rest := []) hB dX10_lay_68 kv_X10_134 th_0 hq1 rfl rfl (Nat.le_of_ble_eq_true rfl) (fun M' hv => f_X10_keep_met hB.2 (by omega) hv) (fun M68 => ?_)
  refine x_aload_n hC dX10_lay_71 rfl 0 rfl ?_
  refine r_getR hB dX10_lay_72 kf_X10_10 rfl th_0 rf_0_0 ?_
  refine r_getR hB dX10_lay_75 kf_X10_65 rfl th_1 rf_1_1 ?_
  refine x_iload hC dX10_lay_78 2 rfl ?_
  refine x_iload_n hC dX10_lay_80 rfl 1 rfl ?_
  refine r_iast hB dX10_lay_81 th_3 ?_
  refine x_mem (fun M81 => ?_)
  refine x_iconst (v := (1 : Int32)) hC dX10_lay_82 ki_1 ?_
  exact r_retZ hR dX10_lay_83 (Or.inr rfl) (fun h => h)
noncomputable def f_X10_lay (p1 : Int32) (p2 : Int32) (p3 : Int32) (M : zM) : Option (Int32 × zM) :=
  if (f_X10_inRow p1) = 0 then (some ((0 : Int32), M))
  else (if (f_X10_inRow p2) = 0 then (some ((0 : Int32), M))
  else (if p3 < 0 then (some ((0 : Int32), M))
  else (if p3 ≤ (3 : Int32) then (nm (((12 : Int32) * p2) + p1) fun v4_31 =>
  grd (inb v4_31 144) (
  if (M 3 (ix v4_31)) = p3 then (some ((0 : Int32), M))
  else (if p3 = (1 : Int32) then ((f_X7_whoAt 1 v4_31 M).bind fun u58 =>
  if u58 = (-1 : Int32) then (j_X10_lay_67 p3 v4_31 M)
  else (some ((0 : Int32), M)))
  else (j_X10_lay_67 p3 v4_31 M))))
  else (some ((0 : Int32), M)))))
set_option maxRecDepth 100000 in
theorem f_X10_lay_ok {C : zC} {d : Nat} {g : zG} {l : Launch} {w : zW} {r : Int32 × zM} {p1 : Int32} {p2 : Int32} {p3 : Int32} (hB : bOK C cX10_lay 5 RX10 d g l w true) (hd : 5 ≤ d) (M : zM) (hR : RtZ C cX10_lay w r.1 r.2) : Sg C w (0, 0) 0 [(0, zr w 0), (1, .int p1), (2, .int p2), (3, .int p3)] [] M (f_X10_lay p1 p2 p3 M) (fun q => q = r) := by
  have hC := hB.1.1
  have hq1 : 1 ≤ d := by omega
  unfold f_X10_lay
  refine x_iload_n hC dX10_lay_0 rfl 1 rfl ?_
  refine r_cS0 (as := [.int p1]) (rest := []) hB dX10_lay_1 ks_X10_123 hq1 rfl rfl (Nat.le_of_ble_eq_true rfl) (f_X10_inRow_met hB.2 (by omega)) ?_
  refine x_if_eq (tgt := 23) hC dX10_lay_4 (by decide) ?_ ?_
  · refine x_iconst (v := (0 : Int32)) hC dX10_lay_23 ki_0 ?_
    exact r_retZ hR dX10_lay_24 (Or.inl rfl) (fun h => h)
  · refine x_iload_n hC dX10_lay_7 rfl 2 rfl ?_
    refine r_cS0 (as := [.int p2]) (rest := []) hB dX10_lay_8 ks_X10_123 hq1 rfl rfl (Nat.le_of_ble_eq_true rfl) (f_X10_inRow_met hB.2 (by omega)) ?_
    refine x_if_eq (tgt := 23) hC dX10_lay_11 (by decide) ?_ ?_
    · refine x_iconst (v := (0 : Int32)) hC dX10_lay_23 ki_0 ?_
      exact r_retZ hR dX10_lay_24 (Or.inl rfl) (fun h => h)
    · refine x_iload_n hC dX10_lay_14 rfl 3 rfl ?_
      refine x_if_lt (tgt := 23) hC dX10_lay_15 (by decide) ?_ ?_
      · refine x_iconst (v := (0 : Int32)) hC dX10_lay_23 ki_0 ?_
        exact r_retZ hR dX10_lay_24 (Or.inl rfl) (fun h => h)
      · refine x_iload_n hC dX10_lay_18 rfl 3 rfl ?_
        refine x_iconst (v := (3 : Int32)) hC dX10_lay_19 ki_3 ?_
        refine x_icmp_le (tgt := 25) hC dX10_lay_20 (by decide) ?_ ?_
        · refine x_bipush (v := (12 : Int32)) hC dX10_lay_25 kb_12 ?_
          refine x_iload_n hC dX10_lay_27 rfl 2 rfl ?_
          refine x_imul hC dX10_lay_28 ?_
          refine x_iload_n hC dX10_lay_29 rfl 1 rfl ?_
          refine x_iadd hC dX10_lay_30 ?_
          refine x_top (fun v4_31 => ?_)
          refine x_istore (f := 0) hC dX10_lay_31 [(4, .int v4_31), (0, zr w 0), (1, .int p1), (2, .int p2), (3, .int p3)] (by decide) rfl ?_
          refine x_aload_n hC dX10_lay_33 rfl 1 rfl ?_
          refine r_getR hB dX10_lay_34 kf_X10_10 rfl th_0 rf_0_0 ?_
          refine r_getR hB dX10_lay_37 kf_X10_65 rfl th_1 rf_1_1 ?_
          refine x_iload hC dX10_lay_40 0 rfl ?_
          refine r_iald hB dX10_lay_42 th_3 ?_
          refine x_iload_n hC dX10_lay_43 rfl 4 rfl ?_
          refine x_icmp_eq (tgt := 65) hC dX10_lay_44 (by decide) ?_ ?_
          · refine x_iconst (v := (0 : Int32)) hC dX10_lay_65 ki_0 ?_
            exact r_retZ hR dX10_lay_66 (Or.inl rfl) (fun h => h)
          · refine x_iload_n hC dX10_lay_47 rfl 4 rfl ?_
            refine x_iconst (v := (1 : Int32)) hC dX10_lay_48 ki_1 ?_
            refine x_icmp_ne (tgt := 67) hC dX10_lay_49 (by decide) ?_ ?_
            · refine x_aload_n hC dX10_lay_52 rfl 1 rfl ?_
              refine r_getR hB dX10_lay_53 kf_X10_10 rfl th_0 rf_0_0 ?_
              refine x_iload hC dX10_lay_56 0 rfl ?_
              refine r_cV1 (as := [.int v4_31]) (rest := []) hB dX10_lay_58 kv_X10_130 th_1 hq1 rfl rfl (Nat.le_of_ble_eq_true rfl) (fun v hv => f_X7_whoAt_met hB.2 th_1 (by omega) hv) (fun u58 => ?_)
              refine x_iconst (v := (-1 : Int32)) hC dX10_lay_61 ki_m1 ?_
              refine x_icmp_eq (tgt := 67) hC dX10_lay_62 (by decide) ?_ ?_
              · refine x_sub [1, 4, 0] rfl ?_
                exact j_X10_lay_67_ok hB hd M hR
              · refine x_iconst (v := (0 : Int32)) hC dX10_lay_65 ki_0 ?_
                exact r_retZ hR dX10_lay_66 (Or.inl rfl) (fun h => h)
            · refine x_sub [1, 4, 0] rfl ?_
              exact j_X10_lay_67_ok hB hd M hR
        · refine x_iconst (v := (0 : Int32)) hC dX10_lay_23 ki_0 ?_
          exact r_retZ hR dX10_lay_24 (Or.inl rfl) (fun h => h)
theorem f_X10_lay_met {l : Launch} {d : Nat} {g : zG} {w : zW} {M0 : zM} {p1 : Int32} {p2 : Int32} {p3 : Int32} {M : zM} (hw : wS w) (hd : 5 ≤ d) {v : Int32} {M' : zM} (h : f_X10_lay p1 p2 p3 M = some (v, M')) : zMet l yX10_lay cX10_lay 5 (some .boolean) d g w (zin true) M0 [zr w 0, .int p1, .int p2, .int p3] M (some (.int v)) M' :=
  met_z (by decide +kernel) (Nat.le_of_ble_eq_true rfl) (fun C hB0 hR => f_X10_lay_ok (r := (v, M')) ⟨hB0, hw⟩ hd M hR _ h rfl)
/-! WindingSquare.of(II)I -/
noncomputable def j_X10_of_52 (v2_52 : Int32) (v3_52 : Nat) (M : zM) : Option (Int32 × zM) :=
  if v2_52 = (0 : Int32) then (some ((M v3_52 0), M))
  else (if v2_52 = (1 : Int32) then (if (M v3_52 1) = 0 then (some ((0 : Int32), M))
  else (some ((1 : Int32), M)))
  else (if v2_52 = (2 : Int32) then (some ((-2 : Int32), M))
  else (if v2_52 = (3 : Int32) then (some ((-2 : Int32), M))
  else (if v2_52 = (4 : Int32) then (some ((-2 : Int32), M))
  else (if v2_52 = (5 : Int32) then (some ((-2 : Int32), M))
  else (if v2_52 = (6 : Int32) then (some ((-2 : Int32), M))
  else (if v2_52 = (7 : Int32) then (some ((-2 : Int32), M))
  else (if v2_52 = (8 : Int32) then (some ((M v3_52 10), M))
  else (if v2_52 = (9 : Int32) then (some ((M v3_52 11), M))
  else (if v2_52 = (10 : Int32) then (some ((M v3_52 12), M))
  else (if v2_52 = (11 : Int32) then (bnd2 (f_X1_ask (128 : Int32) v3_52 M) fun u165 M165 =>
  some (u165, M165))
  else (if v2_52 = (12 : Int32) then (bnd2 (f_X1_ask (129 : Int32) v3_52 M) fun u177 M177 =>
  some (u177, M177))
  else (if v2_52 = (13 : Int32) then (bnd2 (f_X1_ask (130 : Int32) v3_52 M) fun u189 M189 =>
  some (u189, M189))
  else (some ((-2 : Int32), M)))))))))))))))
set_option maxRecDepth 100000 in
theorem j_X10_of_52_ok {C : zC} {d : Nat} {g : zG} {l : Launch} {w : zW} {r : Int32 × zM} {v2_52 : Int32} {v3_52 : Nat} (hB : bOK C cX10_of 4 RX10 d g l w true) (hd : 5 ≤ d) (h_v3_52 : tO true 9 v3_52) (M : zM) (hR : RtI C cX10_of w r.1 r.2) : Sg C w (0, 0) 52 [(0, zr w 0), (2, .int v2_52), (3, zr w v3_52)] [] M (j_X10_of_52 v2_52 v3_52 M) (fun q => q = r) := by
  have hC := hB.1.1
  have hq1 : 1 ≤ d := by omega
  unfold j_X10_of_52
  refine x_iload_n hC dX10_of_52 rfl 1 rfl ?_
  refine x_ite (fun hs => ?_) (fun hs0 => ?_)
  · refine x_tsI (tgt := 124) (off := 71) hC dX10_of_53 (by rw [hs]; decide +kernel) (by rw [hs]; decide +kernel) (by rw [hs]; decide +kernel) (by decide) ?_
    refine x_aload_n hC dX10_of_124 rfl 2 rfl ?_
    refine r_getI hB dX10_of_125 kf_X10_202 rfl h_v3_52 ?_
    exact r_retI hR dX10_of_128 (fun h => h)
  · skip
    refine x_ite (fun hs => ?_) (fun hs1 => ?_)
    · refine x_tsI (tgt := 129) (off := 76) hC dX10_of_53 (by rw [hs]; decide +kernel) (by rw [hs]; decide +kernel) (by rw [hs]; decide +kernel) (by decide) ?_
      refine x_aload_n hC dX10_of_129 rfl 2 rfl ?_
      refine r_getI hB dX10_of_130 kf_X10_119 rfl h_v3_52 ?_
      refine x_if_eq (tgt := 140) hC dX10_of_133 (by decide) ?_ ?_
      · refine x_iconst (v := (0 : Int32)) hC dX10_of_140 ki_0 ?_
        exact r_retI hR dX10_of_141 (fun h => h)
      · refine x_iconst (v := (1 : Int32)) hC dX10_of_136 ki_1 ?_
        refine x_goto (tgt := 141) hC dX10_of_137 (by decide) ?_
        exact r_retI hR dX10_of_141 (fun h => h)
    · skip
      refine x_ite (fun hs => ?_) (fun hs2 => ?_)
      · refine x_tsI (tgt := 193) (off := 140) hC dX10_of_53 (by rw [hs]; decide +kernel) (by rw [hs]; decide +kernel) (by rw [hs]; decide +kernel) (by decide) ?_
        refine x_bipush (v := (-2 : Int32)) hC dX10_of_193 kb_m2 ?_
        exact r_retI hR dX10_of_195 (fun h => h)
      · skip
        refine x_ite (fun hs => ?_) (fun hs3 => ?_)
        · refine x_tsI (tgt := 193) (off := 140) hC dX10_of_53 (by rw [hs]; decide +kernel) (by rw [hs]; decide +kernel) (by rw [hs]; decide +kernel) (by decide) ?_
          refine x_bipush (v := (-2 : Int32)) hC dX10_of_193 kb_m2 ?_
          exact r_retI hR dX10_of_195 (fun h => h)
        · skip
          refine x_ite (fun hs => ?_) (fun hs4 => ?_)
          · refine x_tsI (tgt := 193) (off := 140) hC dX10_of_53 (by rw [hs]; decide +kernel) (by rw [hs]; decide +kernel) (by rw [hs]; decide +kernel) (by decide) ?_
            refine x_bipush (v := (-2 : Int32)) hC dX10_of_193 kb_m2 ?_
            exact r_retI hR dX10_of_195 (fun h => h)
          · skip
            refine x_ite (fun hs => ?_) (fun hs5 => ?_)
            · refine x_tsI (tgt := 193) (off := 140) hC dX10_of_53 (by rw [hs]; decide +kernel) (by rw [hs]; decide +kernel) (by rw [hs]; decide +kernel) (by decide) ?_
              refine x_bipush (v := (-2 : Int32)) hC dX10_of_193 kb_m2 ?_
              exact r_retI hR dX10_of_195 (fun h => h)
            · skip
              refine x_ite (fun hs => ?_) (fun hs6 => ?_)
              · refine x_tsI (tgt := 193) (off := 140) hC dX10_of_53 (by rw [hs]; decide +kernel) (by rw [hs]; decide +kernel) (by rw [hs]; decide +kernel) (by decide) ?_
                refine x_bipush (v := (-2 : Int32)) hC dX10_of_193 kb_m2 ?_
                exact r_retI hR dX10_of_195 (fun h => h)
              · skip
                refine x_ite (fun hs => ?_) (fun hs7 => ?_)
                · refine x_tsI (tgt := 193) (off := 140) hC dX10_of_53 (by rw [hs]; decide +kernel) (by rw [hs]; decide +kernel) (by rw [hs]; decide +kernel) (by decide) ?_
                  refine x_bipush (v := (-2 : Int32)) hC dX10_of_193 kb_m2 ?_
                  exact r_retI hR dX10_of_195 (fun h => h)
                · skip
                  refine x_ite (fun hs => ?_) (fun hs8 => ?_)
                  · refine x_tsI (tgt := 142) (off := 89) hC dX10_of_53 (by rw [hs]; decide +kernel) (by rw [hs]; decide +kernel) (by rw [hs]; decide +kernel) (by decide) ?_
                    refine x_aload_n hC dX10_of_142 rfl 2 rfl ?_
                    refine r_getI hB dX10_of_143 kf_X10_205 rfl h_v3_52 ?_
                    exact r_retI hR dX10_of_146 (fun h => h)
                  · skip
                    refine x_ite (fun hs => ?_) (fun hs9 => ?_)
                    · refine x_tsI (tgt := 147) (off := 94) hC dX10_of_53 (by rw [hs]; decide +kernel) (by rw [hs]; decide +kernel) (by rw [hs]; decide +kernel) (by decide) ?_
                      refine x_aload_n hC dX10_of_147 rfl 2 rfl ?_
                      refine r_getI hB dX10_of_148 kf_X10_208 rfl h_v3_52 ?_
                      exact r_retI hR dX10_of_151 (fun h => h)
                    · skip
                      refine x_ite (fun hs => ?_) (fun hs10 => ?_)
                      · refine x_tsI (tgt := 152) (off := 99) hC dX10_of_53 (by rw [hs]; decide +kernel) (by rw [hs]; decide +kernel) (by rw [hs]; decide +kernel) (by decide) ?_
                        refine x_aload_n hC dX10_of_152 rfl 2 rfl ?_
                        refine r_getI hB dX10_of_153 kf_X10_211 rfl h_v3_52 ?_
                        exact r_retI hR dX10_of_156 (fun h => h)
                      · skip
                        refine x_ite (fun hs => ?_) (fun hs11 => ?_)
                        · refine x_tsI (tgt := 157) (off := 104) hC dX10_of_53 (by rw [hs]; decide +kernel) (by rw [hs]; decide +kernel) (by rw [hs]; decide +kernel) (by decide) ?_
                          refine x_aload_n hC dX10_of_157 rfl 0 rfl ?_
                          refine r_getR hB dX10_of_158 kf_X10_59 rfl th_0 rf_0_10 ?_
                          refine x_sipush (v := (128 : Int32)) hC dX10_of_161 kh_128 ?_
                          refine x_aload_n hC dX10_of_164 rfl 2 rfl ?_
                          refine r_cV2 (as := [.int (128 : Int32), zr w v3_52]) (rest := []) hB dX10_of_165 kv_X10_214 th_83 hq1 rfl rfl (Nat.le_of_ble_eq_true rfl) (fun v M' hv => f_X1_ask_met hB.2 h_v3_52 (by omega) hv) (fun u165 M165 => ?_)
                          exact r_retI hR dX10_of_168 (fun h => h)
                        · skip
                          refine x_ite (fun hs => ?_) (fun hs12 => ?_)
                          · refine x_tsI (tgt := 169) (off := 116) hC dX10_of_53 (by rw [hs]; decide +kernel) (by rw [hs]; decide +kernel) (by rw [hs]; decide +kernel) (by decide) ?_
                            refine x_aload_n hC dX10_of_169 rfl 0 rfl ?_
                            refine r_getR hB dX10_of_170 kf_X10_59 rfl th_0 rf_0_10 ?_
                            refine x_sipush (v := (129 : Int32)) hC dX10_of_173 kh_129 ?_
                            refine x_aload_n hC dX10_of_176 rfl 2 rfl ?_
                            refine r_cV2 (as := [.int (129 : Int32), zr w v3_52]) (rest := []) hB dX10_of_177 kv_X10_214 th_83 hq1 rfl rfl (Nat.le_of_ble_eq_true rfl) (fun v M' hv => f_X1_ask_met hB.2 h_v3_52 (by omega) hv) (fun u177 M177 => ?_)
                            exact r_retI hR dX10_of_180 (fun h => h)
                          · skip
                            refine x_ite (fun hs => ?_) (fun hs13 => ?_)
                            · refine x_tsI (tgt := 181) (off := 128) hC dX10_of_53 (by rw [hs]; decide +kernel) (by rw [hs]; decide +kernel) (by rw [hs]; decide +kernel) (by decide) ?_
                              refine x_aload_n hC dX10_of_181 rfl 0 rfl ?_
                              refine r_getR hB dX10_of_182 kf_X10_59 rfl th_0 rf_0_10 ?_
                              refine x_sipush (v := (130 : Int32)) hC dX10_of_185 kh_130 ?_
                              refine x_aload_n hC dX10_of_188 rfl 2 rfl ?_
                              refine r_cV2 (as := [.int (130 : Int32), zr w v3_52]) (rest := []) hB dX10_of_189 kv_X10_214 th_83 hq1 rfl rfl (Nat.le_of_ble_eq_true rfl) (fun v M' hv => f_X1_ask_met hB.2 h_v3_52 (by omega) hv) (fun u189 M189 => ?_)
                              exact r_retI hR dX10_of_192 (fun h => h)
                            · skip
                              refine x_tsO (tgt := 193) hC dX10_of_53 (by have q0 := x_ne (k := 0) hs0 (by decide); have q1 := x_ne (k := 1) hs1 (by decide); have q2 := x_ne (k := 2) hs2 (by decide); have q3 := x_ne (k := 3) hs3 (by decide); have q4 := x_ne (k := 4) hs4 (by decide); have q5 := x_ne (k := 5) hs5 (by decide); have q6 := x_ne (k := 6) hs6 (by decide); have q7 := x_ne (k := 7) hs7 (by decide); have q8 := x_ne (k := 8) hs8 (by decide); have q9 := x_ne (k := 9) hs9 (by decide); have q10 := x_ne (k := 10) hs10 (by decide); have q11 := x_ne (k := 11) hs11 (by decide); have q12 := x_ne (k := 12) hs12 (by decide); have q13 := x_ne (k := 13) hs13 (by decide); omega) (by decide) ?_
                              refine x_bipush (v := (-2 : Int32)) hC dX10_of_193 kb_m2 ?_
                              exact r_retI hR dX10_of_195 (fun h => h)
noncomputable def f_X10_of (p1 : Int32) (p2 : Int32) (M : zM) : Option (Int32 × zM) :=
  if (f_X7_has 1 p1 M) = 0 then (some ((-2 : Int32), M))
  else (grd (inb p1 16) (
  if p2 < (2 : Int32) then (j_X10_of_52 p2 (1 + 3 + ix p1) M)
  else (if (7 : Int32) < p2 then (j_X10_of_52 p2 (1 + 3 + ix p1) M)
  else (if (M (1 + 3 + ix p1) 1) = 0 then (some ((-1 : Int32), M))
  else (some ((f_X10_whereOf (1 + 3 + ix p1) p2 M), M))))))
set_option maxRecDepth 100000 in
theorem f_X10_of_ok {C : zC} {d : Nat} {g : zG} {l : Launch} {w : zW} {r : Int32 × zM} {p1 : Int32} {p2 : Int32} (hB : bOK C cX10_of 4 RX10 d g l w true) (hd : 5 ≤ d) (M : zM) (hR : RtI C cX10_of w r.1 r.2) : Sg C w (0, 0) 0 [(0, zr w 0), (1, .int p1), (2, .int p2)] [] M (f_X10_of p1 p2 M) (fun q => q = r) := by
  have hC := hB.1.1
  have hq1 : 1 ≤ d := by omega
  unfold f_X10_of
  refine x_aload_n hC dX10_of_0 rfl 0 rfl ?_
  refine r_getR hB dX10_of_1 kf_X10_10 rfl th_0 rf_0_0 ?_
  refine x_iload_n hC dX10_of_4 rfl 1 rfl ?_
  refine r_cV0 (as := [.int p1]) (rest := []) hB dX10_of_5 kv_X10_115 th_1 hq1 rfl rfl (Nat.le_of_ble_eq_true rfl) (f_X7_has_met hB.2 th_1 (by omega)) ?_
  refine x_if_ne (tgt := 14) hC dX10_of_8 (by decide) ?_ ?_
  · refine x_bipush (v := (-2 : Int32)) hC dX10_of_11 kb_m2 ?_
    exact r_retI hR dX10_of_13 (fun h => h)
  · refine x_aload_n hC dX10_of_14 rfl 0 rfl ?_
    refine r_getR hB dX10_of_15 kf_X10_10 rfl th_0 rf_0_0 ?_
    refine r_getR hB dX10_of_18 kf_X10_105 rfl th_1 rf_1_0 ?_
    refine x_iload_n hC dX10_of_21 rfl 1 rfl ?_
    refine r_aaW (a := 1) hB dX10_of_22 th_1 (fun hg22 => ?_)
    refine x_astore_n hC dX10_of_23 rfl [(3, zr w (1 + 3 + ix p1)), (0, zr w 0), (1, .int p1), (2, .int p2)] (by decide) rfl ?_
    refine x_iload_n hC dX10_of_24 rfl 3 rfl ?_
    refine x_iconst (v := (2 : Int32)) hC dX10_of_25 ki_2 ?_
    refine x_icmp_lt (tgt := 52) hC dX10_of_26 (by decide) ?_ ?_
    · refine x_sub [1, 3, 0] rfl ?_
      exact j_X10_of_52_ok hB hd (nv_wk th_1 hg22).2 M hR
    · refine x_iload_n hC dX10_of_29 rfl 3 rfl ?_
      refine x_bipush (v := (7 : Int32)) hC dX10_of_30 kb_7 ?_
      refine x_icmp_gt (tgt := 52) hC dX10_of_32 (by decide) ?_ ?_
      · refine x_sub [1, 3, 0] rfl ?_
        exact j_X10_of_52_ok hB hd (nv_wk th_1 hg22).2 M hR
      · refine x_aload_n hC dX10_of_35 rfl 0 rfl ?_
        refine r_getI hB dX10_of_36 kf_X10_119 rfl (nv_wk th_1 hg22).2 ?_
        refine x_if_eq (tgt := 50) hC dX10_of_39 (by decide) ?_ ?_
        · refine x_iconst (v := (-1 : Int32)) hC dX10_of_50 ki_m1 ?_
          exact r_retI hR dX10_of_51 (fun h => h)
        · refine x_aload_n hC dX10_of_42 rfl 0 rfl ?_
          refine x_iload_n hC dX10_of_43 rfl 3 rfl ?_
          refine r_cS0 (as := [zr w (1 + 3 + ix p1), .int p2]) (rest := []) hB dX10_of_44 ks_X10_198 hq1 rfl rfl (Nat.le_of_ble_eq_true rfl) (f_X10_whereOf_met hB.2 (nv_wk th_1 hg22).2 (by omega)) ?_
          refine x_goto (tgt := 51) hC dX10_of_47 (by decide) ?_
          exact r_retI hR dX10_of_51 (fun h => h)
theorem f_X10_of_met {l : Launch} {d : Nat} {g : zG} {w : zW} {M0 : zM} {p1 : Int32} {p2 : Int32} {M : zM} (hw : wS w) (hd : 5 ≤ d) {v : Int32} {M' : zM} (h : f_X10_of p1 p2 M = some (v, M')) : zMet l yX10_of cX10_of 4 (some .int) d g w (zin true) M0 [zr w 0, .int p1, .int p2] M (some (.int v)) M' :=
  met_i (by decide +kernel) (Nat.le_of_ble_eq_true rfl) rfl (fun C hB0 hR => f_X10_of_ok (r := (v, M')) ⟨hB0, hw⟩ hd M hR _ h rfl)
/-! WindingSquare.with(IIII)I -/
noncomputable def f_X10_with (p1 : Int32) (p2 : Int32) (p3 : Int32) (p4 : Int32) (M : zM) : Option (Int32 × zM) :=
  (f_X2_free p1 M).bind fun u5 =>
  if u5 = 0 then (some ((-1 : Int32), M))
  else ((f_X2_free p3 M).bind fun u16 =>
  if u16 = 0 then (some ((-1 : Int32), M))
  else (if p2 < 0 then (some ((-1 : Int32), M))
  else (if (3 : Int32) < p2 then (some ((-1 : Int32), M))
  else (if 0 ≤ p4 then (nm (p4 / (10 : Int32)) fun v5_43 =>
  nm (irem p4 (10 : Int32)) fun v6_50 =>
  if (20 : Int32) < v5_43 then (some ((-1 : Int32), M))
  else (if v6_50 ≤ (6 : Int32) then (bnd2 (f_X2_countRows p1 p2 p3 v5_43 v6_50 M) fun u79 M79 =>
  some (u79, M79))
  else (some ((-1 : Int32), M))))
  else (some ((-1 : Int32), M))))))
set_option maxRecDepth 100000 in
theorem f_X10_with_ok {C : zC} {d : Nat} {g : zG} {l : Launch} {w : zW} {r : Int32 × zM} {p1 : Int32} {p2 : Int32} {p3 : Int32} {p4 : Int32} (hB : bOK C cX10_with 7 RX10 d g l w true) (hd : 5 ≤ d) (M : zM) (hR : RtI C cX10_with w r.1 r.2) : Sg C w (0, 0) 0 [(0, zr w 0), (1, .int p1), (2, .int p2), (3, .int p3), (4, .int p4)] [] M (f_X10_with p1 p2 p3 p4 M) (fun q => q = r) := by
  have hC := hB.1.1
  have hq1 : 1 ≤ d := by omega
  unfold f_X10_with
  refine x_aload_n hC dX10_with_0 rfl 0 rfl ?_
  refine r_getR hB dX10_with_1 kf_X10_72 rfl th_0 rf_0_11 ?_
  refine x_iload_n hC dX10_with_4 rfl 1 rfl ?_
  refine r_cV1 (as := [.int p1]) (rest := []) hB dX10_with_5 kv_X10_233 th_87 hq1 rfl rfl (Nat.le_of_ble_eq_true rfl) (fun v hv => f_X2_free_met hB.2 (by omega) hv) (fun u5 => ?_)
  refine x_if_eq (tgt := 36) hC dX10_with_8 (by decide) ?_ ?_
  · refine x_iconst (v := (-1 : Int32)) hC dX10_with_36 ki_m1 ?_
    exact r_retI hR dX10_with_37 (fun h => h)
  · refine x_aload_n hC dX10_with_11 rfl 0 rfl ?_
    refine r_getR hB dX10_with_12 kf_X10_72 rfl th_0 rf_0_11 ?_
    refine x_iload_n hC dX10_with_15 rfl 3 rfl ?_
    refine r_cV1 (as := [.int p3]) (rest := []) hB dX10_with_16 kv_X10_233 th_87 hq1 rfl rfl (Nat.le_of_ble_eq_true rfl) (fun v hv => f_X2_free_met hB.2 (by omega) hv) (fun u16 => ?_)
    refine x_if_eq (tgt := 36) hC dX10_with_19 (by decide) ?_ ?_
    · refine x_iconst (v := (-1 : Int32)) hC dX10_with_36 ki_m1 ?_
      exact r_retI hR dX10_with_37 (fun h => h)
    · refine x_iload_n hC dX10_with_22 rfl 2 rfl ?_
      refine x_if_lt (tgt := 36) hC dX10_with_23 (by decide) ?_ ?_
      · refine x_iconst (v := (-1 : Int32)) hC dX10_with_36 ki_m1 ?_
        exact r_retI hR dX10_with_37 (fun h => h)
      · refine x_iload_n hC dX10_with_26 rfl 2 rfl ?_
        refine x_iconst (v := (3 : Int32)) hC dX10_with_27 ki_3 ?_
        refine x_icmp_gt (tgt := 36) hC dX10_with_28 (by decide) ?_ ?_
        · refine x_iconst (v := (-1 : Int32)) hC dX10_with_36 ki_m1 ?_
          exact r_retI hR dX10_with_37 (fun h => h)
        · refine x_iload hC dX10_with_31 4 rfl ?_
          refine x_if_ge (tgt := 38) hC dX10_with_33 (by decide) ?_ ?_
          · refine x_iload hC dX10_with_38 4 rfl ?_
            refine x_bipush (v := (10 : Int32)) hC dX10_with_40 kb_10 ?_
            refine x_idiv0 hC dX10_with_42 nz_10 ?_
            refine x_top (fun v5_43 => ?_)
            refine x_istore (f := 0) hC dX10_with_43 [(5, .int v5_43), (0, zr w 0), (1, .int p1), (2, .int p2), (3, .int p3), (4, .int p4)] (by decide) rfl ?_
            refine x_iload hC dX10_with_45 5 rfl ?_
            refine x_bipush (v := (10 : Int32)) hC dX10_with_47 kb_10 ?_
            refine x_irem0 hC dX10_with_49 nz_10 ?_
            refine x_top (fun v6_50 => ?_)
            refine x_istore (f := 0) hC dX10_with_50 [(6, .int v6_50), (5, .int v5_43), (0, zr w 0), (1, .int p1), (2, .int p2), (3, .int p3), (4, .int p4)] (by decide) rfl ?_
            refine x_iload hC dX10_with_52 1 rfl ?_
            refine x_bipush (v := (20 : Int32)) hC dX10_with_54 kb_20 ?_
            refine x_icmp_gt (tgt := 66) hC dX10_with_56 (by decide) ?_ ?_
            · refine x_iconst (v := (-1 : Int32)) hC dX10_with_66 ki_m1 ?_
              exact r_retI hR dX10_with_67 (fun h => h)
            · refine x_iload hC dX10_with_59 0 rfl ?_
              refine x_bipush (v := (6 : Int32)) hC dX10_with_61 kb_6 ?_
              refine x_icmp_le (tgt := 68) hC dX10_with_63 (by decide) ?_ ?_
              · refine x_aload_n hC dX10_with_68 rfl 2 rfl ?_
                refine r_getR hB dX10_with_69 kf_X10_72 rfl th_0 rf_0_11 ?_
                refine x_iload_n hC dX10_with_72 rfl 3 rfl ?_
                refine x_iload_n hC dX10_with_73 rfl 4 rfl ?_
                refine x_iload_n hC dX10_with_74 rfl 5 rfl ?_
                refine x_iload hC dX10_with_75 1 rfl ?_
                refine x_iload hC dX10_with_77 0 rfl ?_
                refine r_cV2 (as := [.int p1, .int p2, .int p3, .int v5_43, .int v6_50]) (rest := []) hB dX10_with_79 kv_X10_244 th_87 hq1 rfl rfl (Nat.le_of_ble_eq_true rfl) (fun v M' hv => f_X2_countRows_met hB.2 (by omega) hv) (fun u79 M79 => ?_)
                exact r_retI hR dX10_with_82 (fun h => h)
              · refine x_iconst (v := (-1 : Int32)) hC dX10_with_66 ki_m1 ?_
                exact r_retI hR dX10_with_67 (fun h => h)
          · refine x_iconst (v := (-1 : Int32)) hC dX10_with_36 ki_m1 ?_
            exact r_retI hR dX10_with_37 (fun h => h)
theorem f_X10_with_met {l : Launch} {d : Nat} {g : zG} {w : zW} {M0 : zM} {p1 : Int32} {p2 : Int32} {p3 : Int32} {p4 : Int32} {M : zM} (hw : wS w) (hd : 5 ≤ d) {v : Int32} {M' : zM} (h : f_X10_with p1 p2 p3 p4 M = some (v, M')) : zMet l yX10_with cX10_with 7 (some .int) d g w (zin true) M0 [zr w 0, .int p1, .int p2, .int p3, .int p4] M (some (.int v)) M' :=
  met_i (by decide +kernel) (Nat.le_of_ble_eq_true rfl) rfl (fun C hB0 hR => f_X10_with_ok (r := (v, M')) ⟨hB0, hw⟩ hd M hR _ h rfl)
/-! WindingSquare.duel(III)I -/
noncomputable def f_X10_duel (p1 : Int32) (p2 : Int32) (p3 : Int32) (M : zM) : Option (Int32 × zM) :=
  if p1 < (1 : Int32) then (some ((-1 : Int32), M))
  else (if (5 : Int32) < (p1 / (10 : Int32)) then (some ((-1 : Int32), M))
  else (if (irem p1 (10 : Int32)) ≤ (5 : Int32) then (if (20 : Int32) < (f_J9_max_7cf53 p2 p3) then (some ((-1 : Int32), M))
  else (if (-20 : Int32) ≤ (f_J9_min_7cf53 p2 p3) then (bnd2 (f_X4_paces (p1 / (10 : Int32)) (irem p1 (10 : Int32)) p2 p3 M) fun u59 M59 =>
  some (u59, M59))
  else (some ((-1 : Int32), M))))
  else (some ((-1 : Int32), M))))
set_option maxRecDepth 100000 in
theorem f_X10_duel_ok {C : zC} {d : Nat} {g : zG} {l : Launch} {w : zW} {r : Int32 × zM} {p1 : Int32} {p2 : Int32} {p3 : Int32} (hB : bOK C cX10_duel 4 RX10 d g l w true) (hd : 5 ≤ d) (M : zM) (hR : RtI C cX10_duel w r.1 r.2) : Sg C w (0, 0) 0 [(0, zr w 0), (1, .int p1), (2, .int p2), (3, .int p3)] [] M (f_X10_duel p1 p2 p3 M) (fun q => q = r) := by
  have hC := hB.1.1
  have hq1 : 1 ≤ d := by omega
  unfold f_X10_duel
  refine x_iload_n hC dX10_duel_0 rfl 1 rfl ?_
  refine x_iconst (v := (1 : Int32)) hC dX10_duel_1 ki_1 ?_
  refine x_icmp_lt (tgt := 21) hC dX10_duel_2 (by decide) ?_ ?_
  · refine x_iconst (v := (-1 : Int32)) hC dX10_duel_21 ki_m1 ?_
    exact r_retI hR dX10_duel_22 (fun h => h)
  · refine x_iload_n hC dX10_duel_5 rfl 1 rfl ?_
    refine x_bipush (v := (10 : Int32)) hC dX10_duel_6 kb_10 ?_
    refine x_idiv0 hC dX10_duel_8 nz_10 ?_
    refine x_iconst (v := (5 : Int32)) hC dX10_duel_9 ki_5 ?_
    refine x_icmp_gt (tgt := 21) hC dX10_duel_10 (by decide) ?_ ?_
    · refine x_iconst (v := (-1 : Int32)) hC dX10_duel_21 ki_m1 ?_
      exact r_retI hR dX10_duel_22 (fun h => h)
    · refine x_iload_n hC dX10_duel_13 rfl 1 rfl ?_
      refine x_bipush (v := (10 : Int32)) hC dX10_duel_14 kb_10 ?_
      refine x_irem0 hC dX10_duel_16 nz_10 ?_
      refine x_iconst (v := (5 : Int32)) hC dX10_duel_17 ki_5 ?_
      refine x_icmp_le (tgt := 23) hC dX10_duel_18 (by decide) ?_ ?_
      · refine x_iload_n hC dX10_duel_23 rfl 2 rfl ?_
        refine x_iload_n hC dX10_duel_24 rfl 3 rfl ?_
        refine r_cS0 (as := [.int p2, .int p3]) (rest := []) hB dX10_duel_25 ks_X10_288 hq1 rfl rfl (Nat.le_of_ble_eq_true rfl) (f_J9_max_7cf53_met hB.2 (by omega)) ?_
        refine x_bipush (v := (20 : Int32)) hC dX10_duel_28 kb_20 ?_
        refine x_icmp_gt (tgt := 43) hC dX10_duel_30 (by decide) ?_ ?_
        · refine x_iconst (v := (-1 : Int32)) hC dX10_duel_43 ki_m1 ?_
          exact r_retI hR dX10_duel_44 (fun h => h)
        · refine x_iload_n hC dX10_duel_33 rfl 2 rfl ?_
          refine x_iload_n hC dX10_duel_34 rfl 3 rfl ?_
          refine r_cS0 (as := [.int p2, .int p3]) (rest := []) hB dX10_duel_35 ks_X10_293 hq1 rfl rfl (Nat.le_of_ble_eq_true rfl) (f_J9_min_7cf53_met hB.2 (by omega)) ?_
          refine x_bipush (v := (-20 : Int32)) hC dX10_duel_38 kb_m20 ?_
          refine x_icmp_ge (tgt := 45) hC dX10_duel_40 (by decide) ?_ ?_
          · refine x_aload_n hC dX10_duel_45 rfl 0 rfl ?_
            refine r_getR hB dX10_duel_46 kf_X10_79 rfl th_0 rf_0_12 ?_
            refine x_iload_n hC dX10_duel_49 rfl 1 rfl ?_
            refine x_bipush (v := (10 : Int32)) hC dX10_duel_50 kb_10 ?_
            refine x_idiv0 hC dX10_duel_52 nz_10 ?_
            refine x_iload_n hC dX10_duel_53 rfl 1 rfl ?_
            refine x_bipush (v := (10 : Int32)) hC dX10_duel_54 kb_10 ?_
            refine x_irem0 hC dX10_duel_56 nz_10 ?_
            refine x_iload_n hC dX10_duel_57 rfl 2 rfl ?_
            refine x_iload_n hC dX10_duel_58 rfl 3 rfl ?_
            refine r_cV2 (as := [.int (p1 / (10 : Int32)), .int (irem p1 (10 : Int32)), .int p2, .int p3]) (rest := []) hB dX10_duel_59 kv_X10_296 th_95 hq1 rfl rfl (Nat.le_of_ble_eq_true rfl) (fun v M' hv => f_X4_paces_met hB.2 (by omega) hv) (fun u59 M59 => ?_)
            exact r_retI hR dX10_duel_62 (fun h => h)
          · refine x_iconst (v := (-1 : Int32)) hC dX10_duel_43 ki_m1 ?_
            exact r_retI hR dX10_duel_44 (fun h => h)
      · refine x_iconst (v := (-1 : Int32)) hC dX10_duel_21 ki_m1 ?_
        exact r_retI hR dX10_duel_22 (fun h => h)
theorem f_X10_duel_met {l : Launch} {d : Nat} {g : zG} {w : zW} {M0 : zM} {p1 : Int32} {p2 : Int32} {p3 : Int32} {M : zM} (hw : wS w) (hd : 5 ≤ d) {v : Int32} {M' : zM} (h : f_X10_duel p1 p2 p3 M = some (v, M')) : zMet l yX10_duel cX10_duel 4 (some .int) d g w (zin true) M0 [zr w 0, .int p1, .int p2, .int p3] M (some (.int v)) M' :=
  met_i (by decide +kernel) (Nat.le_of_ble_eq_true rfl) rfl (fun C hB0 hR => f_X10_duel_ok (r := (v, M')) ⟨hB0, hw⟩ hd M hR _ h rfl)
/-! WindingSquare.meets(II)I -/
noncomputable def f_X10_meets (p1 : Int32) (p2 : Int32) (M : zM) : Option (Int32 × zM) :=
  (f_X7_hasIn 1 p1 M).bind fun u5 =>
  if u5 = 0 then (some ((-1 : Int32), M))
  else ((f_X7_hasIn 1 p2 M).bind fun u16 =>
  if u16 = 0 then (some ((-1 : Int32), M))
  else (if p1 = p2 then (some ((0 : Int32), M))
  else (bnd2 (f_X1_meeting p1 p2 M) fun u39 M39 =>
  some (u39, M39))))
set_option maxRecDepth 100000 in
theorem f_X10_meets_ok {C : zC} {d : Nat} {g : zG} {l : Launch} {w : zW} {r : Int32 × zM} {p1 : Int32} {p2 : Int32} (hB : bOK C cX10_meets 3 RX10 d g l w true) (hd : 5 ≤ d) (M : zM) (hR : RtI C cX10_meets w r.1 r.2) : Sg C w (0, 0) 0 [(0, zr w 0), (1, .int p1), (2, .int p2)] [] M (f_X10_meets p1 p2 M) (fun q => q = r) := by
  have hC := hB.1.1
  have hq1 : 1 ≤ d := by omega
  unfold f_X10_meets
  refine x_aload_n hC dX10_meets_0 rfl 0 rfl ?_
  refine r_getR hB dX10_meets_1 kf_X10_10 rfl th_0 rf_0_0 ?_
  refine x_iload_n hC dX10_meets_4 rfl 1 rfl ?_
  refine r_cV1 (as := [.int p1]) (rest := []) hB dX10_meets_5 kv_X10_145 th_1 hq1 rfl rfl (Nat.le_of_ble_eq_true rfl) (fun v hv => f_X7_hasIn_met hB.2 th_1 (by omega) hv) (fun u5 => ?_)
  refine x_if_eq (tgt := 22) hC dX10_meets_8 (by decide) ?_ ?_
  · refine x_iconst (v := (-1 : Int32)) hC dX10_meets_22 ki_m1 ?_
    exact r_retI hR dX10_meets_23 (fun h => h)
  · refine x_aload_n hC dX10_meets_11 rfl 0 rfl ?_
    refine r_getR hB dX10_meets_12 kf_X10_10 rfl th_0 rf_0_0 ?_
    refine x_iload_n hC dX10_meets_15 rfl 2 rfl ?_
    refine r_cV1 (as := [.int p2]) (rest := []) hB dX10_meets_16 kv_X10_145 th_1 hq1 rfl rfl (Nat.le_of_ble_eq_true rfl) (fun v hv => f_X7_hasIn_met hB.2 th_1 (by omega) hv) (fun u16 => ?_)
    refine x_if_ne (tgt := 24) hC dX10_meets_19 (by decide) ?_ ?_
    · refine x_iconst (v := (-1 : Int32)) hC dX10_meets_22 ki_m1 ?_
      exact r_retI hR dX10_meets_23 (fun h => h)
    · refine x_iload_n hC dX10_meets_24 rfl 1 rfl ?_
      refine x_iload_n hC dX10_meets_25 rfl 2 rfl ?_
      refine x_icmp_ne (tgt := 33) hC dX10_meets_26 (by decide) ?_ ?_
      · refine x_iconst (v := (0 : Int32)) hC dX10_meets_29 ki_0 ?_
        refine x_goto (tgt := 42) hC dX10_meets_30 (by decide) ?_
        exact r_retI hR dX10_meets_42 (fun h => h)
      · refine x_aload_n hC dX10_meets_33 rfl 0 rfl ?_
        refine r_getR hB dX10_meets_34 kf_X10_59 rfl th_0 rf_0_10 ?_
        refine x_iload_n hC dX10_meets_37 rfl 1 rfl ?_
        refine x_iload_n hC dX10_meets_38 rfl 2 rfl ?_
        refine r_cV2 (as := [.int p1, .int p2]) (rest := []) hB dX10_meets_39 kv_X10_317 th_83 hq1 rfl rfl (Nat.le_of_ble_eq_true rfl) (fun v M' hv => f_X1_meeting_met hB.2 (by omega) hv) (fun u39 M39 => ?_)
        exact r_retI hR dX10_meets_42 (fun h => h)
theorem f_X10_meets_met {l : Launch} {d : Nat} {g : zG} {w : zW} {M0 : zM} {p1 : Int32} {p2 : Int32} {M : zM} (hw : wS w) (hd : 5 ≤ d) {v : Int32} {M' : zM} (h : f_X10_meets p1 p2 M = some (v, M')) : zMet l yX10_meets cX10_meets 3 (some .int) d g w (zin true) M0 [zr w 0, .int p1, .int p2] M (some (.int v)) M' :=
  met_i (by decide +kernel) (Nat.le_of_ble_eq_true rfl) rfl (fun C hB0 hR => f_X10_meets_ok (r := (v, M')) ⟨hB0, hw⟩ hd M hR _ h rfl)
/-! WindingSquare.pigeons(I)I -/
noncomputable def f_X10_pigeons (p1 : Int32) (M : zM) : Option (Int32 × zM) :=
  if p1 = (0 : Int32) then (bnd2 (f_X2_flocks (0 : Int32) M) fun u33 M33 =>
  some (u33, M33))
  else (if p1 = (1 : Int32) then (bnd2 (f_X2_flocks (1 : Int32) M) fun u42 M42 =>
  some (u42, M42))
  else (if p1 = (2 : Int32) then ((f_X2_withOneBeside M).bind fun u50 =>
  some (u50, M))
  else (some ((-1 : Int32), M))))
set_option maxRecDepth 100000 in
theorem f_X10_pigeons_ok {C : zC} {d : Nat} {g : zG} {l : Launch} {w : zW} {r : Int32 × zM} {p1 : Int32} (hB : bOK C cX10_pigeons 2 RX10 d g l w true) (hd : 5 ≤ d) (M : zM) (hR : RtI C cX10_pigeons w r.1 r.2) : Sg C w (0, 0) 0 [(0, zr w 0), (1, .int p1)] [] M (f_X10_pigeons p1 M) (fun q => q = r) := by
  have hC := hB.1.1
  have hq1 : 1 ≤ d := by omega
  unfold f_X10_pigeons
  refine x_iload_n hC dX10_pigeons_0 rfl 1 rfl ?_
  refine x_ite (fun hs => ?_) (fun hs0 => ?_)
  · refine x_tsI (tgt := 28) (off := 27) hC dX10_pigeons_1 (by rw [hs]; decide +kernel) (by rw [hs]; decide +kernel) (by rw [hs]; decide +kernel) (by decide) ?_
    refine x_aload_n hC dX10_pigeons_28 rfl 0 rfl ?_
    refine r_getR hB dX10_pigeons_29 kf_X10_72 rfl th_0 rf_0_11 ?_
    refine x_iconst (v := (0 : Int32)) hC dX10_pigeons_32 ki_0 ?_
    refine r_cV2 (as := [.int (0 : Int32)]) (rest := []) hB dX10_pigeons_33 kv_X10_320 th_87 hq1 rfl rfl (Nat.le_of_ble_eq_true rfl) (fun v M' hv => f_X2_flocks_met hB.2 (by omega) hv) (fun u33 M33 => ?_)
    exact r_retI hR dX10_pigeons_36 (fun h => h)
  · skip
    refine x_ite (fun hs => ?_) (fun hs1 => ?_)
    · refine x_tsI (tgt := 37) (off := 36) hC dX10_pigeons_1 (by rw [hs]; decide +kernel) (by rw [hs]; decide +kernel) (by rw [hs]; decide +kernel) (by decide) ?_
      refine x_aload_n hC dX10_pigeons_37 rfl 0 rfl ?_
      refine r_getR hB dX10_pigeons_38 kf_X10_72 rfl th_0 rf_0_11 ?_
      refine x_iconst (v := (1 : Int32)) hC dX10_pigeons_41 ki_1 ?_
      refine r_cV2 (as := [.int (1 : Int32)]) (rest := []) hB dX10_pigeons_42 kv_X10_320 th_87 hq1 rfl rfl (Nat.le_of_ble_eq_true rfl) (fun v M' hv => f_X2_flocks_met hB.2 (by omega) hv) (fun u42 M42 => ?_)
      exact r_retI hR dX10_pigeons_45 (fun h => h)
    · skip
      refine x_ite (fun hs => ?_) (fun hs2 => ?_)
      · refine x_tsI (tgt := 46) (off := 45) hC dX10_pigeons_1 (by rw [hs]; decide +kernel) (by rw [hs]; decide +kernel) (by rw [hs]; decide +kernel) (by decide) ?_
        refine x_aload_n hC dX10_pigeons_46 rfl 0 rfl ?_
        refine r_getR hB dX10_pigeons_47 kf_X10_72 rfl th_0 rf_0_11 ?_
        refine r_cV1 (as := []) (rest := []) hB dX10_pigeons_50 kv_X10_324 th_87 hq1 rfl rfl (Nat.le_of_ble_eq_true rfl) (fun v hv => f_X2_withOneBeside_met hB.2 (by omega) hv) (fun u50 => ?_)
        exact r_retI hR dX10_pigeons_53 (fun h => h)
      · skip
        refine x_tsO (tgt := 54) hC dX10_pigeons_1 (by have q0 := x_ne (k := 0) hs0 (by decide); have q1 := x_ne (k := 1) hs1 (by decide); have q2 := x_ne (k := 2) hs2 (by decide); omega) (by decide) ?_
        refine x_iconst (v := (-1 : Int32)) hC dX10_pigeons_54 ki_m1 ?_
        exact r_retI hR dX10_pigeons_55 (fun h => h)
theorem f_X10_pigeons_met {l : Launch} {d : Nat} {g : zG} {w : zW} {M0 : zM} {p1 : Int32} {M : zM} (hw : wS w) (hd : 5 ≤ d) {v : Int32} {M' : zM} (h : f_X10_pigeons p1 M = some (v, M')) : zMet l yX10_pigeons cX10_pigeons 2 (some .int) d g w (zin true) M0 [zr w 0, .int p1] M (some (.int v)) M' :=
  met_i (by decide +kernel) (Nat.le_of_ble_eq_true rfl) rfl (fun C hB0 hR => f_X10_pigeons_ok (r := (v, M')) ⟨hB0, hw⟩ hd M hR _ h rfl)
/-! WindingSquare.settle(II)I -/
noncomputable def j_X10_settle_37 (v1_37 : Int32) (v2_37 : Int32) (M : zM) : Option (Int32 × zM) :=
  if v1_37 = (1 : Int32) then ((f_X7_pave 1 48 M).bind fun M53 =>
  some (v2_37, M53))
  else (if v1_37 = (2 : Int32) then ((f_X7_beginWays 1 M).bind fun M68 =>
  some (v2_37, M68))
  else (some (v2_37, M)))
set_option maxRecDepth 100000 in
theorem j_X10_settle_37_ok {C : zC} {d : Nat} {g : zG} {l : Launch} {w : zW} {r : Int32 × zM} {v1_37 : Int32} {v2_37 : Int32} (hB : bOK C cX10_settle 3 RX10 d g l w true) (hd : 5 ≤ d) (M : zM) (hR : RtI C cX10_settle w r.1 r.2) : Sg C w (0, 0) 37 [(0, zr w 0), (1, .int v1_37), (2, .int v2_37)] [] M (j_X10_settle_37 v1_37 v2_37 M) (fun q => q = r) := by
  have hC := hB.1.1
  have hq1 : 1 ≤ d := by omega
  unfold j_X10_settle_37
  refine x_iload_n hC dX10_settle_37 rfl 1 rfl ?_
  refine x_iconst (v := (1 : Int32)) hC dX10_settle_38 ki_1 ?_
  refine x_icmp_ne (tgt := 59) hC dX10_settle_39 (by decide) ?_ ?_
  · refine x_aload_n hC dX10_settle_42 rfl 0 rfl ?_
    refine r_getR hB dX10_settle_43 kf_X10_10 rfl th_0 rf_0_0 ?_
    refine x_aload_n hC dX10_settle_46 rfl 0 rfl ?_
    refine r_getR hB dX10_settle_47 kf_X10_26 rfl th_0 rf_0_5 ?_
    refine r_getR hB dX10_settle_50 kf_X10_371 rfl th_40 rf_40_2 ?_
    refine r_cVv (as := [zr w 48]) (rest := []) hB dX10_settle_53 kv_X10_373 th_1 hq1 rfl rfl (Nat.le_of_ble_eq_true rfl) (fun M' hv => f_X7_pave_met hB.2 th_1 th_48 (by omega) hv) (fun M53 => ?_)
    refine x_goto (tgt := 71) hC dX10_settle_56 (by decide) ?_
    refine x_iload_n hC dX10_settle_71 rfl 2 rfl ?_
    exact r_retI hR dX10_settle_72 (fun h => h)
  · refine x_iload_n hC dX10_settle_59 rfl 1 rfl ?_
    refine x_iconst (v := (2 : Int32)) hC dX10_settle_60 ki_2 ?_
    refine x_icmp_ne (tgt := 71) hC dX10_settle_61 (by decide) ?_ ?_
    · refine x_aload_n hC dX10_settle_64 rfl 0 rfl ?_
      refine r_getR hB dX10_settle_65 kf_X10_10 rfl th_0 rf_0_0 ?_
      refine r_cVv (as := []) (rest := []) hB dX10_settle_68 kv_X10_376 th_1 hq1 rfl rfl (Nat.le_of_ble_eq_true rfl) (fun M' hv => f_X7_beginWays_met hB.2 th_1 (by omega) hv) (fun M68 => ?_)
      refine x_iload_n hC dX10_settle_71 rfl 2 rfl ?_
      exact r_retI hR dX10_settle_72 (fun h => h)
    · refine x_iload_n hC dX10_settle_71 rfl 2 rfl ?_
      exact r_retI hR dX10_settle_72 (fun h => h)
noncomputable def f_X10_settle (p1 : Int32) (p2 : Int32) (M : zM) : Option (Int32 × zM) :=
  if p2 = (-1 : Int32) then (some ((-1 : Int32), M))
  else (grd (inb p1 4) (
  nm (mset M 61 (ix p1) p2) fun M16 =>
  (f_X8_copyText 40 p1 54 M16).bind fun M26 =>
  if p1 = 0 then (j_X10_settle_37 p1 p2 M26)
  else ((f_X10_forget M26).bind fun M34 =>
  j_X10_settle_37 p1 p2 M34)))
set_option maxRecDepth 100000 in
theorem f_X10_settle_ok {C : zC} {d : Nat} {g : zG} {l : Launch} {w : zW} {r : Int32 × zM} {p1 : Int32} {p2 : Int32} (hB : bOK C cX10_settle 3 RX10 d g l w true) (hd : 5 ≤ d) (M : zM) (hR : RtI C cX10_settle w r.1 r.2) : Sg C w (0, 0) 0 [(0, zr w 0), (1, .int p1), (2, .int p2)] [] M (f_X10_settle p1 p2 M) (fun q => q = r) := by
  have hC := hB.1.1
  have hq1 : 1 ≤ d := by omega
  unfold f_X10_settle
  refine x_iload_n hC dX10_settle_0 rfl 2 rfl ?_
  refine x_iconst (v := (-1 : Int32)) hC dX10_settle_1 ki_m1 ?_
  refine x_icmp_ne (tgt := 7) hC dX10_settle_2 (by decide) ?_ ?_
  · refine x_iconst (v := (-1 : Int32)) hC dX10_settle_5 ki_m1 ?_
    exact r_retI hR dX10_settle_6 (fun h => h)
  · refine x_aload_n hC dX10_settle_7 rfl 0 rfl ?_
    refine r_getR hB dX10_settle_8 kf_X10_30 rfl th_0 rf_0_6 ?_
    refine r_getR hB dX10_settle_11 kf_X10_364 rfl th_54 rf_54_1 ?_
    refine x_iload_n hC dX10_settle_14 rfl 1 rfl ?_
    refine x_iload_n hC dX10_settle_15 rfl 2 rfl ?_
    refine r_iast hB dX10_settle_16 th_61 ?_
    refine x_mem (fun M16 => ?_)
    refine x_aload_n hC dX10_settle_17 rfl 0 rfl ?_
    refine r_getR hB dX10_settle_18 kf_X10_26 rfl th_0 rf_0_5 ?_
    refine x_iload_n hC dX10_settle_21 rfl 1 rfl ?_
    refine x_aload_n hC dX10_settle_22 rfl 0 rfl ?_
    refine r_getR hB dX10_settle_23 kf_X10_30 rfl th_0 rf_0_6 ?_
    refine r_cVv (as := [.int p1, zr w 54]) (rest := []) hB dX10_settle_26 kv_X10_367 th_40 hq1 rfl rfl (Nat.le_of_ble_eq_true rfl) (fun M' hv => f_X8_copyText_met hB.2 th_40 th_54 (by omega) hv) (fun M26 => ?_)
    refine x_iload_n hC dX10_settle_29 rfl 1 rfl ?_
    refine x_if_eq (tgt := 37) hC dX10_settle_30 (by decide) ?_ ?_
    · exact j_X10_settle_37_ok hB hd M26 hR
    · refine x_aload_n hC dX10_settle_33 rfl 0 rfl ?_
      refine r_cVv (as := []) (rest := []) hB dX10_settle_34 kv_X10_99 th_0 hq1 rfl rfl (Nat.le_of_ble_eq_true rfl) (fun M' hv => f_X10_forget_met hB.2 (by omega) hv) (fun M34 => ?_)
      exact j_X10_settle_37_ok hB hd M34 hR
theorem f_X10_settle_met {l : Launch} {d : Nat} {g : zG} {w : zW} {M0 : zM} {p1 : Int32} {p2 : Int32} {M : zM} (hw : wS w) (hd : 5 ≤ d) {v : Int32} {M' : zM} (h : f_X10_settle p1 p2 M = some (v, M')) : zMet l yX10_settle cX10_settle 3 (some .int) d g w (zin true) M0 [zr w 0, .int p1, .int p2] M (some (.int v)) M' :=
  met_i (by decide +kernel) (Nat.le_of_ble_eq_true rfl) rfl (fun C hB0 hR => f_X10_settle_ok (r := (v, M')) ⟨hB0, hw⟩ hd M hR _ h rfl)
/-! WindingSquareModel.readPart()V -/
noncomputable def j_X11_readPart_84_4 (M : zM) : Option ((zM) ⊕ (zM)) :=
  some (.inl M)
set_option maxRecDepth 100000 in
theorem j_X11_readPart_84_4_ok {C : zC} {d : Nat} {g : zG} {l : Launch} {w : zW} {r : zM} (hB : bOK C cX11_readPart 2 RX11 d g l w false) (hd : 5 ≤ d) (M : zM) (hR : RtV C cX11_readPart w r) : Sg C w (0, 0) 84 [(0, zr w 257)] [] M (j_X11_readPart_84_4 M) (fun o => Sum.elim (fun (s : (zM)) => Zs C w (0, 0) 4 [(0, zr w 257)] [] s) (fun (s : (zM)) => Zs C w (0, 0) 87 [] [] s) o) := by
  have hC := hB.1.1
  have hq1 : 1 ≤ d := by omega
  unfold j_X11_readPart_84_4
  refine x_goto (tgt := 4) hC dX11_readPart_84 (by decide) ?_
  exact x_done (fun h => h)
noncomputable def j_X11_readPart_43_4 (s0_43_4 : Int32) (M : zM) : Option ((zM) ⊕ (zM)) :=
  nm (mset M 257 9 ((M 257 9) + (1 : Int32))) fun M51_4 =>
  if s0_43_4 = 0 then ((f_X11_readUnit M51_4).bind fun M75_4 =>
  (f_X11_codes (4 : Int32) (0 : Int32) M75_4).bind fun M81_4 =>
  j_X11_readPart_84_4 M81_4)
  else (bnd2 (f_X11_number (1 : Int32) (9999 : Int32) M51_4) fun u65_4 M65_4 =>
  (f_X11_codes (5 : Int32) u65_4 M65_4).bind fun M68_4 =>
  j_X11_readPart_84_4 M68_4)
set_option maxRecDepth 100000 in
theorem j_X11_readPart_43_4_ok {C : zC} {d : Nat} {g : zG} {l : Launch} {w : zW} {r : zM} {s0_43_4 : Int32} (hB : bOK C cX11_readPart 2 RX11 d g l w false) (hd : 5 ≤ d) (M : zM) (hR : RtV C cX11_readPart w r) : Sg C w (0, 0) 43 [(0, zr w 257)] [.int s0_43_4] M (j_X11_readPart_43_4 s0_43_4 M) (fun o => Sum.elim (fun (s : (zM)) => Zs C w (0, 0) 4 [(0, zr w 257)] [] s) (fun (s : (zM)) => Zs C w (0, 0) 87 [] [] s) o) := by
  have hC := hB.1.1
  have hq1 : 1 ≤ d := by omega
  unfold j_X11_readPart_43_4
  refine x_istore_n hC dX11_readPart_43 rfl [(1, .int s0_43_4), (0, zr w 257)] (by decide) rfl ?_
  refine x_aload_n hC dX11_readPart_44 rfl 1 rfl ?_
  refine x_dup hC dX11_readPart_45 rfl ?_
  refine r_getI hB dX11_readPart_46 kf_X11_132 rfl th_257 ?_
  refine x_iconst (v := (1 : Int32)) hC dX11_readPart_49 ki_1 ?_
  refine x_iadd hC dX11_readPart_50 ?_
  refine r_putI hB dX11_readPart_51 kf_X11_132 rfl th_257 ?_
  refine x_mem (fun M51_4 => ?_)
  refine x_iload_n hC dX11_readPart_54 rfl 0 rfl ?_
  refine x_if_eq (tgt := 74) hC dX11_readPart_55 (by decide) ?_ ?_
  · refine x_aload_n hC dX11_readPart_74 rfl 1 rfl ?_
    refine r_cVv (as := []) (rest := []) hB dX11_readPart_75 kv_X11_237 th_257 hq1 rfl rfl (Nat.le_of_ble_eq_true rfl) (fun M' hv => f_X11_readUnit_met hB.2 (by omega) hv) (fun M75_4 => ?_)
    refine x_aload_n hC dX11_readPart_78 rfl 1 rfl ?_
    refine x_iconst (v := (4 : Int32)) hC dX11_readPart_79 ki_4 ?_
    refine x_iconst (v := (0 : Int32)) hC dX11_readPart_80 ki_0 ?_
    refine r_cVv (as := [.int (4 : Int32), .int (0 : Int32)]) (rest := []) hB dX11_readPart_81 kv_X11_217 th_257 hq1 rfl rfl (Nat.le_of_ble_eq_true rfl) (fun M' hv => f_X11_codes_met hB.2 (by omega) hv) (fun M81_4 => ?_)
    refine x_sub [1] rfl ?_
    exact j_X11_readPart_84_4_ok hB hd M81_4 hR
  · refine x_aload_n hC dX11_readPart_58 rfl 1 rfl ?_
    refine x_iconst (v := (5 : Int32)) hC dX11_readPart_59 ki_5 ?_
    refine x_aload_n hC dX11_readPart_60 rfl 1 rfl ?_
    refine x_iconst (v := (1 : Int32)) hC dX11_readPart_61 ki_1 ?_
    refine x_sipush (v := (9999 : Int32)) hC dX11_readPart_62 kh_9999 ?_
    refine r_cV2 (as := [.int (1 : Int32), .int (9999 : Int32)]) (rest := [.int (5 : Int32), zr w 257]) hB dX11_readPart_65 kv_X11_202 th_257 hq1 rfl rfl (Nat.le_of_ble_eq_true rfl) (fun v M' hv => f_X11_number_met hB.2 (by omega) hv) (fun u65_4 M65_4 => ?_)
    refine r_cVv (as := [.int (5 : Int32), .int u65_4]) (rest := []) hB dX11_readPart_68 kv_X11_217 th_257 hq1 rfl rfl (Nat.le_of_ble_eq_true rfl) (fun M' hv => f_X11_codes_met hB.2 (by omega) hv) (fun M68_4 => ?_)
    refine x_goto (tgt := 84) hC dX11_readPart_71 (by decide) ?_
    refine x_sub [1] rfl ?_
    exact j_X11_readPart_84_4_ok hB hd M68_4 hR
noncomputable def j_X11_readPart_29_4 (M : zM) : Option ((zM) ⊕ (zM)) :=
  bnd2 (f_X11_here M) fun u30_4 M30_4 =>
  if u30_4 = (47 : Int32) then (j_X11_readPart_43_4 (1 : Int32) M30_4)
  else (j_X11_readPart_43_4 (0 : Int32) M30_4)
set_option maxRecDepth 100000 in
theorem j_X11_readPart_29_4_ok {C : zC} {d : Nat} {g : zG} {l : Launch} {w : zW} {r : zM} (hB : bOK C cX11_readPart 2 RX11 d g l w false) (hd : 5 ≤ d) (M : zM) (hR : RtV C cX11_readPart w r) : Sg C w (0, 0) 29 [(0, zr w 257)] [] M (j_X11_readPart_29_4 M) (fun o => Sum.elim (fun (s : (zM)) => Zs C w (0, 0) 4 [(0, zr w 257)] [] s) (fun (s : (zM)) => Zs C w (0, 0) 87 [] [] s) o) := by
  have hC := hB.1.1
  have hq1 : 1 ≤ d := by omega
  unfold j_X11_readPart_29_4
  refine x_aload_n hC dX11_readPart_29 rfl 0 rfl ?_
  refine r_cV2 (as := []) (rest := []) hB dX11_readPart_30 kv_X11_138 th_257 hq1 rfl rfl (Nat.le_of_ble_eq_true rfl) (fun v M' hv => f_X11_here_met hB.2 (by omega) hv) (fun u30_4 M30_4 => ?_)
  refine x_bipush (v := (47 : Int32)) hC dX11_readPart_33 kb_47 ?_
  refine x_icmp_ne (tgt := 42) hC dX11_readPart_35 (by decide) ?_ ?_
  · refine x_iconst (v := (1 : Int32)) hC dX11_readPart_38 ki_1 ?_
    refine x_goto (tgt := 43) hC dX11_readPart_39 (by decide) ?_
    exact j_X11_readPart_43_4_ok hB hd M30_4 hR
  · refine x_iconst (v := (0 : Int32)) hC dX11_readPart_42 ki_0 ?_
    exact j_X11_readPart_43_4_ok hB hd M30_4 hR
noncomputable def b_X11_readPart_4 (M : zM) : Option ((zM) ⊕ (zM)) :=
  if (f_X11_fine M) = 0 then (some (.inr M))
  else (bnd2 (f_X11_here M) fun u12_4 M12_4 =>
  if u12_4 = (42 : Int32) then (j_X11_readPart_29_4 M12_4)
  else (bnd2 (f_X11_here M12_4) fun u21_4 M21_4 =>
  if u21_4 = (47 : Int32) then (j_X11_readPart_29_4 M21_4)
  else (some (.inr M21_4))))
set_option maxRecDepth 100000 in
theorem b_X11_readPart_4_ok {C : zC} {d : Nat} {g : zG} {l : Launch} {w : zW} {r : zM} (hB : bOK C cX11_readPart 2 RX11 d g l w false) (hd : 5 ≤ d) (M : zM) (hR : RtV C cX11_readPart w r) : Sg C w (0, 0) 4 [(0, zr w 257)] [] M (b_X11_readPart_4 M) (fun o => Sum.elim (fun (s : (zM)) => Zs C w (0, 0) 4 [(0, zr w 257)] [] s) (fun (s : (zM)) => Zs C w (0, 0) 87 [] [] s) o) := by
  have hC := hB.1.1
  have hq1 : 1 ≤ d := by omega
  unfold b_X11_readPart_4
  refine x_aload_n hC dX11_readPart_4 rfl 0 rfl ?_
  refine r_cV0 (as := []) (rest := []) hB dX11_readPart_5 kv_X11_149 th_257 hq1 rfl rfl (Nat.le_of_ble_eq_true rfl) (f_X11_fine_met hB.2 (by omega)) ?_
  refine x_if_eq (tgt := 87) hC dX11_readPart_8 (by decide) ?_ ?_
  · refine x_sub [] rfl ?_
    exact x_done (fun h => h)
  · refine x_aload_n hC dX11_readPart_11 rfl 0 rfl ?_
    refine r_cV2 (as := []) (rest := []) hB dX11_readPart_12 kv_X11_138 th_257 hq1 rfl rfl (Nat.le_of_ble_eq_true rfl) (fun v M' hv => f_X11_here_met hB.2 (by omega) hv) (fun u12_4 M12_4 => ?_)
    refine x_bipush (v := (42 : Int32)) hC dX11_readPart_15 kb_42 ?_
    refine x_icmp_eq (tgt := 29) hC dX11_readPart_17 (by decide) ?_ ?_
    · exact j_X11_readPart_29_4_ok hB hd M12_4 hR
    · refine x_aload_n hC dX11_readPart_20 rfl 0 rfl ?_
      refine r_cV2 (as := []) (rest := []) hB dX11_readPart_21 kv_X11_138 th_257 hq1 rfl rfl (Nat.le_of_ble_eq_true rfl) (fun v M' hv => f_X11_here_met hB.2 (by omega) hv) (fun u21_4 M21_4 => ?_)
      refine x_bipush (v := (47 : Int32)) hC dX11_readPart_24 kb_47 ?_
      refine x_icmp_ne (tgt := 87) hC dX11_readPart_26 (by decide) ?_ ?_
      · exact j_X11_readPart_29_4_ok hB hd M21_4 hR
      · refine x_sub [] rfl ?_
        exact x_done (fun h => h)
noncomputable def j_X11_readPart_87 (M : zM) : Option (zM) :=
  some M
set_option maxRecDepth 100000 in
theorem j_X11_readPart_87_ok {C : zC} {d : Nat} {g : zG} {l : Launch} {w : zW} {r : zM} (hB : bOK C cX11_readPart 2 RX11 d g l w false) (hd : 5 ≤ d) (M : zM) (hR : RtV C cX11_readPart w r) : Sg C w (0, 0) 87 [] [] M (j_X11_readPart_87 M) (fun q => q = r) := by
  have hC := hB.1.1
  have hq1 : 1 ≤ d := by omega
  unfold j_X11_readPart_87
  exact r_retV hR dX11_readPart_87 (fun h => h)
noncomputable def f_X11_readPart (M : zM) : Option (zM) :=
  (f_X11_readUnit M).bind fun M1 =>
  (loopW (fun s => b_X11_readPart_4 s) M1).bind (fun r => j_X11_readPart_87 r)
set_option maxRecDepth 100000 in
theorem f_X11_readPart_ok {C : zC} {d : Nat} {g : zG} {l : Launch} {w : zW} {r : zM} (hB : bOK C cX11_readPart 2 RX11 d g l w false) (hd : 5 ≤ d) (M : zM) (hR : RtV C cX11_readPart w r) : Sg C w (0, 0) 0 [(0, zr w 257)] [] M (f_X11_readPart M) (fun q => q = r) := by
  have hC := hB.1.1
  have hq1 : 1 ≤ d := by omega
  unfold f_X11_readPart
  refine x_aload_n hC dX11_readPart_0 rfl 0 rfl ?_
  refine r_cVv (as := []) (rest := []) hB dX11_readPart_1 kv_X11_237 th_257 hq1 rfl rfl (Nat.le_of_ble_eq_true rfl) (fun M' hv => f_X11_readUnit_met hB.2 (by omega) hv) (fun M1 => ?_)
  refine x_loopB (pc2 := 87) (fun (s : (zM)) => [(0, zr w 257)]) (fun (s : (zM)) => s) (fun (s : (zM)) => []) (fun (s : (zM)) => s) M1 ?_ ?_
  · exact fun s => b_X11_readPart_4_ok hB hd s hR
  · intro r9
    exact j_X11_readPart_87_ok hB hd r9 hR
theorem f_X11_readPart_met {l : Launch} {d : Nat} {g : zG} {w : zW} {M0 : zM} {M : zM} (hw : wS w) (hd : 5 ≤ d) {M' : zM} (h : f_X11_readPart M = some M') : zMet l yX11_readPart cX11_readPart 2 none d g w (zin false) M0 [zr w 257] M none M' :=
  met_v (by decide +kernel) (Nat.le_of_ble_eq_true rfl) (fun C hB0 hR => f_X11_readPart_ok ⟨hB0, hw⟩ hd M hR _ h rfl)
/-! WindingSquareModel.comesOver(I)V -/
noncomputable def f_X11_comesOver (p1 : Int32) (M : zM) : Option (zM) :=
  (f_X11_adds p1 (9 : Int32) (1 : Int32) M).bind fun M5 =>
  bnd2 (f_X11_tells (2 : Int32) p1 M5) fun u20 M20 =>
  nm (mset M20 259 (ix (937 : Int32)) ((M5 259 (ix (937 : Int32))) + u20)) fun M24 =>
  (f_X11_has p1 (5 : Int32) M24).bind fun u31 =>
  (f_X11_writes (3 : Int32) p1 u31 M24).bind fun M34 =>
  (f_X11_has p1 (5 : Int32) M34).bind fun u40 =>
  if u40 = 0 then (bnd2 (f_X11_tells (1 : Int32) p1 M34) fun u50 M50 =>
  bnd2 (f_X11_falls u50 M50) fun u53 M53 =>
  if u53 = 0 then (some M53)
  else ((f_X11_adds p1 (10 : Int32) (1 : Int32) M53).bind fun M64 =>
  nm (mset M64 259 (ix (937 : Int32)) ((M64 259 (ix (937 : Int32))) + (50 : Int32))) fun M79 =>
  (f_X11_writes (4 : Int32) p1 (50 : Int32) M79).bind fun M85 =>
  some M85))
  else (some M34)
set_option maxRecDepth 100000 in
theorem f_X11_comesOver_ok {C : zC} {d : Nat} {g : zG} {l : Launch} {w : zW} {r : zM} {p1 : Int32} (hB : bOK C cX11_comesOver 2 RX11 d g l w false) (hd : 5 ≤ d) (M : zM) (hR : RtV C cX11_comesOver w r) : Sg C w (0, 0) 0 [(0, zr w 257), (1, .int p1)] [] M (f_X11_comesOver p1 M) (fun q => q = r) := by
  have hC := hB.1.1
  have hq1 : 1 ≤ d := by omega
  unfold f_X11_comesOver
  refine x_aload_n hC dX11_comesOver_0 rfl 0 rfl ?_
  refine x_iload_n hC dX11_comesOver_1 rfl 1 rfl ?_
  refine x_bipush (v := (9 : Int32)) hC dX11_comesOver_2 kb_9 ?_
  refine x_iconst (v := (1 : Int32)) hC dX11_comesOver_4 ki_1 ?_
  refine r_cVv (as := [.int p1, .int (9 : Int32), .int (1 : Int32)]) (rest := []) hB dX11_comesOver_5 kv_X11_270 th_257 hq1 rfl rfl (Nat.le_of_ble_eq_true rfl) (fun M' hv => f_X11_adds_met hB.2 (by omega) hv) (fun M5 => ?_)
  refine x_aload_n hC dX11_comesOver_8 rfl 0 rfl ?_
  refine r_getR hB dX11_comesOver_9 kf_X11_13 rfl th_257 rf_257_1 ?_
  refine x_sipush (v := (937 : Int32)) hC dX11_comesOver_12 kh_937 ?_
  refine x_dup2 hC dX11_comesOver_15 rfl rfl ?_
  refine r_iald0 hB dX11_comesOver_16 th_259 ib_937_2425 ?_
  refine x_aload_n hC dX11_comesOver_17 rfl 0 rfl ?_
  refine x_iconst (v := (2 : Int32)) hC dX11_comesOver_18 ki_2 ?_
  refine x_iload_n hC dX11_comesOver_19 rfl 1 rfl ?_
  refine r_cV2 (as := [.int (2 : Int32), .int p1]) (rest := [.int (M5 259 (ix (937 : Int32))), .int (937 : Int32), zr w 259]) hB dX11_comesOver_20 kv_X11_276 th_257 hq1 rfl rfl (Nat.le_of_ble_eq_true rfl) (fun v M' hv => f_X11_tells_met hB.2 (by omega) hv) (fun u20 M20 => ?_)
  refine x_iadd hC dX11_comesOver_23 ?_
  refine r_iast0 hB dX11_comesOver_24 th_259 ib_937_2425 ?_
  refine x_mem (fun M24 => ?_)
  refine x_aload_n hC dX11_comesOver_25 rfl 0 rfl ?_
  refine x_iconst (v := (3 : Int32)) hC dX11_comesOver_26 ki_3 ?_
  refine x_iload_n hC dX11_comesOver_27 rfl 1 rfl ?_
  refine x_aload_n hC dX11_comesOver_28 rfl 0 rfl ?_
  refine x_iload_n hC dX11_comesOver_29 rfl 1 rfl ?_
  refine x_iconst (v := (5 : Int32)) hC dX11_comesOver_30 ki_5 ?_
  refine r_cV1 (as := [.int p1, .int (5 : Int32)]) (rest := [.int p1, .int (3 : Int32), zr w 257]) hB dX11_comesOver_31 kv_X11_104 th_257 hq1 rfl rfl (Nat.le_of_ble_eq_true rfl) (fun v hv => f_X11_has_met hB.2 (by omega) hv) (fun u31 => ?_)
  refine r_cVv (as := [.int (3 : Int32), .int p1, .int u31]) (rest := []) hB dX11_comesOver_34 kv_X11_273 th_257 hq1 rfl rfl (Nat.le_of_ble_eq_true rfl) (fun M' hv => f_X11_writes_met hB.2 (by omega) hv) (fun M34 => ?_)
  refine x_aload_n hC dX11_comesOver_37 rfl 0 rfl ?_
  refine x_iload_n hC dX11_comesOver_38 rfl 1 rfl ?_
  refine x_iconst (v := (5 : Int32)) hC dX11_comesOver_39 ki_5 ?_
  refine r_cV1 (as := [.int p1, .int (5 : Int32)]) (rest := []) hB dX11_comesOver_40 kv_X11_104 th_257 hq1 rfl rfl (Nat.le_of_ble_eq_true rfl) (fun v hv => f_X11_has_met hB.2 (by omega) hv) (fun u40 => ?_)
  refine x_if_ne (tgt := 88) hC dX11_comesOver_43 (by decide) ?_ ?_
  · refine x_aload_n hC dX11_comesOver_46 rfl 0 rfl ?_
    refine x_aload_n hC dX11_comesOver_47 rfl 0 rfl ?_
    refine x_iconst (v := (1 : Int32)) hC dX11_comesOver_48 ki_1 ?_
    refine x_iload_n hC dX11_comesOver_49 rfl 1 rfl ?_
    refine r_cV2 (as := [.int (1 : Int32), .int p1]) (rest := [zr w 257]) hB dX11_comesOver_50 kv_X11_276 th_257 hq1 rfl rfl (Nat.le_of_ble_eq_true rfl) (fun v M' hv => f_X11_tells_met hB.2 (by omega) hv) (fun u50 M50 => ?_)
    refine r_cV2 (as := [.int u50]) (rest := []) hB dX11_comesOver_53 kv_X11_279 th_257 hq1 rfl rfl (Nat.le_of_ble_eq_true rfl) (fun v M' hv => f_X11_falls_met hB.2 (by omega) hv) (fun u53 M53 => ?_)
    refine x_if_eq (tgt := 88) hC dX11_comesOver_56 (by decide) ?_ ?_
    · exact r_retV hR dX11_comesOver_88 (fun h => h)
    · refine x_aload_n hC dX11_comesOver_59 rfl 0 rfl ?_
      refine x_iload_n hC dX11_comesOver_60 rfl 1 rfl ?_
      refine x_bipush (v := (10 : Int32)) hC dX11_comesOver_61 kb_10 ?_
      refine x_iconst (v := (1 : Int32)) hC dX11_comesOver_63 ki_1 ?_
      refine r_cVv (as := [.int p1, .int (10 : Int32), .int (1 : Int32)]) (rest := []) hB dX11_comesOver_64 kv_X11_270 th_257 hq1 rfl rfl (Nat.le_of_ble_eq_true rfl) (fun M' hv => f_X11_adds_met hB.2 (by omega) hv) (fun M64 => ?_)
      refine x_aload_n hC dX11_comesOver_67 rfl 0 rfl ?_
      refine r_getR hB dX11_comesOver_68 kf_X11_13 rfl th_257 rf_257_1 ?_
      refine x_sipush (v := (937 : Int32)) hC dX11_comesOver_71 kh_937 ?_
      refine x_dup2 hC dX11_comesOver_74 rfl rfl ?_
      refine r_iald0 hB dX11_comesOver_75 th_259 ib_937_2425 ?_
      refine x_bipush (v := (50 : Int32)) hC dX11_comesOver_76 kb_50 ?_
      refine x_iadd hC dX11_comesOver_78 ?_
      refine r_iast0 hB dX11_comesOver_79 th_259 ib_937_2425 ?_
      refine x_mem (fun M79 => ?_)
      refine x_aload_n hC dX11_comesOver_80 rfl 0 rfl ?_
      refine x_iconst (v := (4 : Int32)) hC dX11_comesOver_81 ki_4 ?_
      refine x_iload_n hC dX11_comesOver_82 rfl 1 rfl ?_
      refine x_bipush (v := (50 : Int32)) hC dX11_comesOver_83 kb_50 ?_
      refine r_cVv (as := [.int (4 : Int32), .int p1, .int (50 : Int32)]) (rest := []) hB dX11_comesOver_85 kv_X11_273 th_257 hq1 rfl rfl (Nat.le_of_ble_eq_true rfl) (fun M' hv => f_X11_writes_met hB.2 (by omega) hv) (fun M85 => ?_)
      exact r_retV hR dX11_comesOver_88 (fun h => h)
  · exact r_retV hR dX11_comesOver_88 (fun h => h)
theorem f_X11_comesOver_met {l : Launch} {d : Nat} {g : zG} {w : zW} {M0 : zM} {p1 : Int32} {M : zM} (hw : wS w) (hd : 5 ≤ d) {M' : zM} (h : f_X11_comesOver p1 M = some M') : zMet l yX11_comesOver cX11_comesOver 2 none d g w (zin false) M0 [zr w 257, .int p1] M none M' :=
  met_v (by decide +kernel) (Nat.le_of_ble_eq_true rfl) (fun C hB0 hR => f_X11_comesOver_ok ⟨hB0, hw⟩ hd M hR _ h rfl)
/-! WindingSquareModel.comes(III)Z -/
noncomputable def j_X11_comes_165_143 (v1_143 : Int32) (v6_165_143 : Int32) (M : zM) : Option ((Int32 × zM) ⊕ (zM)) :=
  some (.inl ((v6_165_143 + (1 : Int32)), M))
set_option maxRecDepth 100000 in
theorem j_X11_comes_165_143_ok {C : zC} {d : Nat} {g : zG} {l : Launch} {w : zW} {r : Int32 × zM} {v1_143 : Int32} {v6_165_143 : Int32} (hB : bOK C cX11_comes 7 RX11 d g l w false) (hd : 5 ≤ d) (M : zM) (hR : RtZ C cX11_comes w r.1 r.2) : Sg C w (0, 0) 165 [(0, zr w 257), (1, .int v1_143), (6, .int v6_165_143)] [] M (j_X11_comes_165_143 v1_143 v6_165_143 M) (fun o => Sum.elim (fun (s : (Int32 × zM)) => Zs C w (0, 0) 143 [(0, zr w 257), (1, .int v1_143), (6, .int s.1)] [] s.2) (fun (s : (zM)) => Zs C w (0, 0) 171 [(0, zr w 257), (1, .int v1_143)] [] s) o) := by
  have hC := hB.1.1
  have hq1 : 1 ≤ d := by omega
  unfold j_X11_comes_165_143
  refine x_iinc hC dX11_comes_165 ki_1 [(6, .int (v6_165_143 + (1 : Int32))), (0, zr w 257), (1, .int v1_143)] 2 rfl (by decide) rfl ?_
  refine x_goto (tgt := 143) hC dX11_comes_168 (by decide) ?_
  refine x_sub [1, 2, 0] rfl ?_
  exact x_done (fun h => h)
noncomputable def b_X11_comes_143 (v1_143 : Int32) (v6_143 : Int32) (M : zM) : Option ((Int32 × zM) ⊕ (zM)) :=
  if (8 : Int32) < v6_143 then (some (.inr M))
  else (if v6_143 = (7 : Int32) then (j_X11_comes_165_143 v1_143 v6_143 M)
  else ((f_X11_sets v1_143 v6_143 (0 : Int32) M).bind fun M162_143 =>
  j_X11_comes_165_143 v1_143 v6_143 M162_143))
set_option maxRecDepth 100000 in
theorem b_X11_comes_143_ok {C : zC} {d : Nat} {g : zG} {l : Launch} {w : zW} {r : Int32 × zM} {v1_143 : Int32} {v6_143 : Int32} (hB : bOK C cX11_comes 7 RX11 d g l w false) (hd : 5 ≤ d) (M : zM) (hR : RtZ C cX11_comes w r.1 r.2) : Sg C w (0, 0) 143 [(0, zr w 257), (1, .int v1_143), (6, .int v6_143)] [] M (b_X11_comes_143 v1_143 v6_143 M) (fun o => Sum.elim (fun (s : (Int32 × zM)) => Zs C w (0, 0) 143 [(0, zr w 257), (1, .int v1_143), (6, .int s.1)] [] s.2) (fun (s : (zM)) => Zs C w (0, 0) 171 [(0, zr w 257), (1, .int v1_143)] [] s) o) := by
  have hC := hB.1.1
  have hq1 : 1 ≤ d := by omega
  unfold b_X11_comes_143
  refine x_iload hC dX11_comes_143 2 rfl ?_
  refine x_bipush (v := (8 : Int32)) hC dX11_comes_145 kb_8 ?_
  refine x_icmp_gt (tgt := 171) hC dX11_comes_147 (by decide) ?_ ?_
  · refine x_sub [0, 1] rfl ?_
    exact x_done (fun h => h)
  · refine x_iload hC dX11_comes_150 2 rfl ?_
    refine x_bipush (v := (7 : Int32)) hC dX11_comes_152 kb_7 ?_
    refine x_icmp_eq (tgt := 165) hC dX11_comes_154 (by decide) ?_ ?_
    · exact j_X11_comes_165_143_ok hB hd M hR
    · refine x_aload_n hC dX11_comes_157 rfl 0 rfl ?_
      refine x_iload_n hC dX11_comes_158 rfl 1 rfl ?_
      refine x_iload hC dX11_comes_159 2 rfl ?_
      refine x_iconst (v := (0 : Int32)) hC dX11_comes_161 ki_0 ?_
      refine r_cVv (as := [.int v1_143, .int v6_143, .int (0 : Int32)]) (rest := []) hB dX11_comes_162 kv_X11_266 th_257 hq1 rfl rfl (Nat.le_of_ble_eq_true rfl) (fun M' hv => f_X11_sets_met hB.2 (by omega) hv) (fun M162_143 => ?_)
      exact j_X11_comes_165_143_ok hB hd M162_143 hR
noncomputable def j_X11_comes_171 (v1_171 : Int32) (M : zM) : Option (Int32 × zM) :=
  (f_X11_standsAt v1_171 M).bind fun u176 =>
  (f_X11_writes (0 : Int32) v1_171 u176 M).bind fun M179 =>
  (f_X11_ends M179).bind fun M183 =>
  some ((1 : Int32), M183)
set_option maxRecDepth 100000 in
theorem j_X11_comes_171_ok {C : zC} {d : Nat} {g : zG} {l : Launch} {w : zW} {r : Int32 × zM} {v1_171 : Int32} (hB : bOK C cX11_comes 7 RX11 d g l w false) (hd : 5 ≤ d) (M : zM) (hR : RtZ C cX11_comes w r.1 r.2) : Sg C w (0, 0) 171 [(0, zr w 257), (1, .int v1_171)] [] M (j_X11_comes_171 v1_171 M) (fun q => q = r) := by
  have hC := hB.1.1
  have hq1 : 1 ≤ d := by omega
  unfold j_X11_comes_171
  refine x_aload_n hC dX11_comes_171 rfl 0 rfl ?_
  refine x_iconst (v := (0 : Int32)) hC dX11_comes_172 ki_0 ?_
  refine x_iload_n hC dX11_comes_173 rfl 1 rfl ?_
  refine x_aload_n hC dX11_comes_174 rfl 0 rfl ?_
  refine x_iload_n hC dX11_comes_175 rfl 1 rfl ?_
  refine r_cV1 (as := [.int v1_171]) (rest := [.int v1_171, .int (0 : Int32), zr w 257]) hB dX11_comes_176 kv_X11_111 th_257 hq1 rfl rfl (Nat.le_of_ble_eq_true rfl) (fun v hv => f_X11_standsAt_met hB.2 (by omega) hv) (fun u176 => ?_)
  refine r_cVv (as := [.int (0 : Int32), .int v1_171, .int u176]) (rest := []) hB dX11_comes_179 kv_X11_273 th_257 hq1 rfl rfl (Nat.le_of_ble_eq_true rfl) (fun M' hv => f_X11_writes_met hB.2 (by omega) hv) (fun M179 => ?_)
  refine x_aload_n hC dX11_comes_182 rfl 0 rfl ?_
  refine r_cVv (as := []) (rest := []) hB dX11_comes_183 kv_X11_316 th_257 hq1 rfl rfl (Nat.le_of_ble_eq_true rfl) (fun M' hv => f_X11_ends_met hB.2 (by omega) hv) (fun M183 => ?_)
  refine x_iconst (v := (1 : Int32)) hC dX11_comes_186 ki_1 ?_
  exact r_retZ hR dX11_comes_187 (Or.inr rfl) (fun h => h)
noncomputable def j_X11_comes_74 (v1_74 : Int32) (v2_74 : Int32) (v4_74 : Int32) (s0_74 : Int32) (M : zM) : Option (Int32 × zM) :=
  (f_X11_has v1_74 (1 : Int32) M).bind fun u79 =>
  if u79 = (1 : Int32) then (some ((0 : Int32), M))
  else ((f_X11_isFree (f_X11_place v4_74 s0_74) M).bind fun u94 =>
  if u94 = 0 then (some ((0 : Int32), M))
  else ((f_X11_sets v1_74 (1 : Int32) (1 : Int32) M).bind fun M106 =>
  (f_X11_sets v1_74 (2 : Int32) v4_74 M106).bind fun M114 =>
  (f_X11_sets v1_74 (3 : Int32) s0_74 M114).bind fun M122 =>
  (f_X11_sets v1_74 (4 : Int32) v2_74 M122).bind fun M129 =>
  (f_X11_sets v1_74 (7 : Int32) v2_74 M129).bind fun M137 =>
  (loopW (fun s => b_X11_comes_143 v1_74 s.1 s.2) ((5 : Int32), M137)).bind (fun r => j_X11_comes_171 v1_74 r)))
set_option maxRecDepth 100000 in
theorem j_X11_comes_74_ok {C : zC} {d : Nat} {g : zG} {l : Launch} {w : zW} {r : Int32 × zM} {v1_74 : Int32} {v2_74 : Int32} {v4_74 : Int32} {s0_74 : Int32} (hB : bOK C cX11_comes 7 RX11 d g l w false) (hd : 5 ≤ d) (M : zM) (hR : RtZ C cX11_comes w r.1 r.2) : Sg C w (0, 0) 74 [(0, zr w 257), (1, .int v1_74), (2, .int v2_74), (4, .int v4_74)] [.int s0_74] M (j_X11_comes_74 v1_74 v2_74 v4_74 s0_74 M) (fun q => q = r) := by
  have hC := hB.1.1
  have hq1 : 1 ≤ d := by omega
  unfold j_X11_comes_74
  refine x_istore (f := 0) hC dX11_comes_74 [(5, .int s0_74), (0, zr w 257), (1, .int v1_74), (2, .int v2_74), (4, .int v4_74)] (by decide) rfl ?_
  refine x_aload_n hC dX11_comes_76 rfl 1 rfl ?_
  refine x_iload_n hC dX11_comes_77 rfl 2 rfl ?_
  refine x_iconst (v := (1 : Int32)) hC dX11_comes_78 ki_1 ?_
  refine r_cV1 (as := [.int v1_74, .int (1 : Int32)]) (rest := []) hB dX11_comes_79 kv_X11_104 th_257 hq1 rfl rfl (Nat.le_of_ble_eq_true rfl) (fun v hv => f_X11_has_met hB.2 (by omega) hv) (fun u79 => ?_)
  refine x_iconst (v := (1 : Int32)) hC dX11_comes_82 ki_1 ?_
  refine x_icmp_eq (tgt := 100) hC dX11_comes_83 (by decide) ?_ ?_
  · refine x_iconst (v := (0 : Int32)) hC dX11_comes_100 ki_0 ?_
    exact r_retZ hR dX11_comes_101 (Or.inl rfl) (fun h => h)
  · refine x_aload_n hC dX11_comes_86 rfl 1 rfl ?_
    refine x_iload hC dX11_comes_87 4 rfl ?_
    refine x_iload hC dX11_comes_89 0 rfl ?_
    refine r_cS0 (as := [.int v4_74, .int s0_74]) (rest := [zr w 257]) hB dX11_comes_91 ks_X11_108 hq1 rfl rfl (Nat.le_of_ble_eq_true rfl) (f_X11_place_met hB.2 (by omega)) ?_
    refine r_cV1 (as := [.int (f_X11_place v4_74 s0_74)]) (rest := []) hB dX11_comes_94 kv_X11_298 th_257 hq1 rfl rfl (Nat.le_of_ble_eq_true rfl) (fun v hv => f_X11_isFree_met hB.2 (by omega) hv) (fun u94 => ?_)
    refine x_if_ne (tgt := 102) hC dX11_comes_97 (by decide) ?_ ?_
    · refine x_iconst (v := (0 : Int32)) hC dX11_comes_100 ki_0 ?_
      exact r_retZ hR dX11_comes_101 (Or.inl rfl) (fun h => h)
    · refine x_aload_n hC dX11_comes_102 rfl 1 rfl ?_
      refine x_iload_n hC dX11_comes_103 rfl 2 rfl ?_
      refine x_iconst (v := (1 : Int32)) hC dX11_comes_104 ki_1 ?_
      refine x_iconst (v := (1 : Int32)) hC dX11_comes_105 ki_1 ?_
      refine r_cVv (as := [.int v1_74, .int (1 : Int32), .int (1 : Int32)]) (rest := []) hB dX11_comes_106 kv_X11_266 th_257 hq1 rfl rfl (Nat.le_of_ble_eq_true rfl) (fun M' hv => f_X11_sets_met hB.2 (by omega) hv) (fun M106 => ?_)
      refine x_aload_n hC dX11_comes_109 rfl 1 rfl ?_
      refine x_iload_n hC dX11_comes_110 rfl 2 rfl ?_
      refine x_iconst (v := (2 : Int32)) hC dX11_comes_111 ki_2 ?_
      refine x_iload hC dX11_comes_112 4 rfl ?_
      refine r_cVv (as := [.int v1_74, .int (2 : Int32), .int v4_74]) (rest := []) hB dX11_comes_114 kv_X11_266 th_257 hq1 rfl rfl (Nat.le_of_ble_eq_true rfl) (fun M' hv => f_X11_sets_met hB.2 (by omega) hv) (fun M114 => ?_)
      refine x_aload_n hC dX11_comes_117 rfl 1 rfl ?_
      refine x_iload_n hC dX11_comes_118 rfl 2 rfl ?_
      refine x_iconst (v := (3 : Int32)) hC dX11_comes_119 ki_3 ?_
      refine x_iload hC dX11_comes_120 0 rfl ?_
      refine r_cVv (as := [.int v1_74, .int (3 : Int32), .int s0_74]) (rest := []) hB dX11_comes_122 kv_X11_266 th_257 hq1 rfl rfl (Nat.le_of_ble_eq_true rfl) (fun M' hv => f_X11_sets_met hB.2 (by omega) hv) (fun M122 => ?_)
      refine x_aload_n hC dX11_comes_125 rfl 1 rfl ?_
      refine x_iload_n hC dX11_comes_126 rfl 2 rfl ?_
      refine x_iconst (v := (4 : Int32)) hC dX11_comes_127 ki_4 ?_
      refine x_iload_n hC dX11_comes_128 rfl 3 rfl ?_
      refine r_cVv (as := [.int v1_74, .int (4 : Int32), .int v2_74]) (rest := []) hB dX11_comes_129 kv_X11_266 th_257 hq1 rfl rfl (Nat.le_of_ble_eq_true rfl) (fun M' hv => f_X11_sets_met hB.2 (by omega) hv) (fun M129 => ?_)
      refine x_aload_n hC dX11_comes_132 rfl 1 rfl ?_
      refine x_iload_n hC dX11_comes_133 rfl 2 rfl ?_
      refine x_bipush (v := (7 : Int32)) hC dX11_comes_134 kb_7 ?_
      refine x_iload_n hC dX11_comes_136 rfl 3 rfl ?_
      refine r_cVv (as := [.int v1_74, .int (7 : Int32), .int v2_74]) (rest := []) hB dX11_comes_137 kv_X11_266 th_257 hq1 rfl rfl (Nat.le_of_ble_eq_true rfl) (fun M' hv => f_X11_sets_met hB.2 (by omega) hv) (fun M137 => ?_)
      refine x_iconst (v := (5 : Int32)) hC dX11_comes_140 ki_5 ?_
      refine x_istore (f := 0) hC dX11_comes_141 [(6, .int (5 : Int32)), (5, .int s0_74), (0, zr w 257), (1, .int v1_74), (2, .int v2_74), (4, .int v4_74)] (by decide) rfl ?_
      refine x_sub [2, 3, 0] rfl ?_
      refine x_loopB (pc2 := 171) (fun (s : (Int32 × zM)) => [(0, zr w 257), (1, .int v1_74), (6, .int s.1)]) (fun (s : (Int32 × zM)) => s.2) (fun (s : (zM)) => [(0, zr w 257), (1, .int v1_74)]) (fun (s : (zM)) => s) ((5 : Int32), M137) ?_ ?_
      · exact fun s => b_X11_comes_143_ok hB hd s.2 hR
      · intro r9
        exact j_X11_comes_171_ok hB hd r9 hR
noncomputable def j_X11_comes_53 (v1_53 : Int32) (v2_53 : Int32) (v3_53 : Int32) (s0_53 : Int32) (M : zM) : Option (Int32 × zM) :=
  if v2_53 = 0 then (j_X11_comes_74 v1_53 v2_53 s0_53 (0 : Int32) M)
  else (if v2_53 = (2 : Int32) then (j_X11_comes_74 v1_53 v2_53 s0_53 (11 : Int32) M)
  else (j_X11_comes_74 v1_53 v2_53 s0_53 v3_53 M))
set_option maxRecDepth 100000 in
theorem j_X11_comes_53_ok {C : zC} {d : Nat} {g : zG} {l : Launch} {w : zW} {r : Int32 × zM} {v1_53 : Int32} {v2_53 : Int32} {v3_53 : Int32} {s0_53 : Int32} (hB : bOK C cX11_comes 7 RX11 d g l w false) (hd : 5 ≤ d) (M : zM) (hR : RtZ C cX11_comes w r.1 r.2) : Sg C w (0, 0) 53 [(0, zr w 257), (1, .int v1_53), (2, .int v2_53), (3, .int v3_53)] [.int s0_53] M (j_X11_comes_53 v1_53 v2_53 v3_53 s0_53 M) (fun q => q = r) := by
  have hC := hB.1.1
  have hq1 : 1 ≤ d := by omega
  unfold j_X11_comes_53
  refine x_istore (f := 0) hC dX11_comes_53 [(4, .int s0_53), (0, zr w 257), (1, .int v1_53), (2, .int v2_53), (3, .int v3_53)] (by decide) rfl ?_
  refine x_iload_n hC dX11_comes_55 rfl 3 rfl ?_
  refine x_if_ne (tgt := 63) hC dX11_comes_56 (by decide) ?_ ?_
  · refine x_iconst (v := (0 : Int32)) hC dX11_comes_59 ki_0 ?_
    refine x_goto (tgt := 74) hC dX11_comes_60 (by decide) ?_
    refine x_sub [1, 2, 3, 0] rfl ?_
    exact j_X11_comes_74_ok hB hd M hR
  · refine x_iload_n hC dX11_comes_63 rfl 3 rfl ?_
    refine x_iconst (v := (2 : Int32)) hC dX11_comes_64 ki_2 ?_
    refine x_icmp_ne (tgt := 73) hC dX11_comes_65 (by decide) ?_ ?_
    · refine x_bipush (v := (11 : Int32)) hC dX11_comes_68 kb_11 ?_
      refine x_goto (tgt := 74) hC dX11_comes_70 (by decide) ?_
      refine x_sub [1, 2, 3, 0] rfl ?_
      exact j_X11_comes_74_ok hB hd M hR
    · refine x_iload_n hC dX11_comes_73 rfl 4 rfl ?_
      refine x_sub [1, 2, 3, 0] rfl ?_
      exact j_X11_comes_74_ok hB hd M hR
noncomputable def f_X11_comes (p1 : Int32) (p2 : Int32) (p3 : Int32) (M : zM) : Option (Int32 × zM) :=
  (f_X11_isWalker p1 M).bind fun u2 =>
  if u2 = 0 then (some ((0 : Int32), M))
  else (if (f_X11_within p2 (0 : Int32) (3 : Int32)) = 0 then (some ((0 : Int32), M))
  else (if (f_X11_within p3 (0 : Int32) (11 : Int32)) = 0 then (some ((0 : Int32), M))
  else ((f_X11_begins M).bind fun M30 =>
  if p2 = (1 : Int32) then (j_X11_comes_53 p1 p2 p3 (0 : Int32) M30)
  else (if p2 = (3 : Int32) then (j_X11_comes_53 p1 p2 p3 (11 : Int32) M30)
  else (j_X11_comes_53 p1 p2 p3 p3 M30)))))
set_option maxRecDepth 100000 in
theorem f_X11_comes_ok {C : zC} {d : Nat} {g : zG} {l : Launch} {w : zW} {r : Int32 × zM} {p1 : Int32} {p2 : Int32} {p3 : Int32} (hB : bOK C cX11_comes 7 RX11 d g l w false) (hd : 5 ≤ d) (M : zM) (hR : RtZ C cX11_comes w r.1 r.2) : Sg C w (0, 0) 0 [(0, zr w 257), (1, .int p1), (2, .int p2), (3, .int p3)] [] M (f_X11_comes p1 p2 p3 M) (fun q => q = r) := by
  have hC := hB.1.1
  have hq1 : 1 ≤ d := by omega
  unfold f_X11_comes
  refine x_aload_n hC dX11_comes_0 rfl 0 rfl ?_
  refine x_iload_n hC dX11_comes_1 rfl 1 rfl ?_
  refine r_cV1 (as := [.int p1]) (rest := []) hB dX11_comes_2 kv_X11_322 th_257 hq1 rfl rfl (Nat.le_of_ble_eq_true rfl) (fun v hv => f_X11_isWalker_met hB.2 (by omega) hv) (fun u2 => ?_)
  refine x_if_eq (tgt := 27) hC dX11_comes_5 (by decide) ?_ ?_
  · refine x_iconst (v := (0 : Int32)) hC dX11_comes_27 ki_0 ?_
    exact r_retZ hR dX11_comes_28 (Or.inl rfl) (fun h => h)
  · refine x_iload_n hC dX11_comes_8 rfl 2 rfl ?_
    refine x_iconst (v := (0 : Int32)) hC dX11_comes_9 ki_0 ?_
    refine x_iconst (v := (3 : Int32)) hC dX11_comes_10 ki_3 ?_
    refine r_cS0 (as := [.int p2, .int (0 : Int32), .int (3 : Int32)]) (rest := []) hB dX11_comes_11 ks_X11_100 hq1 rfl rfl (Nat.le_of_ble_eq_true rfl) (f_X11_within_met hB.2 (by omega)) ?_
    refine x_if_eq (tgt := 27) hC dX11_comes_14 (by decide) ?_ ?_
    · refine x_iconst (v := (0 : Int32)) hC dX11_comes_27 ki_0 ?_
      exact r_retZ hR dX11_comes_28 (Or.inl rfl) (fun h => h)
    · refine x_iload_n hC dX11_comes_17 rfl 3 rfl ?_
      refine x_iconst (v := (0 : Int32)) hC dX11_comes_18 ki_0 ?_
      refine x_bipush (v := (11 : Int32)) hC dX11_comes_19 kb_11 ?_
      refine r_cS0 (as := [.int p3, .int (0 : Int32), .int (11 : Int32)]) (rest := []) hB dX11_comes_21 ks_X11_100 hq1 rfl rfl (Nat.le_of_ble_eq_true rfl) (f_X11_within_met hB.2 (by omega)) ?_
      refine x_if_ne (tgt := 29) hC dX11_comes_24 (by decide) ?_ ?_
      · refine x_iconst (v := (0 : Int32)) hC dX11_comes_27 ki_0 ?_
        exact r_retZ hR dX11_comes_28 (Or.inl rfl) (fun h => h)
      · refine x_aload_n hC dX11_comes_29 rfl 0 rfl ?_
        refine r_cVv (as := []) (rest := []) hB dX11_comes_30 kv_X11_310 th_257 hq1 rfl rfl (Nat.le_of_ble_eq_true rfl) (fun M' hv => f_X11_begins_met hB.2 (by omega) hv) (fun M30 => ?_)
        refine x_iload_n hC dX11_comes_33 rfl 2 rfl ?_
        refine x_iconst (v := (1 : Int32)) hC dX11_comes_34 ki_1 ?_
        refine x_icmp_ne (tgt := 42) hC dX11_comes_35 (by decide) ?_ ?_
        · refine x_iconst (v := (0 : Int32)) hC dX11_comes_38 ki_0 ?_
          refine x_goto (tgt := 53) hC dX11_comes_39 (by decide) ?_
          exact j_X11_comes_53_ok hB hd M30 hR
        · refine x_iload_n hC dX11_comes_42 rfl 2 rfl ?_
          refine x_iconst (v := (3 : Int32)) hC dX11_comes_43 ki_3 ?_
          refine x_icmp_ne (tgt := 52) hC dX11_comes_44 (by decide) ?_ ?_
          · refine x_bipush (v := (11 : Int32)) hC dX11_comes_47 kb_11 ?_
            refine x_goto (tgt := 53) hC dX11_comes_49 (by decide) ?_
            exact j_X11_comes_53_ok hB hd M30 hR
          · refine x_iload_n hC dX11_comes_52 rfl 3 rfl ?_
            exact j_X11_comes_53_ok hB hd M30 hR
theorem f_X11_comes_met {l : Launch} {d : Nat} {g : zG} {w : zW} {M0 : zM} {p1 : Int32} {p2 : Int32} {p3 : Int32} {M : zM} (hw : wS w) (hd : 5 ≤ d) {v : Int32} {M' : zM} (h : f_X11_comes p1 p2 p3 M = some (v, M')) : zMet l yX11_comes cX11_comes 7 (some .boolean) d g w (zin false) M0 [zr w 257, .int p1, .int p2, .int p3] M (some (.int v)) M' :=
  met_z (by decide +kernel) (Nat.le_of_ble_eq_true rfl) (fun C hB0 hR => f_X11_comes_ok (r := (v, M')) ⟨hB0, hw⟩ hd M hR _ h rfl)
/-! WindingSquareModel.of(II)I -/
noncomputable def j_X11_of_78 (v1_78 : Int32) (v2_78 : Int32) (M : zM) : Option (Int32 × zM) :=
  (f_X11_has v1_78 v2_78 M).bind fun u81 =>
  some (u81, M)
set_option maxRecDepth 100000 in
theorem j_X11_of_78_ok {C : zC} {d : Nat} {g : zG} {l : Launch} {w : zW} {r : Int32 × zM} {v1_78 : Int32} {v2_78 : Int32} (hB : bOK C cX11_of 3 RX11 d g l w false) (hd : 5 ≤ d) (M : zM) (hR : RtI C cX11_of w r.1 r.2) : Sg C w (0, 0) 78 [(0, zr w 257), (1, .int v1_78), (2, .int v2_78)] [] M (j_X11_of_78 v1_78 v2_78 M) (fun q => q = r) := by
  have hC := hB.1.1
  have hq1 : 1 ≤ d := by omega
  unfold j_X11_of_78
  refine x_aload_n hC dX11_of_78 rfl 0 rfl ?_
  refine x_iload_n hC dX11_of_79 rfl 1 rfl ?_
  refine x_iload_n hC dX11_of_80 rfl 2 rfl ?_
  refine r_cV1 (as := [.int v1_78, .int v2_78]) (rest := []) hB dX11_of_81 kv_X11_104 th_257 hq1 rfl rfl (Nat.le_of_ble_eq_true rfl) (fun v hv => f_X11_has_met hB.2 (by omega) hv) (fun u81 => ?_)
  exact r_retI hR dX11_of_84 (fun h => h)
noncomputable def f_X11_of (p1 : Int32) (p2 : Int32) (M : zM) : Option (Int32 × zM) :=
  (f_X11_isWalker p1 M).bind fun u2 =>
  if u2 = 0 then (some ((-2 : Int32), M))
  else (if (f_X11_within p2 (0 : Int32) (13 : Int32)) = 0 then (some ((-2 : Int32), M))
  else ((f_X11_take M).bind fun M22 =>
  if p2 ≤ (10 : Int32) then (if p2 ≤ (7 : Int32) then (if p2 ≤ (1 : Int32) then (j_X11_of_78 p1 p2 M22)
  else ((f_X11_has p1 (1 : Int32) M22).bind fun u68 =>
  if u68 = 0 then (some ((-1 : Int32), M22))
  else (j_X11_of_78 p1 p2 M22)))
  else ((f_X11_has p1 (((9 : Int32) + p2) - (8 : Int32)) M22).bind fun u56 =>
  some (u56, M22)))
  else (bnd2 (f_X11_tells (p2 - (11 : Int32)) p1 M22) fun u37 M37 =>
  some (u37, M37))))
set_option maxRecDepth 100000 in
theorem f_X11_of_ok {C : zC} {d : Nat} {g : zG} {l : Launch} {w : zW} {r : Int32 × zM} {p1 : Int32} {p2 : Int32} (hB : bOK C cX11_of 3 RX11 d g l w false) (hd : 5 ≤ d) (M : zM) (hR : RtI C cX11_of w r.1 r.2) : Sg C w (0, 0) 0 [(0, zr w 257), (1, .int p1), (2, .int p2)] [] M (f_X11_of p1 p2 M) (fun q => q = r) := by
  have hC := hB.1.1
  have hq1 : 1 ≤ d := by omega
  unfold f_X11_of
  refine x_aload_n hC dX11_of_0 rfl 0 rfl ?_
  refine x_iload_n hC dX11_of_1 rfl 1 rfl ?_
  refine r_cV1 (as := [.int p1]) (rest := []) hB dX11_of_2 kv_X11_322 th_257 hq1 rfl rfl (Nat.le_of_ble_eq_true rfl) (fun v hv => f_X11_isWalker_met hB.2 (by omega) hv) (fun u2 => ?_)
  refine x_if_eq (tgt := 18) hC dX11_of_5 (by decide) ?_ ?_
  · refine x_bipush (v := (-2 : Int32)) hC dX11_of_18 kb_m2 ?_
    exact r_retI hR dX11_of_20 (fun h => h)
  · refine x_iload_n hC dX11_of_8 rfl 2 rfl ?_
    refine x_iconst (v := (0 : Int32)) hC dX11_of_9 ki_0 ?_
    refine x_bipush (v := (13 : Int32)) hC dX11_of_10 kb_13 ?_
    refine r_cS0 (as := [.int p2, .int (0 : Int32), .int (13 : Int32)]) (rest := []) hB dX11_of_12 ks_X11_100 hq1 rfl rfl (Nat.le_of_ble_eq_true rfl) (f_X11_within_met hB.2 (by omega)) ?_
    refine x_if_ne (tgt := 21) hC dX11_of_15 (by decide) ?_ ?_
    · refine x_bipush (v := (-2 : Int32)) hC dX11_of_18 kb_m2 ?_
      exact r_retI hR dX11_of_20 (fun h => h)
    · refine x_aload_n hC dX11_of_21 rfl 0 rfl ?_
      refine r_cVv (as := []) (rest := []) hB dX11_of_22 kv_X11_328 th_257 hq1 rfl rfl (Nat.le_of_ble_eq_true rfl) (fun M' hv => f_X11_take_met hB.2 (by omega) hv) (fun M22 => ?_)
      refine x_iload_n hC dX11_of_25 rfl 2 rfl ?_
      refine x_bipush (v := (10 : Int32)) hC dX11_of_26 kb_10 ?_
      refine x_icmp_le (tgt := 41) hC dX11_of_28 (by decide) ?_ ?_
      · refine x_iload_n hC dX11_of_41 rfl 2 rfl ?_
        refine x_bipush (v := (7 : Int32)) hC dX11_of_42 kb_7 ?_
        refine x_icmp_le (tgt := 60) hC dX11_of_44 (by decide) ?_ ?_
        · refine x_iload_n hC dX11_of_60 rfl 2 rfl ?_
          refine x_iconst (v := (1 : Int32)) hC dX11_of_61 ki_1 ?_
          refine x_icmp_le (tgt := 78) hC dX11_of_62 (by decide) ?_ ?_
          · exact j_X11_of_78_ok hB hd M22 hR
          · refine x_aload_n hC dX11_of_65 rfl 0 rfl ?_
            refine x_iload_n hC dX11_of_66 rfl 1 rfl ?_
            refine x_iconst (v := (1 : Int32)) hC dX11_of_67 ki_1 ?_
            refine r_cV1 (as := [.int p1, .int (1 : Int32)]) (rest := []) hB dX11_of_68 kv_X11_104 th_257 hq1 rfl rfl (Nat.le_of_ble_eq_true rfl) (fun v hv => f_X11_has_met hB.2 (by omega) hv) (fun u68 => ?_)
            refine x_if_ne (tgt := 78) hC dX11_of_71 (by decide) ?_ ?_
            · refine x_iconst (v := (-1 : Int32)) hC dX11_of_74 ki_m1 ?_
              refine x_goto (tgt := 84) hC dX11_of_75 (by decide) ?_
              exact r_retI hR dX11_of_84 (fun h => h)
            · exact j_X11_of_78_ok hB hd M22 hR
        · refine x_aload_n hC dX11_of_47 rfl 0 rfl ?_
          refine x_iload_n hC dX11_of_48 rfl 1 rfl ?_
          refine x_bipush (v := (9 : Int32)) hC dX11_of_49 kb_9 ?_
          refine x_iload_n hC dX11_of_51 rfl 2 rfl ?_
          refine x_iadd hC dX11_of_52 ?_
          refine x_bipush (v := (8 : Int32)) hC dX11_of_53 kb_8 ?_
          refine x_isub hC dX11_of_55 ?_
          refine r_cV1 (as := [.int p1, .int (((9 : Int32) + p2) - (8 : Int32))]) (rest := []) hB dX11_of_56 kv_X11_104 th_257 hq1 rfl rfl (Nat.le_of_ble_eq_true rfl) (fun v hv => f_X11_has_met hB.2 (by omega) hv) (fun u56 => ?_)
          exact r_retI hR dX11_of_59 (fun h => h)
      · refine x_aload_n hC dX11_of_31 rfl 0 rfl ?_
        refine x_iload_n hC dX11_of_32 rfl 2 rfl ?_
        refine x_bipush (v := (11 : Int32)) hC dX11_of_33 kb_11 ?_
        refine x_isub hC dX11_of_35 ?_
        refine x_iload_n hC dX11_of_36 rfl 1 rfl ?_
        refine r_cV2 (as := [.int (p2 - (11 : Int32)), .int p1]) (rest := []) hB dX11_of_37 kv_X11_276 th_257 hq1 rfl rfl (Nat.le_of_ble_eq_true rfl) (fun v M' hv => f_X11_tells_met hB.2 (by omega) hv) (fun u37 M37 => ?_)
        exact r_retI hR dX11_of_40 (fun h => h)
theorem f_X11_of_met {l : Launch} {d : Nat} {g : zG} {w : zW} {M0 : zM} {p1 : Int32} {p2 : Int32} {M : zM} (hw : wS w) (hd : 5 ≤ d) {v : Int32} {M' : zM} (h : f_X11_of p1 p2 M = some (v, M')) : zMet l yX11_of cX11_of 3 (some .int) d g w (zin false) M0 [zr w 257, .int p1, .int p2] M (some (.int v)) M' :=
  met_i (by decide +kernel) (Nat.le_of_ble_eq_true rfl) rfl (fun C hB0 hR => f_X11_of_ok (r := (v, M')) ⟨hB0, hw⟩ hd M hR _ h rfl)
/-! WindingSquareModel.laySteps(II)V -/
noncomputable def j_X11_laySteps_118_2_11 (v1_2 : Int32) (v2_2 : Int32) (v3_11_2 : Int32) (v4_118_2_11 : Int32) (v5_118_2_11 : Int32) (M : zM) : Option ((Int32 × zM) ⊕ (zM)) :=
  grd (inb ((v3_11_2 * (576 : Int32)) + v4_118_2_11) 4032) (
  nm (mset M 267 (ix ((v3_11_2 * (576 : Int32)) + v4_118_2_11)) v5_118_2_11) fun M132_2_11 =>
  some (.inl ((v4_118_2_11 + (1 : Int32)), M132_2_11)))
set_option maxRecDepth 100000 in
theorem j_X11_laySteps_118_2_11_ok {C : zC} {d : Nat} {g : zG} {l : Launch} {w : zW} {r : zM} {v1_2 : Int32} {v2_2 : Int32} {v3_11_2 : Int32} {v4_118_2_11 : Int32} {v5_118_2_11 : Int32} (hB : bOK C cX11_laySteps 8 RX11 d g l w false) (hd : 5 ≤ d) (M : zM) (hR : RtV C cX11_laySteps w r) : Sg C w (0, 0) 118 [(0, zr w 257), (1, .int v1_2), (2, .int v2_2), (3, .int v3_11_2), (4, .int v4_118_2_11), (5, .int v5_118_2_11)] [] M (j_X11_laySteps_118_2_11 v1_2 v2_2 v3_11_2 v4_118_2_11 v5_118_2_11 M) (fun o => Sum.elim (fun (s : (Int32 × zM)) => Zs C w (0, 0) 11 [(0, zr w 257), (1, .int v1_2), (2, .int v2_2), (3, .int v3_11_2), (4, .int s.1)] [] s.2) (fun (s : (zM)) => Zs C w (0, 0) 139 [(0, zr w 257), (1, .int v1_2), (2, .int v2_2), (3, .int v3_11_2)] [] s) o) := by
  have hC := hB.1.1
  have hq1 : 1 ≤ d := by omega
  unfold j_X11_laySteps_118_2_11
  refine x_aload_n hC dX11_laySteps_118 rfl 0 rfl ?_
  refine r_getR hB dX11_laySteps_119 kf_X11_41 rfl th_257 rf_257_22 ?_
  refine x_iload_n hC dX11_laySteps_122 rfl 3 rfl ?_
  refine x_sipush (v := (576 : Int32)) hC dX11_laySteps_123 kh_576 ?_
  refine x_imul hC dX11_laySteps_126 ?_
  refine x_iload hC dX11_laySteps_127 4 rfl ?_
  refine x_iadd hC dX11_laySteps_129 ?_
  refine x_iload hC dX11_laySteps_130 5 rfl ?_
  refine r_iast hB dX11_laySteps_132 th_267 ?_
  refine x_mem (fun M132_2_11 => ?_)
  refine x_iinc hC dX11_laySteps_133 ki_1 [(4, .int (v4_118_2_11 + (1 : Int32))), (0, zr w 257), (1, .int v1_2), (2, .int v2_2), (3, .int v3_11_2), (5, .int v5_118_2_11)] 4 rfl (by decide) rfl ?_
  refine x_goto (tgt := 11) hC dX11_laySteps_136 (by decide) ?_
  refine x_sub [1, 2, 3, 4, 0] rfl ?_
  exact x_done (fun h => h)
noncomputable def j_X11_laySteps_116_2_11 (v1_2 : Int32) (v2_2 : Int32) (v3_11_2 : Int32) (v4_116_2_11 : Int32) (s0_116_2_11 : Int32) (M : zM) : Option ((Int32 × zM) ⊕ (zM)) :=
  j_X11_laySteps_118_2_11 v1_2 v2_2 v3_11_2 v4_116_2_11 s0_116_2_11 M
set_option maxRecDepth 100000 in
theorem j_X11_laySteps_116_2_11_ok {C : zC} {d : Nat} {g : zG} {l : Launch} {w : zW} {r : zM} {v1_2 : Int32} {v2_2 : Int32} {v3_11_2 : Int32} {v4_116_2_11 : Int32} {s0_116_2_11 : Int32} (hB : bOK C cX11_laySteps 8 RX11 d g l w false) (hd : 5 ≤ d) (M : zM) (hR : RtV C cX11_laySteps w r) : Sg C w (0, 0) 116 [(0, zr w 257), (1, .int v1_2), (2, .int v2_2), (3, .int v3_11_2), (4, .int v4_116_2_11)] [.int s0_116_2_11] M (j_X11_laySteps_116_2_11 v1_2 v2_2 v3_11_2 v4_116_2_11 s0_116_2_11 M) (fun o => Sum.elim (fun (s : (Int32 × zM)) => Zs C w (0, 0) 11 [(0, zr w 257), (1, .int v1_2), (2, .int v2_2), (3, .int v3_11_2), (4, .int s.1)] [] s.2) (fun (s : (zM)) => Zs C w (0, 0) 139 [(0, zr w 257), (1, .int v1_2), (2, .int v2_2), (3, .int v3_11_2)] [] s) o) := by
  have hC := hB.1.1
  have hq1 : 1 ≤ d := by omega
  unfold j_X11_laySteps_116_2_11
  refine x_istore (f := 0) hC dX11_laySteps_116 [(5, .int s0_116_2_11), (0, zr w 257), (1, .int v1_2), (2, .int v2_2), (3, .int v3_11_2), (4, .int v4_116_2_11)] (by decide) rfl ?_
  refine x_sub [1, 2, 3, 4, 5, 0] rfl ?_
  exact j_X11_laySteps_118_2_11_ok hB hd M hR
noncomputable def j_X11_laySteps_40_2_11 (v1_2 : Int32) (v2_2 : Int32) (v3_11_2 : Int32) (v4_40_2_11 : Int32) (s0_40_2_11 : Int32) (M : zM) : Option ((Int32 × zM) ⊕ (zM)) :=
  if v3_11_2 ≤ 0 then (j_X11_laySteps_118_2_11 v1_2 v2_2 v3_11_2 v4_40_2_11 s0_40_2_11 M)
  else (grd (inb ((((v3_11_2 - (1 : Int32)) * (576 : Int32)) + ((v4_40_2_11 / (4 : Int32)) * (4 : Int32))) + (irem (v4_40_2_11 + (1 : Int32)) (4 : Int32))) 4032) (
  nm (M 267 (ix ((((v3_11_2 - (1 : Int32)) * (576 : Int32)) + ((v4_40_2_11 / (4 : Int32)) * (4 : Int32))) + (irem (v4_40_2_11 + (1 : Int32)) (4 : Int32))))) fun v6_72_2_11 =>
  grd (inb ((((v3_11_2 - (1 : Int32)) * (576 : Int32)) + ((v4_40_2_11 / (4 : Int32)) * (4 : Int32))) + (irem (v4_40_2_11 + (3 : Int32)) (4 : Int32))) 4032) (
  nm (M 267 (ix ((((v3_11_2 - (1 : Int32)) * (576 : Int32)) + ((v4_40_2_11 / (4 : Int32)) * (4 : Int32))) + (irem (v4_40_2_11 + (3 : Int32)) (4 : Int32))))) fun v7_100_2_11 =>
  if v7_100_2_11 ≤ v6_72_2_11 then (j_X11_laySteps_116_2_11 v1_2 v2_2 v3_11_2 v4_40_2_11 v7_100_2_11 M)
  else (j_X11_laySteps_116_2_11 v1_2 v2_2 v3_11_2 v4_40_2_11 v6_72_2_11 M))))
set_option maxRecDepth 100000 in
theorem j_X11_laySteps_40_2_11_ok {C : zC} {d : Nat} {g : zG} {l : Launch} {w : zW} {r : zM} {v1_2 : Int32} {v2_2 : Int32} {v3_11_2 : Int32} {v4_40_2_11 : Int32} {s0_40_2_11 : Int32} (hB : bOK C cX11_laySteps 8 RX11 d g l w false) (hd : 5 ≤ d) (M : zM) (hR : RtV C cX11_laySteps w r) : Sg C w (0, 0) 40 [(0, zr w 257), (1, .int v1_2), (2, .int v2_2), (3, .int v3_11_2), (4, .int v4_40_2_11)] [.int s0_40_2_11] M (j_X11_laySteps_40_2_11 v1_2 v2_2 v3_11_2 v4_40_2_11 s0_40_2_11 M) (fun o => Sum.elim (fun (s : (Int32 × zM)) => Zs C w (0, 0) 11 [(0, zr w 257), (1, .int v1_2), (2, .int v2_2), (3, .int v3_11_2), (4, .int s.1)] [] s.2) (fun (s : (zM)) => Zs C w (0, 0) 139 [(0, zr w 257), (1, .int v1_2), (2, .int v2_2), (3, .int v3_11_2)] [] s) o) := by
  have hC := hB.1.1
  have hq1 : 1 ≤ d := by omega
  unfold j_X11_laySteps_40_2_11
  refine x_istore (f := 0) hC dX11_laySteps_40 [(5, .int s0_40_2_11), (0, zr w 257), (1, .int v1_2), (2, .int v2_2), (3, .int v3_11_2), (4, .int v4_40_2_11)] (by decide) rfl ?_
  refine x_iload_n hC dX11_laySteps_42 rfl 4 rfl ?_
  refine x_if_le (tgt := 118) hC dX11_laySteps_43 (by decide) ?_ ?_
  · refine x_sub [1, 2, 3, 4, 5, 0] rfl ?_
    exact j_X11_laySteps_118_2_11_ok hB hd M hR
  · refine x_aload_n hC dX11_laySteps_46 rfl 1 rfl ?_
    refine r_getR hB dX11_laySteps_47 kf_X11_41 rfl th_257 rf_257_22 ?_
    refine x_iload_n hC dX11_laySteps_50 rfl 4 rfl ?_
    refine x_iconst (v := (1 : Int32)) hC dX11_laySteps_51 ki_1 ?_
    refine x_isub hC dX11_laySteps_52 ?_
    refine x_sipush (v := (576 : Int32)) hC dX11_laySteps_53 kh_576 ?_
    refine x_imul hC dX11_laySteps_56 ?_
    refine x_iload hC dX11_laySteps_57 5 rfl ?_
    refine x_iconst (v := (4 : Int32)) hC dX11_laySteps_59 ki_4 ?_
    refine x_idiv0 hC dX11_laySteps_60 nz_4 ?_
    refine x_iconst (v := (4 : Int32)) hC dX11_laySteps_61 ki_4 ?_
    refine x_imul hC dX11_laySteps_62 ?_
    refine x_iadd hC dX11_laySteps_63 ?_
    refine x_iload hC dX11_laySteps_64 5 rfl ?_
    refine x_iconst (v := (1 : Int32)) hC dX11_laySteps_66 ki_1 ?_
    refine x_iadd hC dX11_laySteps_67 ?_
    refine x_iconst (v := (4 : Int32)) hC dX11_laySteps_68 ki_4 ?_
    refine x_irem0 hC dX11_laySteps_69 nz_4 ?_
    refine x_iadd hC dX11_laySteps_70 ?_
    refine r_iald hB dX11_laySteps_71 th_267 ?_
    refine x_top (fun v6_72_2_11 => ?_)
    refine x_istore (f := 0) hC dX11_laySteps_72 [(6, .int v6_72_2_11), (5, .int s0_40_2_11), (0, zr w 257), (1, .int v1_2), (2, .int v2_2), (3, .int v3_11_2), (4, .int v4_40_2_11)] (by decide) rfl ?_
    refine x_aload_n hC dX11_laySteps_74 rfl 2 rfl ?_
    refine r_getR hB dX11_laySteps_75 kf_X11_41 rfl th_257 rf_257_22 ?_
    refine x_iload_n hC dX11_laySteps_78 rfl 5 rfl ?_
    refine x_iconst (v := (1 : Int32)) hC dX11_laySteps_79 ki_1 ?_
    refine x_isub hC dX11_laySteps_80 ?_
    refine x_sipush (v := (576 : Int32)) hC dX11_laySteps_81 kh_576 ?_
    refine x_imul hC dX11_laySteps_84 ?_
    refine x_iload hC dX11_laySteps_85 6 rfl ?_
    refine x_iconst (v := (4 : Int32)) hC dX11_laySteps_87 ki_4 ?_
    refine x_idiv0 hC dX11_laySteps_88 nz_4 ?_
    refine x_iconst (v := (4 : Int32)) hC dX11_laySteps_89 ki_4 ?_
    refine x_imul hC dX11_laySteps_90 ?_
    refine x_iadd hC dX11_laySteps_91 ?_
    refine x_iload hC dX11_laySteps_92 6 rfl ?_
    refine x_iconst (v := (3 : Int32)) hC dX11_laySteps_94 ki_3 ?_
    refine x_iadd hC dX11_laySteps_95 ?_
    refine x_iconst (v := (4 : Int32)) hC dX11_laySteps_96 ki_4 ?_
    refine x_irem0 hC dX11_laySteps_97 nz_4 ?_
    refine x_iadd hC dX11_laySteps_98 ?_
    refine r_iald hB dX11_laySteps_99 th_267 ?_
    refine x_top (fun v7_100_2_11 => ?_)
    refine x_istore (f := 0) hC dX11_laySteps_100 [(7, .int v7_100_2_11), (6, .int v6_72_2_11), (5, .int s0_40_2_11), (0, zr w 257), (1, .int v1_2), (2, .int v2_2), (3, .int v3_11_2), (4, .int v4_40_2_11)] (by decide) rfl ?_
    refine x_iload hC dX11_laySteps_102 1 rfl ?_
    refine x_iload hC dX11_laySteps_104 0 rfl ?_
    refine x_icmp_ge (tgt := 114) hC dX11_laySteps_106 (by decide) ?_ ?_
    · refine x_iload hC dX11_laySteps_114 0 rfl ?_
      refine x_sub [3, 4, 5, 6, 7] rfl ?_
      exact j_X11_laySteps_116_2_11_ok hB hd M hR
    · refine x_iload hC dX11_laySteps_109 1 rfl ?_
      refine x_goto (tgt := 116) hC dX11_laySteps_111 (by decide) ?_
      refine x_sub [3, 4, 5, 6, 7] rfl ?_
      exact j_X11_laySteps_116_2_11_ok hB hd M hR
noncomputable def j_X11_laySteps_37_2_11 (v1_2 : Int32) (v2_2 : Int32) (v3_11_2 : Int32) (v4_37_2_11 : Int32) (M : zM) : Option ((Int32 × zM) ⊕ (zM)) :=
  j_X11_laySteps_40_2_11 v1_2 v2_2 v3_11_2 v4_37_2_11 (9999 : Int32) M
set_option maxRecDepth 100000 in
theorem j_X11_laySteps_37_2_11_ok {C : zC} {d : Nat} {g : zG} {l : Launch} {w : zW} {r : zM} {v1_2 : Int32} {v2_2 : Int32} {v3_11_2 : Int32} {v4_37_2_11 : Int32} (hB : bOK C cX11_laySteps 8 RX11 d g l w false) (hd : 5 ≤ d) (M : zM) (hR : RtV C cX11_laySteps w r) : Sg C w (0, 0) 37 [(0, zr w 257), (1, .int v1_2), (2, .int v2_2), (3, .int v3_11_2), (4, .int v4_37_2_11)] [] M (j_X11_laySteps_37_2_11 v1_2 v2_2 v3_11_2 v4_37_2_11 M) (fun o => Sum.elim (fun (s : (Int32 × zM)) => Zs C w (0, 0) 11 [(0, zr w 257), (1, .int v1_2), (2, .int v2_2), (3, .int v3_11_2), (4, .int s.1)] [] s.2) (fun (s : (zM)) => Zs C w (0, 0) 139 [(0, zr w 257), (1, .int v1_2), (2, .int v2_2), (3, .int v3_11_2)] [] s) o) := by
  have hC := hB.1.1
  have hq1 : 1 ≤ d := by omega
  unfold j_X11_laySteps_37_2_11
  refine x_sipush (v := (9999 : Int32)) hC dX11_laySteps_37 kh_9999 ?_
  exact j_X11_laySteps_40_2_11_ok hB hd M hR
noncomputable def b_X11_laySteps_11_2 (v1_2 : Int32) (v2_2 : Int32) (v3_11_2 : Int32) (v4_11_2 : Int32) (M : zM) : Option ((Int32 × zM) ⊕ (zM)) :=
  if (576 : Int32) ≤ v4_11_2 then (some (.inr M))
  else (if v3_11_2 = 0 then (if v4_11_2 = (((4 : Int32) * v1_2) + v2_2) then (j_X11_laySteps_40_2_11 v1_2 v2_2 v3_11_2 v4_11_2 (0 : Int32) M)
  else (j_X11_laySteps_37_2_11 v1_2 v2_2 v3_11_2 v4_11_2 M))
  else (j_X11_laySteps_37_2_11 v1_2 v2_2 v3_11_2 v4_11_2 M))
set_option maxRecDepth 100000 in
theorem b_X11_laySteps_11_2_ok {C : zC} {d : Nat} {g : zG} {l : Launch} {w : zW} {r : zM} {v1_2 : Int32} {v2_2 : Int32} {v3_11_2 : Int32} {v4_11_2 : Int32} (hB : bOK C cX11_laySteps 8 RX11 d g l w false) (hd : 5 ≤ d) (M : zM) (hR : RtV C cX11_laySteps w r) : Sg C w (0, 0) 11 [(0, zr w 257), (1, .int v1_2), (2, .int v2_2), (3, .int v3_11_2), (4, .int v4_11_2)] [] M (b_X11_laySteps_11_2 v1_2 v2_2 v3_11_2 v4_11_2 M) (fun o => Sum.elim (fun (s : (Int32 × zM)) => Zs C w (0, 0) 11 [(0, zr w 257), (1, .int v1_2), (2, .int v2_2), (3, .int v3_11_2), (4, .int s.1)] [] s.2) (fun (s : (zM)) => Zs C w (0, 0) 139 [(0, zr w 257), (1, .int v1_2), (2, .int v2_2), (3, .int v3_11_2)] [] s) o) := by
  have hC := hB.1.1
  have hq1 : 1 ≤ d := by omega
  unfold b_X11_laySteps_11_2
  refine x_iload hC dX11_laySteps_11 4 rfl ?_
  refine x_sipush (v := (576 : Int32)) hC dX11_laySteps_13 kh_576 ?_
  refine x_icmp_ge (tgt := 139) hC dX11_laySteps_16 (by decide) ?_ ?_
  · refine x_sub [0, 1, 2, 3] rfl ?_
    exact x_done (fun h => h)
  · refine x_iload_n hC dX11_laySteps_19 rfl 3 rfl ?_
    refine x_if_ne (tgt := 37) hC dX11_laySteps_20 (by decide) ?_ ?_
    · refine x_iload hC dX11_laySteps_23 4 rfl ?_
      refine x_iconst (v := (4 : Int32)) hC dX11_laySteps_25 ki_4 ?_
      refine x_iload_n hC dX11_laySteps_26 rfl 1 rfl ?_
      refine x_imul hC dX11_laySteps_27 ?_
      refine x_iload_n hC dX11_laySteps_28 rfl 2 rfl ?_
      refine x_iadd hC dX11_laySteps_29 ?_
      refine x_icmp_ne (tgt := 37) hC dX11_laySteps_30 (by decide) ?_ ?_
      · refine x_iconst (v := (0 : Int32)) hC dX11_laySteps_33 ki_0 ?_
        refine x_goto (tgt := 40) hC dX11_laySteps_34 (by decide) ?_
        exact j_X11_laySteps_40_2_11_ok hB hd M hR
      · exact j_X11_laySteps_37_2_11_ok hB hd M hR
    · exact j_X11_laySteps_37_2_11_ok hB hd M hR
noncomputable def j_X11_laySteps_139_2 (v1_2 : Int32) (v2_2 : Int32) (v3_139_2 : Int32) (M : zM) : Option ((Int32 × zM) ⊕ (zM)) :=
  (f_X11_straightOn v3_139_2 M).bind fun M141_2 =>
  some (.inl ((v3_139_2 + (1 : Int32)), M141_2))
set_option maxRecDepth 100000 in
theorem j_X11_laySteps_139_2_ok {C : zC} {d : Nat} {g : zG} {l : Launch} {w : zW} {r : zM} {v1_2 : Int32} {v2_2 : Int32} {v3_139_2 : Int32} (hB : bOK C cX11_laySteps 8 RX11 d g l w false) (hd : 5 ≤ d) (M : zM) (hR : RtV C cX11_laySteps w r) : Sg C w (0, 0) 139 [(0, zr w 257), (1, .int v1_2), (2, .int v2_2), (3, .int v3_139_2)] [] M (j_X11_laySteps_139_2 v1_2 v2_2 v3_139_2 M) (fun o => Sum.elim (fun (s : (Int32 × zM)) => Zs C w (0, 0) 2 [(0, zr w 257), (1, .int v1_2), (2, .int v2_2), (3, .int s.1)] [] s.2) (fun (s : (zM)) => Zs C w (0, 0) 150 [] [] s) o) := by
  have hC := hB.1.1
  have hq1 : 1 ≤ d := by omega
  unfold j_X11_laySteps_139_2
  refine x_aload_n hC dX11_laySteps_139 rfl 0 rfl ?_
  refine x_iload_n hC dX11_laySteps_140 rfl 3 rfl ?_
  refine r_cVv (as := [.int v3_139_2]) (rest := []) hB dX11_laySteps_141 kv_X11_337 th_257 hq1 rfl rfl (Nat.le_of_ble_eq_true rfl) (fun M' hv => f_X11_straightOn_met hB.2 (by omega) hv) (fun M141_2 => ?_)
  refine x_iinc hC dX11_laySteps_144 ki_1 [(3, .int (v3_139_2 + (1 : Int32))), (0, zr w 257), (1, .int v1_2), (2, .int v2_2)] 3 rfl (by decide) rfl ?_
  refine x_goto (tgt := 2) hC dX11_laySteps_147 (by decide) ?_
  refine x_sub [1, 2, 3, 0] rfl ?_
  exact x_done (fun h => h)
noncomputable def b_X11_laySteps_2 (v1_2 : Int32) (v2_2 : Int32) (v3_2 : Int32) (M : zM) : Option ((Int32 × zM) ⊕ (zM)) :=
  if (7 : Int32) ≤ v3_2 then (some (.inr M))
  else ((loopW (fun s => b_X11_laySteps_11_2 v1_2 v2_2 v3_2 s.1 s.2) ((0 : Int32), M)).bind (fun r => j_X11_laySteps_139_2 v1_2 v2_2 v3_2 r))
set_option maxRecDepth 100000 in
theorem b_X11_laySteps_2_ok {C : zC} {d : Nat} {g : zG} {l : Launch} {w : zW} {r : zM} {v1_2 : Int32} {v2_2 : Int32} {v3_2 : Int32} (hB : bOK C cX11_laySteps 8 RX11 d g l w false) (hd : 5 ≤ d) (M : zM) (hR : RtV C cX11_laySteps w r) : Sg C w (0, 0) 2 [(0, zr w 257), (1, .int v1_2), (2, .int v2_2), (3, .int v3_2)] [] M (b_X11_laySteps_2 v1_2 v2_2 v3_2 M) (fun o => Sum.elim (fun (s : (Int32 × zM)) => Zs C w (0, 0) 2 [(0, zr w 257), (1, .int v1_2), (2, .int v2_2), (3, .int s.1)] [] s.2) (fun (s : (zM)) => Zs C w (0, 0) 150 [] [] s) o) := by
  have hC := hB.1.1
  have hq1 : 1 ≤ d := by omega
  unfold b_X11_laySteps_2
  refine x_iload_n hC dX11_laySteps_2 rfl 3 rfl ?_
  refine x_bipush (v := (7 : Int32)) hC dX11_laySteps_3 kb_7 ?_
  refine x_icmp_ge (tgt := 150) hC dX11_laySteps_5 (by decide) ?_ ?_
  · refine x_sub [] rfl ?_
    exact x_done (fun h => h)
  · refine x_iconst (v := (0 : Int32)) hC dX11_laySteps_8 ki_0 ?_
    refine x_istore (f := 0) hC dX11_laySteps_9 [(4, .int (0 : Int32)), (0, zr w 257), (1, .int v1_2), (2, .int v2_2), (3, .int v3_2)] (by decide) rfl ?_
    refine x_sub [1, 2, 3, 4, 0] rfl ?_
    refine x_loopB (pc2 := 139) (fun (s : (Int32 × zM)) => [(0, zr w 257), (1, .int v1_2), (2, .int v2_2), (3, .int v3_2), (4, .int s.1)]) (fun (s : (Int32 × zM)) => s.2) (fun (s : (zM)) => [(0, zr w 257), (1, .int v1_2), (2, .int v2_2), (3, .int v3_2)]) (fun (s : (zM)) => s) ((0 : Int32), M) ?_ ?_
    · exact fun s => b_X11_laySteps_11_2_ok hB hd s.2 hR
    · intro r9
      exact j_X11_laySteps_139_2_ok hB hd r9 hR
noncomputable def j_X11_laySteps_150 (M : zM) : Option (zM) :=
  some M
set_option maxRecDepth 100000 in
theorem j_X11_laySteps_150_ok {C : zC} {d : Nat} {g : zG} {l : Launch} {w : zW} {r : zM} (hB : bOK C cX11_laySteps 8 RX11 d g l w false) (hd : 5 ≤ d) (M : zM) (hR : RtV C cX11_laySteps w r) : Sg C w (0, 0) 150 [] [] M (j_X11_laySteps_150 M) (fun q => q = r) := by
  have hC := hB.1.1
  have hq1 : 1 ≤ d := by omega
  unfold j_X11_laySteps_150
  exact r_retV hR dX11_laySteps_150 (fun h => h)
noncomputable def f_X11_laySteps (p1 : Int32) (p2 : Int32) (M : zM) : Option (zM) :=
  (loopW (fun s => b_X11_laySteps_2 p1 p2 s.1 s.2) ((0 : Int32), M)).bind (fun r => j_X11_laySteps_150 r)
set_option maxRecDepth 100000 in
theorem f_X11_laySteps_ok {C : zC} {d : Nat} {g : zG} {l : Launch} {w : zW} {r : zM} {p1 : Int32} {p2 : Int32} (hB : bOK C cX11_laySteps 8 RX11 d g l w false) (hd : 5 ≤ d) (M : zM) (hR : RtV C cX11_laySteps w r) : Sg C w (0, 0) 0 [(0, zr w 257), (1, .int p1), (2, .int p2)] [] M (f_X11_laySteps p1 p2 M) (fun q => q = r) := by
  have hC := hB.1.1
  have hq1 : 1 ≤ d := by omega
  unfold f_X11_laySteps
  refine x_iconst (v := (0 : Int32)) hC dX11_laySteps_0 ki_0 ?_
  refine x_istore_n hC dX11_laySteps_1 rfl [(3, .int (0 : Int32)), (0, zr w 257), (1, .int p1), (2, .int p2)] (by decide) rfl ?_
  refine x_sub [1, 2, 3, 0] rfl ?_
  refine x_loopB (pc2 := 150) (fun (s : (Int32 × zM)) => [(0, zr w 257), (1, .int p1), (2, .int p2), (3, .int s.1)]) (fun (s : (Int32 × zM)) => s.2) (fun (s : (zM)) => []) (fun (s : (zM)) => s) ((0 : Int32), M) ?_ ?_
  · exact fun s => b_X11_laySteps_2_ok hB hd s.2 hR
  · intro r9
    exact j_X11_laySteps_150_ok hB hd r9 hR
theorem f_X11_laySteps_met {l : Launch} {d : Nat} {g : zG} {w : zW} {M0 : zM} {p1 : Int32} {p2 : Int32} {M : zM} (hw : wS w) (hd : 5 ≤ d) {M' : zM} (h : f_X11_laySteps p1 p2 M = some M') : zMet l yX11_laySteps cX11_laySteps 8 none d g w (zin false) M0 [zr w 257, .int p1, .int p2] M none M' :=
  met_v (by decide +kernel) (Nat.le_of_ble_eq_true rfl) (fun C hB0 hR => f_X11_laySteps_ok ⟨hB0, hw⟩ hd M hR _ h rfl)
/-! WindingSquareModel.with(IIII)I -/
noncomputable def j_X11_with_90_59 (v1_59 : Int32) (v2_59 : Int32) (v3_59 : Int32) (v4_59 : Int32) (v5_59 : Int32) (v6_90_59 : Int32) (s1_90_59 : Int32) (s2_90_59 : Int32) (M : zM) : Option ((Int32 × zM) ⊕ (zM)) :=
  grd (inb s1_90_59 12096) (
  nm (mset M 269 (ix s1_90_59) s2_90_59) fun M90_59 =>
  some (.inl ((v6_90_59 + (1 : Int32)), M90_59)))
set_option maxRecDepth 100000 in
theorem j_X11_with_90_59_ok {C : zC} {d : Nat} {g : zG} {l : Launch} {w : zW} {r : Int32 × zM} {v1_59 : Int32} {v2_59 : Int32} {v3_59 : Int32} {v4_59 : Int32} {v5_59 : Int32} {v6_90_59 : Int32} {s1_90_59 : Int32} {s2_90_59 : Int32} (hB : bOK C cX11_with 8 RX11 d g l w false) (hd : 5 ≤ d) (M : zM) (hR : RtI C cX11_with w r.1 r.2) : Sg C w (0, 0) 90 [(0, zr w 257), (1, .int v1_59), (2, .int v2_59), (3, .int v3_59), (4, .int v4_59), (5, .int v5_59), (6, .int v6_90_59)] [.int s2_90_59, .int s1_90_59, zr w 269] M (j_X11_with_90_59 v1_59 v2_59 v3_59 v4_59 v5_59 v6_90_59 s1_90_59 s2_90_59 M) (fun o => Sum.elim (fun (s : (Int32 × zM)) => Zs C w (0, 0) 59 [(0, zr w 257), (1, .int v1_59), (2, .int v2_59), (3, .int v3_59), (4, .int v4_59), (5, .int v5_59), (6, .int s.1)] [] s.2) (fun (s : (zM)) => Zs C w (0, 0) 97 [(0, zr w 257), (3, .int v3_59), (4, .int v4_59), (5, .int v5_59)] [] s) o) := by
  have hC := hB.1.1
  have hq1 : 1 ≤ d := by omega
  unfold j_X11_with_90_59
  refine r_iast hB dX11_with_90 th_269 ?_
  refine x_mem (fun M90_59 => ?_)
  refine x_iinc hC dX11_with_91 ki_1 [(6, .int (v6_90_59 + (1 : Int32))), (0, zr w 257), (1, .int v1_59), (2, .int v2_59), (3, .int v3_59), (4, .int v4_59), (5, .int v5_59)] 6 rfl (by decide) rfl ?_
  refine x_goto (tgt := 59) hC dX11_with_94 (by decide) ?_
  refine x_sub [1, 2, 3, 4, 5, 6, 0] rfl ?_
  exact x_done (fun h => h)
noncomputable def b_X11_with_59 (v1_59 : Int32) (v2_59 : Int32) (v3_59 : Int32) (v4_59 : Int32) (v5_59 : Int32) (v6_59 : Int32) (M : zM) : Option ((Int32 × zM) ⊕ (zM)) :=
  if (12096 : Int32) ≤ v6_59 then (some (.inr M))
  else (if v6_59 = ((3 : Int32) * (((4 : Int32) * v1_59) + v2_59)) then (j_X11_with_90_59 v1_59 v2_59 v3_59 v4_59 v5_59 v6_59 v6_59 (1 : Int32) M)
  else (j_X11_with_90_59 v1_59 v2_59 v3_59 v4_59 v5_59 v6_59 v6_59 (0 : Int32) M))
set_option maxRecDepth 100000 in
theorem b_X11_with_59_ok {C : zC} {d : Nat} {g : zG} {l : Launch} {w : zW} {r : Int32 × zM} {v1_59 : Int32} {v2_59 : Int32} {v3_59 : Int32} {v4_59 : Int32} {v5_59 : Int32} {v6_59 : Int32} (hB : bOK C cX11_with 8 RX11 d g l w false) (hd : 5 ≤ d) (M : zM) (hR : RtI C cX11_with w r.1 r.2) : Sg C w (0, 0) 59 [(0, zr w 257), (1, .int v1_59), (2, .int v2_59), (3, .int v3_59), (4, .int v4_59), (5, .int v5_59), (6, .int v6_59)] [] M (b_X11_with_59 v1_59 v2_59 v3_59 v4_59 v5_59 v6_59 M) (fun o => Sum.elim (fun (s : (Int32 × zM)) => Zs C w (0, 0) 59 [(0, zr w 257), (1, .int v1_59), (2, .int v2_59), (3, .int v3_59), (4, .int v4_59), (5, .int v5_59), (6, .int s.1)] [] s.2) (fun (s : (zM)) => Zs C w (0, 0) 97 [(0, zr w 257), (3, .int v3_59), (4, .int v4_59), (5, .int v5_59)] [] s) o) := by
  have hC := hB.1.1
  have hq1 : 1 ≤ d := by omega
  unfold b_X11_with_59
  refine x_iload hC dX11_with_59 6 rfl ?_
  refine x_sipush (v := (12096 : Int32)) hC dX11_with_61 kh_12096 ?_
  refine x_icmp_ge (tgt := 97) hC dX11_with_64 (by decide) ?_ ?_
  · refine x_sub [0, 3, 4, 5] rfl ?_
    exact x_done (fun h => h)
  · refine x_aload_n hC dX11_with_67 rfl 0 rfl ?_
    refine r_getR hB dX11_with_68 kf_X11_47 rfl th_257 rf_257_24 ?_
    refine x_iload hC dX11_with_71 6 rfl ?_
    refine x_iload hC dX11_with_73 6 rfl ?_
    refine x_iconst (v := (3 : Int32)) hC dX11_with_75 ki_3 ?_
    refine x_iconst (v := (4 : Int32)) hC dX11_with_76 ki_4 ?_
    refine x_iload_n hC dX11_with_77 rfl 1 rfl ?_
    refine x_imul hC dX11_with_78 ?_
    refine x_iload_n hC dX11_with_79 rfl 2 rfl ?_
    refine x_iadd hC dX11_with_80 ?_
    refine x_imul hC dX11_with_81 ?_
    refine x_icmp_ne (tgt := 89) hC dX11_with_82 (by decide) ?_ ?_
    · refine x_iconst (v := (1 : Int32)) hC dX11_with_85 ki_1 ?_
      refine x_goto (tgt := 90) hC dX11_with_86 (by decide) ?_
      exact j_X11_with_90_59_ok hB hd M hR
    · refine x_iconst (v := (0 : Int32)) hC dX11_with_89 ki_0 ?_
      exact j_X11_with_90_59_ok hB hd M hR
noncomputable def b_X11_with_106 (v3_106 : Int32) (v4_106 : Int32) (v5_106 : Int32) (v6_106 : Int32) (M : zM) : Option ((Int32 × zM) ⊕ (zM)) :=
  if (v4_106 / (10 : Int32)) ≤ v6_106 then (some (.inr M))
  else ((f_X11_stepRows v5_106 M).bind fun M119_106 =>
  (f_X11_turnRows v5_106 M119_106).bind fun M125_106 =>
  some (.inl ((v6_106 + (1 : Int32)), M125_106)))
set_option maxRecDepth 100000 in
theorem b_X11_with_106_ok {C : zC} {d : Nat} {g : zG} {l : Launch} {w : zW} {r : Int32 × zM} {v3_106 : Int32} {v4_106 : Int32} {v5_106 : Int32} {v6_106 : Int32} (hB : bOK C cX11_with 8 RX11 d g l w false) (hd : 5 ≤ d) (M : zM) (hR : RtI C cX11_with w r.1 r.2) : Sg C w (0, 0) 106 [(0, zr w 257), (3, .int v3_106), (4, .int v4_106), (5, .int v5_106), (6, .int v6_106)] [] M (b_X11_with_106 v3_106 v4_106 v5_106 v6_106 M) (fun o => Sum.elim (fun (s : (Int32 × zM)) => Zs C w (0, 0) 106 [(0, zr w 257), (3, .int v3_106), (4, .int v4_106), (5, .int v5_106), (6, .int s.1)] [] s.2) (fun (s : (zM)) => Zs C w (0, 0) 134 [(0, zr w 257), (3, .int v3_106), (5, .int v5_106)] [] s) o) := by
  have hC := hB.1.1
  have hq1 : 1 ≤ d := by omega
  unfold b_X11_with_106
  refine x_iload hC dX11_with_106 4 rfl ?_
  refine x_iload hC dX11_with_108 2 rfl ?_
  refine x_bipush (v := (10 : Int32)) hC dX11_with_110 kb_10 ?_
  refine x_idiv0 hC dX11_with_112 nz_10 ?_
  refine x_icmp_ge (tgt := 134) hC dX11_with_113 (by decide) ?_ ?_
  · refine x_sub [0, 1, 3] rfl ?_
    exact x_done (fun h => h)
  · refine x_aload_n hC dX11_with_116 rfl 0 rfl ?_
    refine x_iload hC dX11_with_117 3 rfl ?_
    refine r_cVv (as := [.int v5_106]) (rest := []) hB dX11_with_119 kv_X11_356 th_257 hq1 rfl rfl (Nat.le_of_ble_eq_true rfl) (fun M' hv => f_X11_stepRows_met hB.2 (by omega) hv) (fun M119_106 => ?_)
    refine x_aload_n hC dX11_with_122 rfl 0 rfl ?_
    refine x_iload hC dX11_with_123 3 rfl ?_
    refine r_cVv (as := [.int v5_106]) (rest := []) hB dX11_with_125 kv_X11_353 th_257 hq1 rfl rfl (Nat.le_of_ble_eq_true rfl) (fun M' hv => f_X11_turnRows_met hB.2 (by omega) hv) (fun M125_106 => ?_)
    refine x_iinc hC dX11_with_128 ki_1 [(6, .int (v6_106 + (1 : Int32))), (0, zr w 257), (3, .int v3_106), (4, .int v4_106), (5, .int v5_106)] 4 rfl (by decide) rfl ?_
    refine x_goto (tgt := 106) hC dX11_with_131 (by decide) ?_
    refine x_sub [1, 2, 3, 4, 0] rfl ?_
    exact x_done (fun h => h)
noncomputable def b_X11_with_140 (v3_140 : Int32) (v5_140 : Int32) (v6_140 : Int32) (v7_140 : Int32) (M : zM) : Option ((Int32 × Int32) ⊕ (Int32)) :=
  if (12 : Int32) ≤ v7_140 then (some (.inr v6_140))
  else (grd (inb (((v5_140 * (1728 : Int32)) + ((12 : Int32) * v3_140)) + v7_140) 12096) (
  nm (f_X11_plus v6_140 (M 269 (ix (((v5_140 * (1728 : Int32)) + ((12 : Int32) * v3_140)) + v7_140)))) fun v6_171_140 =>
  some (.inl (v6_171_140, (v7_140 + (1 : Int32))))))
set_option maxRecDepth 100000 in
theorem b_X11_with_140_ok {C : zC} {d : Nat} {g : zG} {l : Launch} {w : zW} {r : Int32 × zM} {v3_140 : Int32} {v5_140 : Int32} {v6_140 : Int32} {v7_140 : Int32} (hB : bOK C cX11_with 8 RX11 d g l w false) (hd : 5 ≤ d) (M : zM) (hR : RtI C cX11_with w r.1 r.2) : Sg C w (0, 0) 140 [(0, zr w 257), (3, .int v3_140), (5, .int v5_140), (6, .int v6_140), (7, .int v7_140)] [] M (b_X11_with_140 v3_140 v5_140 v6_140 v7_140 M) (fun o => Sum.elim (fun (s : (Int32 × Int32)) => Zs C w (0, 0) 140 [(0, zr w 257), (3, .int v3_140), (5, .int v5_140), (6, .int s.1), (7, .int s.2)] [] M) (fun (s : (Int32)) => Zs C w (0, 0) 179 [(6, .int s)] [] M) o) := by
  have hC := hB.1.1
  have hq1 : 1 ≤ d := by omega
  unfold b_X11_with_140
  refine x_iload hC dX11_with_140 4 rfl ?_
  refine x_bipush (v := (12 : Int32)) hC dX11_with_142 kb_12 ?_
  refine x_icmp_ge (tgt := 179) hC dX11_with_144 (by decide) ?_ ?_
  · refine x_sub [3] rfl ?_
    exact x_done (fun h => h)
  · refine x_iload hC dX11_with_147 3 rfl ?_
    refine x_aload_n hC dX11_with_149 rfl 0 rfl ?_
    refine r_getR hB dX11_with_150 kf_X11_47 rfl th_257 rf_257_24 ?_
    refine x_iload hC dX11_with_153 2 rfl ?_
    refine x_sipush (v := (1728 : Int32)) hC dX11_with_155 kh_1728 ?_
    refine x_imul hC dX11_with_158 ?_
    refine x_bipush (v := (12 : Int32)) hC dX11_with_159 kb_12 ?_
    refine x_iload_n hC dX11_with_161 rfl 1 rfl ?_
    refine x_imul hC dX11_with_162 ?_
    refine x_iadd hC dX11_with_163 ?_
    refine x_iload hC dX11_with_164 4 rfl ?_
    refine x_iadd hC dX11_with_166 ?_
    refine r_iald hB dX11_with_167 th_269 ?_
    refine r_cS0 (as := [.int v6_140, .int (M 269 (ix (((v5_140 * (1728 : Int32)) + ((12 : Int32) * v3_140)) + v7_140)))]) (rest := []) hB dX11_with_168 ks_X11_350 hq1 rfl rfl (Nat.le_of_ble_eq_true rfl) (f_X11_plus_met hB.2 (by omega)) ?_
    refine x_top (fun v6_171_140 => ?_)
    refine x_istore (f := 0) hC dX11_with_171 [(6, .int v6_171_140), (0, zr w 257), (3, .int v3_140), (5, .int v5_140), (7, .int v7_140)] (by decide) rfl ?_
    refine x_iinc hC dX11_with_173 ki_1 [(7, .int (v7_140 + (1 : Int32))), (6, .int v6_171_140), (0, zr w 257), (3, .int v3_140), (5, .int v5_140)] 4 rfl (by decide) rfl ?_
    refine x_goto (tgt := 140) hC dX11_with_176 (by decide) ?_
    refine x_sub [2, 3, 4, 1, 0] rfl ?_
    exact x_done (fun h => h)
noncomputable def j_X11_with_179 (v6_179 : Int32) (M : zM) : Option (Int32 × zM) :=
  some (v6_179, M)
set_option maxRecDepth 100000 in
theorem j_X11_with_179_ok {C : zC} {d : Nat} {g : zG} {l : Launch} {w : zW} {r : Int32 × zM} {v6_179 : Int32} (hB : bOK C cX11_with 8 RX11 d g l w false) (hd : 5 ≤ d) (M : zM) (hR : RtI C cX11_with w r.1 r.2) : Sg C w (0, 0) 179 [(6, .int v6_179)] [] M (j_X11_with_179 v6_179 M) (fun q => q = r) := by
  have hC := hB.1.1
  have hq1 : 1 ≤ d := by omega
  unfold j_X11_with_179
  refine x_iload hC dX11_with_179 0 rfl ?_
  exact r_retI hR dX11_with_181 (fun h => h)
noncomputable def j_X11_with_134 (v3_134 : Int32) (v5_134 : Int32) (M : zM) : Option (Int32 × zM) :=
  (loopW (fun s => b_X11_with_140 v3_134 v5_134 s.1 s.2 M) ((0 : Int32), (0 : Int32))).bind (fun r => j_X11_with_179 r M)
set_option maxRecDepth 100000 in
theorem j_X11_with_134_ok {C : zC} {d : Nat} {g : zG} {l : Launch} {w : zW} {r : Int32 × zM} {v3_134 : Int32} {v5_134 : Int32} (hB : bOK C cX11_with 8 RX11 d g l w false) (hd : 5 ≤ d) (M : zM) (hR : RtI C cX11_with w r.1 r.2) : Sg C w (0, 0) 134 [(0, zr w 257), (3, .int v3_134), (5, .int v5_134)] [] M (j_X11_with_134 v3_134 v5_134 M) (fun q => q = r) := by
  have hC := hB.1.1
  have hq1 : 1 ≤ d := by omega
  unfold j_X11_with_134
  refine x_iconst (v := (0 : Int32)) hC dX11_with_134 ki_0 ?_
  refine x_istore (f := 0) hC dX11_with_135 [(6, .int (0 : Int32)), (0, zr w 257), (3, .int v3_134), (5, .int v5_134)] (by decide) rfl ?_
  refine x_iconst (v := (0 : Int32)) hC dX11_with_137 ki_0 ?_
  refine x_istore (f := 0) hC dX11_with_138 [(7, .int (0 : Int32)), (6, .int (0 : Int32)), (0, zr w 257), (3, .int v3_134), (5, .int v5_134)] (by decide) rfl ?_
  refine x_sub [2, 3, 4, 1, 0] rfl ?_
  refine x_loopB (pc2 := 179) (fun (s : (Int32 × Int32)) => [(0, zr w 257), (3, .int v3_134), (5, .int v5_134), (6, .int s.1), (7, .int s.2)]) (fun (s : (Int32 × Int32)) => M) (fun (s : (Int32)) => [(6, .int s)]) (fun (s : (Int32)) => M) ((0 : Int32), (0 : Int32)) ?_ ?_
  · exact fun s => b_X11_with_140_ok hB hd M hR
  · intro r9
    exact j_X11_with_179_ok hB hd M hR
noncomputable def j_X11_with_97 (v3_97 : Int32) (v4_97 : Int32) (v5_97 : Int32) (M : zM) : Option (Int32 × zM) :=
  (f_X11_turnRows v5_97 M).bind fun M100 =>
  (loopW (fun s => b_X11_with_106 v3_97 v4_97 v5_97 s.1 s.2) ((0 : Int32), M100)).bind (fun r => j_X11_with_134 v3_97 v5_97 r)
set_option maxRecDepth 100000 in
theorem j_X11_with_97_ok {C : zC} {d : Nat} {g : zG} {l : Launch} {w : zW} {r : Int32 × zM} {v3_97 : Int32} {v4_97 : Int32} {v5_97 : Int32} (hB : bOK C cX11_with 8 RX11 d g l w false) (hd : 5 ≤ d) (M : zM) (hR : RtI C cX11_with w r.1 r.2) : Sg C w (0, 0) 97 [(0, zr w 257), (3, .int v3_97), (4, .int v4_97), (5, .int v5_97)] [] M (j_X11_with_97 v3_97 v4_97 v5_97 M) (fun q => q = r) := by
  have hC := hB.1.1
  have hq1 : 1 ≤ d := by omega
  unfold j_X11_with_97
  refine x_aload_n hC dX11_with_97 rfl 0 rfl ?_
  refine x_iload hC dX11_with_98 3 rfl ?_
  refine r_cVv (as := [.int v5_97]) (rest := []) hB dX11_with_100 kv_X11_353 th_257 hq1 rfl rfl (Nat.le_of_ble_eq_true rfl) (fun M' hv => f_X11_turnRows_met hB.2 (by omega) hv) (fun M100 => ?_)
  refine x_iconst (v := (0 : Int32)) hC dX11_with_103 ki_0 ?_
  refine x_istore (f := 0) hC dX11_with_104 [(6, .int (0 : Int32)), (0, zr w 257), (3, .int v3_97), (4, .int v4_97), (5, .int v5_97)] (by decide) rfl ?_
  refine x_sub [1, 2, 3, 4, 0] rfl ?_
  refine x_loopB (pc2 := 134) (fun (s : (Int32 × zM)) => [(0, zr w 257), (3, .int v3_97), (4, .int v4_97), (5, .int v5_97), (6, .int s.1)]) (fun (s : (Int32 × zM)) => s.2) (fun (s : (zM)) => [(0, zr w 257), (3, .int v3_97), (5, .int v5_97)]) (fun (s : (zM)) => s) ((0 : Int32), M100) ?_ ?_
  · exact fun s => b_X11_with_106_ok hB hd s.2 hR
  · intro r9
    exact j_X11_with_134_ok hB hd r9 hR
noncomputable def f_X11_with (p1 : Int32) (p2 : Int32) (p3 : Int32) (p4 : Int32) (M : zM) : Option (Int32 × zM) :=
  (f_X11_isGround p1 M).bind fun u2 =>
  if u2 = 0 then (some ((-1 : Int32), M))
  else ((f_X11_isGround p3 M).bind fun u10 =>
  if u10 = 0 then (some ((-1 : Int32), M))
  else (if (f_X11_within p2 (0 : Int32) (3 : Int32)) = 0 then (some ((-1 : Int32), M))
  else (if (f_X11_within p4 (0 : Int32) (209 : Int32)) = 0 then (some ((-1 : Int32), M))
  else (if (irem p4 (10 : Int32)) ≤ (6 : Int32) then (nm (irem p4 (10 : Int32)) fun v5_54 =>
  (loopW (fun s => b_X11_with_59 p1 p2 p3 p4 v5_54 s.1 s.2) ((0 : Int32), M)).bind (fun r => j_X11_with_97 p3 p4 v5_54 r))
  else (some ((-1 : Int32), M))))))
set_option maxRecDepth 100000 in
theorem f_X11_with_ok {C : zC} {d : Nat} {g : zG} {l : Launch} {w : zW} {r : Int32 × zM} {p1 : Int32} {p2 : Int32} {p3 : Int32} {p4 : Int32} (hB : bOK C cX11_with 8 RX11 d g l w false) (hd : 5 ≤ d) (M : zM) (hR : RtI C cX11_with w r.1 r.2) : Sg C w (0, 0) 0 [(0, zr w 257), (1, .int p1), (2, .int p2), (3, .int p3), (4, .int p4)] [] M (f_X11_with p1 p2 p3 p4 M) (fun q => q = r) := by
  have hC := hB.1.1
  have hq1 : 1 ≤ d := by omega
  unfold f_X11_with
  refine x_aload_n hC dX11_with_0 rfl 0 rfl ?_
  refine x_iload_n hC dX11_with_1 rfl 1 rfl ?_
  refine r_cV1 (as := [.int p1]) (rest := []) hB dX11_with_2 kv_X11_340 th_257 hq1 rfl rfl (Nat.le_of_ble_eq_true rfl) (fun v hv => f_X11_isGround_met hB.2 (by omega) hv) (fun u2 => ?_)
  refine x_if_eq (tgt := 47) hC dX11_with_5 (by decide) ?_ ?_
  · refine x_iconst (v := (-1 : Int32)) hC dX11_with_47 ki_m1 ?_
    exact r_retI hR dX11_with_48 (fun h => h)
  · refine x_aload_n hC dX11_with_8 rfl 0 rfl ?_
    refine x_iload_n hC dX11_with_9 rfl 3 rfl ?_
    refine r_cV1 (as := [.int p3]) (rest := []) hB dX11_with_10 kv_X11_340 th_257 hq1 rfl rfl (Nat.le_of_ble_eq_true rfl) (fun v hv => f_X11_isGround_met hB.2 (by omega) hv) (fun u10 => ?_)
    refine x_if_eq (tgt := 47) hC dX11_with_13 (by decide) ?_ ?_
    · refine x_iconst (v := (-1 : Int32)) hC dX11_with_47 ki_m1 ?_
      exact r_retI hR dX11_with_48 (fun h => h)
    · refine x_iload_n hC dX11_with_16 rfl 2 rfl ?_
      refine x_iconst (v := (0 : Int32)) hC dX11_with_17 ki_0 ?_
      refine x_iconst (v := (3 : Int32)) hC dX11_with_18 ki_3 ?_
      refine r_cS0 (as := [.int p2, .int (0 : Int32), .int (3 : Int32)]) (rest := []) hB dX11_with_19 ks_X11_100 hq1 rfl rfl (Nat.le_of_ble_eq_true rfl) (f_X11_within_met hB.2 (by omega)) ?_
      refine x_if_eq (tgt := 47) hC dX11_with_22 (by decide) ?_ ?_
      · refine x_iconst (v := (-1 : Int32)) hC dX11_with_47 ki_m1 ?_
        exact r_retI hR dX11_with_48 (fun h => h)
      · refine x_iload hC dX11_with_25 4 rfl ?_
        refine x_iconst (v := (0 : Int32)) hC dX11_with_27 ki_0 ?_
        refine x_sipush (v := (209 : Int32)) hC dX11_with_28 kh_209 ?_
        refine r_cS0 (as := [.int p4, .int (0 : Int32), .int (209 : Int32)]) (rest := []) hB dX11_with_31 ks_X11_100 hq1 rfl rfl (Nat.le_of_ble_eq_true rfl) (f_X11_within_met hB.2 (by omega)) ?_
        refine x_if_eq (tgt := 47) hC dX11_with_34 (by decide) ?_ ?_
        · refine x_iconst (v := (-1 : Int32)) hC dX11_with_47 ki_m1 ?_
          exact r_retI hR dX11_with_48 (fun h => h)
        · refine x_iload hC dX11_with_37 4 rfl ?_
          refine x_bipush (v := (10 : Int32)) hC dX11_with_39 kb_10 ?_
          refine x_irem0 hC dX11_with_41 nz_10 ?_
          refine x_bipush (v := (6 : Int32)) hC dX11_with_42 kb_6 ?_
          refine x_icmp_le (tgt := 49) hC dX11_with_44 (by decide) ?_ ?_
          · refine x_iload hC dX11_with_49 4 rfl ?_
            refine x_bipush (v := (10 : Int32)) hC dX11_with_51 kb_10 ?_
            refine x_irem0 hC dX11_with_53 nz_10 ?_
            refine x_top (fun v5_54 => ?_)
            refine x_istore (f := 0) hC dX11_with_54 [(5, .int v5_54), (0, zr w 257), (1, .int p1), (2, .int p2), (3, .int p3), (4, .int p4)] (by decide) rfl ?_
            refine x_iconst (v := (0 : Int32)) hC dX11_with_56 ki_0 ?_
            refine x_istore (f := 0) hC dX11_with_57 [(6, .int (0 : Int32)), (5, .int v5_54), (0, zr w 257), (1, .int p1), (2, .int p2), (3, .int p3), (4, .int p4)] (by decide) rfl ?_
            refine x_sub [2, 3, 4, 5, 6, 1, 0] rfl ?_
            refine x_loopB (pc2 := 97) (fun (s : (Int32 × zM)) => [(0, zr w 257), (1, .int p1), (2, .int p2), (3, .int p3), (4, .int p4), (5, .int v5_54), (6, .int s.1)]) (fun (s : (Int32 × zM)) => s.2) (fun (s : (zM)) => [(0, zr w 257), (3, .int p3), (4, .int p4), (5, .int v5_54)]) (fun (s : (zM)) => s) ((0 : Int32), M) ?_ ?_
            · exact fun s => b_X11_with_59_ok hB hd s.2 hR
            · intro r9
              exact j_X11_with_97_ok hB hd r9 hR
          · refine x_iconst (v := (-1 : Int32)) hC dX11_with_47 ki_m1 ?_
            exact r_retI hR dX11_with_48 (fun h => h)
theorem f_X11_with_met {l : Launch} {d : Nat} {g : zG} {w : zW} {M0 : zM} {p1 : Int32} {p2 : Int32} {p3 : Int32} {p4 : Int32} {M : zM} (hw : wS w) (hd : 5 ≤ d) {v : Int32} {M' : zM} (h : f_X11_with p1 p2 p3 p4 M = some (v, M')) : zMet l yX11_with cX11_with 8 (some .int) d g w (zin false) M0 [zr w 257, .int p1, .int p2, .int p3, .int p4] M (some (.int v)) M' :=
  met_i (by decide +kernel) (Nat.le_of_ble_eq_true rfl) rfl (fun C hB0 hR => f_X11_with_ok (r := (v, M')) ⟨hB0, hw⟩ hd M hR _ h rfl)
/-! WindingSquareModel.pigeons(I)I -/
noncomputable def j_X11_pigeons_135_25 (v1_25 : Int32) (v2_135_25 : Int32) (v3_135_25 : Int32) (v4_135_25 : Int32) (v5_135_25 : Int32) (M : zM) : Option ((Int32 × Int32 × Int32 × Int32) ⊕ (Int32 × Int32 × Int32)) :=
  some (.inl (v2_135_25, v3_135_25, v4_135_25, (v5_135_25 + (1 : Int32))))
set_option maxRecDepth 100000 in
theorem j_X11_pigeons_135_25_ok {C : zC} {d : Nat} {g : zG} {l : Launch} {w : zW} {r : Int32 × zM} {v1_25 : Int32} {v2_135_25 : Int32} {v3_135_25 : Int32} {v4_135_25 : Int32} {v5_135_25 : Int32} (hB : bOK C cX11_pigeons 8 RX11 d g l w false) (hd : 5 ≤ d) (M : zM) (hR : RtI C cX11_pigeons w r.1 r.2) : Sg C w (0, 0) 135 [(0, zr w 257), (1, .int v1_25), (2, .int v2_135_25), (3, .int v3_135_25), (4, .int v4_135_25), (5, .int v5_135_25)] [] M (j_X11_pigeons_135_25 v1_25 v2_135_25 v3_135_25 v4_135_25 v5_135_25 M) (fun o => Sum.elim (fun (s : (Int32 × Int32 × Int32 × Int32)) => Zs C w (0, 0) 25 [(0, zr w 257), (1, .int v1_25), (2, .int s.1), (3, .int s.2.1), (4, .int s.2.2.1), (5, .int s.2.2.2)] [] M) (fun (s : (Int32 × Int32 × Int32)) => Zs C w (0, 0) 141 [(1, .int v1_25), (2, .int s.1), (3, .int s.2.1), (4, .int s.2.2)] [] M) o) := by
  have hC := hB.1.1
  have hq1 : 1 ≤ d := by omega
  unfold j_X11_pigeons_135_25
  refine x_iinc hC dX11_pigeons_135 ki_1 [(5, .int (v5_135_25 + (1 : Int32))), (0, zr w 257), (1, .int v1_25), (2, .int v2_135_25), (3, .int v3_135_25), (4, .int v4_135_25)] 5 rfl (by decide) rfl ?_
  refine x_goto (tgt := 25) hC dX11_pigeons_138 (by decide) ?_
  refine x_sub [1, 2, 3, 4, 5, 0] rfl ?_
  exact x_done (fun h => h)
noncomputable def j_X11_pigeons_80_25_53 (v1_25 : Int32) (v2_53_25 : Int32) (v3_53_25 : Int32) (v4_53_25 : Int32) (v5_53_25 : Int32) (v7_80_25_53 : Int32) (s0_80_25_53 : Int32) (s1_80_25_53 : Int32) (M : zM) : Option ((Int32 × Int32) ⊕ (Int32)) :=
  nm (s0_80_25_53 + s1_80_25_53) fun v6_81_25_53 =>
  some (.inl (v6_81_25_53, (v7_80_25_53 + (1 : Int32))))
set_option maxRecDepth 100000 in
theorem j_X11_pigeons_80_25_53_ok {C : zC} {d : Nat} {g : zG} {l : Launch} {w : zW} {r : Int32 × zM} {v1_25 : Int32} {v2_53_25 : Int32} {v3_53_25 : Int32} {v4_53_25 : Int32} {v5_53_25 : Int32} {v7_80_25_53 : Int32} {s0_80_25_53 : Int32} {s1_80_25_53 : Int32} (hB : bOK C cX11_pigeons 8 RX11 d g l w false) (hd : 5 ≤ d) (M : zM) (hR : RtI C cX11_pigeons w r.1 r.2) : Sg C w (0, 0) 80 [(0, zr w 257), (1, .int v1_25), (2, .int v2_53_25), (3, .int v3_53_25), (4, .int v4_53_25), (5, .int v5_53_25), (7, .int v7_80_25_53)] [.int s1_80_25_53, .int s0_80_25_53] M (j_X11_pigeons_80_25_53 v1_25 v2_53_25 v3_53_25 v4_53_25 v5_53_25 v7_80_25_53 s0_80_25_53 s1_80_25_53 M) (fun o => Sum.elim (fun (s : (Int32 × Int32)) => Zs C w (0, 0) 53 [(0, zr w 257), (1, .int v1_25), (2, .int v2_53_25), (3, .int v3_53_25), (4, .int v4_53_25), (5, .int v5_53_25), (6, .int s.1), (7, .int s.2)] [] M) (fun (s : (Int32)) => Zs C w (0, 0) 89 [(0, zr w 257), (1, .int v1_25), (2, .int v2_53_25), (3, .int v3_53_25), (4, .int v4_53_25), (5, .int v5_53_25), (6, .int s)] [] M) o) := by
  have hC := hB.1.1
  have hq1 : 1 ≤ d := by omega
  unfold j_X11_pigeons_80_25_53
  refine x_iadd hC dX11_pigeons_80 ?_
  refine x_top (fun v6_81_25_53 => ?_)
  refine x_istore (f := 0) hC dX11_pigeons_81 [(6, .int v6_81_25_53), (0, zr w 257), (1, .int v1_25), (2, .int v2_53_25), (3, .int v3_53_25), (4, .int v4_53_25), (5, .int v5_53_25), (7, .int v7_80_25_53)] (by decide) rfl ?_
  refine x_iinc hC dX11_pigeons_83 ki_1 [(7, .int (v7_80_25_53 + (1 : Int32))), (6, .int v6_81_25_53), (0, zr w 257), (1, .int v1_25), (2, .int v2_53_25), (3, .int v3_53_25), (4, .int v4_53_25), (5, .int v5_53_25)] 7 rfl (by decide) rfl ?_
  refine x_goto (tgt := 53) hC dX11_pigeons_86 (by decide) ?_
  refine x_sub [2, 3, 4, 5, 6, 7, 1, 0] rfl ?_
  exact x_done (fun h => h)
noncomputable def b_X11_pigeons_53_25 (v1_25 : Int32) (v2_53_25 : Int32) (v3_53_25 : Int32) (v4_53_25 : Int32) (v5_53_25 : Int32) (v6_53_25 : Int32) (v7_53_25 : Int32) (M : zM) : Option ((Int32 × Int32) ⊕ (Int32)) :=
  if (144 : Int32) ≤ v7_53_25 then (some (.inr v6_53_25))
  else (grd (inb v7_53_25 144) (
  if (M 280 (ix v7_53_25)) = v5_53_25 then (j_X11_pigeons_80_25_53 v1_25 v2_53_25 v3_53_25 v4_53_25 v5_53_25 v7_53_25 v6_53_25 (1 : Int32) M)
  else (j_X11_pigeons_80_25_53 v1_25 v2_53_25 v3_53_25 v4_53_25 v5_53_25 v7_53_25 v6_53_25 (0 : Int32) M)))
set_option maxRecDepth 100000 in
theorem b_X11_pigeons_53_25_ok {C : zC} {d : Nat} {g : zG} {l : Launch} {w : zW} {r : Int32 × zM} {v1_25 : Int32} {v2_53_25 : Int32} {v3_53_25 : Int32} {v4_53_25 : Int32} {v5_53_25 : Int32} {v6_53_25 : Int32} {v7_53_25 : Int32} (hB : bOK C cX11_pigeons 8 RX11 d g l w false) (hd : 5 ≤ d) (M : zM) (hR : RtI C cX11_pigeons w r.1 r.2) : Sg C w (0, 0) 53 [(0, zr w 257), (1, .int v1_25), (2, .int v2_53_25), (3, .int v3_53_25), (4, .int v4_53_25), (5, .int v5_53_25), (6, .int v6_53_25), (7, .int v7_53_25)] [] M (b_X11_pigeons_53_25 v1_25 v2_53_25 v3_53_25 v4_53_25 v5_53_25 v6_53_25 v7_53_25 M) (fun o => Sum.elim (fun (s : (Int32 × Int32)) => Zs C w (0, 0) 53 [(0, zr w 257), (1, .int v1_25), (2, .int v2_53_25), (3, .int v3_53_25), (4, .int v4_53_25), (5, .int v5_53_25), (6, .int s.1), (7, .int s.2)] [] M) (fun (s : (Int32)) => Zs C w (0, 0) 89 [(0, zr w 257), (1, .int v1_25), (2, .int v2_53_25), (3, .int v3_53_25), (4, .int v4_53_25), (5, .int v5_53_25), (6, .int s)] [] M) o) := by
  have hC := hB.1.1
  have hq1 : 1 ≤ d := by omega
  unfold b_X11_pigeons_53_25
  refine x_iload hC dX11_pigeons_53 7 rfl ?_
  refine x_sipush (v := (144 : Int32)) hC dX11_pigeons_55 kh_144 ?_
  refine x_icmp_ge (tgt := 89) hC dX11_pigeons_58 (by decide) ?_ ?_
  · refine x_sub [0, 1, 2, 3, 4, 5, 6] rfl ?_
    exact x_done (fun h => h)
  · refine x_iload hC dX11_pigeons_61 6 rfl ?_
    refine x_aload_n hC dX11_pigeons_63 rfl 0 rfl ?_
    refine r_getR hB dX11_pigeons_64 kf_X11_80 rfl th_257 rf_257_38 ?_
    refine x_iload hC dX11_pigeons_67 7 rfl ?_
    refine r_iald hB dX11_pigeons_69 th_280 ?_
    refine x_iload hC dX11_pigeons_70 5 rfl ?_
    refine x_icmp_ne (tgt := 79) hC dX11_pigeons_72 (by decide) ?_ ?_
    · refine x_iconst (v := (1 : Int32)) hC dX11_pigeons_75 ki_1 ?_
      refine x_goto (tgt := 80) hC dX11_pigeons_76 (by decide) ?_
      refine x_sub [0, 1, 2, 3, 4, 5, 7] rfl ?_
      exact j_X11_pigeons_80_25_53_ok hB hd M hR
    · refine x_iconst (v := (0 : Int32)) hC dX11_pigeons_79 ki_0 ?_
      refine x_sub [0, 1, 2, 3, 4, 5, 7] rfl ?_
      exact j_X11_pigeons_80_25_53_ok hB hd M hR
noncomputable def j_X11_pigeons_132_25 (v1_25 : Int32) (v2_132_25 : Int32) (v3_132_25 : Int32) (v5_132_25 : Int32) (s0_132_25 : Int32) (s1_132_25 : Int32) (M : zM) : Option ((Int32 × Int32 × Int32 × Int32) ⊕ (Int32 × Int32 × Int32)) :=
  nm (s0_132_25 + s1_132_25) fun v4_133_25 =>
  j_X11_pigeons_135_25 v1_25 v2_132_25 v3_132_25 v4_133_25 v5_132_25 M
set_option maxRecDepth 100000 in
theorem j_X11_pigeons_132_25_ok {C : zC} {d : Nat} {g : zG} {l : Launch} {w : zW} {r : Int32 × zM} {v1_25 : Int32} {v2_132_25 : Int32} {v3_132_25 : Int32} {v5_132_25 : Int32} {s0_132_25 : Int32} {s1_132_25 : Int32} (hB : bOK C cX11_pigeons 8 RX11 d g l w false) (hd : 5 ≤ d) (M : zM) (hR : RtI C cX11_pigeons w r.1 r.2) : Sg C w (0, 0) 132 [(0, zr w 257), (1, .int v1_25), (2, .int v2_132_25), (3, .int v3_132_25), (5, .int v5_132_25)] [.int s1_132_25, .int s0_132_25] M (j_X11_pigeons_132_25 v1_25 v2_132_25 v3_132_25 v5_132_25 s0_132_25 s1_132_25 M) (fun o => Sum.elim (fun (s : (Int32 × Int32 × Int32 × Int32)) => Zs C w (0, 0) 25 [(0, zr w 257), (1, .int v1_25), (2, .int s.1), (3, .int s.2.1), (4, .int s.2.2.1), (5, .int s.2.2.2)] [] M) (fun (s : (Int32 × Int32 × Int32)) => Zs C w (0, 0) 141 [(1, .int v1_25), (2, .int s.1), (3, .int s.2.1), (4, .int s.2.2)] [] M) o) := by
  have hC := hB.1.1
  have hq1 : 1 ≤ d := by omega
  unfold j_X11_pigeons_132_25
  refine x_iadd hC dX11_pigeons_132 ?_
  refine x_top (fun v4_133_25 => ?_)
  refine x_istore (f := 0) hC dX11_pigeons_133 [(4, .int v4_133_25), (0, zr w 257), (1, .int v1_25), (2, .int v2_132_25), (3, .int v3_132_25), (5, .int v5_132_25)] (by decide) rfl ?_
  refine x_sub [1, 2, 3, 4, 0, 5] rfl ?_
  exact j_X11_pigeons_135_25_ok hB hd M hR
noncomputable def j_X11_pigeons_114_25 (v1_25 : Int32) (v2_114_25 : Int32) (v4_114_25 : Int32) (v5_114_25 : Int32) (s0_114_25 : Int32) (M : zM) : Option ((Int32 × Int32 × Int32 × Int32) ⊕ (Int32 × Int32 × Int32)) :=
  (f_X11_besideOne v5_114_25 M).bind fun u120_25 =>
  if u120_25 = (1 : Int32) then (j_X11_pigeons_132_25 v1_25 v2_114_25 s0_114_25 v5_114_25 v4_114_25 (1 : Int32) M)
  else (j_X11_pigeons_132_25 v1_25 v2_114_25 s0_114_25 v5_114_25 v4_114_25 (0 : Int32) M)
set_option maxRecDepth 100000 in
theorem j_X11_pigeons_114_25_ok {C : zC} {d : Nat} {g : zG} {l : Launch} {w : zW} {r : Int32 × zM} {v1_25 : Int32} {v2_114_25 : Int32} {v4_114_25 : Int32} {v5_114_25 : Int32} {s0_114_25 : Int32} (hB : bOK C cX11_pigeons 8 RX11 d g l w false) (hd : 5 ≤ d) (M : zM) (hR : RtI C cX11_pigeons w r.1 r.2) : Sg C w (0, 0) 114 [(0, zr w 257), (1, .int v1_25), (2, .int v2_114_25), (4, .int v4_114_25), (5, .int v5_114_25)] [.int s0_114_25] M (j_X11_pigeons_114_25 v1_25 v2_114_25 v4_114_25 v5_114_25 s0_114_25 M) (fun o => Sum.elim (fun (s : (Int32 × Int32 × Int32 × Int32)) => Zs C w (0, 0) 25 [(0, zr w 257), (1, .int v1_25), (2, .int s.1), (3, .int s.2.1), (4, .int s.2.2.1), (5, .int s.2.2.2)] [] M) (fun (s : (Int32 × Int32 × Int32)) => Zs C w (0, 0) 141 [(1, .int v1_25), (2, .int s.1), (3, .int s.2.1), (4, .int s.2.2)] [] M) o) := by
  have hC := hB.1.1
  have hq1 : 1 ≤ d := by omega
  unfold j_X11_pigeons_114_25
  refine x_istore_n hC dX11_pigeons_114 rfl [(3, .int s0_114_25), (0, zr w 257), (1, .int v1_25), (2, .int v2_114_25), (4, .int v4_114_25), (5, .int v5_114_25)] (by decide) rfl ?_
  refine x_iload hC dX11_pigeons_115 4 rfl ?_
  refine x_aload_n hC dX11_pigeons_117 rfl 1 rfl ?_
  refine x_iload hC dX11_pigeons_118 5 rfl ?_
  refine r_cV1 (as := [.int v5_114_25]) (rest := [.int v4_114_25]) hB dX11_pigeons_120 kv_X11_402 th_257 hq1 rfl rfl (Nat.le_of_ble_eq_true rfl) (fun v hv => f_X11_besideOne_met hB.2 (by omega) hv) (fun u120_25 => ?_)
  refine x_iconst (v := (1 : Int32)) hC dX11_pigeons_123 ki_1 ?_
  refine x_icmp_ne (tgt := 131) hC dX11_pigeons_124 (by decide) ?_ ?_
  · refine x_iconst (v := (1 : Int32)) hC dX11_pigeons_127 ki_1 ?_
    refine x_goto (tgt := 132) hC dX11_pigeons_128 (by decide) ?_
    refine x_sub [1, 2, 3, 0, 5] rfl ?_
    exact j_X11_pigeons_132_25_ok hB hd M hR
  · refine x_iconst (v := (0 : Int32)) hC dX11_pigeons_131 ki_0 ?_
    refine x_sub [1, 2, 3, 0, 5] rfl ?_
    exact j_X11_pigeons_132_25_ok hB hd M hR
noncomputable def j_X11_pigeons_100_25 (v1_25 : Int32) (v3_100_25 : Int32) (v4_100_25 : Int32) (v5_100_25 : Int32) (v6_100_25 : Int32) (s0_100_25 : Int32) (s1_100_25 : Int32) (M : zM) : Option ((Int32 × Int32 × Int32 × Int32) ⊕ (Int32 × Int32 × Int32)) :=
  nm (s0_100_25 + s1_100_25) fun v2_101_25 =>
  if v6_100_25 ≤ v3_100_25 then (j_X11_pigeons_114_25 v1_25 v2_101_25 v4_100_25 v5_100_25 v3_100_25 M)
  else (j_X11_pigeons_114_25 v1_25 v2_101_25 v4_100_25 v5_100_25 v6_100_25 M)
set_option maxRecDepth 100000 in
theorem j_X11_pigeons_100_25_ok {C : zC} {d : Nat} {g : zG} {l : Launch} {w : zW} {r : Int32 × zM} {v1_25 : Int32} {v3_100_25 : Int32} {v4_100_25 : Int32} {v5_100_25 : Int32} {v6_100_25 : Int32} {s0_100_25 : Int32} {s1_100_25 : Int32} (hB : bOK C cX11_pigeons 8 RX11 d g l w false) (hd : 5 ≤ d) (M : zM) (hR : RtI C cX11_pigeons w r.1 r.2) : Sg C w (0, 0) 100 [(0, zr w 257), (1, .int v1_25), (3, .int v3_100_25), (4, .int v4_100_25), (5, .int v5_100_25), (6, .int v6_100_25)] [.int s1_100_25, .int s0_100_25] M (j_X11_pigeons_100_25 v1_25 v3_100_25 v4_100_25 v5_100_25 v6_100_25 s0_100_25 s1_100_25 M) (fun o => Sum.elim (fun (s : (Int32 × Int32 × Int32 × Int32)) => Zs C w (0, 0) 25 [(0, zr w 257), (1, .int v1_25), (2, .int s.1), (3, .int s.2.1), (4, .int s.2.2.1), (5, .int s.2.2.2)] [] M) (fun (s : (Int32 × Int32 × Int32)) => Zs C w (0, 0) 141 [(1, .int v1_25), (2, .int s.1), (3, .int s.2.1), (4, .int s.2.2)] [] M) o) := by
  have hC := hB.1.1
  have hq1 : 1 ≤ d := by omega
  unfold j_X11_pigeons_100_25
  refine x_iadd hC dX11_pigeons_100 ?_
  refine x_top (fun v2_101_25 => ?_)
  refine x_istore_n hC dX11_pigeons_101 rfl [(2, .int v2_101_25), (0, zr w 257), (1, .int v1_25), (3, .int v3_100_25), (4, .int v4_100_25), (5, .int v5_100_25), (6, .int v6_100_25)] (by decide) rfl ?_
  refine x_iload hC dX11_pigeons_102 6 rfl ?_
  refine x_iload_n hC dX11_pigeons_104 rfl 3 rfl ?_
  refine x_icmp_le (tgt := 113) hC dX11_pigeons_105 (by decide) ?_ ?_
  · refine x_iload_n hC dX11_pigeons_113 rfl 3 rfl ?_
    refine x_sub [1, 2, 0, 4, 5] rfl ?_
    exact j_X11_pigeons_114_25_ok hB hd M hR
  · refine x_iload hC dX11_pigeons_108 6 rfl ?_
    refine x_goto (tgt := 114) hC dX11_pigeons_110 (by decide) ?_
    refine x_sub [1, 2, 0, 4, 5] rfl ?_
    exact j_X11_pigeons_114_25_ok hB hd M hR
noncomputable def j_X11_pigeons_89_25 (v1_25 : Int32) (v2_89_25 : Int32) (v3_89_25 : Int32) (v4_89_25 : Int32) (v5_89_25 : Int32) (v6_89_25 : Int32) (M : zM) : Option ((Int32 × Int32 × Int32 × Int32) ⊕ (Int32 × Int32 × Int32)) :=
  if v6_89_25 ≤ 0 then (j_X11_pigeons_100_25 v1_25 v3_89_25 v4_89_25 v5_89_25 v6_89_25 v2_89_25 (0 : Int32) M)
  else (j_X11_pigeons_100_25 v1_25 v3_89_25 v4_89_25 v5_89_25 v6_89_25 v2_89_25 (1 : Int32) M)
set_option maxRecDepth 100000 in
theorem j_X11_pigeons_89_25_ok {C : zC} {d : Nat} {g : zG} {l : Launch} {w : zW} {r : Int32 × zM} {v1_25 : Int32} {v2_89_25 : Int32} {v3_89_25 : Int32} {v4_89_25 : Int32} {v5_89_25 : Int32} {v6_89_25 : Int32} (hB : bOK C cX11_pigeons 8 RX11 d g l w false) (hd : 5 ≤ d) (M : zM) (hR : RtI C cX11_pigeons w r.1 r.2) : Sg C w (0, 0) 89 [(0, zr w 257), (1, .int v1_25), (2, .int v2_89_25), (3, .int v3_89_25), (4, .int v4_89_25), (5, .int v5_89_25), (6, .int v6_89_25)] [] M (j_X11_pigeons_89_25 v1_25 v2_89_25 v3_89_25 v4_89_25 v5_89_25 v6_89_25 M) (fun o => Sum.elim (fun (s : (Int32 × Int32 × Int32 × Int32)) => Zs C w (0, 0) 25 [(0, zr w 257), (1, .int v1_25), (2, .int s.1), (3, .int s.2.1), (4, .int s.2.2.1), (5, .int s.2.2.2)] [] M) (fun (s : (Int32 × Int32 × Int32)) => Zs C w (0, 0) 141 [(1, .int v1_25), (2, .int s.1), (3, .int s.2.1), (4, .int s.2.2)] [] M) o) := by
  have hC := hB.1.1
  have hq1 : 1 ≤ d := by omega
  unfold j_X11_pigeons_89_25
  refine x_iload_n hC dX11_pigeons_89 rfl 2 rfl ?_
  refine x_iload hC dX11_pigeons_90 6 rfl ?_
  refine x_if_le (tgt := 99) hC dX11_pigeons_92 (by decide) ?_ ?_
  · refine x_iconst (v := (0 : Int32)) hC dX11_pigeons_99 ki_0 ?_
    refine x_sub [0, 1, 3, 4, 5, 6] rfl ?_
    exact j_X11_pigeons_100_25_ok hB hd M hR
  · refine x_iconst (v := (1 : Int32)) hC dX11_pigeons_95 ki_1 ?_
    refine x_goto (tgt := 100) hC dX11_pigeons_96 (by decide) ?_
    refine x_sub [0, 1, 3, 4, 5, 6] rfl ?_
    exact j_X11_pigeons_100_25_ok hB hd M hR
noncomputable def b_X11_pigeons_25 (v1_25 : Int32) (v2_25 : Int32) (v3_25 : Int32) (v4_25 : Int32) (v5_25 : Int32) (M : zM) : Option ((Int32 × Int32 × Int32 × Int32) ⊕ (Int32 × Int32 × Int32)) :=
  if (144 : Int32) ≤ v5_25 then (some (.inr (v2_25, v3_25, v4_25)))
  else (grd (inb v5_25 144) (
  if (M 280 (ix v5_25)) = (-1 : Int32) then (j_X11_pigeons_135_25 v1_25 v2_25 v3_25 v4_25 v5_25 M)
  else ((loopW (fun s => b_X11_pigeons_53_25 v1_25 v2_25 v3_25 v4_25 v5_25 s.1 s.2 M) ((0 : Int32), (0 : Int32))).bind (fun r => j_X11_pigeons_89_25 v1_25 v2_25 v3_25 v4_25 v5_25 r M))))
set_option maxRecDepth 100000 in
theorem b_X11_pigeons_25_ok {C : zC} {d : Nat} {g : zG} {l : Launch} {w : zW} {r : Int32 × zM} {v1_25 : Int32} {v2_25 : Int32} {v3_25 : Int32} {v4_25 : Int32} {v5_25 : Int32} (hB : bOK C cX11_pigeons 8 RX11 d g l w false) (hd : 5 ≤ d) (M : zM) (hR : RtI C cX11_pigeons w r.1 r.2) : Sg C w (0, 0) 25 [(0, zr w 257), (1, .int v1_25), (2, .int v2_25), (3, .int v3_25), (4, .int v4_25), (5, .int v5_25)] [] M (b_X11_pigeons_25 v1_25 v2_25 v3_25 v4_25 v5_25 M) (fun o => Sum.elim (fun (s : (Int32 × Int32 × Int32 × Int32)) => Zs C w (0, 0) 25 [(0, zr w 257), (1, .int v1_25), (2, .int s.1), (3, .int s.2.1), (4, .int s.2.2.1), (5, .int s.2.2.2)] [] M) (fun (s : (Int32 × Int32 × Int32)) => Zs C w (0, 0) 141 [(1, .int v1_25), (2, .int s.1), (3, .int s.2.1), (4, .int s.2.2)] [] M) o) := by
  have hC := hB.1.1
  have hq1 : 1 ≤ d := by omega
  unfold b_X11_pigeons_25
  refine x_iload hC dX11_pigeons_25 5 rfl ?_
  refine x_sipush (v := (144 : Int32)) hC dX11_pigeons_27 kh_144 ?_
  refine x_icmp_ge (tgt := 141) hC dX11_pigeons_30 (by decide) ?_ ?_
  · refine x_sub [1, 2, 3, 4] rfl ?_
    exact x_done (fun h => h)
  · refine x_aload_n hC dX11_pigeons_33 rfl 0 rfl ?_
    refine r_getR hB dX11_pigeons_34 kf_X11_80 rfl th_257 rf_257_38 ?_
    refine x_iload hC dX11_pigeons_37 5 rfl ?_
    refine r_iald hB dX11_pigeons_39 th_280 ?_
    refine x_iconst (v := (-1 : Int32)) hC dX11_pigeons_40 ki_m1 ?_
    refine x_icmp_ne (tgt := 47) hC dX11_pigeons_41 (by decide) ?_ ?_
    · refine x_goto (tgt := 135) hC dX11_pigeons_44 (by decide) ?_
      exact j_X11_pigeons_135_25_ok hB hd M hR
    · refine x_iconst (v := (0 : Int32)) hC dX11_pigeons_47 ki_0 ?_
      refine x_istore (f := 0) hC dX11_pigeons_48 [(6, .int (0 : Int32)), (0, zr w 257), (1, .int v1_25), (2, .int v2_25), (3, .int v3_25), (4, .int v4_25), (5, .int v5_25)] (by decide) rfl ?_
      refine x_iconst (v := (0 : Int32)) hC dX11_pigeons_50 ki_0 ?_
      refine x_istore (f := 0) hC dX11_pigeons_51 [(7, .int (0 : Int32)), (6, .int (0 : Int32)), (0, zr w 257), (1, .int v1_25), (2, .int v2_25), (3, .int v3_25), (4, .int v4_25), (5, .int v5_25)] (by decide) rfl ?_
      refine x_sub [2, 3, 4, 5, 6, 7, 1, 0] rfl ?_
      refine x_loopB (pc2 := 89) (fun (s : (Int32 × Int32)) => [(0, zr w 257), (1, .int v1_25), (2, .int v2_25), (3, .int v3_25), (4, .int v4_25), (5, .int v5_25), (6, .int s.1), (7, .int s.2)]) (fun (s : (Int32 × Int32)) => M) (fun (s : (Int32)) => [(0, zr w 257), (1, .int v1_25), (2, .int v2_25), (3, .int v3_25), (4, .int v4_25), (5, .int v5_25), (6, .int s)]) (fun (s : (Int32)) => M) ((0 : Int32), (0 : Int32)) ?_ ?_
      · exact fun s => b_X11_pigeons_53_25_ok hB hd M hR
      · intro r9
        exact j_X11_pigeons_89_25_ok hB hd M hR
noncomputable def j_X11_pigeons_141 (v1_141 : Int32) (v2_141 : Int32) (v3_141 : Int32) (v4_141 : Int32) (M : zM) : Option (Int32 × zM) :=
  if v1_141 = 0 then (some (v2_141, M))
  else (if v1_141 = (1 : Int32) then (some (v3_141, M))
  else (some (v4_141, M)))
set_option maxRecDepth 100000 in
theorem j_X11_pigeons_141_ok {C : zC} {d : Nat} {g : zG} {l : Launch} {w : zW} {r : Int32 × zM} {v1_141 : Int32} {v2_141 : Int32} {v3_141 : Int32} {v4_141 : Int32} (hB : bOK C cX11_pigeons 8 RX11 d g l w false) (hd : 5 ≤ d) (M : zM) (hR : RtI C cX11_pigeons w r.1 r.2) : Sg C w (0, 0) 141 [(1, .int v1_141), (2, .int v2_141), (3, .int v3_141), (4, .int v4_141)] [] M (j_X11_pigeons_141 v1_141 v2_141 v3_141 v4_141 M) (fun q => q = r) := by
  have hC := hB.1.1
  have hq1 : 1 ≤ d := by omega
  unfold j_X11_pigeons_141
  refine x_iload_n hC dX11_pigeons_141 rfl 0 rfl ?_
  refine x_if_ne (tgt := 149) hC dX11_pigeons_142 (by decide) ?_ ?_
  · refine x_iload_n hC dX11_pigeons_145 rfl 1 rfl ?_
    refine x_goto (tgt := 160) hC dX11_pigeons_146 (by decide) ?_
    exact r_retI hR dX11_pigeons_160 (fun h => h)
  · refine x_iload_n hC dX11_pigeons_149 rfl 0 rfl ?_
    refine x_iconst (v := (1 : Int32)) hC dX11_pigeons_150 ki_1 ?_
    refine x_icmp_ne (tgt := 158) hC dX11_pigeons_151 (by decide) ?_ ?_
    · refine x_iload_n hC dX11_pigeons_154 rfl 2 rfl ?_
      refine x_goto (tgt := 160) hC dX11_pigeons_155 (by decide) ?_
      exact r_retI hR dX11_pigeons_160 (fun h => h)
    · refine x_iload hC dX11_pigeons_158 3 rfl ?_
      exact r_retI hR dX11_pigeons_160 (fun h => h)
noncomputable def f_X11_pigeons (p1 : Int32) (M : zM) : Option (Int32 × zM) :=
  if (f_X11_within p1 (0 : Int32) (2 : Int32)) = 0 then (some ((-1 : Int32), M))
  else ((f_X11_layFlocks M).bind fun M12 =>
  (loopW (fun s => b_X11_pigeons_25 p1 s.1 s.2.1 s.2.2.1 s.2.2.2 M12) ((0 : Int32), (0 : Int32), (0 : Int32), (0 : Int32))).bind (fun r => j_X11_pigeons_141 p1 r.1 r.2.1 r.2.2 M12))
set_option maxRecDepth 100000 in
theorem f_X11_pigeons_ok {C : zC} {d : Nat} {g : zG} {l : Launch} {w : zW} {r : Int32 × zM} {p1 : Int32} (hB : bOK C cX11_pigeons 8 RX11 d g l w false) (hd : 5 ≤ d) (M : zM) (hR : RtI C cX11_pigeons w r.1 r.2) : Sg C w (0, 0) 0 [(0, zr w 257), (1, .int p1)] [] M (f_X11_pigeons p1 M) (fun q => q = r) := by
  have hC := hB.1.1
  have hq1 : 1 ≤ d := by omega
  unfold f_X11_pigeons
  refine x_iload_n hC dX11_pigeons_0 rfl 1 rfl ?_
  refine x_iconst (v := (0 : Int32)) hC dX11_pigeons_1 ki_0 ?_
  refine x_iconst (v := (2 : Int32)) hC dX11_pigeons_2 ki_2 ?_
  refine r_cS0 (as := [.int p1, .int (0 : Int32), .int (2 : Int32)]) (rest := []) hB dX11_pigeons_3 ks_X11_100 hq1 rfl rfl (Nat.le_of_ble_eq_true rfl) (f_X11_within_met hB.2 (by omega)) ?_
  refine x_if_ne (tgt := 11) hC dX11_pigeons_6 (by decide) ?_ ?_
  · refine x_iconst (v := (-1 : Int32)) hC dX11_pigeons_9 ki_m1 ?_
    exact r_retI hR dX11_pigeons_10 (fun h => h)
  · refine x_aload_n hC dX11_pigeons_11 rfl 0 rfl ?_
    refine r_cVv (as := []) (rest := []) hB dX11_pigeons_12 kv_X11_399 th_257 hq1 rfl rfl (Nat.le_of_ble_eq_true rfl) (fun M' hv => f_X11_layFlocks_met hB.2 (by omega) hv) (fun M12 => ?_)
    refine x_iconst (v := (0 : Int32)) hC dX11_pigeons_15 ki_0 ?_
    refine x_istore_n hC dX11_pigeons_16 rfl [(2, .int (0 : Int32)), (0, zr w 257), (1, .int p1)] (by decide) rfl ?_
    refine x_iconst (v := (0 : Int32)) hC dX11_pigeons_17 ki_0 ?_
    refine x_istore_n hC dX11_pigeons_18 rfl [(3, .int (0 : Int32)), (2, .int (0 : Int32)), (0, zr w 257), (1, .int p1)] (by decide) rfl ?_
    refine x_iconst (v := (0 : Int32)) hC dX11_pigeons_19 ki_0 ?_
    refine x_istore (f := 0) hC dX11_pigeons_20 [(4, .int (0 : Int32)), (3, .int (0 : Int32)), (2, .int (0 : Int32)), (0, zr w 257), (1, .int p1)] (by decide) rfl ?_
    refine x_iconst (v := (0 : Int32)) hC dX11_pigeons_22 ki_0 ?_
    refine x_istore (f := 0) hC dX11_pigeons_23 [(5, .int (0 : Int32)), (4, .int (0 : Int32)), (3, .int (0 : Int32)), (2, .int (0 : Int32)), (0, zr w 257), (1, .int p1)] (by decide) rfl ?_
    refine x_sub [4, 5, 3, 2, 1, 0] rfl ?_
    refine x_loopB (pc2 := 141) (fun (s : (Int32 × Int32 × Int32 × Int32)) => [(0, zr w 257), (1, .int p1), (2, .int s.1), (3, .int s.2.1), (4, .int s.2.2.1), (5, .int s.2.2.2)]) (fun (s : (Int32 × Int32 × Int32 × Int32)) => M12) (fun (s : (Int32 × Int32 × Int32)) => [(1, .int p1), (2, .int s.1), (3, .int s.2.1), (4, .int s.2.2)]) (fun (s : (Int32 × Int32 × Int32)) => M12) ((0 : Int32), (0 : Int32), (0 : Int32), (0 : Int32)) ?_ ?_
    · exact fun s => b_X11_pigeons_25_ok hB hd M12 hR
    · intro r9
      exact j_X11_pigeons_141_ok hB hd M12 hR
theorem f_X11_pigeons_met {l : Launch} {d : Nat} {g : zG} {w : zW} {M0 : zM} {p1 : Int32} {M : zM} (hw : wS w) (hd : 5 ≤ d) {v : Int32} {M' : zM} (h : f_X11_pigeons p1 M = some (v, M')) : zMet l yX11_pigeons cX11_pigeons 8 (some .int) d g w (zin false) M0 [zr w 257, .int p1] M (some (.int v)) M' :=
  met_i (by decide +kernel) (Nat.le_of_ble_eq_true rfl) rfl (fun C hB0 hR => f_X11_pigeons_ok (r := (v, M')) ⟨hB0, hw⟩ hd M hR _ h rfl)
/-! WindingSquare$Day.act(I)V -/
noncomputable def j_X1_act_124 (v1_124 : Int32) (v4_124 : Int32) (M : zM) : Option (zM) :=
  if v4_124 = (2 : Int32) then ((f_X1_leave v1_124 M).bind fun M132 =>
  some M132)
  else (some M)
set_option maxRecDepth 100000 in
theorem j_X1_act_124_ok {C : zC} {d : Nat} {g : zG} {l : Launch} {w : zW} {r : zM} {v1_124 : Int32} {v4_124 : Int32} (hB : bOK C cX1_act 5 RX1 d g l w true) (hd : 6 ≤ d) (M : zM) (hR : RtV C cX1_act w r) : Sg C w (0, 0) 124 [(0, zr w 83), (1, .int v1_124), (4, .int v4_124)] [] M (j_X1_act_124 v1_124 v4_124 M) (fun q => q = r) := by
  have hC := hB.1.1
  have hq1 : 1 ≤ d := by omega
  unfold j_X1_act_124
  refine x_iload hC dX1_act_124 2 rfl ?_
  refine x_iconst (v := (2 : Int32)) hC dX1_act_126 ki_2 ?_
  refine x_icmp_ne (tgt := 135) hC dX1_act_127 (by decide) ?_ ?_
  · refine x_aload_n hC dX1_act_130 rfl 0 rfl ?_
    refine x_iload_n hC dX1_act_131 rfl 1 rfl ?_
    refine r_cVv (as := [.int v1_124]) (rest := []) hB dX1_act_132 kv_X1_148 th_83 hq1 rfl rfl (Nat.le_of_ble_eq_true rfl) (fun M' hv => f_X1_leave_met hB.2 (by omega) hv) (fun M132 => ?_)
    exact r_retV hR dX1_act_135 (fun h => h)
  · exact r_retV hR dX1_act_135 (fun h => h)
noncomputable def f_X1_act (p1 : Int32) (M : zM) : Option (zM) :=
  grd (inb p1 16) (
  bnd2 (f_X8_nextWord 40 p1 (1 + 3 + ix p1) M) fun u16 M16 =>
  if u16 = (154 : Int32) then (some M16)
  else (if u16 = (150 : Int32) then (bnd2 (f_X1_goOn p1 M16) fun u48 M48 =>
  if u48 = (1 : Int32) then (grd (inb (f_X9_at (1 + 3 + ix p1) M48) 144) (
  if (M48 3 (ix (f_X9_at (1 + 3 + ix p1) M48))) = (2 : Int32) then (bnd2 (f_X1_ask (128 : Int32) (1 + 3 + ix p1) M48) fun u81 M81 =>
  bnd2 (f_X1_falls u81 M81) fun u84 M84 =>
  if u84 = 0 then (j_X1_act_124 p1 u48 M84)
  else (nm (mset M84 (1 + 3 + ix p1) 12 ((M84 (1 + 3 + ix p1) 12) + (1 : Int32))) fun M97 =>
  (f_X0_write 68 1 (2 : Int32) p1 (f_X9_at (1 + 3 + ix p1) M97) M97).bind fun M114 =>
  bnd2 (f_X1_goOn p1 M114) fun u119 M119 =>
  j_X1_act_124 p1 u119 M119))
  else (j_X1_act_124 p1 u48 M48)))
  else (j_X1_act_124 p1 u48 M48))
  else ((f_X1_turnRound p1 (u16 - (151 : Int32)) M16).bind fun M42 =>
  some M42)))
set_option maxRecDepth 100000 in
theorem f_X1_act_ok {C : zC} {d : Nat} {g : zG} {l : Launch} {w : zW} {r : zM} {p1 : Int32} (hB : bOK C cX1_act 5 RX1 d g l w true) (hd : 6 ≤ d) (M : zM) (hR : RtV C cX1_act w r) : Sg C w (0, 0) 0 [(0, zr w 83), (1, .int p1)] [] M (f_X1_act p1 M) (fun q => q = r) := by
  have hC := hB.1.1
  have hq1 : 1 ≤ d := by omega
  unfold f_X1_act
  refine x_aload_n hC dX1_act_0 rfl 0 rfl ?_
  refine r_getR hB dX1_act_1 kf_X1_25 rfl th_83 rf_83_2 ?_
  refine r_getR hB dX1_act_4 kf_X1_43 rfl th_1 rf_1_0 ?_
  refine x_iload_n hC dX1_act_7 rfl 1 rfl ?_
  refine r_aaW (a := 1) hB dX1_act_8 th_1 (fun hg8 => ?_)
  refine x_astore_n hC dX1_act_9 rfl [(2, zr w (1 + 3 + ix p1)), (0, zr w 83), (1, .int p1)] (by decide) rfl ?_
  refine x_aload_n hC dX1_act_10 rfl 1 rfl ?_
  refine r_getR hB dX1_act_11 kf_X1_29 rfl th_83 rf_83_3 ?_
  refine x_iload_n hC dX1_act_14 rfl 2 rfl ?_
  refine x_aload_n hC dX1_act_15 rfl 0 rfl ?_
  refine r_cV2 (as := [.int p1, zr w (1 + 3 + ix p1)]) (rest := []) hB dX1_act_16 kv_X1_125 th_40 hq1 rfl rfl (Nat.le_of_ble_eq_true rfl) (fun v M' hv => f_X8_nextWord_met hB.2 th_40 (nv_wk th_1 hg8).2 (by omega) hv) (fun u16 M16 => ?_)
  refine x_istore_n hC dX1_act_19 rfl [(3, .int u16), (2, zr w (1 + 3 + ix p1)), (0, zr w 83), (1, .int p1)] (by decide) rfl ?_
  refine x_iload_n hC dX1_act_20 rfl 0 rfl ?_
  refine x_sipush (v := (154 : Int32)) hC dX1_act_21 kh_154 ?_
  refine x_icmp_ne (tgt := 28) hC dX1_act_24 (by decide) ?_ ?_
  · exact r_retV hR dX1_act_27 (fun h => h)
  · refine x_iload_n hC dX1_act_28 rfl 0 rfl ?_
    refine x_sipush (v := (150 : Int32)) hC dX1_act_29 kh_150 ?_
    refine x_icmp_eq (tgt := 46) hC dX1_act_32 (by decide) ?_ ?_
    · refine x_aload_n hC dX1_act_46 rfl 2 rfl ?_
      refine x_iload_n hC dX1_act_47 rfl 3 rfl ?_
      refine r_cV2 (as := [.int p1]) (rest := []) hB dX1_act_48 kv_X1_135 th_83 hq1 rfl rfl (Nat.le_of_ble_eq_true rfl) (fun v M' hv => f_X1_goOn_met hB.2 (by omega) hv) (fun u48 M48 => ?_)
      refine x_istore (f := 0) hC dX1_act_51 [(4, .int u48), (3, .int u16), (2, zr w (1 + 3 + ix p1)), (0, zr w 83), (1, .int p1)] (by decide) rfl ?_
      refine x_iload hC dX1_act_53 0 rfl ?_
      refine x_iconst (v := (1 : Int32)) hC dX1_act_55 ki_1 ?_
      refine x_icmp_ne (tgt := 124) hC dX1_act_56 (by decide) ?_ ?_
      · refine x_aload_n hC dX1_act_59 rfl 3 rfl ?_
        refine r_getR hB dX1_act_60 kf_X1_25 rfl th_83 rf_83_2 ?_
        refine r_getR hB dX1_act_63 kf_X1_64 rfl th_1 rf_1_1 ?_
        refine x_aload_n hC dX1_act_66 rfl 2 rfl ?_
        refine r_cV0 (as := []) (rest := [zr w 3]) hB dX1_act_67 kv_X1_67 (nv_wk th_1 hg8).2 hq1 rfl rfl (Nat.le_of_ble_eq_true rfl) (f_X9_at_met hB.2 (nv_wk th_1 hg8).2 (by omega)) ?_
        refine r_iald hB dX1_act_70 th_3 ?_
        refine x_iconst (v := (2 : Int32)) hC dX1_act_71 ki_2 ?_
        refine x_icmp_ne (tgt := 124) hC dX1_act_72 (by decide) ?_ ?_
        · refine x_aload_n hC dX1_act_75 rfl 3 rfl ?_
          refine x_aload_n hC dX1_act_76 rfl 3 rfl ?_
          refine x_sipush (v := (128 : Int32)) hC dX1_act_77 kh_128 ?_
          refine x_aload_n hC dX1_act_80 rfl 2 rfl ?_
          refine r_cV2 (as := [.int (128 : Int32), zr w (1 + 3 + ix p1)]) (rest := [zr w 83]) hB dX1_act_81 kv_X1_138 th_83 hq1 rfl rfl (Nat.le_of_ble_eq_true rfl) (fun v M' hv => f_X1_ask_met hB.2 (nv_wk th_1 hg8).2 (by omega) hv) (fun u81 M81 => ?_)
          refine r_cV2 (as := [.int u81]) (rest := []) hB dX1_act_84 kv_X1_141 th_83 hq1 rfl rfl (Nat.le_of_ble_eq_true rfl) (fun v M' hv => f_X1_falls_met hB.2 (by omega) hv) (fun u84 M84 => ?_)
          refine x_if_eq (tgt := 124) hC dX1_act_87 (by decide) ?_ ?_
          · refine x_sub [3, 4, 0] rfl ?_
            exact j_X1_act_124_ok hB hd M84 hR
          · refine x_aload_n hC dX1_act_90 rfl 2 rfl ?_
            refine x_dup hC dX1_act_91 rfl ?_
            refine r_getI hB dX1_act_92 kf_X1_145 rfl (nv_wk th_1 hg8).2 ?_
            refine x_iconst (v := (1 : Int32)) hC dX1_act_95 ki_1 ?_
            refine x_iadd hC dX1_act_96 ?_
            refine r_putI hB dX1_act_97 kf_X1_145 rfl (nv_wk th_1 hg8).2 ?_
            refine x_mem (fun M97 => ?_)
            refine x_aload_n hC dX1_act_100 rfl 3 rfl ?_
            refine r_getR hB dX1_act_101 kf_X1_33 rfl th_83 rf_83_4 ?_
            refine x_aload_n hC dX1_act_104 rfl 3 rfl ?_
            refine r_getR hB dX1_act_105 kf_X1_25 rfl th_83 rf_83_2 ?_
            refine x_iconst (v := (2 : Int32)) hC dX1_act_108 ki_2 ?_
            refine x_iload_n hC dX1_act_109 rfl 4 rfl ?_
            refine x_aload_n hC dX1_act_110 rfl 2 rfl ?_
            refine r_cV0 (as := []) (rest := [.int p1, .int (2 : Int32), zr w 1, zr w 68]) hB dX1_act_111 kv_X1_67 (nv_wk th_1 hg8).2 hq1 rfl rfl (Nat.le_of_ble_eq_true rfl) (f_X9_at_met hB.2 (nv_wk th_1 hg8).2 (by omega)) ?_
            refine r_cVv (as := [zr w 1, .int (2 : Int32), .int p1, .int (f_X9_at (1 + 3 + ix p1) M97)]) (rest := []) hB dX1_act_114 kv_X1_76 th_68 hq1 rfl rfl (Nat.le_of_ble_eq_true rfl) (fun M' hv => f_X0_write_met hB.2 th_68 th_1 (by omega) hv) (fun M114 => ?_)
            refine x_aload_n hC dX1_act_117 rfl 3 rfl ?_
            refine x_iload_n hC dX1_act_118 rfl 4 rfl ?_
            refine r_cV2 (as := [.int p1]) (rest := []) hB dX1_act_119 kv_X1_135 th_83 hq1 rfl rfl (Nat.le_of_ble_eq_true rfl) (fun v M' hv => f_X1_goOn_met hB.2 (by omega) hv) (fun u119 M119 => ?_)
            refine x_istore (f := 0) hC dX1_act_122 [(4, .int u119), (3, .int u16), (2, zr w (1 + 3 + ix p1)), (0, zr w 83), (1, .int p1)] (by decide) rfl ?_
            refine x_sub [3, 4, 0] rfl ?_
            exact j_X1_act_124_ok hB hd M119 hR
        · refine x_sub [3, 4, 0] rfl ?_
          exact j_X1_act_124_ok hB hd M48 hR
      · refine x_sub [3, 4, 0] rfl ?_
        exact j_X1_act_124_ok hB hd M48 hR
    · refine x_aload_n hC dX1_act_35 rfl 2 rfl ?_
      refine x_iload_n hC dX1_act_36 rfl 3 rfl ?_
      refine x_iload_n hC dX1_act_37 rfl 0 rfl ?_
      refine x_sipush (v := (151 : Int32)) hC dX1_act_38 kh_151 ?_
      refine x_isub hC dX1_act_41 ?_
      refine r_cVv (as := [.int p1, .int (u16 - (151 : Int32))]) (rest := []) hB dX1_act_42 kv_X1_131 th_83 hq1 rfl rfl (Nat.le_of_ble_eq_true rfl) (fun M' hv => f_X1_turnRound_met hB.2 (by omega) hv) (fun M42 => ?_)
      exact r_retV hR dX1_act_45 (fun h => h)
theorem f_X1_act_met {l : Launch} {d : Nat} {g : zG} {w : zW} {M0 : zM} {p1 : Int32} {M : zM} (hw : wS w) (hd : 6 ≤ d) {M' : zM} (h : f_X1_act p1 M = some M') : zMet l yX1_act cX1_act 5 none d g w (zin true) M0 [zr w 83, .int p1] M none M' :=
  met_v (by decide +kernel) (Nat.le_of_ble_eq_true rfl) (fun C hB0 hR => f_X1_act_ok ⟨hB0, hw⟩ hd M hR _ h rfl)
/-! WindingSquare.far(IIII)I -/
noncomputable def f_X10_far (p1 : Int32) (p2 : Int32) (p3 : Int32) (p4 : Int32) (M : zM) : Option (Int32 × zM) :=
  (f_X2_free p1 M).bind fun u5 =>
  if u5 = 0 then (some ((-1 : Int32), M))
  else ((f_X2_free p3 M).bind fun u16 =>
  if u16 = 0 then (some ((-1 : Int32), M))
  else (if p2 < 0 then (some ((-1 : Int32), M))
  else (if (3 : Int32) < p2 then (some ((-1 : Int32), M))
  else (if p4 < (-1 : Int32) then (some ((-1 : Int32), M))
  else (if p4 ≤ (6 : Int32) then (if p4 = (-1 : Int32) then (bnd2 (f_X2_least p1 p2 p3 M) fun u59 M59 =>
  some (u59, M59))
  else (bnd2 (f_X2_fewestSteps p1 p2 p3 p4 M) fun u74 M74 =>
  some (u74, M74)))
  else (some ((-1 : Int32), M)))))))
set_option maxRecDepth 100000 in
theorem f_X10_far_ok {C : zC} {d : Nat} {g : zG} {l : Launch} {w : zW} {r : Int32 × zM} {p1 : Int32} {p2 : Int32} {p3 : Int32} {p4 : Int32} (hB : bOK C cX10_far 5 RX10 d g l w true) (hd : 6 ≤ d) (M : zM) (hR : RtI C cX10_far w r.1 r.2) : Sg C w (0, 0) 0 [(0, zr w 0), (1, .int p1), (2, .int p2), (3, .int p3), (4, .int p4)] [] M (f_X10_far p1 p2 p3 p4 M) (fun q => q = r) := by
  have hC := hB.1.1
  have hq1 : 1 ≤ d := by omega
  unfold f_X10_far
  refine x_aload_n hC dX10_far_0 rfl 0 rfl ?_
  refine r_getR hB dX10_far_1 kf_X10_72 rfl th_0 rf_0_11 ?_
  refine x_iload_n hC dX10_far_4 rfl 1 rfl ?_
  refine r_cV1 (as := [.int p1]) (rest := []) hB dX10_far_5 kv_X10_233 th_87 hq1 rfl rfl (Nat.le_of_ble_eq_true rfl) (fun v hv => f_X2_free_met hB.2 (by omega) hv) (fun u5 => ?_)
  refine x_if_eq (tgt := 44) hC dX10_far_8 (by decide) ?_ ?_
  · refine x_iconst (v := (-1 : Int32)) hC dX10_far_44 ki_m1 ?_
    exact r_retI hR dX10_far_45 (fun h => h)
  · refine x_aload_n hC dX10_far_11 rfl 0 rfl ?_
    refine r_getR hB dX10_far_12 kf_X10_72 rfl th_0 rf_0_11 ?_
    refine x_iload_n hC dX10_far_15 rfl 3 rfl ?_
    refine r_cV1 (as := [.int p3]) (rest := []) hB dX10_far_16 kv_X10_233 th_87 hq1 rfl rfl (Nat.le_of_ble_eq_true rfl) (fun v hv => f_X2_free_met hB.2 (by omega) hv) (fun u16 => ?_)
    refine x_if_eq (tgt := 44) hC dX10_far_19 (by decide) ?_ ?_
    · refine x_iconst (v := (-1 : Int32)) hC dX10_far_44 ki_m1 ?_
      exact r_retI hR dX10_far_45 (fun h => h)
    · refine x_iload_n hC dX10_far_22 rfl 2 rfl ?_
      refine x_if_lt (tgt := 44) hC dX10_far_23 (by decide) ?_ ?_
      · refine x_iconst (v := (-1 : Int32)) hC dX10_far_44 ki_m1 ?_
        exact r_retI hR dX10_far_45 (fun h => h)
      · refine x_iload_n hC dX10_far_26 rfl 2 rfl ?_
        refine x_iconst (v := (3 : Int32)) hC dX10_far_27 ki_3 ?_
        refine x_icmp_gt (tgt := 44) hC dX10_far_28 (by decide) ?_ ?_
        · refine x_iconst (v := (-1 : Int32)) hC dX10_far_44 ki_m1 ?_
          exact r_retI hR dX10_far_45 (fun h => h)
        · refine x_iload hC dX10_far_31 4 rfl ?_
          refine x_iconst (v := (-1 : Int32)) hC dX10_far_33 ki_m1 ?_
          refine x_icmp_lt (tgt := 44) hC dX10_far_34 (by decide) ?_ ?_
          · refine x_iconst (v := (-1 : Int32)) hC dX10_far_44 ki_m1 ?_
            exact r_retI hR dX10_far_45 (fun h => h)
          · refine x_iload hC dX10_far_37 4 rfl ?_
            refine x_bipush (v := (6 : Int32)) hC dX10_far_39 kb_6 ?_
            refine x_icmp_le (tgt := 46) hC dX10_far_41 (by decide) ?_ ?_
            · refine x_iload hC dX10_far_46 4 rfl ?_
              refine x_iconst (v := (-1 : Int32)) hC dX10_far_48 ki_m1 ?_
              refine x_icmp_ne (tgt := 65) hC dX10_far_49 (by decide) ?_ ?_
              · refine x_aload_n hC dX10_far_52 rfl 0 rfl ?_
                refine r_getR hB dX10_far_53 kf_X10_72 rfl th_0 rf_0_11 ?_
                refine x_iload_n hC dX10_far_56 rfl 1 rfl ?_
                refine x_iload_n hC dX10_far_57 rfl 2 rfl ?_
                refine x_iload_n hC dX10_far_58 rfl 3 rfl ?_
                refine r_cV2 (as := [.int p1, .int p2, .int p3]) (rest := []) hB dX10_far_59 kv_X10_236 th_87 hq1 rfl rfl (Nat.le_of_ble_eq_true rfl) (fun v M' hv => f_X2_least_met hB.2 (by omega) hv) (fun u59 M59 => ?_)
                refine x_goto (tgt := 77) hC dX10_far_62 (by decide) ?_
                exact r_retI hR dX10_far_77 (fun h => h)
              · refine x_aload_n hC dX10_far_65 rfl 0 rfl ?_
                refine r_getR hB dX10_far_66 kf_X10_72 rfl th_0 rf_0_11 ?_
                refine x_iload_n hC dX10_far_69 rfl 1 rfl ?_
                refine x_iload_n hC dX10_far_70 rfl 2 rfl ?_
                refine x_iload_n hC dX10_far_71 rfl 3 rfl ?_
                refine x_iload hC dX10_far_72 4 rfl ?_
                refine r_cV2 (as := [.int p1, .int p2, .int p3, .int p4]) (rest := []) hB dX10_far_74 kv_X10_240 th_87 hq1 rfl rfl (Nat.le_of_ble_eq_true rfl) (fun v M' hv => f_X2_fewestSteps_met hB.2 (by omega) hv) (fun u74 M74 => ?_)
                exact r_retI hR dX10_far_77 (fun h => h)
            · refine x_iconst (v := (-1 : Int32)) hC dX10_far_44 ki_m1 ?_
              exact r_retI hR dX10_far_45 (fun h => h)
theorem f_X10_far_met {l : Launch} {d : Nat} {g : zG} {w : zW} {M0 : zM} {p1 : Int32} {p2 : Int32} {p3 : Int32} {p4 : Int32} {M : zM} (hw : wS w) (hd : 6 ≤ d) {v : Int32} {M' : zM} (h : f_X10_far p1 p2 p3 p4 M = some (v, M')) : zMet l yX10_far cX10_far 5 (some .int) d g w (zin true) M0 [zr w 0, .int p1, .int p2, .int p3, .int p4] M (some (.int v)) M' :=
  met_i (by decide +kernel) (Nat.le_of_ble_eq_true rfl) rfl (fun C hB0 hR => f_X10_far_ok (r := (v, M')) ⟨hB0, hw⟩ hd M hR _ h rfl)
/-! WindingSquare.image(Z)Z -/
noncomputable def f_X10_image (p1 : Int32) (M : zM) : Option (Int32 × zM) :=
  if p1 = 0 then (if (M 0 13) = 0 then (some ((0 : Int32), M))
  else ((f_X7_copyFrom 1 100 M).bind fun M72 =>
  (f_X8_copyFrom 40 119 M72).bind fun M83 =>
  (f_X0_copyFrom 68 133 M83).bind fun M94 =>
  (f_X6_copyFrom 70 135 M94).bind fun M105 =>
  (f_X10_forget M105).bind fun M109 =>
  some ((1 : Int32), M109)))
  else (nm (mset M 0 13 (1 : Int32)) fun M6 =>
  (f_X7_copyFrom 100 1 M6).bind fun M17 =>
  (f_X8_copyFrom 119 40 M17).bind fun M28 =>
  (f_X0_copyFrom 133 68 M28).bind fun M39 =>
  (f_X6_copyFrom 135 70 M39).bind fun M50 =>
  some ((1 : Int32), M50))
set_option maxRecDepth 100000 in
theorem f_X10_image_ok {C : zC} {d : Nat} {g : zG} {l : Launch} {w : zW} {r : Int32 × zM} {p1 : Int32} (hB : bOK C cX10_image 2 RX10 d g l w true) (hd : 6 ≤ d) (M : zM) (hR : RtZ C cX10_image w r.1 r.2) : Sg C w (0, 0) 0 [(0, zr w 0), (1, .int p1)] [] M (f_X10_image p1 M) (fun q => q = r) := by
  have hC := hB.1.1
  have hq1 : 1 ≤ d := by omega
  unfold f_X10_image
  refine x_iload_n hC dX10_image_0 rfl 1 rfl ?_
  refine x_if_eq (tgt := 55) hC dX10_image_1 (by decide) ?_ ?_
  · refine x_aload_n hC dX10_image_55 rfl 0 rfl ?_
    refine r_getI hB dX10_image_56 kf_X10_343 rfl th_0 ?_
    refine x_if_ne (tgt := 64) hC dX10_image_59 (by decide) ?_ ?_
    · refine x_iconst (v := (0 : Int32)) hC dX10_image_62 ki_0 ?_
      exact r_retZ hR dX10_image_63 (Or.inl rfl) (fun h => h)
    · refine x_aload_n hC dX10_image_64 rfl 0 rfl ?_
      refine r_getR hB dX10_image_65 kf_X10_10 rfl th_0 rf_0_0 ?_
      refine x_aload_n hC dX10_image_68 rfl 0 rfl ?_
      refine r_getR hB dX10_image_69 kf_X10_83 rfl th_0 rf_0_14 ?_
      refine r_cVv (as := [zr w 100]) (rest := []) hB dX10_image_72 kv_X10_339 th_1 hq1 rfl rfl (Nat.le_of_ble_eq_true rfl) (fun M' hv => f_X7_copyFrom_met hB.2 th_1 th_100 (by omega) hv) (fun M72 => ?_)
      refine x_aload_n hC dX10_image_75 rfl 0 rfl ?_
      refine r_getR hB dX10_image_76 kf_X10_26 rfl th_0 rf_0_5 ?_
      refine x_aload_n hC dX10_image_79 rfl 0 rfl ?_
      refine r_getR hB dX10_image_80 kf_X10_86 rfl th_0 rf_0_15 ?_
      refine r_cVv (as := [zr w 119]) (rest := []) hB dX10_image_83 kv_X10_346 th_40 hq1 rfl rfl (Nat.le_of_ble_eq_true rfl) (fun M' hv => f_X8_copyFrom_met hB.2 th_40 th_119 (by omega) hv) (fun M83 => ?_)
      refine x_aload_n hC dX10_image_86 rfl 0 rfl ?_
      refine r_getR hB dX10_image_87 kf_X10_36 rfl th_0 rf_0_7 ?_
      refine x_aload_n hC dX10_image_90 rfl 0 rfl ?_
      refine r_getR hB dX10_image_91 kf_X10_89 rfl th_0 rf_0_16 ?_
      refine r_cVv (as := [zr w 133]) (rest := []) hB dX10_image_94 kv_X10_349 th_68 hq1 rfl rfl (Nat.le_of_ble_eq_true rfl) (fun M' hv => f_X0_copyFrom_met hB.2 th_68 th_133 (by omega) hv) (fun M94 => ?_)
      refine x_aload_n hC dX10_image_97 rfl 0 rfl ?_
      refine r_getR hB dX10_image_98 kf_X10_43 rfl th_0 rf_0_8 ?_
      refine x_aload_n hC dX10_image_101 rfl 0 rfl ?_
      refine r_getR hB dX10_image_102 kf_X10_92 rfl th_0 rf_0_17 ?_
      refine r_cVv (as := [zr w 135]) (rest := []) hB dX10_image_105 kv_X10_352 th_70 hq1 rfl rfl (Nat.le_of_ble_eq_true rfl) (fun M' hv => f_X6_copyFrom_met hB.2 th_70 th_135 (by omega) hv) (fun M105 => ?_)
      refine x_aload_n hC dX10_image_108 rfl 0 rfl ?_
      refine r_cVv (as := []) (rest := []) hB dX10_image_109 kv_X10_99 th_0 hq1 rfl rfl (Nat.le_of_ble_eq_true rfl) (fun M' hv => f_X10_forget_met hB.2 (by omega) hv) (fun M109 => ?_)
      refine x_iconst (v := (1 : Int32)) hC dX10_image_112 ki_1 ?_
      exact r_retZ hR dX10_image_113 (Or.inr rfl) (fun h => h)
  · refine x_aload_n hC dX10_image_4 rfl 0 rfl ?_
    refine x_iconst (v := (1 : Int32)) hC dX10_image_5 ki_1 ?_
    refine r_putZ hB dX10_image_6 kf_X10_343 rfl th_0 (Or.inr rfl) ?_
    refine x_mem (fun M6 => ?_)
    refine x_aload_n hC dX10_image_9 rfl 0 rfl ?_
    refine r_getR hB dX10_image_10 kf_X10_83 rfl th_0 rf_0_14 ?_
    refine x_aload_n hC dX10_image_13 rfl 0 rfl ?_
    refine r_getR hB dX10_image_14 kf_X10_10 rfl th_0 rf_0_0 ?_
    refine r_cVv (as := [zr w 1]) (rest := []) hB dX10_image_17 kv_X10_339 th_100 hq1 rfl rfl (Nat.le_of_ble_eq_true rfl) (fun M' hv => f_X7_copyFrom_met hB.2 th_100 th_1 (by omega) hv) (fun M17 => ?_)
    refine x_aload_n hC dX10_image_20 rfl 0 rfl ?_
    refine r_getR hB dX10_image_21 kf_X10_86 rfl th_0 rf_0_15 ?_
    refine x_aload_n hC dX10_image_24 rfl 0 rfl ?_
    refine r_getR hB dX10_image_25 kf_X10_26 rfl th_0 rf_0_5 ?_
    refine r_cVv (as := [zr w 40]) (rest := []) hB dX10_image_28 kv_X10_346 th_119 hq1 rfl rfl (Nat.le_of_ble_eq_true rfl) (fun M' hv => f_X8_copyFrom_met hB.2 th_119 th_40 (by omega) hv) (fun M28 => ?_)
    refine x_aload_n hC dX10_image_31 rfl 0 rfl ?_
    refine r_getR hB dX10_image_32 kf_X10_89 rfl th_0 rf_0_16 ?_
    refine x_aload_n hC dX10_image_35 rfl 0 rfl ?_
    refine r_getR hB dX10_image_36 kf_X10_36 rfl th_0 rf_0_7 ?_
    refine r_cVv (as := [zr w 68]) (rest := []) hB dX10_image_39 kv_X10_349 th_133 hq1 rfl rfl (Nat.le_of_ble_eq_true rfl) (fun M' hv => f_X0_copyFrom_met hB.2 th_133 th_68 (by omega) hv) (fun M39 => ?_)
    refine x_aload_n hC dX10_image_42 rfl 0 rfl ?_
    refine r_getR hB dX10_image_43 kf_X10_92 rfl th_0 rf_0_17 ?_
    refine x_aload_n hC dX10_image_46 rfl 0 rfl ?_
    refine r_getR hB dX10_image_47 kf_X10_43 rfl th_0 rf_0_8 ?_
    refine r_cVv (as := [zr w 70]) (rest := []) hB dX10_image_50 kv_X10_352 th_135 hq1 rfl rfl (Nat.le_of_ble_eq_true rfl) (fun M' hv => f_X6_copyFrom_met hB.2 th_135 th_70 (by omega) hv) (fun M50 => ?_)
    refine x_iconst (v := (1 : Int32)) hC dX10_image_53 ki_1 ?_
    exact r_retZ hR dX10_image_54 (Or.inr rfl) (fun h => h)
theorem f_X10_image_met {l : Launch} {d : Nat} {g : zG} {w : zW} {M0 : zM} {p1 : Int32} {M : zM} (hw : wS w) (hd : 6 ≤ d) {v : Int32} {M' : zM} (h : f_X10_image p1 M = some (v, M')) : zMet l yX10_image cX10_image 2 (some .boolean) d g w (zin true) M0 [zr w 0, .int p1] M (some (.int v)) M' :=
  met_z (by decide +kernel) (Nat.le_of_ble_eq_true rfl) (fun C hB0 hR => f_X10_image_ok (r := (v, M')) ⟨hB0, hw⟩ hd M hR _ h rfl)
/-! WindingSquareModel.readSum()V -/
noncomputable def j_X11_readSum_43_4 (s0_43_4 : Int32) (M : zM) : Option ((zM) ⊕ (zM)) :=
  nm (mset M 257 9 ((M 257 9) + (1 : Int32))) fun M51_4 =>
  (f_X11_readPart M51_4).bind fun M55_4 =>
  (f_X11_codes s0_43_4 (0 : Int32) M55_4).bind fun M61_4 =>
  some (.inl M61_4)
set_option maxRecDepth 100000 in
theorem j_X11_readSum_43_4_ok {C : zC} {d : Nat} {g : zG} {l : Launch} {w : zW} {r : zM} {s0_43_4 : Int32} (hB : bOK C cX11_readSum 2 RX11 d g l w false) (hd : 6 ≤ d) (M : zM) (hR : RtV C cX11_readSum w r) : Sg C w (0, 0) 43 [(0, zr w 257)] [.int s0_43_4] M (j_X11_readSum_43_4 s0_43_4 M) (fun o => Sum.elim (fun (s : (zM)) => Zs C w (0, 0) 4 [(0, zr w 257)] [] s) (fun (s : (zM)) => Zs C w (0, 0) 67 [] [] s) o) := by
  have hC := hB.1.1
  have hq1 : 1 ≤ d := by omega
  unfold j_X11_readSum_43_4
  refine x_istore_n hC dX11_readSum_43 rfl [(1, .int s0_43_4), (0, zr w 257)] (by decide) rfl ?_
  refine x_aload_n hC dX11_readSum_44 rfl 1 rfl ?_
  refine x_dup hC dX11_readSum_45 rfl ?_
  refine r_getI hB dX11_readSum_46 kf_X11_132 rfl th_257 ?_
  refine x_iconst (v := (1 : Int32)) hC dX11_readSum_49 ki_1 ?_
  refine x_iadd hC dX11_readSum_50 ?_
  refine r_putI hB dX11_readSum_51 kf_X11_132 rfl th_257 ?_
  refine x_mem (fun M51_4 => ?_)
  refine x_aload_n hC dX11_readSum_54 rfl 1 rfl ?_
  refine r_cVv (as := []) (rest := []) hB dX11_readSum_55 kv_X11_234 th_257 hq1 rfl rfl (Nat.le_of_ble_eq_true rfl) (fun M' hv => f_X11_readPart_met hB.2 (by omega) hv) (fun M55_4 => ?_)
  refine x_aload_n hC dX11_readSum_58 rfl 1 rfl ?_
  refine x_iload_n hC dX11_readSum_59 rfl 0 rfl ?_
  refine x_iconst (v := (0 : Int32)) hC dX11_readSum_60 ki_0 ?_
  refine r_cVv (as := [.int s0_43_4, .int (0 : Int32)]) (rest := []) hB dX11_readSum_61 kv_X11_217 th_257 hq1 rfl rfl (Nat.le_of_ble_eq_true rfl) (fun M' hv => f_X11_codes_met hB.2 (by omega) hv) (fun M61_4 => ?_)
  refine x_goto (tgt := 4) hC dX11_readSum_64 (by decide) ?_
  refine x_sub [1] rfl ?_
  exact x_done (fun h => h)
noncomputable def j_X11_readSum_29_4 (M : zM) : Option ((zM) ⊕ (zM)) :=
  bnd2 (f_X11_here M) fun u30_4 M30_4 =>
  if u30_4 = (43 : Int32) then (j_X11_readSum_43_4 (2 : Int32) M30_4)
  else (j_X11_readSum_43_4 (3 : Int32) M30_4)
set_option maxRecDepth 100000 in
theorem j_X11_readSum_29_4_ok {C : zC} {d : Nat} {g : zG} {l : Launch} {w : zW} {r : zM} (hB : bOK C cX11_readSum 2 RX11 d g l w false) (hd : 6 ≤ d) (M : zM) (hR : RtV C cX11_readSum w r) : Sg C w (0, 0) 29 [(0, zr w 257)] [] M (j_X11_readSum_29_4 M) (fun o => Sum.elim (fun (s : (zM)) => Zs C w (0, 0) 4 [(0, zr w 257)] [] s) (fun (s : (zM)) => Zs C w (0, 0) 67 [] [] s) o) := by
  have hC := hB.1.1
  have hq1 : 1 ≤ d := by omega
  unfold j_X11_readSum_29_4
  refine x_aload_n hC dX11_readSum_29 rfl 0 rfl ?_
  refine r_cV2 (as := []) (rest := []) hB dX11_readSum_30 kv_X11_138 th_257 hq1 rfl rfl (Nat.le_of_ble_eq_true rfl) (fun v M' hv => f_X11_here_met hB.2 (by omega) hv) (fun u30_4 M30_4 => ?_)
  refine x_bipush (v := (43 : Int32)) hC dX11_readSum_33 kb_43 ?_
  refine x_icmp_ne (tgt := 42) hC dX11_readSum_35 (by decide) ?_ ?_
  · refine x_iconst (v := (2 : Int32)) hC dX11_readSum_38 ki_2 ?_
    refine x_goto (tgt := 43) hC dX11_readSum_39 (by decide) ?_
    exact j_X11_readSum_43_4_ok hB hd M30_4 hR
  · refine x_iconst (v := (3 : Int32)) hC dX11_readSum_42 ki_3 ?_
    exact j_X11_readSum_43_4_ok hB hd M30_4 hR
noncomputable def b_X11_readSum_4 (M : zM) : Option ((zM) ⊕ (zM)) :=
  if (f_X11_fine M) = 0 then (some (.inr M))
  else (bnd2 (f_X11_here M) fun u12_4 M12_4 =>
  if u12_4 = (43 : Int32) then (j_X11_readSum_29_4 M12_4)
  else (bnd2 (f_X11_here M12_4) fun u21_4 M21_4 =>
  if u21_4 = (45 : Int32) then (j_X11_readSum_29_4 M21_4)
  else (some (.inr M21_4))))
set_option maxRecDepth 100000 in
theorem b_X11_readSum_4_ok {C : zC} {d : Nat} {g : zG} {l : Launch} {w : zW} {r : zM} (hB : bOK C cX11_readSum 2 RX11 d g l w false) (hd : 6 ≤ d) (M : zM) (hR : RtV C cX11_readSum w r) : Sg C w (0, 0) 4 [(0, zr w 257)] [] M (b_X11_readSum_4 M) (fun o => Sum.elim (fun (s : (zM)) => Zs C w (0, 0) 4 [(0, zr w 257)] [] s) (fun (s : (zM)) => Zs C w (0, 0) 67 [] [] s) o) := by
  have hC := hB.1.1
  have hq1 : 1 ≤ d := by omega
  unfold b_X11_readSum_4
  refine x_aload_n hC dX11_readSum_4 rfl 0 rfl ?_
  refine r_cV0 (as := []) (rest := []) hB dX11_readSum_5 kv_X11_149 th_257 hq1 rfl rfl (Nat.le_of_ble_eq_true rfl) (f_X11_fine_met hB.2 (by omega)) ?_
  refine x_if_eq (tgt := 67) hC dX11_readSum_8 (by decide) ?_ ?_
  · refine x_sub [] rfl ?_
    exact x_done (fun h => h)
  · refine x_aload_n hC dX11_readSum_11 rfl 0 rfl ?_
    refine r_cV2 (as := []) (rest := []) hB dX11_readSum_12 kv_X11_138 th_257 hq1 rfl rfl (Nat.le_of_ble_eq_true rfl) (fun v M' hv => f_X11_here_met hB.2 (by omega) hv) (fun u12_4 M12_4 => ?_)
    refine x_bipush (v := (43 : Int32)) hC dX11_readSum_15 kb_43 ?_
    refine x_icmp_eq (tgt := 29) hC dX11_readSum_17 (by decide) ?_ ?_
    · exact j_X11_readSum_29_4_ok hB hd M12_4 hR
    · refine x_aload_n hC dX11_readSum_20 rfl 0 rfl ?_
      refine r_cV2 (as := []) (rest := []) hB dX11_readSum_21 kv_X11_138 th_257 hq1 rfl rfl (Nat.le_of_ble_eq_true rfl) (fun v M' hv => f_X11_here_met hB.2 (by omega) hv) (fun u21_4 M21_4 => ?_)
      refine x_bipush (v := (45 : Int32)) hC dX11_readSum_24 kb_45 ?_
      refine x_icmp_ne (tgt := 67) hC dX11_readSum_26 (by decide) ?_ ?_
      · exact j_X11_readSum_29_4_ok hB hd M21_4 hR
      · refine x_sub [] rfl ?_
        exact x_done (fun h => h)
noncomputable def j_X11_readSum_67 (M : zM) : Option (zM) :=
  some M
set_option maxRecDepth 100000 in
theorem j_X11_readSum_67_ok {C : zC} {d : Nat} {g : zG} {l : Launch} {w : zW} {r : zM} (hB : bOK C cX11_readSum 2 RX11 d g l w false) (hd : 6 ≤ d) (M : zM) (hR : RtV C cX11_readSum w r) : Sg C w (0, 0) 67 [] [] M (j_X11_readSum_67 M) (fun q => q = r) := by
  have hC := hB.1.1
  have hq1 : 1 ≤ d := by omega
  unfold j_X11_readSum_67
  exact r_retV hR dX11_readSum_67 (fun h => h)
noncomputable def f_X11_readSum (M : zM) : Option (zM) :=
  (f_X11_readPart M).bind fun M1 =>
  (loopW (fun s => b_X11_readSum_4 s) M1).bind (fun r => j_X11_readSum_67 r)
set_option maxRecDepth 100000 in
theorem f_X11_readSum_ok {C : zC} {d : Nat} {g : zG} {l : Launch} {w : zW} {r : zM} (hB : bOK C cX11_readSum 2 RX11 d g l w false) (hd : 6 ≤ d) (M : zM) (hR : RtV C cX11_readSum w r) : Sg C w (0, 0) 0 [(0, zr w 257)] [] M (f_X11_readSum M) (fun q => q = r) := by
  have hC := hB.1.1
  have hq1 : 1 ≤ d := by omega
  unfold f_X11_readSum
  refine x_aload_n hC dX11_readSum_0 rfl 0 rfl ?_
  refine r_cVv (as := []) (rest := []) hB dX11_readSum_1 kv_X11_234 th_257 hq1 rfl rfl (Nat.le_of_ble_eq_true rfl) (fun M' hv => f_X11_readPart_met hB.2 (by omega) hv) (fun M1 => ?_)
  refine x_loopB (pc2 := 67) (fun (s : (zM)) => [(0, zr w 257)]) (fun (s : (zM)) => s) (fun (s : (zM)) => []) (fun (s : (zM)) => s) M1 ?_ ?_
  · exact fun s => b_X11_readSum_4_ok hB hd s hR
  · intro r9
    exact j_X11_readSum_67_ok hB hd r9 hR
theorem f_X11_readSum_met {l : Launch} {d : Nat} {g : zG} {w : zW} {M0 : zM} {M : zM} (hw : wS w) (hd : 6 ≤ d) {M' : zM} (h : f_X11_readSum M = some M') : zMet l yX11_readSum cX11_readSum 2 none d g w (zin false) M0 [zr w 257] M none M' :=
  met_v (by decide +kernel) (Nat.le_of_ble_eq_true rfl) (fun C hB0 hR => f_X11_readSum_ok ⟨hB0, hw⟩ hd M hR _ h rfl)
/-! WindingSquareModel.goesOut(I)V -/
noncomputable def j_X11_goesOut_25 (v1_25 : Int32) (M : zM) : Option (zM) :=
  (f_X11_sets v1_25 (1 : Int32) (0 : Int32) M).bind fun M29 =>
  some M29
set_option maxRecDepth 100000 in
theorem j_X11_goesOut_25_ok {C : zC} {d : Nat} {g : zG} {l : Launch} {w : zW} {r : zM} {v1_25 : Int32} (hB : bOK C cX11_goesOut 2 RX11 d g l w false) (hd : 6 ≤ d) (M : zM) (hR : RtV C cX11_goesOut w r) : Sg C w (0, 0) 25 [(0, zr w 257), (1, .int v1_25)] [] M (j_X11_goesOut_25 v1_25 M) (fun q => q = r) := by
  have hC := hB.1.1
  have hq1 : 1 ≤ d := by omega
  unfold j_X11_goesOut_25
  refine x_aload_n hC dX11_goesOut_25 rfl 0 rfl ?_
  refine x_iload_n hC dX11_goesOut_26 rfl 1 rfl ?_
  refine x_iconst (v := (1 : Int32)) hC dX11_goesOut_27 ki_1 ?_
  refine x_iconst (v := (0 : Int32)) hC dX11_goesOut_28 ki_0 ?_
  refine r_cVv (as := [.int v1_25, .int (1 : Int32), .int (0 : Int32)]) (rest := []) hB dX11_goesOut_29 kv_X11_266 th_257 hq1 rfl rfl (Nat.le_of_ble_eq_true rfl) (fun M' hv => f_X11_sets_met hB.2 (by omega) hv) (fun M29 => ?_)
  exact r_retV hR dX11_goesOut_32 (fun h => h)
noncomputable def f_X11_goesOut (p1 : Int32) (M : zM) : Option (zM) :=
  (f_X11_has p1 (4 : Int32) M).bind fun u3 =>
  (f_X11_has p1 (7 : Int32) M).bind fun u14 =>
  if (irem (u3 + (2 : Int32)) (4 : Int32)) = u14 then (j_X11_goesOut_25 p1 M)
  else ((f_X11_comesOver p1 M).bind fun M22 =>
  j_X11_goesOut_25 p1 M22)
set_option maxRecDepth 100000 in
theorem f_X11_goesOut_ok {C : zC} {d : Nat} {g : zG} {l : Launch} {w : zW} {r : zM} {p1 : Int32} (hB : bOK C cX11_goesOut 2 RX11 d g l w false) (hd : 6 ≤ d) (M : zM) (hR : RtV C cX11_goesOut w r) : Sg C w (0, 0) 0 [(0, zr w 257), (1, .int p1)] [] M (f_X11_goesOut p1 M) (fun q => q = r) := by
  have hC := hB.1.1
  have hq1 : 1 ≤ d := by omega
  unfold f_X11_goesOut
  refine x_aload_n hC dX11_goesOut_0 rfl 0 rfl ?_
  refine x_iload_n hC dX11_goesOut_1 rfl 1 rfl ?_
  refine x_iconst (v := (4 : Int32)) hC dX11_goesOut_2 ki_4 ?_
  refine r_cV1 (as := [.int p1, .int (4 : Int32)]) (rest := []) hB dX11_goesOut_3 kv_X11_104 th_257 hq1 rfl rfl (Nat.le_of_ble_eq_true rfl) (fun v hv => f_X11_has_met hB.2 (by omega) hv) (fun u3 => ?_)
  refine x_iconst (v := (2 : Int32)) hC dX11_goesOut_6 ki_2 ?_
  refine x_iadd hC dX11_goesOut_7 ?_
  refine x_iconst (v := (4 : Int32)) hC dX11_goesOut_8 ki_4 ?_
  refine x_irem0 hC dX11_goesOut_9 nz_4 ?_
  refine x_aload_n hC dX11_goesOut_10 rfl 0 rfl ?_
  refine x_iload_n hC dX11_goesOut_11 rfl 1 rfl ?_
  refine x_bipush (v := (7 : Int32)) hC dX11_goesOut_12 kb_7 ?_
  refine r_cV1 (as := [.int p1, .int (7 : Int32)]) (rest := [.int (irem (u3 + (2 : Int32)) (4 : Int32))]) hB dX11_goesOut_14 kv_X11_104 th_257 hq1 rfl rfl (Nat.le_of_ble_eq_true rfl) (fun v hv => f_X11_has_met hB.2 (by omega) hv) (fun u14 => ?_)
  refine x_icmp_eq (tgt := 25) hC dX11_goesOut_17 (by decide) ?_ ?_
  · exact j_X11_goesOut_25_ok hB hd M hR
  · refine x_aload_n hC dX11_goesOut_20 rfl 0 rfl ?_
    refine x_iload_n hC dX11_goesOut_21 rfl 1 rfl ?_
    refine r_cVv (as := [.int p1]) (rest := []) hB dX11_goesOut_22 kv_X11_282 th_257 hq1 rfl rfl (Nat.le_of_ble_eq_true rfl) (fun M' hv => f_X11_comesOver_met hB.2 (by omega) hv) (fun M22 => ?_)
    exact j_X11_goesOut_25_ok hB hd M22 hR
theorem f_X11_goesOut_met {l : Launch} {d : Nat} {g : zG} {w : zW} {M0 : zM} {p1 : Int32} {M : zM} (hw : wS w) (hd : 6 ≤ d) {M' : zM} (h : f_X11_goesOut p1 M = some M') : zMet l yX11_goesOut cX11_goesOut 2 none d g w (zin false) M0 [zr w 257, .int p1] M none M' :=
  met_v (by decide +kernel) (Nat.le_of_ble_eq_true rfl) (fun C hB0 hR => f_X11_goesOut_ok ⟨hB0, hw⟩ hd M hR _ h rfl)
/-! WindingSquareModel.far(IIII)I -/
noncomputable def j_X11_far_127_67 (v3_67 : Int32) (v4_67 : Int32) (v6_127_67 : Int32) (s0_127_67 : Int32) (M : zM) : Option ((Int32 × Int32) ⊕ (Int32)) :=
  some (.inl (s0_127_67, (v6_127_67 + (1 : Int32))))
set_option maxRecDepth 100000 in
theorem j_X11_far_127_67_ok {C : zC} {d : Nat} {g : zG} {l : Launch} {w : zW} {r : Int32 × zM} {v3_67 : Int32} {v4_67 : Int32} {v6_127_67 : Int32} {s0_127_67 : Int32} (hB : bOK C cX11_far 8 RX11 d g l w false) (hd : 6 ≤ d) (M : zM) (hR : RtI C cX11_far w r.1 r.2) : Sg C w (0, 0) 127 [(0, zr w 257), (3, .int v3_67), (4, .int v4_67), (6, .int v6_127_67)] [.int s0_127_67] M (j_X11_far_127_67 v3_67 v4_67 v6_127_67 s0_127_67 M) (fun o => Sum.elim (fun (s : (Int32 × Int32)) => Zs C w (0, 0) 67 [(0, zr w 257), (3, .int v3_67), (4, .int v4_67), (5, .int s.1), (6, .int s.2)] [] M) (fun (s : (Int32)) => Zs C w (0, 0) 135 [(5, .int s)] [] M) o) := by
  have hC := hB.1.1
  have hq1 : 1 ≤ d := by omega
  unfold j_X11_far_127_67
  refine x_istore (f := 0) hC dX11_far_127 [(5, .int s0_127_67), (0, zr w 257), (3, .int v3_67), (4, .int v4_67), (6, .int v6_127_67)] (by decide) rfl ?_
  refine x_iinc hC dX11_far_129 ki_1 [(6, .int (v6_127_67 + (1 : Int32))), (5, .int s0_127_67), (0, zr w 257), (3, .int v3_67), (4, .int v4_67)] 4 rfl (by decide) rfl ?_
  refine x_goto (tgt := 67) hC dX11_far_132 (by decide) ?_
  refine x_sub [2, 3, 4, 1, 0] rfl ?_
  exact x_done (fun h => h)
noncomputable def j_X11_far_111_67 (v3_67 : Int32) (v4_67 : Int32) (v5_111_67 : Int32) (v6_111_67 : Int32) (s0_111_67 : Int32) (M : zM) : Option ((Int32 × Int32) ⊕ (Int32)) :=
  if v5_111_67 ≤ s0_111_67 then (j_X11_far_127_67 v3_67 v4_67 v6_111_67 v5_111_67 M)
  else (j_X11_far_127_67 v3_67 v4_67 v6_111_67 s0_111_67 M)
set_option maxRecDepth 100000 in
theorem j_X11_far_111_67_ok {C : zC} {d : Nat} {g : zG} {l : Launch} {w : zW} {r : Int32 × zM} {v3_67 : Int32} {v4_67 : Int32} {v5_111_67 : Int32} {v6_111_67 : Int32} {s0_111_67 : Int32} (hB : bOK C cX11_far 8 RX11 d g l w false) (hd : 6 ≤ d) (M : zM) (hR : RtI C cX11_far w r.1 r.2) : Sg C w (0, 0) 111 [(0, zr w 257), (3, .int v3_67), (4, .int v4_67), (5, .int v5_111_67), (6, .int v6_111_67)] [.int s0_111_67] M (j_X11_far_111_67 v3_67 v4_67 v5_111_67 v6_111_67 s0_111_67 M) (fun o => Sum.elim (fun (s : (Int32 × Int32)) => Zs C w (0, 0) 67 [(0, zr w 257), (3, .int v3_67), (4, .int v4_67), (5, .int s.1), (6, .int s.2)] [] M) (fun (s : (Int32)) => Zs C w (0, 0) 135 [(5, .int s)] [] M) o) := by
  have hC := hB.1.1
  have hq1 : 1 ≤ d := by omega
  unfold j_X11_far_111_67
  refine x_istore (f := 0) hC dX11_far_111 [(7, .int s0_111_67), (0, zr w 257), (3, .int v3_67), (4, .int v4_67), (5, .int v5_111_67), (6, .int v6_111_67)] (by decide) rfl ?_
  refine x_iload hC dX11_far_113 0 rfl ?_
  refine x_iload hC dX11_far_115 4 rfl ?_
  refine x_icmp_ge (tgt := 125) hC dX11_far_117 (by decide) ?_ ?_
  · refine x_iload hC dX11_far_125 4 rfl ?_
    refine x_sub [1, 2, 3, 5] rfl ?_
    exact j_X11_far_127_67_ok hB hd M hR
  · refine x_iload hC dX11_far_120 0 rfl ?_
    refine x_goto (tgt := 127) hC dX11_far_122 (by decide) ?_
    refine x_sub [1, 2, 3, 5] rfl ?_
    exact j_X11_far_127_67_ok hB hd M hR
noncomputable def b_X11_far_67 (v3_67 : Int32) (v4_67 : Int32) (v5_67 : Int32) (v6_67 : Int32) (M : zM) : Option ((Int32 × Int32) ⊕ (Int32)) :=
  if (4 : Int32) ≤ v6_67 then (some (.inr v5_67))
  else (if v4_67 = (-1 : Int32) then (grd (inb (((4 : Int32) * v3_67) + v6_67) 576) (
  j_X11_far_111_67 v3_67 v4_67 v5_67 v6_67 (M 268 (ix (((4 : Int32) * v3_67) + v6_67))) M))
  else (grd (inb (((v4_67 * (576 : Int32)) + ((4 : Int32) * v3_67)) + v6_67) 4032) (
  j_X11_far_111_67 v3_67 v4_67 v5_67 v6_67 (M 267 (ix (((v4_67 * (576 : Int32)) + ((4 : Int32) * v3_67)) + v6_67))) M)))
set_option maxRecDepth 100000 in
theorem b_X11_far_67_ok {C : zC} {d : Nat} {g : zG} {l : Launch} {w : zW} {r : Int32 × zM} {v3_67 : Int32} {v4_67 : Int32} {v5_67 : Int32} {v6_67 : Int32} (hB : bOK C cX11_far 8 RX11 d g l w false) (hd : 6 ≤ d) (M : zM) (hR : RtI C cX11_far w r.1 r.2) : Sg C w (0, 0) 67 [(0, zr w 257), (3, .int v3_67), (4, .int v4_67), (5, .int v5_67), (6, .int v6_67)] [] M (b_X11_far_67 v3_67 v4_67 v5_67 v6_67 M) (fun o => Sum.elim (fun (s : (Int32 × Int32)) => Zs C w (0, 0) 67 [(0, zr w 257), (3, .int v3_67), (4, .int v4_67), (5, .int s.1), (6, .int s.2)] [] M) (fun (s : (Int32)) => Zs C w (0, 0) 135 [(5, .int s)] [] M) o) := by
  have hC := hB.1.1
  have hq1 : 1 ≤ d := by omega
  unfold b_X11_far_67
  refine x_iload hC dX11_far_67 4 rfl ?_
  refine x_iconst (v := (4 : Int32)) hC dX11_far_69 ki_4 ?_
  refine x_icmp_ge (tgt := 135) hC dX11_far_70 (by decide) ?_ ?_
  · refine x_sub [3] rfl ?_
    exact x_done (fun h => h)
  · refine x_iload hC dX11_far_73 2 rfl ?_
    refine x_iconst (v := (-1 : Int32)) hC dX11_far_75 ki_m1 ?_
    refine x_icmp_ne (tgt := 93) hC dX11_far_76 (by decide) ?_ ?_
    · refine x_aload_n hC dX11_far_79 rfl 0 rfl ?_
      refine r_getR hB dX11_far_80 kf_X11_44 rfl th_257 rf_257_23 ?_
      refine x_iconst (v := (4 : Int32)) hC dX11_far_83 ki_4 ?_
      refine x_iload_n hC dX11_far_84 rfl 1 rfl ?_
      refine x_imul hC dX11_far_85 ?_
      refine x_iload hC dX11_far_86 4 rfl ?_
      refine x_iadd hC dX11_far_88 ?_
      refine r_iald hB dX11_far_89 th_268 ?_
      refine x_goto (tgt := 111) hC dX11_far_90 (by decide) ?_
      exact j_X11_far_111_67_ok hB hd M hR
    · refine x_aload_n hC dX11_far_93 rfl 0 rfl ?_
      refine r_getR hB dX11_far_94 kf_X11_41 rfl th_257 rf_257_22 ?_
      refine x_iload hC dX11_far_97 2 rfl ?_
      refine x_sipush (v := (576 : Int32)) hC dX11_far_99 kh_576 ?_
      refine x_imul hC dX11_far_102 ?_
      refine x_iconst (v := (4 : Int32)) hC dX11_far_103 ki_4 ?_
      refine x_iload_n hC dX11_far_104 rfl 1 rfl ?_
      refine x_imul hC dX11_far_105 ?_
      refine x_iadd hC dX11_far_106 ?_
      refine x_iload hC dX11_far_107 4 rfl ?_
      refine x_iadd hC dX11_far_109 ?_
      refine r_iald hB dX11_far_110 th_267 ?_
      exact j_X11_far_111_67_ok hB hd M hR
noncomputable def j_X11_far_135 (v5_135 : Int32) (M : zM) : Option (Int32 × zM) :=
  if v5_135 = (9999 : Int32) then (some ((-1 : Int32), M))
  else (some (v5_135, M))
set_option maxRecDepth 100000 in
theorem j_X11_far_135_ok {C : zC} {d : Nat} {g : zG} {l : Launch} {w : zW} {r : Int32 × zM} {v5_135 : Int32} (hB : bOK C cX11_far 8 RX11 d g l w false) (hd : 6 ≤ d) (M : zM) (hR : RtI C cX11_far w r.1 r.2) : Sg C w (0, 0) 135 [(5, .int v5_135)] [] M (j_X11_far_135 v5_135 M) (fun q => q = r) := by
  have hC := hB.1.1
  have hq1 : 1 ≤ d := by omega
  unfold j_X11_far_135
  refine x_iload hC dX11_far_135 0 rfl ?_
  refine x_sipush (v := (9999 : Int32)) hC dX11_far_137 kh_9999 ?_
  refine x_icmp_ne (tgt := 147) hC dX11_far_140 (by decide) ?_ ?_
  · refine x_iconst (v := (-1 : Int32)) hC dX11_far_143 ki_m1 ?_
    refine x_goto (tgt := 149) hC dX11_far_144 (by decide) ?_
    exact r_retI hR dX11_far_149 (fun h => h)
  · refine x_iload hC dX11_far_147 0 rfl ?_
    exact r_retI hR dX11_far_149 (fun h => h)
noncomputable def j_X11_far_59 (v3_59 : Int32) (v4_59 : Int32) (M : zM) : Option (Int32 × zM) :=
  (loopW (fun s => b_X11_far_67 v3_59 v4_59 s.1 s.2 M) ((9999 : Int32), (0 : Int32))).bind (fun r => j_X11_far_135 r M)
set_option maxRecDepth 100000 in
theorem j_X11_far_59_ok {C : zC} {d : Nat} {g : zG} {l : Launch} {w : zW} {r : Int32 × zM} {v3_59 : Int32} {v4_59 : Int32} (hB : bOK C cX11_far 8 RX11 d g l w false) (hd : 6 ≤ d) (M : zM) (hR : RtI C cX11_far w r.1 r.2) : Sg C w (0, 0) 59 [(0, zr w 257), (3, .int v3_59), (4, .int v4_59)] [] M (j_X11_far_59 v3_59 v4_59 M) (fun q => q = r) := by
  have hC := hB.1.1
  have hq1 : 1 ≤ d := by omega
  unfold j_X11_far_59
  refine x_sipush (v := (9999 : Int32)) hC dX11_far_59 kh_9999 ?_
  refine x_istore (f := 0) hC dX11_far_62 [(5, .int (9999 : Int32)), (0, zr w 257), (3, .int v3_59), (4, .int v4_59)] (by decide) rfl ?_
  refine x_iconst (v := (0 : Int32)) hC dX11_far_64 ki_0 ?_
  refine x_istore (f := 0) hC dX11_far_65 [(6, .int (0 : Int32)), (5, .int (9999 : Int32)), (0, zr w 257), (3, .int v3_59), (4, .int v4_59)] (by decide) rfl ?_
  refine x_sub [2, 3, 4, 1, 0] rfl ?_
  refine x_loopB (pc2 := 135) (fun (s : (Int32 × Int32)) => [(0, zr w 257), (3, .int v3_59), (4, .int v4_59), (5, .int s.1), (6, .int s.2)]) (fun (s : (Int32 × Int32)) => M) (fun (s : (Int32)) => [(5, .int s)]) (fun (s : (Int32)) => M) ((9999 : Int32), (0 : Int32)) ?_ ?_
  · exact fun s => b_X11_far_67_ok hB hd M hR
  · intro r9
    exact j_X11_far_135_ok hB hd M hR
noncomputable def f_X11_far (p1 : Int32) (p2 : Int32) (p3 : Int32) (p4 : Int32) (M : zM) : Option (Int32 × zM) :=
  (f_X11_isGround p1 M).bind fun u2 =>
  if u2 = 0 then (some ((-1 : Int32), M))
  else ((f_X11_isGround p3 M).bind fun u10 =>
  if u10 = 0 then (some ((-1 : Int32), M))
  else (if (f_X11_within p2 (0 : Int32) (3 : Int32)) = 0 then (some ((-1 : Int32), M))
  else (if (f_X11_within p4 (-1 : Int32) (6 : Int32)) = 0 then (some ((-1 : Int32), M))
  else (if p4 = (-1 : Int32) then ((f_X11_layFar p1 p2 M).bind fun M47 =>
  j_X11_far_59 p3 p4 M47)
  else ((f_X11_laySteps p1 p2 M).bind fun M56 =>
  j_X11_far_59 p3 p4 M56)))))
set_option maxRecDepth 100000 in
theorem f_X11_far_ok {C : zC} {d : Nat} {g : zG} {l : Launch} {w : zW} {r : Int32 × zM} {p1 : Int32} {p2 : Int32} {p3 : Int32} {p4 : Int32} (hB : bOK C cX11_far 8 RX11 d g l w false) (hd : 6 ≤ d) (M : zM) (hR : RtI C cX11_far w r.1 r.2) : Sg C w (0, 0) 0 [(0, zr w 257), (1, .int p1), (2, .int p2), (3, .int p3), (4, .int p4)] [] M (f_X11_far p1 p2 p3 p4 M) (fun q => q = r) := by
  have hC := hB.1.1
  have hq1 : 1 ≤ d := by omega
  unfold f_X11_far
  refine x_aload_n hC dX11_far_0 rfl 0 rfl ?_
  refine x_iload_n hC dX11_far_1 rfl 1 rfl ?_
  refine r_cV1 (as := [.int p1]) (rest := []) hB dX11_far_2 kv_X11_340 th_257 hq1 rfl rfl (Nat.le_of_ble_eq_true rfl) (fun v hv => f_X11_isGround_met hB.2 (by omega) hv) (fun u2 => ?_)
  refine x_if_eq (tgt := 36) hC dX11_far_5 (by decide) ?_ ?_
  · refine x_iconst (v := (-1 : Int32)) hC dX11_far_36 ki_m1 ?_
    exact r_retI hR dX11_far_37 (fun h => h)
  · refine x_aload_n hC dX11_far_8 rfl 0 rfl ?_
    refine x_iload_n hC dX11_far_9 rfl 3 rfl ?_
    refine r_cV1 (as := [.int p3]) (rest := []) hB dX11_far_10 kv_X11_340 th_257 hq1 rfl rfl (Nat.le_of_ble_eq_true rfl) (fun v hv => f_X11_isGround_met hB.2 (by omega) hv) (fun u10 => ?_)
    refine x_if_eq (tgt := 36) hC dX11_far_13 (by decide) ?_ ?_
    · refine x_iconst (v := (-1 : Int32)) hC dX11_far_36 ki_m1 ?_
      exact r_retI hR dX11_far_37 (fun h => h)
    · refine x_iload_n hC dX11_far_16 rfl 2 rfl ?_
      refine x_iconst (v := (0 : Int32)) hC dX11_far_17 ki_0 ?_
      refine x_iconst (v := (3 : Int32)) hC dX11_far_18 ki_3 ?_
      refine r_cS0 (as := [.int p2, .int (0 : Int32), .int (3 : Int32)]) (rest := []) hB dX11_far_19 ks_X11_100 hq1 rfl rfl (Nat.le_of_ble_eq_true rfl) (f_X11_within_met hB.2 (by omega)) ?_
      refine x_if_eq (tgt := 36) hC dX11_far_22 (by decide) ?_ ?_
      · refine x_iconst (v := (-1 : Int32)) hC dX11_far_36 ki_m1 ?_
        exact r_retI hR dX11_far_37 (fun h => h)
      · refine x_iload hC dX11_far_25 4 rfl ?_
        refine x_iconst (v := (-1 : Int32)) hC dX11_far_27 ki_m1 ?_
        refine x_bipush (v := (6 : Int32)) hC dX11_far_28 kb_6 ?_
        refine r_cS0 (as := [.int p4, .int (-1 : Int32), .int (6 : Int32)]) (rest := []) hB dX11_far_30 ks_X11_100 hq1 rfl rfl (Nat.le_of_ble_eq_true rfl) (f_X11_within_met hB.2 (by omega)) ?_
        refine x_if_ne (tgt := 38) hC dX11_far_33 (by decide) ?_ ?_
        · refine x_iconst (v := (-1 : Int32)) hC dX11_far_36 ki_m1 ?_
          exact r_retI hR dX11_far_37 (fun h => h)
        · refine x_iload hC dX11_far_38 4 rfl ?_
          refine x_iconst (v := (-1 : Int32)) hC dX11_far_40 ki_m1 ?_
          refine x_icmp_ne (tgt := 53) hC dX11_far_41 (by decide) ?_ ?_
          · refine x_aload_n hC dX11_far_44 rfl 0 rfl ?_
            refine x_iload_n hC dX11_far_45 rfl 1 rfl ?_
            refine x_iload_n hC dX11_far_46 rfl 2 rfl ?_
            refine r_cVv (as := [.int p1, .int p2]) (rest := []) hB dX11_far_47 kv_X11_343 th_257 hq1 rfl rfl (Nat.le_of_ble_eq_true rfl) (fun M' hv => f_X11_layFar_met hB.2 (by omega) hv) (fun M47 => ?_)
            refine x_goto (tgt := 59) hC dX11_far_50 (by decide) ?_
            refine x_sub [0, 3, 4] rfl ?_
            exact j_X11_far_59_ok hB hd M47 hR
          · refine x_aload_n hC dX11_far_53 rfl 0 rfl ?_
            refine x_iload_n hC dX11_far_54 rfl 1 rfl ?_
            refine x_iload_n hC dX11_far_55 rfl 2 rfl ?_
            refine r_cVv (as := [.int p1, .int p2]) (rest := []) hB dX11_far_56 kv_X11_346 th_257 hq1 rfl rfl (Nat.le_of_ble_eq_true rfl) (fun M' hv => f_X11_laySteps_met hB.2 (by omega) hv) (fun M56 => ?_)
            refine x_sub [0, 3, 4] rfl ?_
            exact j_X11_far_59_ok hB hd M56 hR
theorem f_X11_far_met {l : Launch} {d : Nat} {g : zG} {w : zW} {M0 : zM} {p1 : Int32} {p2 : Int32} {p3 : Int32} {p4 : Int32} {M : zM} (hw : wS w) (hd : 6 ≤ d) {v : Int32} {M' : zM} (h : f_X11_far p1 p2 p3 p4 M = some (v, M')) : zMet l yX11_far cX11_far 8 (some .int) d g w (zin false) M0 [zr w 257, .int p1, .int p2, .int p3, .int p4] M (some (.int v)) M' :=
  met_i (by decide +kernel) (Nat.le_of_ble_eq_true rfl) rfl (fun C hB0 hR => f_X11_far_ok (r := (v, M')) ⟨hB0, hw⟩ hd M hR _ h rfl)
/-! WindingSquare$Day.pass()V -/
noncomputable def j_X1_pass_33_2 (v1_33_2 : Int32) (M : zM) : Option ((Int32 × zM) ⊕ (zM)) :=
  some (.inl ((v1_33_2 + (1 : Int32)), M))
set_option maxRecDepth 100000 in
theorem j_X1_pass_33_2_ok {C : zC} {d : Nat} {g : zG} {l : Launch} {w : zW} {r : zM} {v1_33_2 : Int32} (hB : bOK C cX1_pass 2 RX1 d g l w true) (hd : 7 ≤ d) (M : zM) (hR : RtV C cX1_pass w r) : Sg C w (0, 0) 33 [(0, zr w 83), (1, .int v1_33_2)] [] M (j_X1_pass_33_2 v1_33_2 M) (fun o => Sum.elim (fun (s : (Int32 × zM)) => Zs C w (0, 0) 2 [(0, zr w 83), (1, .int s.1)] [] s.2) (fun (s : (zM)) => Zs C w (0, 0) 39 [(0, zr w 83)] [] s) o) := by
  have hC := hB.1.1
  have hq1 : 1 ≤ d := by omega
  unfold j_X1_pass_33_2
  refine x_iinc hC dX1_pass_33 ki_1 [(1, .int (v1_33_2 + (1 : Int32))), (0, zr w 83)] 1 rfl (by decide) rfl ?_
  refine x_goto (tgt := 2) hC dX1_pass_36 (by decide) ?_
  refine x_sub [1, 0] rfl ?_
  exact x_done (fun h => h)
noncomputable def b_X1_pass_2 (v1_2 : Int32) (M : zM) : Option ((Int32 × zM) ⊕ (zM)) :=
  if (M 1 2) ≤ v1_2 then (some (.inr M))
  else (grd (inb v1_2 16) (
  if (M (1 + 3 + ix v1_2) 1) = 0 then (j_X1_pass_33_2 v1_2 M)
  else ((f_X1_act v1_2 M).bind fun M30_2 =>
  j_X1_pass_33_2 v1_2 M30_2)))
set_option maxRecDepth 100000 in
theorem b_X1_pass_2_ok {C : zC} {d : Nat} {g : zG} {l : Launch} {w : zW} {r : zM} {v1_2 : Int32} (hB : bOK C cX1_pass 2 RX1 d g l w true) (hd : 7 ≤ d) (M : zM) (hR : RtV C cX1_pass w r) : Sg C w (0, 0) 2 [(0, zr w 83), (1, .int v1_2)] [] M (b_X1_pass_2 v1_2 M) (fun o => Sum.elim (fun (s : (Int32 × zM)) => Zs C w (0, 0) 2 [(0, zr w 83), (1, .int s.1)] [] s.2) (fun (s : (zM)) => Zs C w (0, 0) 39 [(0, zr w 83)] [] s) o) := by
  have hC := hB.1.1
  have hq1 : 1 ≤ d := by omega
  unfold b_X1_pass_2
  refine x_iload_n hC dX1_pass_2 rfl 1 rfl ?_
  refine x_aload_n hC dX1_pass_3 rfl 0 rfl ?_
  refine r_getR hB dX1_pass_4 kf_X1_25 rfl th_83 rf_83_2 ?_
  refine r_getI hB dX1_pass_7 kf_X1_37 rfl th_1 ?_
  refine x_icmp_ge (tgt := 39) hC dX1_pass_10 (by decide) ?_ ?_
  · refine x_sub [0] rfl ?_
    exact x_done (fun h => h)
  · refine x_aload_n hC dX1_pass_13 rfl 0 rfl ?_
    refine r_getR hB dX1_pass_14 kf_X1_25 rfl th_83 rf_83_2 ?_
    refine r_getR hB dX1_pass_17 kf_X1_43 rfl th_1 rf_1_0 ?_
    refine x_iload_n hC dX1_pass_20 rfl 1 rfl ?_
    refine r_aaW (a := 1) hB dX1_pass_21 th_1 (fun hg21 => ?_)
    refine r_getI hB dX1_pass_22 kf_X1_47 rfl (nv_wk th_1 hg21).2 ?_
    refine x_if_eq (tgt := 33) hC dX1_pass_25 (by decide) ?_ ?_
    · exact j_X1_pass_33_2_ok hB hd M hR
    · refine x_aload_n hC dX1_pass_28 rfl 0 rfl ?_
      refine x_iload_n hC dX1_pass_29 rfl 1 rfl ?_
      refine r_cVv (as := [.int v1_2]) (rest := []) hB dX1_pass_30 kv_X1_51 th_83 hq1 rfl rfl (Nat.le_of_ble_eq_true rfl) (fun M' hv => f_X1_act_met hB.2 (by omega) hv) (fun M30_2 => ?_)
      exact j_X1_pass_33_2_ok hB hd M30_2 hR
noncomputable def j_X1_pass_39 (M : zM) : Option (zM) :=
  nm (mset M 1 3 ((M 1 3) + (1 : Int32))) fun M49 =>
  some M49
set_option maxRecDepth 100000 in
theorem j_X1_pass_39_ok {C : zC} {d : Nat} {g : zG} {l : Launch} {w : zW} {r : zM} (hB : bOK C cX1_pass 2 RX1 d g l w true) (hd : 7 ≤ d) (M : zM) (hR : RtV C cX1_pass w r) : Sg C w (0, 0) 39 [(0, zr w 83)] [] M (j_X1_pass_39 M) (fun q => q = r) := by
  have hC := hB.1.1
  have hq1 : 1 ≤ d := by omega
  unfold j_X1_pass_39
  refine x_aload_n hC dX1_pass_39 rfl 0 rfl ?_
  refine r_getR hB dX1_pass_40 kf_X1_25 rfl th_83 rf_83_2 ?_
  refine x_dup hC dX1_pass_43 rfl ?_
  refine r_getI hB dX1_pass_44 kf_X1_55 rfl th_1 ?_
  refine x_iconst (v := (1 : Int32)) hC dX1_pass_47 ki_1 ?_
  refine x_iadd hC dX1_pass_48 ?_
  refine r_putI hB dX1_pass_49 kf_X1_55 rfl th_1 ?_
  refine x_mem (fun M49 => ?_)
  exact r_retV hR dX1_pass_52 (fun h => h)
noncomputable def f_X1_pass (M : zM) : Option (zM) :=
  (loopW (fun s => b_X1_pass_2 s.1 s.2) ((0 : Int32), M)).bind (fun r => j_X1_pass_39 r)
set_option maxRecDepth 100000 in
theorem f_X1_pass_ok {C : zC} {d : Nat} {g : zG} {l : Launch} {w : zW} {r : zM} (hB : bOK C cX1_pass 2 RX1 d g l w true) (hd : 7 ≤ d) (M : zM) (hR : RtV C cX1_pass w r) : Sg C w (0, 0) 0 [(0, zr w 83)] [] M (f_X1_pass M) (fun q => q = r) := by
  have hC := hB.1.1
  have hq1 : 1 ≤ d := by omega
  unfold f_X1_pass
  refine x_iconst (v := (0 : Int32)) hC dX1_pass_0 ki_0 ?_
  refine x_istore_n hC dX1_pass_1 rfl [(1, .int (0 : Int32)), (0, zr w 83)] (by decide) rfl ?_
  refine x_sub [1, 0] rfl ?_
  refine x_loopB (pc2 := 39) (fun (s : (Int32 × zM)) => [(0, zr w 83), (1, .int s.1)]) (fun (s : (Int32 × zM)) => s.2) (fun (s : (zM)) => [(0, zr w 83)]) (fun (s : (zM)) => s) ((0 : Int32), M) ?_ ?_
  · exact fun s => b_X1_pass_2_ok hB hd s.2 hR
  · intro r9
    exact j_X1_pass_39_ok hB hd r9 hR
theorem f_X1_pass_met {l : Launch} {d : Nat} {g : zG} {w : zW} {M0 : zM} {M : zM} (hw : wS w) (hd : 7 ≤ d) {M' : zM} (h : f_X1_pass M = some M') : zMet l yX1_pass cX1_pass 2 none d g w (zin true) M0 [zr w 83] M none M' :=
  met_v (by decide +kernel) (Nat.le_of_ble_eq_true rfl) (fun C hB0 hR => f_X1_pass_ok ⟨hB0, hw⟩ hd M hR _ h rfl)
/-! WindingSquareModel.readTwo()V -/
noncomputable def j_X11_readTwo_100 (s1_100 : Int32) (M : zM) : Option (zM) :=
  (f_X11_codes s1_100 (0 : Int32) M).bind fun M101 =>
  some M101
set_option maxRecDepth 100000 in
theorem j_X11_readTwo_100_ok {C : zC} {d : Nat} {g : zG} {l : Launch} {w : zW} {r : zM} {s1_100 : Int32} (hB : bOK C cX11_readTwo 2 RX11 d g l w false) (hd : 7 ≤ d) (M : zM) (hR : RtV C cX11_readTwo w r) : Sg C w (0, 0) 100 [] [.int s1_100, zr w 257] M (j_X11_readTwo_100 s1_100 M) (fun q => q = r) := by
  have hC := hB.1.1
  have hq1 : 1 ≤ d := by omega
  unfold j_X11_readTwo_100
  refine x_iconst (v := (0 : Int32)) hC dX11_readTwo_100 ki_0 ?_
  refine r_cVv (as := [.int s1_100, .int (0 : Int32)]) (rest := []) hB dX11_readTwo_101 kv_X11_217 th_257 hq1 rfl rfl (Nat.le_of_ble_eq_true rfl) (fun M' hv => f_X11_codes_met hB.2 (by omega) hv) (fun M101 => ?_)
  exact r_retV hR dX11_readTwo_104 (fun h => h)
noncomputable def j_X11_readTwo_71 (v1_71 : Int32) (M : zM) : Option (zM) :=
  (f_X11_readSum M).bind fun M72 =>
  if v1_71 = (60 : Int32) then (j_X11_readTwo_100 (6 : Int32) M72)
  else (if v1_71 = (61 : Int32) then (j_X11_readTwo_100 (7 : Int32) M72)
  else (j_X11_readTwo_100 (8 : Int32) M72))
set_option maxRecDepth 100000 in
theorem j_X11_readTwo_71_ok {C : zC} {d : Nat} {g : zG} {l : Launch} {w : zW} {r : zM} {v1_71 : Int32} (hB : bOK C cX11_readTwo 2 RX11 d g l w false) (hd : 7 ≤ d) (M : zM) (hR : RtV C cX11_readTwo w r) : Sg C w (0, 0) 71 [(0, zr w 257), (1, .int v1_71)] [] M (j_X11_readTwo_71 v1_71 M) (fun q => q = r) := by
  have hC := hB.1.1
  have hq1 : 1 ≤ d := by omega
  unfold j_X11_readTwo_71
  refine x_aload_n hC dX11_readTwo_71 rfl 0 rfl ?_
  refine r_cVv (as := []) (rest := []) hB dX11_readTwo_72 kv_X11_208 th_257 hq1 rfl rfl (Nat.le_of_ble_eq_true rfl) (fun M' hv => f_X11_readSum_met hB.2 (by omega) hv) (fun M72 => ?_)
  refine x_aload_n hC dX11_readTwo_75 rfl 0 rfl ?_
  refine x_iload_n hC dX11_readTwo_76 rfl 1 rfl ?_
  refine x_bipush (v := (60 : Int32)) hC dX11_readTwo_77 kb_60 ?_
  refine x_icmp_ne (tgt := 87) hC dX11_readTwo_79 (by decide) ?_ ?_
  · refine x_bipush (v := (6 : Int32)) hC dX11_readTwo_82 kb_6 ?_
    refine x_goto (tgt := 100) hC dX11_readTwo_84 (by decide) ?_
    refine x_sub [] rfl ?_
    exact j_X11_readTwo_100_ok hB hd M72 hR
  · refine x_iload_n hC dX11_readTwo_87 rfl 1 rfl ?_
    refine x_bipush (v := (61 : Int32)) hC dX11_readTwo_88 kb_61 ?_
    refine x_icmp_ne (tgt := 98) hC dX11_readTwo_90 (by decide) ?_ ?_
    · refine x_bipush (v := (7 : Int32)) hC dX11_readTwo_93 kb_7 ?_
      refine x_goto (tgt := 100) hC dX11_readTwo_95 (by decide) ?_
      refine x_sub [] rfl ?_
      exact j_X11_readTwo_100_ok hB hd M72 hR
    · refine x_bipush (v := (8 : Int32)) hC dX11_readTwo_98 kb_8 ?_
      refine x_sub [] rfl ?_
      exact j_X11_readTwo_100_ok hB hd M72 hR
noncomputable def j_X11_readTwo_54 (v1_54 : Int32) (M : zM) : Option (zM) :=
  if (f_X11_fine M) = 0 then (j_X11_readTwo_71 v1_54 M)
  else (nm (mset M 257 9 ((M 257 9) + (1 : Int32))) fun M68 =>
  j_X11_readTwo_71 v1_54 M68)
set_option maxRecDepth 100000 in
theorem j_X11_readTwo_54_ok {C : zC} {d : Nat} {g : zG} {l : Launch} {w : zW} {r : zM} {v1_54 : Int32} (hB : bOK C cX11_readTwo 2 RX11 d g l w false) (hd : 7 ≤ d) (M : zM) (hR : RtV C cX11_readTwo w r) : Sg C w (0, 0) 54 [(0, zr w 257), (1, .int v1_54)] [] M (j_X11_readTwo_54 v1_54 M) (fun q => q = r) := by
  have hC := hB.1.1
  have hq1 : 1 ≤ d := by omega
  unfold j_X11_readTwo_54
  refine x_aload_n hC dX11_readTwo_54 rfl 0 rfl ?_
  refine r_cV0 (as := []) (rest := []) hB dX11_readTwo_55 kv_X11_149 th_257 hq1 rfl rfl (Nat.le_of_ble_eq_true rfl) (f_X11_fine_met hB.2 (by omega)) ?_
  refine x_if_eq (tgt := 71) hC dX11_readTwo_58 (by decide) ?_ ?_
  · exact j_X11_readTwo_71_ok hB hd M hR
  · refine x_aload_n hC dX11_readTwo_61 rfl 0 rfl ?_
    refine x_dup hC dX11_readTwo_62 rfl ?_
    refine r_getI hB dX11_readTwo_63 kf_X11_132 rfl th_257 ?_
    refine x_iconst (v := (1 : Int32)) hC dX11_readTwo_66 ki_1 ?_
    refine x_iadd hC dX11_readTwo_67 ?_
    refine r_putI hB dX11_readTwo_68 kf_X11_132 rfl th_257 ?_
    refine x_mem (fun M68 => ?_)
    exact j_X11_readTwo_71_ok hB hd M68 hR
noncomputable def j_X11_readTwo_19 (s0_19 : Int32) (M : zM) : Option (zM) :=
  if (f_X11_fine M) = 0 then (j_X11_readTwo_54 s0_19 M)
  else (if s0_19 = (60 : Int32) then (j_X11_readTwo_54 s0_19 M)
  else (if s0_19 = (61 : Int32) then (j_X11_readTwo_54 s0_19 M)
  else (if s0_19 = (62 : Int32) then (j_X11_readTwo_54 s0_19 M)
  else ((f_X11_wrong (1 : Int32) (M 257 9) M).bind fun M51 =>
  j_X11_readTwo_54 s0_19 M51))))
set_option maxRecDepth 100000 in
theorem j_X11_readTwo_19_ok {C : zC} {d : Nat} {g : zG} {l : Launch} {w : zW} {r : zM} {s0_19 : Int32} (hB : bOK C cX11_readTwo 2 RX11 d g l w false) (hd : 7 ≤ d) (M : zM) (hR : RtV C cX11_readTwo w r) : Sg C w (0, 0) 19 [(0, zr w 257)] [.int s0_19] M (j_X11_readTwo_19 s0_19 M) (fun q => q = r) := by
  have hC := hB.1.1
  have hq1 : 1 ≤ d := by omega
  unfold j_X11_readTwo_19
  refine x_istore_n hC dX11_readTwo_19 rfl [(1, .int s0_19), (0, zr w 257)] (by decide) rfl ?_
  refine x_aload_n hC dX11_readTwo_20 rfl 1 rfl ?_
  refine r_cV0 (as := []) (rest := []) hB dX11_readTwo_21 kv_X11_149 th_257 hq1 rfl rfl (Nat.le_of_ble_eq_true rfl) (f_X11_fine_met hB.2 (by omega)) ?_
  refine x_if_eq (tgt := 54) hC dX11_readTwo_24 (by decide) ?_ ?_
  · refine x_sub [1, 0] rfl ?_
    exact j_X11_readTwo_54_ok hB hd M hR
  · refine x_iload_n hC dX11_readTwo_27 rfl 0 rfl ?_
    refine x_bipush (v := (60 : Int32)) hC dX11_readTwo_28 kb_60 ?_
    refine x_icmp_eq (tgt := 54) hC dX11_readTwo_30 (by decide) ?_ ?_
    · refine x_sub [1, 0] rfl ?_
      exact j_X11_readTwo_54_ok hB hd M hR
    · refine x_iload_n hC dX11_readTwo_33 rfl 0 rfl ?_
      refine x_bipush (v := (61 : Int32)) hC dX11_readTwo_34 kb_61 ?_
      refine x_icmp_eq (tgt := 54) hC dX11_readTwo_36 (by decide) ?_ ?_
      · refine x_sub [1, 0] rfl ?_
        exact j_X11_readTwo_54_ok hB hd M hR
      · refine x_iload_n hC dX11_readTwo_39 rfl 0 rfl ?_
        refine x_bipush (v := (62 : Int32)) hC dX11_readTwo_40 kb_62 ?_
        refine x_icmp_eq (tgt := 54) hC dX11_readTwo_42 (by decide) ?_ ?_
        · refine x_sub [1, 0] rfl ?_
          exact j_X11_readTwo_54_ok hB hd M hR
        · refine x_aload_n hC dX11_readTwo_45 rfl 1 rfl ?_
          refine x_iconst (v := (1 : Int32)) hC dX11_readTwo_46 ki_1 ?_
          refine x_aload_n hC dX11_readTwo_47 rfl 1 rfl ?_
          refine r_getI hB dX11_readTwo_48 kf_X11_132 rfl th_257 ?_
          refine r_cVv (as := [.int (1 : Int32), .int (M 257 9)]) (rest := []) hB dX11_readTwo_51 kv_X11_156 th_257 hq1 rfl rfl (Nat.le_of_ble_eq_true rfl) (fun M' hv => f_X11_wrong_met hB.2 (by omega) hv) (fun M51 => ?_)
          refine x_sub [1, 0] rfl ?_
          exact j_X11_readTwo_54_ok hB hd M51 hR
noncomputable def f_X11_readTwo (M : zM) : Option (zM) :=
  (f_X11_readSum M).bind fun M1 =>
  if (f_X11_fine M1) = 0 then (j_X11_readTwo_19 (0 : Int32) M1)
  else (bnd2 (f_X11_here M1) fun u12 M12 =>
  j_X11_readTwo_19 u12 M12)
set_option maxRecDepth 100000 in
theorem f_X11_readTwo_ok {C : zC} {d : Nat} {g : zG} {l : Launch} {w : zW} {r : zM} (hB : bOK C cX11_readTwo 2 RX11 d g l w false) (hd : 7 ≤ d) (M : zM) (hR : RtV C cX11_readTwo w r) : Sg C w (0, 0) 0 [(0, zr w 257)] [] M (f_X11_readTwo M) (fun q => q = r) := by
  have hC := hB.1.1
  have hq1 : 1 ≤ d := by omega
  unfold f_X11_readTwo
  refine x_aload_n hC dX11_readTwo_0 rfl 0 rfl ?_
  refine r_cVv (as := []) (rest := []) hB dX11_readTwo_1 kv_X11_208 th_257 hq1 rfl rfl (Nat.le_of_ble_eq_true rfl) (fun M' hv => f_X11_readSum_met hB.2 (by omega) hv) (fun M1 => ?_)
  refine x_aload_n hC dX11_readTwo_4 rfl 0 rfl ?_
  refine r_cV0 (as := []) (rest := []) hB dX11_readTwo_5 kv_X11_149 th_257 hq1 rfl rfl (Nat.le_of_ble_eq_true rfl) (f_X11_fine_met hB.2 (by omega)) ?_
  refine x_if_eq (tgt := 18) hC dX11_readTwo_8 (by decide) ?_ ?_
  · refine x_iconst (v := (0 : Int32)) hC dX11_readTwo_18 ki_0 ?_
    exact j_X11_readTwo_19_ok hB hd M1 hR
  · refine x_aload_n hC dX11_readTwo_11 rfl 0 rfl ?_
    refine r_cV2 (as := []) (rest := []) hB dX11_readTwo_12 kv_X11_138 th_257 hq1 rfl rfl (Nat.le_of_ble_eq_true rfl) (fun v M' hv => f_X11_here_met hB.2 (by omega) hv) (fun u12 M12 => ?_)
    refine x_goto (tgt := 19) hC dX11_readTwo_15 (by decide) ?_
    exact j_X11_readTwo_19_ok hB hd M12 hR
theorem f_X11_readTwo_met {l : Launch} {d : Nat} {g : zG} {w : zW} {M0 : zM} {M : zM} (hw : wS w) (hd : 7 ≤ d) {M' : zM} (h : f_X11_readTwo M = some M') : zMet l yX11_readTwo cX11_readTwo 2 none d g w (zin false) M0 [zr w 257] M none M' :=
  met_v (by decide +kernel) (Nat.le_of_ble_eq_true rfl) (fun C hB0 hR => f_X11_readTwo_ok ⟨hB0, hw⟩ hd M hR _ h rfl)
/-! WindingSquareModel.goesOn(I)V -/
noncomputable def j_X11_goesOn_178_4 (v1_4 : Int32) (v2_178_4 : Int32) (v3_178_4 : Int32) (M : zM) : Option ((Int32 × Int32 × zM) ⊕ (zM)) :=
  some (.inl (v2_178_4, (v3_178_4 + (1 : Int32)), M))
set_option maxRecDepth 100000 in
theorem j_X11_goesOn_178_4_ok {C : zC} {d : Nat} {g : zG} {l : Launch} {w : zW} {r : zM} {v1_4 : Int32} {v2_178_4 : Int32} {v3_178_4 : Int32} (hB : bOK C cX11_goesOn 6 RX11 d g l w false) (hd : 7 ≤ d) (M : zM) (hR : RtV C cX11_goesOn w r) : Sg C w (0, 0) 178 [(0, zr w 257), (1, .int v1_4), (2, .int v2_178_4), (3, .int v3_178_4)] [] M (j_X11_goesOn_178_4 v1_4 v2_178_4 v3_178_4 M) (fun o => Sum.elim (fun (s : (Int32 × Int32 × zM)) => Zs C w (0, 0) 4 [(0, zr w 257), (1, .int v1_4), (2, .int s.1), (3, .int s.2.1)] [] s.2.2) (fun (s : (zM)) => Zs C w (0, 0) 184 [] [] s) o) := by
  have hC := hB.1.1
  have hq1 : 1 ≤ d := by omega
  unfold j_X11_goesOn_178_4
  refine x_iinc hC dX11_goesOn_178 ki_1 [(3, .int (v3_178_4 + (1 : Int32))), (0, zr w 257), (1, .int v1_4), (2, .int v2_178_4)] 3 rfl (by decide) rfl ?_
  refine x_goto (tgt := 4) hC dX11_goesOn_181 (by decide) ?_
  refine x_sub [1, 2, 3, 0] rfl ?_
  exact x_done (fun h => h)
noncomputable def j_X11_goesOn_152_4 (v1_4 : Int32) (v2_152_4 : Int32) (v3_152_4 : Int32) (M : zM) : Option ((Int32 × Int32 × zM) ⊕ (zM)) :=
  if v2_152_4 = 0 then (j_X11_goesOn_178_4 v1_4 v2_152_4 v3_152_4 M)
  else ((f_X11_adds v1_4 (11 : Int32) (1 : Int32) M).bind fun M164_4 =>
  (f_X11_standsAt v1_4 M164_4).bind fun u172_4 =>
  (f_X11_writes (2 : Int32) v1_4 u172_4 M164_4).bind fun M175_4 =>
  j_X11_goesOn_178_4 v1_4 v2_152_4 v3_152_4 M175_4)
set_option maxRecDepth 100000 in
theorem j_X11_goesOn_152_4_ok {C : zC} {d : Nat} {g : zG} {l : Launch} {w : zW} {r : zM} {v1_4 : Int32} {v2_152_4 : Int32} {v3_152_4 : Int32} (hB : bOK C cX11_goesOn 6 RX11 d g l w false) (hd : 7 ≤ d) (M : zM) (hR : RtV C cX11_goesOn w r) : Sg C w (0, 0) 152 [(0, zr w 257), (1, .int v1_4), (2, .int v2_152_4), (3, .int v3_152_4)] [] M (j_X11_goesOn_152_4 v1_4 v2_152_4 v3_152_4 M) (fun o => Sum.elim (fun (s : (Int32 × Int32 × zM)) => Zs C w (0, 0) 4 [(0, zr w 257), (1, .int v1_4), (2, .int s.1), (3, .int s.2.1)] [] s.2.2) (fun (s : (zM)) => Zs C w (0, 0) 184 [] [] s) o) := by
  have hC := hB.1.1
  have hq1 : 1 ≤ d := by omega
  unfold j_X11_goesOn_152_4
  refine x_iload_n hC dX11_goesOn_152 rfl 2 rfl ?_
  refine x_if_ne (tgt := 159) hC dX11_goesOn_153 (by decide) ?_ ?_
  · refine x_goto (tgt := 178) hC dX11_goesOn_156 (by decide) ?_
    exact j_X11_goesOn_178_4_ok hB hd M hR
  · refine x_aload_n hC dX11_goesOn_159 rfl 0 rfl ?_
    refine x_iload_n hC dX11_goesOn_160 rfl 1 rfl ?_
    refine x_bipush (v := (11 : Int32)) hC dX11_goesOn_161 kb_11 ?_
    refine x_iconst (v := (1 : Int32)) hC dX11_goesOn_163 ki_1 ?_
    refine r_cVv (as := [.int v1_4, .int (11 : Int32), .int (1 : Int32)]) (rest := []) hB dX11_goesOn_164 kv_X11_270 th_257 hq1 rfl rfl (Nat.le_of_ble_eq_true rfl) (fun M' hv => f_X11_adds_met hB.2 (by omega) hv) (fun M164_4 => ?_)
    refine x_aload_n hC dX11_goesOn_167 rfl 0 rfl ?_
    refine x_iconst (v := (2 : Int32)) hC dX11_goesOn_168 ki_2 ?_
    refine x_iload_n hC dX11_goesOn_169 rfl 1 rfl ?_
    refine x_aload_n hC dX11_goesOn_170 rfl 0 rfl ?_
    refine x_iload_n hC dX11_goesOn_171 rfl 1 rfl ?_
    refine r_cV1 (as := [.int v1_4]) (rest := [.int v1_4, .int (2 : Int32), zr w 257]) hB dX11_goesOn_172 kv_X11_111 th_257 hq1 rfl rfl (Nat.le_of_ble_eq_true rfl) (fun v hv => f_X11_standsAt_met hB.2 (by omega) hv) (fun u172_4 => ?_)
    refine r_cVv (as := [.int (2 : Int32), .int v1_4, .int u172_4]) (rest := []) hB dX11_goesOn_175 kv_X11_273 th_257 hq1 rfl rfl (Nat.le_of_ble_eq_true rfl) (fun M' hv => f_X11_writes_met hB.2 (by omega) hv) (fun M175_4 => ?_)
    exact j_X11_goesOn_178_4_ok hB hd M175_4 hR
noncomputable def j_X11_goesOn_151_4 (v1_4 : Int32) (v3_151_4 : Int32) (s0_151_4 : Int32) (M : zM) : Option ((Int32 × Int32 × zM) ⊕ (zM)) :=
  j_X11_goesOn_152_4 v1_4 s0_151_4 v3_151_4 M
set_option maxRecDepth 100000 in
theorem j_X11_goesOn_151_4_ok {C : zC} {d : Nat} {g : zG} {l : Launch} {w : zW} {r : zM} {v1_4 : Int32} {v3_151_4 : Int32} {s0_151_4 : Int32} (hB : bOK C cX11_goesOn 6 RX11 d g l w false) (hd : 7 ≤ d) (M : zM) (hR : RtV C cX11_goesOn w r) : Sg C w (0, 0) 151 [(0, zr w 257), (1, .int v1_4), (3, .int v3_151_4)] [.int s0_151_4] M (j_X11_goesOn_151_4 v1_4 v3_151_4 s0_151_4 M) (fun o => Sum.elim (fun (s : (Int32 × Int32 × zM)) => Zs C w (0, 0) 4 [(0, zr w 257), (1, .int v1_4), (2, .int s.1), (3, .int s.2.1)] [] s.2.2) (fun (s : (zM)) => Zs C w (0, 0) 184 [] [] s) o) := by
  have hC := hB.1.1
  have hq1 : 1 ≤ d := by omega
  unfold j_X11_goesOn_151_4
  refine x_istore_n hC dX11_goesOn_151 rfl [(2, .int s0_151_4), (0, zr w 257), (1, .int v1_4), (3, .int v3_151_4)] (by decide) rfl ?_
  refine x_sub [1, 2, 0, 3] rfl ?_
  exact j_X11_goesOn_152_4_ok hB hd M hR
noncomputable def j_X11_goesOn_150_4 (v1_4 : Int32) (v3_150_4 : Int32) (M : zM) : Option ((Int32 × Int32 × zM) ⊕ (zM)) :=
  j_X11_goesOn_151_4 v1_4 v3_150_4 (0 : Int32) M
set_option maxRecDepth 100000 in
theorem j_X11_goesOn_150_4_ok {C : zC} {d : Nat} {g : zG} {l : Launch} {w : zW} {r : zM} {v1_4 : Int32} {v3_150_4 : Int32} (hB : bOK C cX11_goesOn 6 RX11 d g l w false) (hd : 7 ≤ d) (M : zM) (hR : RtV C cX11_goesOn w r) : Sg C w (0, 0) 150 [(0, zr w 257), (1, .int v1_4), (3, .int v3_150_4)] [] M (j_X11_goesOn_150_4 v1_4 v3_150_4 M) (fun o => Sum.elim (fun (s : (Int32 × Int32 × zM)) => Zs C w (0, 0) 4 [(0, zr w 257), (1, .int v1_4), (2, .int s.1), (3, .int s.2.1)] [] s.2.2) (fun (s : (zM)) => Zs C w (0, 0) 184 [] [] s) o) := by
  have hC := hB.1.1
  have hq1 : 1 ≤ d := by omega
  unfold j_X11_goesOn_150_4
  refine x_iconst (v := (0 : Int32)) hC dX11_goesOn_150 ki_0 ?_
  exact j_X11_goesOn_151_4_ok hB hd M hR
noncomputable def b_X11_goesOn_4 (v1_4 : Int32) (v2_4 : Int32) (v3_4 : Int32) (M : zM) : Option ((Int32 × Int32 × zM) ⊕ (zM)) :=
  if (2 : Int32) ≤ v3_4 then (some (.inr M))
  else (if v2_4 = 0 then (some (.inr M))
  else ((f_X11_has v1_4 (2 : Int32) M).bind fun u18_4 =>
  (f_X11_has v1_4 (4 : Int32) M).bind fun u24_4 =>
  nm (u18_4 + (f_X11_goesX u24_4)) fun v4_31_4 =>
  (f_X11_has v1_4 (3 : Int32) M).bind fun u36_4 =>
  (f_X11_has v1_4 (4 : Int32) M).bind fun u42_4 =>
  nm (u36_4 + (f_X11_goesY u42_4)) fun v5_49_4 =>
  if (f_X11_isIn v4_31_4 v5_49_4) = 0 then ((f_X11_goesOut v1_4 M).bind fun M63_4 =>
  j_X11_goesOn_152_4 v1_4 (0 : Int32) v3_4 M63_4)
  else ((f_X11_isFree (f_X11_place v4_31_4 v5_49_4) M).bind fun u77_4 =>
  if u77_4 = 0 then ((f_X11_standsAt v1_4 M).bind fun u88_4 =>
  (f_X11_writes (5 : Int32) v1_4 u88_4 M).bind fun M91_4 =>
  j_X11_goesOn_152_4 v1_4 (0 : Int32) v3_4 M91_4)
  else ((f_X11_sets v1_4 (2 : Int32) v4_31_4 M).bind fun M102_4 =>
  (f_X11_sets v1_4 (3 : Int32) v5_49_4 M102_4).bind fun M110_4 =>
  if v3_4 = 0 then (grd (inb (f_X11_place v4_31_4 v5_49_4) 2425) (
  if (M110_4 259 (ix (f_X11_place v4_31_4 v5_49_4))) = (2 : Int32) then (bnd2 (f_X11_tells (0 : Int32) v1_4 M110_4) fun u137_4 M137_4 =>
  bnd2 (f_X11_falls u137_4 M137_4) fun u140_4 M140_4 =>
  if u140_4 = 0 then (j_X11_goesOn_150_4 v1_4 v3_4 M140_4)
  else (j_X11_goesOn_151_4 v1_4 v3_4 (1 : Int32) M140_4))
  else (j_X11_goesOn_150_4 v1_4 v3_4 M110_4)))
  else (j_X11_goesOn_150_4 v1_4 v3_4 M110_4)))))
set_option maxRecDepth 100000 in
theorem b_X11_goesOn_4_ok {C : zC} {d : Nat} {g : zG} {l : Launch} {w : zW} {r : zM} {v1_4 : Int32} {v2_4 : Int32} {v3_4 : Int32} (hB : bOK C cX11_goesOn 6 RX11 d g l w false) (hd : 7 ≤ d) (M : zM) (hR : RtV C cX11_goesOn w r) : Sg C w (0, 0) 4 [(0, zr w 257), (1, .int v1_4), (2, .int v2_4), (3, .int v3_4)] [] M (b_X11_goesOn_4 v1_4 v2_4 v3_4 M) (fun o => Sum.elim (fun (s : (Int32 × Int32 × zM)) => Zs C w (0, 0) 4 [(0, zr w 257), (1, .int v1_4), (2, .int s.1), (3, .int s.2.1)] [] s.2.2) (fun (s : (zM)) => Zs C w (0, 0) 184 [] [] s) o) := by
  have hC := hB.1.1
  have hq1 : 1 ≤ d := by omega
  unfold b_X11_goesOn_4
  refine x_iload_n hC dX11_goesOn_4 rfl 3 rfl ?_
  refine x_iconst (v := (2 : Int32)) hC dX11_goesOn_5 ki_2 ?_
  refine x_icmp_ge (tgt := 184) hC dX11_goesOn_6 (by decide) ?_ ?_
  · refine x_sub [] rfl ?_
    exact x_done (fun h => h)
  · refine x_iload_n hC dX11_goesOn_9 rfl 2 rfl ?_
    refine x_if_eq (tgt := 184) hC dX11_goesOn_10 (by decide) ?_ ?_
    · refine x_sub [] rfl ?_
      exact x_done (fun h => h)
    · refine x_iconst (v := (0 : Int32)) hC dX11_goesOn_13 ki_0 ?_
      refine x_istore_n hC dX11_goesOn_14 rfl [(2, .int (0 : Int32)), (0, zr w 257), (1, .int v1_4), (3, .int v3_4)] (by decide) rfl ?_
      refine x_aload_n hC dX11_goesOn_15 rfl 1 rfl ?_
      refine x_iload_n hC dX11_goesOn_16 rfl 2 rfl ?_
      refine x_iconst (v := (2 : Int32)) hC dX11_goesOn_17 ki_2 ?_
      refine r_cV1 (as := [.int v1_4, .int (2 : Int32)]) (rest := []) hB dX11_goesOn_18 kv_X11_104 th_257 hq1 rfl rfl (Nat.le_of_ble_eq_true rfl) (fun v hv => f_X11_has_met hB.2 (by omega) hv) (fun u18_4 => ?_)
      refine x_aload_n hC dX11_goesOn_21 rfl 1 rfl ?_
      refine x_iload_n hC dX11_goesOn_22 rfl 2 rfl ?_
      refine x_iconst (v := (4 : Int32)) hC dX11_goesOn_23 ki_4 ?_
      refine r_cV1 (as := [.int v1_4, .int (4 : Int32)]) (rest := [.int u18_4]) hB dX11_goesOn_24 kv_X11_104 th_257 hq1 rfl rfl (Nat.le_of_ble_eq_true rfl) (fun v hv => f_X11_has_met hB.2 (by omega) hv) (fun u24_4 => ?_)
      refine r_cS0 (as := [.int u24_4]) (rest := [.int u18_4]) hB dX11_goesOn_27 ks_X11_285 hq1 rfl rfl (Nat.le_of_ble_eq_true rfl) (f_X11_goesX_met hB.2 (by omega)) ?_
      refine x_iadd hC dX11_goesOn_30 ?_
      refine x_top (fun v4_31_4 => ?_)
      refine x_istore (f := 0) hC dX11_goesOn_31 [(4, .int v4_31_4), (2, .int (0 : Int32)), (0, zr w 257), (1, .int v1_4), (3, .int v3_4)] (by decide) rfl ?_
      refine x_aload_n hC dX11_goesOn_33 rfl 2 rfl ?_
      refine x_iload_n hC dX11_goesOn_34 rfl 3 rfl ?_
      refine x_iconst (v := (3 : Int32)) hC dX11_goesOn_35 ki_3 ?_
      refine r_cV1 (as := [.int v1_4, .int (3 : Int32)]) (rest := []) hB dX11_goesOn_36 kv_X11_104 th_257 hq1 rfl rfl (Nat.le_of_ble_eq_true rfl) (fun v hv => f_X11_has_met hB.2 (by omega) hv) (fun u36_4 => ?_)
      refine x_aload_n hC dX11_goesOn_39 rfl 2 rfl ?_
      refine x_iload_n hC dX11_goesOn_40 rfl 3 rfl ?_
      refine x_iconst (v := (4 : Int32)) hC dX11_goesOn_41 ki_4 ?_
      refine r_cV1 (as := [.int v1_4, .int (4 : Int32)]) (rest := [.int u36_4]) hB dX11_goesOn_42 kv_X11_104 th_257 hq1 rfl rfl (Nat.le_of_ble_eq_true rfl) (fun v hv => f_X11_has_met hB.2 (by omega) hv) (fun u42_4 => ?_)
      refine r_cS0 (as := [.int u42_4]) (rest := [.int u36_4]) hB dX11_goesOn_45 ks_X11_288 hq1 rfl rfl (Nat.le_of_ble_eq_true rfl) (f_X11_goesY_met hB.2 (by omega)) ?_
      refine x_iadd hC dX11_goesOn_48 ?_
      refine x_top (fun v5_49_4 => ?_)
      refine x_istore (f := 0) hC dX11_goesOn_49 [(5, .int v5_49_4), (4, .int v4_31_4), (2, .int (0 : Int32)), (0, zr w 257), (1, .int v1_4), (3, .int v3_4)] (by decide) rfl ?_
      refine x_iload hC dX11_goesOn_51 1 rfl ?_
      refine x_iload hC dX11_goesOn_53 0 rfl ?_
      refine r_cS0 (as := [.int v4_31_4, .int v5_49_4]) (rest := []) hB dX11_goesOn_55 ks_X11_291 hq1 rfl rfl (Nat.le_of_ble_eq_true rfl) (f_X11_isIn_met hB.2 (by omega)) ?_
      refine x_if_ne (tgt := 69) hC dX11_goesOn_58 (by decide) ?_ ?_
      · refine x_aload_n hC dX11_goesOn_61 rfl 3 rfl ?_
        refine x_iload_n hC dX11_goesOn_62 rfl 4 rfl ?_
        refine r_cVv (as := [.int v1_4]) (rest := []) hB dX11_goesOn_63 kv_X11_295 th_257 hq1 rfl rfl (Nat.le_of_ble_eq_true rfl) (fun M' hv => f_X11_goesOut_met hB.2 (by omega) hv) (fun M63_4 => ?_)
        refine x_goto (tgt := 152) hC dX11_goesOn_66 (by decide) ?_
        refine x_sub [3, 4, 2, 5] rfl ?_
        exact j_X11_goesOn_152_4_ok hB hd M63_4 hR
      · refine x_aload_n hC dX11_goesOn_69 rfl 3 rfl ?_
        refine x_iload hC dX11_goesOn_70 1 rfl ?_
        refine x_iload hC dX11_goesOn_72 0 rfl ?_
        refine r_cS0 (as := [.int v4_31_4, .int v5_49_4]) (rest := [zr w 257]) hB dX11_goesOn_74 ks_X11_108 hq1 rfl rfl (Nat.le_of_ble_eq_true rfl) (f_X11_place_met hB.2 (by omega)) ?_
        refine r_cV1 (as := [.int (f_X11_place v4_31_4 v5_49_4)]) (rest := []) hB dX11_goesOn_77 kv_X11_298 th_257 hq1 rfl rfl (Nat.le_of_ble_eq_true rfl) (fun v hv => f_X11_isFree_met hB.2 (by omega) hv) (fun u77_4 => ?_)
        refine x_if_ne (tgt := 97) hC dX11_goesOn_80 (by decide) ?_ ?_
        · refine x_aload_n hC dX11_goesOn_83 rfl 3 rfl ?_
          refine x_iconst (v := (5 : Int32)) hC dX11_goesOn_84 ki_5 ?_
          refine x_iload_n hC dX11_goesOn_85 rfl 4 rfl ?_
          refine x_aload_n hC dX11_goesOn_86 rfl 3 rfl ?_
          refine x_iload_n hC dX11_goesOn_87 rfl 4 rfl ?_
          refine r_cV1 (as := [.int v1_4]) (rest := [.int v1_4, .int (5 : Int32), zr w 257]) hB dX11_goesOn_88 kv_X11_111 th_257 hq1 rfl rfl (Nat.le_of_ble_eq_true rfl) (fun v hv => f_X11_standsAt_met hB.2 (by omega) hv) (fun u88_4 => ?_)
          refine r_cVv (as := [.int (5 : Int32), .int v1_4, .int u88_4]) (rest := []) hB dX11_goesOn_91 kv_X11_273 th_257 hq1 rfl rfl (Nat.le_of_ble_eq_true rfl) (fun M' hv => f_X11_writes_met hB.2 (by omega) hv) (fun M91_4 => ?_)
          refine x_goto (tgt := 152) hC dX11_goesOn_94 (by decide) ?_
          refine x_sub [3, 4, 2, 5] rfl ?_
          exact j_X11_goesOn_152_4_ok hB hd M91_4 hR
        · refine x_aload_n hC dX11_goesOn_97 rfl 3 rfl ?_
          refine x_iload_n hC dX11_goesOn_98 rfl 4 rfl ?_
          refine x_iconst (v := (2 : Int32)) hC dX11_goesOn_99 ki_2 ?_
          refine x_iload hC dX11_goesOn_100 1 rfl ?_
          refine r_cVv (as := [.int v1_4, .int (2 : Int32), .int v4_31_4]) (rest := []) hB dX11_goesOn_102 kv_X11_266 th_257 hq1 rfl rfl (Nat.le_of_ble_eq_true rfl) (fun M' hv => f_X11_sets_met hB.2 (by omega) hv) (fun M102_4 => ?_)
          refine x_aload_n hC dX11_goesOn_105 rfl 3 rfl ?_
          refine x_iload_n hC dX11_goesOn_106 rfl 4 rfl ?_
          refine x_iconst (v := (3 : Int32)) hC dX11_goesOn_107 ki_3 ?_
          refine x_iload hC dX11_goesOn_108 0 rfl ?_
          refine r_cVv (as := [.int v1_4, .int (3 : Int32), .int v5_49_4]) (rest := []) hB dX11_goesOn_110 kv_X11_266 th_257 hq1 rfl rfl (Nat.le_of_ble_eq_true rfl) (fun M' hv => f_X11_sets_met hB.2 (by omega) hv) (fun M110_4 => ?_)
          refine x_iload_n hC dX11_goesOn_113 rfl 5 rfl ?_
          refine x_if_ne (tgt := 150) hC dX11_goesOn_114 (by decide) ?_ ?_
          · refine x_aload_n hC dX11_goesOn_117 rfl 3 rfl ?_
            refine r_getR hB dX11_goesOn_118 kf_X11_13 rfl th_257 rf_257_1 ?_
            refine x_iload hC dX11_goesOn_121 1 rfl ?_
            refine x_iload hC dX11_goesOn_123 0 rfl ?_
            refine r_cS0 (as := [.int v4_31_4, .int v5_49_4]) (rest := [zr w 259]) hB dX11_goesOn_125 ks_X11_108 hq1 rfl rfl (Nat.le_of_ble_eq_true rfl) (f_X11_place_met hB.2 (by omega)) ?_
            refine r_iald hB dX11_goesOn_128 th_259 ?_
            refine x_iconst (v := (2 : Int32)) hC dX11_goesOn_129 ki_2 ?_
            refine x_icmp_ne (tgt := 150) hC dX11_goesOn_130 (by decide) ?_ ?_
            · refine x_aload_n hC dX11_goesOn_133 rfl 3 rfl ?_
              refine x_aload_n hC dX11_goesOn_134 rfl 3 rfl ?_
              refine x_iconst (v := (0 : Int32)) hC dX11_goesOn_135 ki_0 ?_
              refine x_iload_n hC dX11_goesOn_136 rfl 4 rfl ?_
              refine r_cV2 (as := [.int (0 : Int32), .int v1_4]) (rest := [zr w 257]) hB dX11_goesOn_137 kv_X11_276 th_257 hq1 rfl rfl (Nat.le_of_ble_eq_true rfl) (fun v M' hv => f_X11_tells_met hB.2 (by omega) hv) (fun u137_4 M137_4 => ?_)
              refine r_cV2 (as := [.int u137_4]) (rest := []) hB dX11_goesOn_140 kv_X11_279 th_257 hq1 rfl rfl (Nat.le_of_ble_eq_true rfl) (fun v M' hv => f_X11_falls_met hB.2 (by omega) hv) (fun u140_4 M140_4 => ?_)
              refine x_if_eq (tgt := 150) hC dX11_goesOn_143 (by decide) ?_ ?_
              · refine x_sub [3, 4, 5] rfl ?_
                exact j_X11_goesOn_150_4_ok hB hd M140_4 hR
              · refine x_iconst (v := (1 : Int32)) hC dX11_goesOn_146 ki_1 ?_
                refine x_goto (tgt := 151) hC dX11_goesOn_147 (by decide) ?_
                refine x_sub [3, 4, 5] rfl ?_
                exact j_X11_goesOn_151_4_ok hB hd M140_4 hR
            · refine x_sub [3, 4, 5] rfl ?_
              exact j_X11_goesOn_150_4_ok hB hd M110_4 hR
          · refine x_sub [3, 4, 5] rfl ?_
            exact j_X11_goesOn_150_4_ok hB hd M110_4 hR
noncomputable def j_X11_goesOn_184 (M : zM) : Option (zM) :=
  some M
set_option maxRecDepth 100000 in
theorem j_X11_goesOn_184_ok {C : zC} {d : Nat} {g : zG} {l : Launch} {w : zW} {r : zM} (hB : bOK C cX11_goesOn 6 RX11 d g l w false) (hd : 7 ≤ d) (M : zM) (hR : RtV C cX11_goesOn w r) : Sg C w (0, 0) 184 [] [] M (j_X11_goesOn_184 M) (fun q => q = r) := by
  have hC := hB.1.1
  have hq1 : 1 ≤ d := by omega
  unfold j_X11_goesOn_184
  exact r_retV hR dX11_goesOn_184 (fun h => h)
noncomputable def f_X11_goesOn (p1 : Int32) (M : zM) : Option (zM) :=
  (loopW (fun s => b_X11_goesOn_4 p1 s.1 s.2.1 s.2.2) ((1 : Int32), (0 : Int32), M)).bind (fun r => j_X11_goesOn_184 r)
set_option maxRecDepth 100000 in
theorem f_X11_goesOn_ok {C : zC} {d : Nat} {g : zG} {l : Launch} {w : zW} {r : zM} {p1 : Int32} (hB : bOK C cX11_goesOn 6 RX11 d g l w false) (hd : 7 ≤ d) (M : zM) (hR : RtV C cX11_goesOn w r) : Sg C w (0, 0) 0 [(0, zr w 257), (1, .int p1)] [] M (f_X11_goesOn p1 M) (fun q => q = r) := by
  have hC := hB.1.1
  have hq1 : 1 ≤ d := by omega
  unfold f_X11_goesOn
  refine x_iconst (v := (1 : Int32)) hC dX11_goesOn_0 ki_1 ?_
  refine x_istore_n hC dX11_goesOn_1 rfl [(2, .int (1 : Int32)), (0, zr w 257), (1, .int p1)] (by decide) rfl ?_
  refine x_iconst (v := (0 : Int32)) hC dX11_goesOn_2 ki_0 ?_
  refine x_istore_n hC dX11_goesOn_3 rfl [(3, .int (0 : Int32)), (2, .int (1 : Int32)), (0, zr w 257), (1, .int p1)] (by decide) rfl ?_
  refine x_sub [2, 3, 1, 0] rfl ?_
  refine x_loopB (pc2 := 184) (fun (s : (Int32 × Int32 × zM)) => [(0, zr w 257), (1, .int p1), (2, .int s.1), (3, .int s.2.1)]) (fun (s : (Int32 × Int32 × zM)) => s.2.2) (fun (s : (zM)) => []) (fun (s : (zM)) => s) ((1 : Int32), (0 : Int32), M) ?_ ?_
  · exact fun s => b_X11_goesOn_4_ok hB hd s.2.2 hR
  · intro r9
    exact j_X11_goesOn_184_ok hB hd r9 hR
theorem f_X11_goesOn_met {l : Launch} {d : Nat} {g : zG} {w : zW} {M0 : zM} {p1 : Int32} {M : zM} (hw : wS w) (hd : 7 ≤ d) {M' : zM} (h : f_X11_goesOn p1 M = some M') : zMet l yX11_goesOn cX11_goesOn 6 none d g w (zin false) M0 [zr w 257, .int p1] M none M' :=
  met_v (by decide +kernel) (Nat.le_of_ble_eq_true rfl) (fun C hB0 hR => f_X11_goesOn_ok ⟨hB0, hw⟩ hd M hR _ h rfl)
/-! WindingSquare.minutes(I)I -/
noncomputable def b_X10_minutes_38 (v1_38 : Int32) (v2_38 : Int32) (M : zM) : Option ((Int32 × zM) ⊕ (zM)) :=
  if v1_38 ≤ v2_38 then (some (.inr M))
  else ((f_X10_keep M).bind fun M44_38 =>
  (f_X1_pass M44_38).bind fun M51_38 =>
  some (.inl ((v2_38 + (1 : Int32)), M51_38)))
set_option maxRecDepth 100000 in
theorem b_X10_minutes_38_ok {C : zC} {d : Nat} {g : zG} {l : Launch} {w : zW} {r : Int32 × zM} {v1_38 : Int32} {v2_38 : Int32} (hB : bOK C cX10_minutes 3 RX10 d g l w true) (hd : 8 ≤ d) (M : zM) (hR : RtI C cX10_minutes w r.1 r.2) : Sg C w (0, 0) 38 [(0, zr w 0), (1, .int v1_38), (2, .int v2_38)] [] M (b_X10_minutes_38 v1_38 v2_38 M) (fun o => Sum.elim (fun (s : (Int32 × zM)) => Zs C w (0, 0) 38 [(0, zr w 0), (1, .int v1_38), (2, .int s.1)] [] s.2) (fun (s : (zM)) => Zs C w (0, 0) 60 [(0, zr w 0)] [] s) o) := by
  have hC := hB.1.1
  have hq1 : 1 ≤ d := by omega
  unfold b_X10_minutes_38
  refine x_iload_n hC dX10_minutes_38 rfl 2 rfl ?_
  refine x_iload_n hC dX10_minutes_39 rfl 1 rfl ?_
  refine x_icmp_ge (tgt := 60) hC dX10_minutes_40 (by decide) ?_ ?_
  · refine x_sub [0] rfl ?_
    exact x_done (fun h => h)
  · refine x_aload_n hC dX10_minutes_43 rfl 0 rfl ?_
    refine r_cVv (as := []) (rest := []) hB dX10_minutes_44 kv_X10_134 th_0 hq1 rfl rfl (Nat.le_of_ble_eq_true rfl) (fun M' hv => f_X10_keep_met hB.2 (by omega) hv) (fun M44_38 => ?_)
    refine x_aload_n hC dX10_minutes_47 rfl 0 rfl ?_
    refine r_getR hB dX10_minutes_48 kf_X10_59 rfl th_0 rf_0_10 ?_
    refine r_cVv (as := []) (rest := []) hB dX10_minutes_51 kv_X10_157 th_83 hq1 rfl rfl (Nat.le_of_ble_eq_true rfl) (fun M' hv => f_X1_pass_met hB.2 (by omega) hv) (fun M51_38 => ?_)
    refine x_iinc hC dX10_minutes_54 ki_1 [(2, .int (v2_38 + (1 : Int32))), (0, zr w 0), (1, .int v1_38)] 2 rfl (by decide) rfl ?_
    refine x_goto (tgt := 38) hC dX10_minutes_57 (by decide) ?_
    refine x_sub [1, 2, 0] rfl ?_
    exact x_done (fun h => h)
noncomputable def j_X10_minutes_60 (M : zM) : Option (Int32 × zM) :=
  some ((M 83 1), M)
set_option maxRecDepth 100000 in
theorem j_X10_minutes_60_ok {C : zC} {d : Nat} {g : zG} {l : Launch} {w : zW} {r : Int32 × zM} (hB : bOK C cX10_minutes 3 RX10 d g l w true) (hd : 8 ≤ d) (M : zM) (hR : RtI C cX10_minutes w r.1 r.2) : Sg C w (0, 0) 60 [(0, zr w 0)] [] M (j_X10_minutes_60 M) (fun q => q = r) := by
  have hC := hB.1.1
  have hq1 : 1 ≤ d := by omega
  unfold j_X10_minutes_60
  refine x_aload_n hC dX10_minutes_60 rfl 0 rfl ?_
  refine r_getR hB dX10_minutes_61 kf_X10_59 rfl th_0 rf_0_10 ?_
  refine r_getI hB dX10_minutes_64 kf_X10_154 rfl th_83 ?_
  exact r_retI hR dX10_minutes_67 (fun h => h)
noncomputable def f_X10_minutes (p1 : Int32) (M : zM) : Option (Int32 × zM) :=
  if p1 < (1 : Int32) then (some ((-1 : Int32), M))
  else (if (60 : Int32) < p1 then (some ((-1 : Int32), M))
  else (if ((M 1 3) + p1) ≤ (9999 : Int32) then (nm (mset M 83 1 (0 : Int32)) fun M33 =>
  (loopW (fun s => b_X10_minutes_38 p1 s.1 s.2) ((0 : Int32), M33)).bind (fun r => j_X10_minutes_60 r))
  else (some ((-1 : Int32), M))))
set_option maxRecDepth 100000 in
theorem f_X10_minutes_ok {C : zC} {d : Nat} {g : zG} {l : Launch} {w : zW} {r : Int32 × zM} {p1 : Int32} (hB : bOK C cX10_minutes 3 RX10 d g l w true) (hd : 8 ≤ d) (M : zM) (hR : RtI C cX10_minutes w r.1 r.2) : Sg C w (0, 0) 0 [(0, zr w 0), (1, .int p1)] [] M (f_X10_minutes p1 M) (fun q => q = r) := by
  have hC := hB.1.1
  have hq1 : 1 ≤ d := by omega
  unfold f_X10_minutes
  refine x_iload_n hC dX10_minutes_0 rfl 1 rfl ?_
  refine x_iconst (v := (1 : Int32)) hC dX10_minutes_1 ki_1 ?_
  refine x_icmp_lt (tgt := 26) hC dX10_minutes_2 (by decide) ?_ ?_
  · refine x_iconst (v := (-1 : Int32)) hC dX10_minutes_26 ki_m1 ?_
    exact r_retI hR dX10_minutes_27 (fun h => h)
  · refine x_iload_n hC dX10_minutes_5 rfl 1 rfl ?_
    refine x_bipush (v := (60 : Int32)) hC dX10_minutes_6 kb_60 ?_
    refine x_icmp_gt (tgt := 26) hC dX10_minutes_8 (by decide) ?_ ?_
    · refine x_iconst (v := (-1 : Int32)) hC dX10_minutes_26 ki_m1 ?_
      exact r_retI hR dX10_minutes_27 (fun h => h)
    · refine x_aload_n hC dX10_minutes_11 rfl 0 rfl ?_
      refine r_getR hB dX10_minutes_12 kf_X10_10 rfl th_0 rf_0_0 ?_
      refine r_getI hB dX10_minutes_15 kf_X10_151 rfl th_1 ?_
      refine x_iload_n hC dX10_minutes_18 rfl 1 rfl ?_
      refine x_iadd hC dX10_minutes_19 ?_
      refine x_sipush (v := (9999 : Int32)) hC dX10_minutes_20 kh_9999 ?_
      refine x_icmp_le (tgt := 28) hC dX10_minutes_23 (by decide) ?_ ?_
      · refine x_aload_n hC dX10_minutes_28 rfl 0 rfl ?_
        refine r_getR hB dX10_minutes_29 kf_X10_59 rfl th_0 rf_0_10 ?_
        refine x_iconst (v := (0 : Int32)) hC dX10_minutes_32 ki_0 ?_
        refine r_putI hB dX10_minutes_33 kf_X10_154 rfl th_83 ?_
        refine x_mem (fun M33 => ?_)
        refine x_iconst (v := (0 : Int32)) hC dX10_minutes_36 ki_0 ?_
        refine x_istore_n hC dX10_minutes_37 rfl [(2, .int (0 : Int32)), (0, zr w 0), (1, .int p1)] (by decide) rfl ?_
        refine x_sub [1, 2, 0] rfl ?_
        refine x_loopB (pc2 := 60) (fun (s : (Int32 × zM)) => [(0, zr w 0), (1, .int p1), (2, .int s.1)]) (fun (s : (Int32 × zM)) => s.2) (fun (s : (zM)) => [(0, zr w 0)]) (fun (s : (zM)) => s) ((0 : Int32), M33) ?_ ?_
        · exact fun s => b_X10_minutes_38_ok hB hd s.2 hR
        · intro r9
          exact j_X10_minutes_60_ok hB hd r9 hR
      · refine x_iconst (v := (-1 : Int32)) hC dX10_minutes_26 ki_m1 ?_
        exact r_retI hR dX10_minutes_27 (fun h => h)
theorem f_X10_minutes_met {l : Launch} {d : Nat} {g : zG} {w : zW} {M0 : zM} {p1 : Int32} {M : zM} (hw : wS w) (hd : 8 ≤ d) {v : Int32} {M' : zM} (h : f_X10_minutes p1 M = some (v, M')) : zMet l yX10_minutes cX10_minutes 3 (some .int) d g w (zin true) M0 [zr w 0, .int p1] M (some (.int v)) M' :=
  met_i (by decide +kernel) (Nat.le_of_ble_eq_true rfl) rfl (fun C hB0 hR => f_X10_minutes_ok (r := (v, M')) ⟨hB0, hw⟩ hd M hR _ h rfl)
/-! WindingSquare.goes(II)I -/
noncomputable def b_X10_goes_28 (v1_28 : Int32) (v2_28 : Int32) (v3_28 : Int32) (M : zM) : Option ((Int32 × zM) ⊕ (zM)) :=
  if v1_28 ≤ v3_28 then (some (.inr M))
  else ((f_X1_pass M).bind fun M37_28 =>
  some (.inl ((v3_28 + (1 : Int32)), M37_28)))
set_option maxRecDepth 100000 in
theorem b_X10_goes_28_ok {C : zC} {d : Nat} {g : zG} {l : Launch} {w : zW} {r : Int32 × zM} {v1_28 : Int32} {v2_28 : Int32} {v3_28 : Int32} (hB : bOK C cX10_goes 4 RX10 d g l w true) (hd : 8 ≤ d) (M : zM) (hR : RtI C cX10_goes w r.1 r.2) : Sg C w (0, 0) 28 [(0, zr w 0), (1, .int v1_28), (2, .int v2_28), (3, .int v3_28)] [] M (b_X10_goes_28 v1_28 v2_28 v3_28 M) (fun o => Sum.elim (fun (s : (Int32 × zM)) => Zs C w (0, 0) 28 [(0, zr w 0), (1, .int v1_28), (2, .int v2_28), (3, .int s.1)] [] s.2) (fun (s : (zM)) => Zs C w (0, 0) 46 [(0, zr w 0), (2, .int v2_28)] [] s) o) := by
  have hC := hB.1.1
  have hq1 : 1 ≤ d := by omega
  unfold b_X10_goes_28
  refine x_iload_n hC dX10_goes_28 rfl 3 rfl ?_
  refine x_iload_n hC dX10_goes_29 rfl 1 rfl ?_
  refine x_icmp_ge (tgt := 46) hC dX10_goes_30 (by decide) ?_ ?_
  · refine x_sub [0, 2] rfl ?_
    exact x_done (fun h => h)
  · refine x_aload_n hC dX10_goes_33 rfl 0 rfl ?_
    refine r_getR hB dX10_goes_34 kf_X10_59 rfl th_0 rf_0_10 ?_
    refine r_cVv (as := []) (rest := []) hB dX10_goes_37 kv_X10_157 th_83 hq1 rfl rfl (Nat.le_of_ble_eq_true rfl) (fun M' hv => f_X1_pass_met hB.2 (by omega) hv) (fun M37_28 => ?_)
    refine x_iinc hC dX10_goes_40 ki_1 [(3, .int (v3_28 + (1 : Int32))), (0, zr w 0), (1, .int v1_28), (2, .int v2_28)] 3 rfl (by decide) rfl ?_
    refine x_goto (tgt := 28) hC dX10_goes_43 (by decide) ?_
    refine x_sub [1, 2, 3, 0] rfl ?_
    exact x_done (fun h => h)
noncomputable def j_X10_goes_46 (v2_46 : Int32) (M : zM) : Option (Int32 × zM) :=
  (f_X7_sum 1 v2_46 M).bind fun u51 =>
  (f_X10_endThought M).bind fun M56 =>
  some (u51, M56)
set_option maxRecDepth 100000 in
theorem j_X10_goes_46_ok {C : zC} {d : Nat} {g : zG} {l : Launch} {w : zW} {r : Int32 × zM} {v2_46 : Int32} (hB : bOK C cX10_goes 4 RX10 d g l w true) (hd : 8 ≤ d) (M : zM) (hR : RtI C cX10_goes w r.1 r.2) : Sg C w (0, 0) 46 [(0, zr w 0), (2, .int v2_46)] [] M (j_X10_goes_46 v2_46 M) (fun q => q = r) := by
  have hC := hB.1.1
  have hq1 : 1 ≤ d := by omega
  unfold j_X10_goes_46
  refine x_aload_n hC dX10_goes_46 rfl 0 rfl ?_
  refine r_getR hB dX10_goes_47 kf_X10_10 rfl th_0 rf_0_0 ?_
  refine x_iload_n hC dX10_goes_50 rfl 1 rfl ?_
  refine r_cV1 (as := [.int v2_46]) (rest := []) hB dX10_goes_51 kv_X10_227 th_1 hq1 rfl rfl (Nat.le_of_ble_eq_true rfl) (fun v hv => f_X7_sum_met hB.2 th_1 (by omega) hv) (fun u51 => ?_)
  refine x_istore_n hC dX10_goes_54 rfl [(3, .int u51), (0, zr w 0), (2, .int v2_46)] (by decide) rfl ?_
  refine x_aload_n hC dX10_goes_55 rfl 1 rfl ?_
  refine r_cVv (as := []) (rest := []) hB dX10_goes_56 kv_X10_230 th_0 hq1 rfl rfl (Nat.le_of_ble_eq_true rfl) (fun M' hv => f_X10_endThought_met hB.2 (by omega) hv) (fun M56 => ?_)
  refine x_iload_n hC dX10_goes_59 rfl 0 rfl ?_
  exact r_retI hR dX10_goes_60 (fun h => h)
noncomputable def f_X10_goes (p1 : Int32) (p2 : Int32) (M : zM) : Option (Int32 × zM) :=
  if p1 < (1 : Int32) then (some ((-1 : Int32), M))
  else (if (60 : Int32) < p1 then (some ((-1 : Int32), M))
  else (if p2 < 0 then (some ((-1 : Int32), M))
  else (if p2 ≤ (3 : Int32) then ((f_X10_beginThought M).bind fun M23 =>
  (loopW (fun s => b_X10_goes_28 p1 p2 s.1 s.2) ((0 : Int32), M23)).bind (fun r => j_X10_goes_46 p2 r))
  else (some ((-1 : Int32), M)))))
set_option maxRecDepth 100000 in
theorem f_X10_goes_ok {C : zC} {d : Nat} {g : zG} {l : Launch} {w : zW} {r : Int32 × zM} {p1 : Int32} {p2 : Int32} (hB : bOK C cX10_goes 4 RX10 d g l w true) (hd : 8 ≤ d) (M : zM) (hR : RtI C cX10_goes w r.1 r.2) : Sg C w (0, 0) 0 [(0, zr w 0), (1, .int p1), (2, .int p2)] [] M (f_X10_goes p1 p2 M) (fun q => q = r) := by
  have hC := hB.1.1
  have hq1 : 1 ≤ d := by omega
  unfold f_X10_goes
  refine x_iload_n hC dX10_goes_0 rfl 1 rfl ?_
  refine x_iconst (v := (1 : Int32)) hC dX10_goes_1 ki_1 ?_
  refine x_icmp_lt (tgt := 20) hC dX10_goes_2 (by decide) ?_ ?_
  · refine x_iconst (v := (-1 : Int32)) hC dX10_goes_20 ki_m1 ?_
    exact r_retI hR dX10_goes_21 (fun h => h)
  · refine x_iload_n hC dX10_goes_5 rfl 1 rfl ?_
    refine x_bipush (v := (60 : Int32)) hC dX10_goes_6 kb_60 ?_
    refine x_icmp_gt (tgt := 20) hC dX10_goes_8 (by decide) ?_ ?_
    · refine x_iconst (v := (-1 : Int32)) hC dX10_goes_20 ki_m1 ?_
      exact r_retI hR dX10_goes_21 (fun h => h)
    · refine x_iload_n hC dX10_goes_11 rfl 2 rfl ?_
      refine x_if_lt (tgt := 20) hC dX10_goes_12 (by decide) ?_ ?_
      · refine x_iconst (v := (-1 : Int32)) hC dX10_goes_20 ki_m1 ?_
        exact r_retI hR dX10_goes_21 (fun h => h)
      · refine x_iload_n hC dX10_goes_15 rfl 2 rfl ?_
        refine x_iconst (v := (3 : Int32)) hC dX10_goes_16 ki_3 ?_
        refine x_icmp_le (tgt := 22) hC dX10_goes_17 (by decide) ?_ ?_
        · refine x_aload_n hC dX10_goes_22 rfl 0 rfl ?_
          refine r_cVv (as := []) (rest := []) hB dX10_goes_23 kv_X10_224 th_0 hq1 rfl rfl (Nat.le_of_ble_eq_true rfl) (fun M' hv => f_X10_beginThought_met hB.2 (by omega) hv) (fun M23 => ?_)
          refine x_iconst (v := (0 : Int32)) hC dX10_goes_26 ki_0 ?_
          refine x_istore_n hC dX10_goes_27 rfl [(3, .int (0 : Int32)), (0, zr w 0), (1, .int p1), (2, .int p2)] (by decide) rfl ?_
          refine x_sub [1, 2, 3, 0] rfl ?_
          refine x_loopB (pc2 := 46) (fun (s : (Int32 × zM)) => [(0, zr w 0), (1, .int p1), (2, .int p2), (3, .int s.1)]) (fun (s : (Int32 × zM)) => s.2) (fun (s : (zM)) => [(0, zr w 0), (2, .int p2)]) (fun (s : (zM)) => s) ((0 : Int32), M23) ?_ ?_
          · exact fun s => b_X10_goes_28_ok hB hd s.2 hR
          · intro r9
            exact j_X10_goes_46_ok hB hd r9 hR
        · refine x_iconst (v := (-1 : Int32)) hC dX10_goes_20 ki_m1 ?_
          exact r_retI hR dX10_goes_21 (fun h => h)
theorem f_X10_goes_met {l : Launch} {d : Nat} {g : zG} {w : zW} {M0 : zM} {p1 : Int32} {p2 : Int32} {M : zM} (hw : wS w) (hd : 8 ≤ d) {v : Int32} {M' : zM} (h : f_X10_goes p1 p2 M = some (v, M')) : zMet l yX10_goes cX10_goes 4 (some .int) d g w (zin true) M0 [zr w 0, .int p1, .int p2] M (some (.int v)) M' :=
  met_i (by decide +kernel) (Nat.le_of_ble_eq_true rfl) rfl (fun C hB0 hR => f_X10_goes_ok (r := (v, M')) ⟨hB0, hw⟩ hd M hR _ h rfl)
/-! WindingSquare.over(I)I -/
noncomputable def j_X10_over_52_21 (v1_21 : Int32) (v2_52_21 : Int32) (v3_52_21 : Int32) (M : zM) : Option ((Int32 × Int32 × zM) ⊕ (Int32 × zM)) :=
  some (.inl (v2_52_21, (v3_52_21 + (1 : Int32)), M))
set_option maxRecDepth 100000 in
theorem j_X10_over_52_21_ok {C : zC} {d : Nat} {g : zG} {l : Launch} {w : zW} {r : Int32 × zM} {v1_21 : Int32} {v2_52_21 : Int32} {v3_52_21 : Int32} (hB : bOK C cX10_over 4 RX10 d g l w true) (hd : 8 ≤ d) (M : zM) (hR : RtI C cX10_over w r.1 r.2) : Sg C w (0, 0) 52 [(0, zr w 0), (1, .int v1_21), (2, .int v2_52_21), (3, .int v3_52_21)] [] M (j_X10_over_52_21 v1_21 v2_52_21 v3_52_21 M) (fun o => Sum.elim (fun (s : (Int32 × Int32 × zM)) => Zs C w (0, 0) 21 [(0, zr w 0), (1, .int v1_21), (2, .int s.1), (3, .int s.2.1)] [] s.2.2) (fun (s : (Int32 × zM)) => Zs C w (0, 0) 58 [(0, zr w 0), (2, .int s.1)] [] s.2) o) := by
  have hC := hB.1.1
  have hq1 : 1 ≤ d := by omega
  unfold j_X10_over_52_21
  refine x_iinc hC dX10_over_52 ki_1 [(3, .int (v3_52_21 + (1 : Int32))), (0, zr w 0), (1, .int v1_21), (2, .int v2_52_21)] 3 rfl (by decide) rfl ?_
  refine x_goto (tgt := 21) hC dX10_over_55 (by decide) ?_
  refine x_sub [1, 2, 3, 0] rfl ?_
  exact x_done (fun h => h)
noncomputable def b_X10_over_21 (v1_21 : Int32) (v2_21 : Int32) (v3_21 : Int32) (M : zM) : Option ((Int32 × Int32 × zM) ⊕ (Int32 × zM)) :=
  if (60 : Int32) < v3_21 then (some (.inr (v2_21, M)))
  else (if v2_21 = (-1 : Int32) then ((f_X1_pass M).bind fun M36_21 =>
  (f_X7_hasIn 1 v1_21 M36_21).bind fun u44_21 =>
  if u44_21 = 0 then (j_X10_over_52_21 v1_21 v3_21 v3_21 M36_21)
  else (j_X10_over_52_21 v1_21 v2_21 v3_21 M36_21))
  else (some (.inr (v2_21, M))))
set_option maxRecDepth 100000 in
theorem b_X10_over_21_ok {C : zC} {d : Nat} {g : zG} {l : Launch} {w : zW} {r : Int32 × zM} {v1_21 : Int32} {v2_21 : Int32} {v3_21 : Int32} (hB : bOK C cX10_over 4 RX10 d g l w true) (hd : 8 ≤ d) (M : zM) (hR : RtI C cX10_over w r.1 r.2) : Sg C w (0, 0) 21 [(0, zr w 0), (1, .int v1_21), (2, .int v2_21), (3, .int v3_21)] [] M (b_X10_over_21 v1_21 v2_21 v3_21 M) (fun o => Sum.elim (fun (s : (Int32 × Int32 × zM)) => Zs C w (0, 0) 21 [(0, zr w 0), (1, .int v1_21), (2, .int s.1), (3, .int s.2.1)] [] s.2.2) (fun (s : (Int32 × zM)) => Zs C w (0, 0) 58 [(0, zr w 0), (2, .int s.1)] [] s.2) o) := by
  have hC := hB.1.1
  have hq1 : 1 ≤ d := by omega
  unfold b_X10_over_21
  refine x_iload_n hC dX10_over_21 rfl 3 rfl ?_
  refine x_bipush (v := (60 : Int32)) hC dX10_over_22 kb_60 ?_
  refine x_icmp_gt (tgt := 58) hC dX10_over_24 (by decide) ?_ ?_
  · refine x_sub [0, 2] rfl ?_
    exact x_done (fun h => h)
  · refine x_iload_n hC dX10_over_27 rfl 2 rfl ?_
    refine x_iconst (v := (-1 : Int32)) hC dX10_over_28 ki_m1 ?_
    refine x_icmp_ne (tgt := 58) hC dX10_over_29 (by decide) ?_ ?_
    · refine x_aload_n hC dX10_over_32 rfl 0 rfl ?_
      refine r_getR hB dX10_over_33 kf_X10_59 rfl th_0 rf_0_10 ?_
      refine r_cVv (as := []) (rest := []) hB dX10_over_36 kv_X10_157 th_83 hq1 rfl rfl (Nat.le_of_ble_eq_true rfl) (fun M' hv => f_X1_pass_met hB.2 (by omega) hv) (fun M36_21 => ?_)
      refine x_aload_n hC dX10_over_39 rfl 0 rfl ?_
      refine r_getR hB dX10_over_40 kf_X10_10 rfl th_0 rf_0_0 ?_
      refine x_iload_n hC dX10_over_43 rfl 1 rfl ?_
      refine r_cV1 (as := [.int v1_21]) (rest := []) hB dX10_over_44 kv_X10_145 th_1 hq1 rfl rfl (Nat.le_of_ble_eq_true rfl) (fun v hv => f_X7_hasIn_met hB.2 th_1 (by omega) hv) (fun u44_21 => ?_)
      refine x_if_ne (tgt := 52) hC dX10_over_47 (by decide) ?_ ?_
      · refine x_iload_n hC dX10_over_50 rfl 3 rfl ?_
        refine x_istore_n hC dX10_over_51 rfl [(2, .int v3_21), (0, zr w 0), (1, .int v1_21), (3, .int v3_21)] (by decide) rfl ?_
        refine x_sub [1, 2, 0, 3] rfl ?_
        exact j_X10_over_52_21_ok hB hd M36_21 hR
      · exact j_X10_over_52_21_ok hB hd M36_21 hR
    · refine x_sub [0, 2] rfl ?_
      exact x_done (fun h => h)
noncomputable def j_X10_over_58 (v2_58 : Int32) (M : zM) : Option (Int32 × zM) :=
  (f_X10_endThought M).bind fun M59 =>
  some (v2_58, M59)
set_option maxRecDepth 100000 in
theorem j_X10_over_58_ok {C : zC} {d : Nat} {g : zG} {l : Launch} {w : zW} {r : Int32 × zM} {v2_58 : Int32} (hB : bOK C cX10_over 4 RX10 d g l w true) (hd : 8 ≤ d) (M : zM) (hR : RtI C cX10_over w r.1 r.2) : Sg C w (0, 0) 58 [(0, zr w 0), (2, .int v2_58)] [] M (j_X10_over_58 v2_58 M) (fun q => q = r) := by
  have hC := hB.1.1
  have hq1 : 1 ≤ d := by omega
  unfold j_X10_over_58
  refine x_aload_n hC dX10_over_58 rfl 0 rfl ?_
  refine r_cVv (as := []) (rest := []) hB dX10_over_59 kv_X10_230 th_0 hq1 rfl rfl (Nat.le_of_ble_eq_true rfl) (fun M' hv => f_X10_endThought_met hB.2 (by omega) hv) (fun M59 => ?_)
  refine x_iload_n hC dX10_over_62 rfl 1 rfl ?_
  exact r_retI hR dX10_over_63 (fun h => h)
noncomputable def f_X10_over (p1 : Int32) (M : zM) : Option (Int32 × zM) :=
  (f_X7_hasIn 1 p1 M).bind fun u5 =>
  if u5 = 0 then (some ((-1 : Int32), M))
  else ((f_X10_beginThought M).bind fun M16 =>
  (loopW (fun s => b_X10_over_21 p1 s.1 s.2.1 s.2.2) ((-1 : Int32), (1 : Int32), M16)).bind (fun r => j_X10_over_58 r.1 r.2))
set_option maxRecDepth 100000 in
theorem f_X10_over_ok {C : zC} {d : Nat} {g : zG} {l : Launch} {w : zW} {r : Int32 × zM} {p1 : Int32} (hB : bOK C cX10_over 4 RX10 d g l w true) (hd : 8 ≤ d) (M : zM) (hR : RtI C cX10_over w r.1 r.2) : Sg C w (0, 0) 0 [(0, zr w 0), (1, .int p1)] [] M (f_X10_over p1 M) (fun q => q = r) := by
  have hC := hB.1.1
  have hq1 : 1 ≤ d := by omega
  unfold f_X10_over
  refine x_aload_n hC dX10_over_0 rfl 0 rfl ?_
  refine r_getR hB dX10_over_1 kf_X10_10 rfl th_0 rf_0_0 ?_
  refine x_iload_n hC dX10_over_4 rfl 1 rfl ?_
  refine r_cV1 (as := [.int p1]) (rest := []) hB dX10_over_5 kv_X10_145 th_1 hq1 rfl rfl (Nat.le_of_ble_eq_true rfl) (fun v hv => f_X7_hasIn_met hB.2 th_1 (by omega) hv) (fun u5 => ?_)
  refine x_if_ne (tgt := 13) hC dX10_over_8 (by decide) ?_ ?_
  · refine x_iconst (v := (-1 : Int32)) hC dX10_over_11 ki_m1 ?_
    exact r_retI hR dX10_over_12 (fun h => h)
  · refine x_iconst (v := (-1 : Int32)) hC dX10_over_13 ki_m1 ?_
    refine x_istore_n hC dX10_over_14 rfl [(2, .int (-1 : Int32)), (0, zr w 0), (1, .int p1)] (by decide) rfl ?_
    refine x_aload_n hC dX10_over_15 rfl 1 rfl ?_
    refine r_cVv (as := []) (rest := []) hB dX10_over_16 kv_X10_224 th_0 hq1 rfl rfl (Nat.le_of_ble_eq_true rfl) (fun M' hv => f_X10_beginThought_met hB.2 (by omega) hv) (fun M16 => ?_)
    refine x_iconst (v := (1 : Int32)) hC dX10_over_19 ki_1 ?_
    refine x_istore_n hC dX10_over_20 rfl [(3, .int (1 : Int32)), (2, .int (-1 : Int32)), (0, zr w 0), (1, .int p1)] (by decide) rfl ?_
    refine x_sub [2, 3, 1, 0] rfl ?_
    refine x_loopB (pc2 := 58) (fun (s : (Int32 × Int32 × zM)) => [(0, zr w 0), (1, .int p1), (2, .int s.1), (3, .int s.2.1)]) (fun (s : (Int32 × Int32 × zM)) => s.2.2) (fun (s : (Int32 × zM)) => [(0, zr w 0), (2, .int s.1)]) (fun (s : (Int32 × zM)) => s.2) ((-1 : Int32), (1 : Int32), M16) ?_ ?_
    · exact fun s => b_X10_over_21_ok hB hd s.2.2 hR
    · intro r9
      exact j_X10_over_58_ok hB hd r9.2 hR
theorem f_X10_over_met {l : Launch} {d : Nat} {g : zG} {w : zW} {M0 : zM} {p1 : Int32} {M : zM} (hw : wS w) (hd : 8 ≤ d) {v : Int32} {M' : zM} (h : f_X10_over p1 M = some (v, M')) : zMet l yX10_over cX10_over 4 (some .int) d g w (zin true) M0 [zr w 0, .int p1] M (some (.int v)) M' :=
  met_i (by decide +kernel) (Nat.le_of_ble_eq_true rfl) rfl (fun C hB0 hR => f_X10_over_ok (r := (v, M')) ⟨hB0, hw⟩ hd M hR _ h rfl)
/-! WindingSquareModel.readEither()V -/
noncomputable def j_X11_readEither_109_7_46 (s0_109_7_46 : Int32) (M : zM) : Option ((Int32 × zM) ⊕ (Int32 × zM)) :=
  some (.inl (s0_109_7_46, M))
set_option maxRecDepth 100000 in
theorem j_X11_readEither_109_7_46_ok {C : zC} {d : Nat} {g : zG} {l : Launch} {w : zW} {r : zM} {s0_109_7_46 : Int32} (hB : bOK C cX11_readEither 2 RX11 d g l w false) (hd : 8 ≤ d) (M : zM) (hR : RtV C cX11_readEither w r) : Sg C w (0, 0) 109 [(0, zr w 257)] [.int s0_109_7_46] M (j_X11_readEither_109_7_46 s0_109_7_46 M) (fun o => Sum.elim (fun (s : (Int32 × zM)) => Zs C w (0, 0) 46 [(0, zr w 257), (1, .int s.1)] [] s.2) (fun (s : (Int32 × zM)) => Zs C w (0, 0) 7 [(0, zr w 257), (1, .int s.1)] [] s.2) o) := by
  have hC := hB.1.1
  have hq1 : 1 ≤ d := by omega
  unfold j_X11_readEither_109_7_46
  refine x_istore_n hC dX11_readEither_109 rfl [(1, .int s0_109_7_46), (0, zr w 257)] (by decide) rfl ?_
  refine x_goto (tgt := 46) hC dX11_readEither_110 (by decide) ?_
  refine x_sub [1, 0] rfl ?_
  exact x_done (fun h => h)
noncomputable def j_X11_readEither_108_7_46 (M : zM) : Option ((Int32 × zM) ⊕ (Int32 × zM)) :=
  j_X11_readEither_109_7_46 (0 : Int32) M
set_option maxRecDepth 100000 in
theorem j_X11_readEither_108_7_46_ok {C : zC} {d : Nat} {g : zG} {l : Launch} {w : zW} {r : zM} (hB : bOK C cX11_readEither 2 RX11 d g l w false) (hd : 8 ≤ d) (M : zM) (hR : RtV C cX11_readEither w r) : Sg C w (0, 0) 108 [(0, zr w 257)] [] M (j_X11_readEither_108_7_46 M) (fun o => Sum.elim (fun (s : (Int32 × zM)) => Zs C w (0, 0) 46 [(0, zr w 257), (1, .int s.1)] [] s.2) (fun (s : (Int32 × zM)) => Zs C w (0, 0) 7 [(0, zr w 257), (1, .int s.1)] [] s.2) o) := by
  have hC := hB.1.1
  have hq1 : 1 ≤ d := by omega
  unfold j_X11_readEither_108_7_46
  refine x_iconst (v := (0 : Int32)) hC dX11_readEither_108 ki_0 ?_
  exact j_X11_readEither_109_7_46_ok hB hd M hR
noncomputable def b_X11_readEither_46_7 (v1_46_7 : Int32) (M : zM) : Option ((Int32 × zM) ⊕ (Int32 × zM)) :=
  if v1_46_7 = 0 then (if (f_X11_fine M) = 0 then (some (.inr (v1_46_7, M)))
  else (if (M 257 19) ≤ 0 then (some (.inr (v1_46_7, M)))
  else ((f_X11_sign (41 : Int32) M).bind fun M67_7_46 =>
  nm (mset M67_7_46 257 19 ((M67_7_46 257 19) - (1 : Int32))) fun M77_7_46 =>
  nm (mset M77_7_46 257 12 ((M77_7_46 257 12) - (1 : Int32))) fun M87_7_46 =>
  if (f_X11_fine M87_7_46) = 0 then (j_X11_readEither_108_7_46 M87_7_46)
  else (bnd2 (f_X11_goesOnWith M87_7_46) fun u98_7_46 M98_7_46 =>
  if u98_7_46 = 0 then (j_X11_readEither_108_7_46 M98_7_46)
  else (j_X11_readEither_109_7_46 (1 : Int32) M98_7_46)))))
  else (some (.inr (v1_46_7, M)))
set_option maxRecDepth 100000 in
theorem b_X11_readEither_46_7_ok {C : zC} {d : Nat} {g : zG} {l : Launch} {w : zW} {r : zM} {v1_46_7 : Int32} (hB : bOK C cX11_readEither 2 RX11 d g l w false) (hd : 8 ≤ d) (M : zM) (hR : RtV C cX11_readEither w r) : Sg C w (0, 0) 46 [(0, zr w 257), (1, .int v1_46_7)] [] M (b_X11_readEither_46_7 v1_46_7 M) (fun o => Sum.elim (fun (s : (Int32 × zM)) => Zs C w (0, 0) 46 [(0, zr w 257), (1, .int s.1)] [] s.2) (fun (s : (Int32 × zM)) => Zs C w (0, 0) 7 [(0, zr w 257), (1, .int s.1)] [] s.2) o) := by
  have hC := hB.1.1
  have hq1 : 1 ≤ d := by omega
  unfold b_X11_readEither_46_7
  refine x_iload_n hC dX11_readEither_46 rfl 1 rfl ?_
  refine x_if_ne (tgt := 7) hC dX11_readEither_47 (by decide) ?_ ?_
  · refine x_aload_n hC dX11_readEither_50 rfl 0 rfl ?_
    refine r_cV0 (as := []) (rest := []) hB dX11_readEither_51 kv_X11_149 th_257 hq1 rfl rfl (Nat.le_of_ble_eq_true rfl) (f_X11_fine_met hB.2 (by omega)) ?_
    refine x_if_eq (tgt := 7) hC dX11_readEither_54 (by decide) ?_ ?_
    · exact x_done (fun h => h)
    · refine x_aload_n hC dX11_readEither_57 rfl 0 rfl ?_
      refine r_getI hB dX11_readEither_58 kf_X11_214 rfl th_257 ?_
      refine x_if_le (tgt := 7) hC dX11_readEither_61 (by decide) ?_ ?_
      · exact x_done (fun h => h)
      · refine x_aload_n hC dX11_readEither_64 rfl 0 rfl ?_
        refine x_bipush (v := (41 : Int32)) hC dX11_readEither_65 kb_41 ?_
        refine r_cVv (as := [.int (41 : Int32)]) (rest := []) hB dX11_readEither_67 kv_X11_188 th_257 hq1 rfl rfl (Nat.le_of_ble_eq_true rfl) (fun M' hv => f_X11_sign_met hB.2 (by omega) hv) (fun M67_7_46 => ?_)
        refine x_aload_n hC dX11_readEither_70 rfl 0 rfl ?_
        refine x_dup hC dX11_readEither_71 rfl ?_
        refine r_getI hB dX11_readEither_72 kf_X11_214 rfl th_257 ?_
        refine x_iconst (v := (1 : Int32)) hC dX11_readEither_75 ki_1 ?_
        refine x_isub hC dX11_readEither_76 ?_
        refine r_putI hB dX11_readEither_77 kf_X11_214 rfl th_257 ?_
        refine x_mem (fun M77_7_46 => ?_)
        refine x_aload_n hC dX11_readEither_80 rfl 0 rfl ?_
        refine x_dup hC dX11_readEither_81 rfl ?_
        refine r_getI hB dX11_readEither_82 kf_X11_166 rfl th_257 ?_
        refine x_iconst (v := (1 : Int32)) hC dX11_readEither_85 ki_1 ?_
        refine x_isub hC dX11_readEither_86 ?_
        refine r_putI hB dX11_readEither_87 kf_X11_166 rfl th_257 ?_
        refine x_mem (fun M87_7_46 => ?_)
        refine x_aload_n hC dX11_readEither_90 rfl 0 rfl ?_
        refine r_cV0 (as := []) (rest := []) hB dX11_readEither_91 kv_X11_149 th_257 hq1 rfl rfl (Nat.le_of_ble_eq_true rfl) (f_X11_fine_met hB.2 (by omega)) ?_
        refine x_if_eq (tgt := 108) hC dX11_readEither_94 (by decide) ?_ ?_
        · refine x_sub [0] rfl ?_
          exact j_X11_readEither_108_7_46_ok hB hd M87_7_46 hR
        · refine x_aload_n hC dX11_readEither_97 rfl 0 rfl ?_
          refine r_cV2 (as := []) (rest := []) hB dX11_readEither_98 kv_X11_231 th_257 hq1 rfl rfl (Nat.le_of_ble_eq_true rfl) (fun v M' hv => f_X11_goesOnWith_met hB.2 (by omega) hv) (fun u98_7_46 M98_7_46 => ?_)
          refine x_if_eq (tgt := 108) hC dX11_readEither_101 (by decide) ?_ ?_
          · refine x_sub [0] rfl ?_
            exact j_X11_readEither_108_7_46_ok hB hd M98_7_46 hR
          · refine x_iconst (v := (1 : Int32)) hC dX11_readEither_104 ki_1 ?_
            refine x_goto (tgt := 109) hC dX11_readEither_105 (by decide) ?_
            refine x_sub [0] rfl ?_
            exact j_X11_readEither_109_7_46_ok hB hd M98_7_46 hR
  · exact x_done (fun h => h)
noncomputable def j_X11_readEither_45_7 (s0_45_7 : Int32) (M : zM) : Option ((Int32 × zM) ⊕ (zM)) :=
  (loopW (fun s => b_X11_readEither_46_7 s.1 s.2) (s0_45_7, M)).bind (fun r => some (.inl (r.1, r.2)))
set_option maxRecDepth 100000 in
theorem j_X11_readEither_45_7_ok {C : zC} {d : Nat} {g : zG} {l : Launch} {w : zW} {r : zM} {s0_45_7 : Int32} (hB : bOK C cX11_readEither 2 RX11 d g l w false) (hd : 8 ≤ d) (M : zM) (hR : RtV C cX11_readEither w r) : Sg C w (0, 0) 45 [(0, zr w 257)] [.int s0_45_7] M (j_X11_readEither_45_7 s0_45_7 M) (fun o => Sum.elim (fun (s : (Int32 × zM)) => Zs C w (0, 0) 7 [(0, zr w 257), (1, .int s.1)] [] s.2) (fun (s : (zM)) => Zs C w (0, 0) 113 [] [] s) o) := by
  have hC := hB.1.1
  have hq1 : 1 ≤ d := by omega
  unfold j_X11_readEither_45_7
  refine x_istore_n hC dX11_readEither_45 rfl [(1, .int s0_45_7), (0, zr w 257)] (by decide) rfl ?_
  refine x_sub [1, 0] rfl ?_
  refine x_loopB (pc2 := 7) (fun (s : (Int32 × zM)) => [(0, zr w 257), (1, .int s.1)]) (fun (s : (Int32 × zM)) => s.2) (fun (s : (Int32 × zM)) => [(0, zr w 257), (1, .int s.1)]) (fun (s : (Int32 × zM)) => s.2) (s0_45_7, M) ?_ ?_
  · exact fun s => b_X11_readEither_46_7_ok hB hd s.2 hR
  · intro r9
    exact x_done (fun h => h)
noncomputable def j_X11_readEither_44_7 (M : zM) : Option ((Int32 × zM) ⊕ (zM)) :=
  j_X11_readEither_45_7 (0 : Int32) M
set_option maxRecDepth 100000 in
theorem j_X11_readEither_44_7_ok {C : zC} {d : Nat} {g : zG} {l : Launch} {w : zW} {r : zM} (hB : bOK C cX11_readEither 2 RX11 d g l w false) (hd : 8 ≤ d) (M : zM) (hR : RtV C cX11_readEither w r) : Sg C w (0, 0) 44 [(0, zr w 257)] [] M (j_X11_readEither_44_7 M) (fun o => Sum.elim (fun (s : (Int32 × zM)) => Zs C w (0, 0) 7 [(0, zr w 257), (1, .int s.1)] [] s.2) (fun (s : (zM)) => Zs C w (0, 0) 113 [] [] s) o) := by
  have hC := hB.1.1
  have hq1 : 1 ≤ d := by omega
  unfold j_X11_readEither_44_7
  refine x_iconst (v := (0 : Int32)) hC dX11_readEither_44 ki_0 ?_
  exact j_X11_readEither_45_7_ok hB hd M hR
noncomputable def b_X11_readEither_7 (v1_7 : Int32) (M : zM) : Option ((Int32 × zM) ⊕ (zM)) :=
  if v1_7 = 0 then (some (.inr M))
  else (if (f_X11_fine M) = 0 then (some (.inr M))
  else ((f_X11_readOpening M).bind fun M19_7 =>
  (f_X11_readTwo M19_7).bind fun M23_7 =>
  if (f_X11_fine M23_7) = 0 then (j_X11_readEither_44_7 M23_7)
  else (bnd2 (f_X11_goesOnWith M23_7) fun u34_7 M34_7 =>
  if u34_7 = 0 then (j_X11_readEither_44_7 M34_7)
  else (j_X11_readEither_45_7 (1 : Int32) M34_7))))
set_option maxRecDepth 100000 in
theorem b_X11_readEither_7_ok {C : zC} {d : Nat} {g : zG} {l : Launch} {w : zW} {r : zM} {v1_7 : Int32} (hB : bOK C cX11_readEither 2 RX11 d g l w false) (hd : 8 ≤ d) (M : zM) (hR : RtV C cX11_readEither w r) : Sg C w (0, 0) 7 [(0, zr w 257), (1, .int v1_7)] [] M (b_X11_readEither_7 v1_7 M) (fun o => Sum.elim (fun (s : (Int32 × zM)) => Zs C w (0, 0) 7 [(0, zr w 257), (1, .int s.1)] [] s.2) (fun (s : (zM)) => Zs C w (0, 0) 113 [] [] s) o) := by
  have hC := hB.1.1
  have hq1 : 1 ≤ d := by omega
  unfold b_X11_readEither_7
  refine x_iload_n hC dX11_readEither_7 rfl 1 rfl ?_
  refine x_if_eq (tgt := 113) hC dX11_readEither_8 (by decide) ?_ ?_
  · refine x_sub [] rfl ?_
    exact x_done (fun h => h)
  · refine x_aload_n hC dX11_readEither_11 rfl 0 rfl ?_
    refine r_cV0 (as := []) (rest := []) hB dX11_readEither_12 kv_X11_149 th_257 hq1 rfl rfl (Nat.le_of_ble_eq_true rfl) (f_X11_fine_met hB.2 (by omega)) ?_
    refine x_if_eq (tgt := 113) hC dX11_readEither_15 (by decide) ?_ ?_
    · refine x_sub [] rfl ?_
      exact x_done (fun h => h)
    · refine x_aload_n hC dX11_readEither_18 rfl 0 rfl ?_
      refine r_cVv (as := []) (rest := []) hB dX11_readEither_19 kv_X11_225 th_257 hq1 rfl rfl (Nat.le_of_ble_eq_true rfl) (fun M' hv => f_X11_readOpening_met hB.2 (by omega) hv) (fun M19_7 => ?_)
      refine x_aload_n hC dX11_readEither_22 rfl 0 rfl ?_
      refine r_cVv (as := []) (rest := []) hB dX11_readEither_23 kv_X11_228 th_257 hq1 rfl rfl (Nat.le_of_ble_eq_true rfl) (fun M' hv => f_X11_readTwo_met hB.2 (by omega) hv) (fun M23_7 => ?_)
      refine x_aload_n hC dX11_readEither_26 rfl 0 rfl ?_
      refine r_cV0 (as := []) (rest := []) hB dX11_readEither_27 kv_X11_149 th_257 hq1 rfl rfl (Nat.le_of_ble_eq_true rfl) (f_X11_fine_met hB.2 (by omega)) ?_
      refine x_if_eq (tgt := 44) hC dX11_readEither_30 (by decide) ?_ ?_
      · refine x_sub [0] rfl ?_
        exact j_X11_readEither_44_7_ok hB hd M23_7 hR
      · refine x_aload_n hC dX11_readEither_33 rfl 0 rfl ?_
        refine r_cV2 (as := []) (rest := []) hB dX11_readEither_34 kv_X11_231 th_257 hq1 rfl rfl (Nat.le_of_ble_eq_true rfl) (fun v M' hv => f_X11_goesOnWith_met hB.2 (by omega) hv) (fun u34_7 M34_7 => ?_)
        refine x_if_eq (tgt := 44) hC dX11_readEither_37 (by decide) ?_ ?_
        · refine x_sub [0] rfl ?_
          exact j_X11_readEither_44_7_ok hB hd M34_7 hR
        · refine x_iconst (v := (1 : Int32)) hC dX11_readEither_40 ki_1 ?_
          refine x_goto (tgt := 45) hC dX11_readEither_41 (by decide) ?_
          refine x_sub [0] rfl ?_
          exact j_X11_readEither_45_7_ok hB hd M34_7 hR
noncomputable def j_X11_readEither_113 (M : zM) : Option (zM) :=
  some M
set_option maxRecDepth 100000 in
theorem j_X11_readEither_113_ok {C : zC} {d : Nat} {g : zG} {l : Launch} {w : zW} {r : zM} (hB : bOK C cX11_readEither 2 RX11 d g l w false) (hd : 8 ≤ d) (M : zM) (hR : RtV C cX11_readEither w r) : Sg C w (0, 0) 113 [] [] M (j_X11_readEither_113 M) (fun q => q = r) := by
  have hC := hB.1.1
  have hq1 : 1 ≤ d := by omega
  unfold j_X11_readEither_113
  exact r_retV hR dX11_readEither_113 (fun h => h)
noncomputable def f_X11_readEither (M : zM) : Option (zM) :=
  nm (mset M 257 19 (0 : Int32)) fun M2 =>
  (loopW (fun s => b_X11_readEither_7 s.1 s.2) ((1 : Int32), M2)).bind (fun r => j_X11_readEither_113 r)
set_option maxRecDepth 100000 in
theorem f_X11_readEither_ok {C : zC} {d : Nat} {g : zG} {l : Launch} {w : zW} {r : zM} (hB : bOK C cX11_readEither 2 RX11 d g l w false) (hd : 8 ≤ d) (M : zM) (hR : RtV C cX11_readEither w r) : Sg C w (0, 0) 0 [(0, zr w 257)] [] M (f_X11_readEither M) (fun q => q = r) := by
  have hC := hB.1.1
  have hq1 : 1 ≤ d := by omega
  unfold f_X11_readEither
  refine x_aload_n hC dX11_readEither_0 rfl 0 rfl ?_
  refine x_iconst (v := (0 : Int32)) hC dX11_readEither_1 ki_0 ?_
  refine r_putI hB dX11_readEither_2 kf_X11_214 rfl th_257 ?_
  refine x_mem (fun M2 => ?_)
  refine x_iconst (v := (1 : Int32)) hC dX11_readEither_5 ki_1 ?_
  refine x_istore_n hC dX11_readEither_6 rfl [(1, .int (1 : Int32)), (0, zr w 257)] (by decide) rfl ?_
  refine x_sub [1, 0] rfl ?_
  refine x_loopB (pc2 := 113) (fun (s : (Int32 × zM)) => [(0, zr w 257), (1, .int s.1)]) (fun (s : (Int32 × zM)) => s.2) (fun (s : (zM)) => []) (fun (s : (zM)) => s) ((1 : Int32), M2) ?_ ?_
  · exact fun s => b_X11_readEither_7_ok hB hd s.2 hR
  · intro r9
    exact j_X11_readEither_113_ok hB hd r9 hR
theorem f_X11_readEither_met {l : Launch} {d : Nat} {g : zG} {w : zW} {M0 : zM} {M : zM} (hw : wS w) (hd : 8 ≤ d) {M' : zM} (h : f_X11_readEither M = some M') : zMet l yX11_readEither cX11_readEither 2 none d g w (zin false) M0 [zr w 257] M none M' :=
  met_v (by decide +kernel) (Nat.le_of_ble_eq_true rfl) (fun C hB0 hR => f_X11_readEither_ok ⟨hB0, hw⟩ hd M hR _ h rfl)
/-! WindingSquareModel.goesMinute()V -/
noncomputable def j_X11_goesMinute_64_2 (v1_64_2 : Int32) (M : zM) : Option ((Int32 × zM) ⊕ (zM)) :=
  some (.inl ((v1_64_2 + (1 : Int32)), M))
set_option maxRecDepth 100000 in
theorem j_X11_goesMinute_64_2_ok {C : zC} {d : Nat} {g : zG} {l : Launch} {w : zW} {r : zM} {v1_64_2 : Int32} (hB : bOK C cX11_goesMinute 3 RX11 d g l w false) (hd : 8 ≤ d) (M : zM) (hR : RtV C cX11_goesMinute w r) : Sg C w (0, 0) 64 [(0, zr w 257), (1, .int v1_64_2)] [] M (j_X11_goesMinute_64_2 v1_64_2 M) (fun o => Sum.elim (fun (s : (Int32 × zM)) => Zs C w (0, 0) 2 [(0, zr w 257), (1, .int s.1)] [] s.2) (fun (s : (zM)) => Zs C w (0, 0) 70 [(0, zr w 257)] [] s) o) := by
  have hC := hB.1.1
  have hq1 : 1 ≤ d := by omega
  unfold j_X11_goesMinute_64_2
  refine x_iinc hC dX11_goesMinute_64 ki_1 [(1, .int (v1_64_2 + (1 : Int32))), (0, zr w 257)] 1 rfl (by decide) rfl ?_
  refine x_goto (tgt := 2) hC dX11_goesMinute_67 (by decide) ?_
  refine x_sub [1, 0] rfl ?_
  exact x_done (fun h => h)
noncomputable def b_X11_goesMinute_2 (v1_2 : Int32) (M : zM) : Option ((Int32 × zM) ⊕ (zM)) :=
  if (M 259 (ix (940 : Int32))) ≤ v1_2 then (some (.inr M))
  else ((f_X11_has v1_2 (1 : Int32) M).bind fun u17_2 =>
  if u17_2 = 0 then (j_X11_goesMinute_64_2 v1_2 M)
  else ((f_X11_nextWord v1_2 M).bind fun u28_2 =>
  (f_X11_adds v1_2 (8 : Int32) (1 : Int32) M).bind fun M37_2 =>
  if (3 : Int32) ≤ u28_2 then (if u28_2 = (3 : Int32) then ((f_X11_goesOn v1_2 M37_2).bind fun M61_2 =>
  j_X11_goesMinute_64_2 v1_2 M61_2)
  else (j_X11_goesMinute_64_2 v1_2 M37_2))
  else ((f_X11_turnsRound v1_2 u28_2 M37_2).bind fun M48_2 =>
  j_X11_goesMinute_64_2 v1_2 M48_2)))
set_option maxRecDepth 100000 in
theorem b_X11_goesMinute_2_ok {C : zC} {d : Nat} {g : zG} {l : Launch} {w : zW} {r : zM} {v1_2 : Int32} (hB : bOK C cX11_goesMinute 3 RX11 d g l w false) (hd : 8 ≤ d) (M : zM) (hR : RtV C cX11_goesMinute w r) : Sg C w (0, 0) 2 [(0, zr w 257), (1, .int v1_2)] [] M (b_X11_goesMinute_2 v1_2 M) (fun o => Sum.elim (fun (s : (Int32 × zM)) => Zs C w (0, 0) 2 [(0, zr w 257), (1, .int s.1)] [] s.2) (fun (s : (zM)) => Zs C w (0, 0) 70 [(0, zr w 257)] [] s) o) := by
  have hC := hB.1.1
  have hq1 : 1 ≤ d := by omega
  unfold b_X11_goesMinute_2
  refine x_iload_n hC dX11_goesMinute_2 rfl 1 rfl ?_
  refine x_aload_n hC dX11_goesMinute_3 rfl 0 rfl ?_
  refine r_getR hB dX11_goesMinute_4 kf_X11_13 rfl th_257 rf_257_1 ?_
  refine x_sipush (v := (940 : Int32)) hC dX11_goesMinute_7 kh_940 ?_
  refine r_iald0 hB dX11_goesMinute_10 th_259 ib_940_2425 ?_
  refine x_icmp_ge (tgt := 70) hC dX11_goesMinute_11 (by decide) ?_ ?_
  · refine x_sub [0] rfl ?_
    exact x_done (fun h => h)
  · refine x_aload_n hC dX11_goesMinute_14 rfl 0 rfl ?_
    refine x_iload_n hC dX11_goesMinute_15 rfl 1 rfl ?_
    refine x_iconst (v := (1 : Int32)) hC dX11_goesMinute_16 ki_1 ?_
    refine r_cV1 (as := [.int v1_2, .int (1 : Int32)]) (rest := []) hB dX11_goesMinute_17 kv_X11_104 th_257 hq1 rfl rfl (Nat.le_of_ble_eq_true rfl) (fun v hv => f_X11_has_met hB.2 (by omega) hv) (fun u17_2 => ?_)
    refine x_if_ne (tgt := 26) hC dX11_goesMinute_20 (by decide) ?_ ?_
    · refine x_goto (tgt := 64) hC dX11_goesMinute_23 (by decide) ?_
      exact j_X11_goesMinute_64_2_ok hB hd M hR
    · refine x_aload_n hC dX11_goesMinute_26 rfl 0 rfl ?_
      refine x_iload_n hC dX11_goesMinute_27 rfl 1 rfl ?_
      refine r_cV1 (as := [.int v1_2]) (rest := []) hB dX11_goesMinute_28 kv_X11_301 th_257 hq1 rfl rfl (Nat.le_of_ble_eq_true rfl) (fun v hv => f_X11_nextWord_met hB.2 (by omega) hv) (fun u28_2 => ?_)
      refine x_istore_n hC dX11_goesMinute_31 rfl [(2, .int u28_2), (0, zr w 257), (1, .int v1_2)] (by decide) rfl ?_
      refine x_aload_n hC dX11_goesMinute_32 rfl 1 rfl ?_
      refine x_iload_n hC dX11_goesMinute_33 rfl 2 rfl ?_
      refine x_bipush (v := (8 : Int32)) hC dX11_goesMinute_34 kb_8 ?_
      refine x_iconst (v := (1 : Int32)) hC dX11_goesMinute_36 ki_1 ?_
      refine r_cVv (as := [.int v1_2, .int (8 : Int32), .int (1 : Int32)]) (rest := []) hB dX11_goesMinute_37 kv_X11_270 th_257 hq1 rfl rfl (Nat.le_of_ble_eq_true rfl) (fun M' hv => f_X11_adds_met hB.2 (by omega) hv) (fun M37_2 => ?_)
      refine x_iload_n hC dX11_goesMinute_40 rfl 0 rfl ?_
      refine x_iconst (v := (3 : Int32)) hC dX11_goesMinute_41 ki_3 ?_
      refine x_icmp_ge (tgt := 54) hC dX11_goesMinute_42 (by decide) ?_ ?_
      · refine x_iload_n hC dX11_goesMinute_54 rfl 0 rfl ?_
        refine x_iconst (v := (3 : Int32)) hC dX11_goesMinute_55 ki_3 ?_
        refine x_icmp_ne (tgt := 64) hC dX11_goesMinute_56 (by decide) ?_ ?_
        · refine x_aload_n hC dX11_goesMinute_59 rfl 1 rfl ?_
          refine x_iload_n hC dX11_goesMinute_60 rfl 2 rfl ?_
          refine r_cVv (as := [.int v1_2]) (rest := []) hB dX11_goesMinute_61 kv_X11_307 th_257 hq1 rfl rfl (Nat.le_of_ble_eq_true rfl) (fun M' hv => f_X11_goesOn_met hB.2 (by omega) hv) (fun M61_2 => ?_)
          refine x_sub [1, 2] rfl ?_
          exact j_X11_goesMinute_64_2_ok hB hd M61_2 hR
        · refine x_sub [1, 2] rfl ?_
          exact j_X11_goesMinute_64_2_ok hB hd M37_2 hR
      · refine x_aload_n hC dX11_goesMinute_45 rfl 1 rfl ?_
        refine x_iload_n hC dX11_goesMinute_46 rfl 2 rfl ?_
        refine x_iload_n hC dX11_goesMinute_47 rfl 0 rfl ?_
        refine r_cVv (as := [.int v1_2, .int u28_2]) (rest := []) hB dX11_goesMinute_48 kv_X11_304 th_257 hq1 rfl rfl (Nat.le_of_ble_eq_true rfl) (fun M' hv => f_X11_turnsRound_met hB.2 (by omega) hv) (fun M48_2 => ?_)
        refine x_goto (tgt := 64) hC dX11_goesMinute_51 (by decide) ?_
        refine x_sub [1, 2] rfl ?_
        exact j_X11_goesMinute_64_2_ok hB hd M48_2 hR
noncomputable def j_X11_goesMinute_70 (M : zM) : Option (zM) :=
  nm (mset M 259 (ix (936 : Int32)) ((M 259 (ix (936 : Int32))) + (1 : Int32))) fun M81 =>
  some M81
set_option maxRecDepth 100000 in
theorem j_X11_goesMinute_70_ok {C : zC} {d : Nat} {g : zG} {l : Launch} {w : zW} {r : zM} (hB : bOK C cX11_goesMinute 3 RX11 d g l w false) (hd : 8 ≤ d) (M : zM) (hR : RtV C cX11_goesMinute w r) : Sg C w (0, 0) 70 [(0, zr w 257)] [] M (j_X11_goesMinute_70 M) (fun q => q = r) := by
  have hC := hB.1.1
  have hq1 : 1 ≤ d := by omega
  unfold j_X11_goesMinute_70
  refine x_aload_n hC dX11_goesMinute_70 rfl 0 rfl ?_
  refine r_getR hB dX11_goesMinute_71 kf_X11_13 rfl th_257 rf_257_1 ?_
  refine x_sipush (v := (936 : Int32)) hC dX11_goesMinute_74 kh_936 ?_
  refine x_dup2 hC dX11_goesMinute_77 rfl rfl ?_
  refine r_iald0 hB dX11_goesMinute_78 th_259 ib_936_2425 ?_
  refine x_iconst (v := (1 : Int32)) hC dX11_goesMinute_79 ki_1 ?_
  refine x_iadd hC dX11_goesMinute_80 ?_
  refine r_iast0 hB dX11_goesMinute_81 th_259 ib_936_2425 ?_
  refine x_mem (fun M81 => ?_)
  exact r_retV hR dX11_goesMinute_82 (fun h => h)
noncomputable def f_X11_goesMinute (M : zM) : Option (zM) :=
  (loopW (fun s => b_X11_goesMinute_2 s.1 s.2) ((0 : Int32), M)).bind (fun r => j_X11_goesMinute_70 r)
set_option maxRecDepth 100000 in
theorem f_X11_goesMinute_ok {C : zC} {d : Nat} {g : zG} {l : Launch} {w : zW} {r : zM} (hB : bOK C cX11_goesMinute 3 RX11 d g l w false) (hd : 8 ≤ d) (M : zM) (hR : RtV C cX11_goesMinute w r) : Sg C w (0, 0) 0 [(0, zr w 257)] [] M (f_X11_goesMinute M) (fun q => q = r) := by
  have hC := hB.1.1
  have hq1 : 1 ≤ d := by omega
  unfold f_X11_goesMinute
  refine x_iconst (v := (0 : Int32)) hC dX11_goesMinute_0 ki_0 ?_
  refine x_istore_n hC dX11_goesMinute_1 rfl [(1, .int (0 : Int32)), (0, zr w 257)] (by decide) rfl ?_
  refine x_sub [1, 0] rfl ?_
  refine x_loopB (pc2 := 70) (fun (s : (Int32 × zM)) => [(0, zr w 257), (1, .int s.1)]) (fun (s : (Int32 × zM)) => s.2) (fun (s : (zM)) => [(0, zr w 257)]) (fun (s : (zM)) => s) ((0 : Int32), M) ?_ ?_
  · exact fun s => b_X11_goesMinute_2_ok hB hd s.2 hR
  · intro r9
    exact j_X11_goesMinute_70_ok hB hd r9 hR
theorem f_X11_goesMinute_met {l : Launch} {d : Nat} {g : zG} {w : zW} {M0 : zM} {M : zM} (hw : wS w) (hd : 8 ≤ d) {M' : zM} (h : f_X11_goesMinute M = some M') : zMet l yX11_goesMinute cX11_goesMinute 3 none d g w (zin false) M0 [zr w 257] M none M' :=
  met_v (by decide +kernel) (Nat.le_of_ble_eq_true rfl) (fun C hB0 hR => f_X11_goesMinute_ok ⟨hB0, hw⟩ hd M hR _ h rfl)
/-! WindingSquareModel.readRule(I)V -/
noncomputable def j_X11_readRule_156 (v1_156 : Int32) (v3_156 : Int32) (v4_156 : Int32) (v5_156 : Int32) (v6_156 : Int32) (M : zM) : Option (zM) :=
  if (f_X11_fine M) = 0 then (some M)
  else (nm ((945 : Int32) + ((5 : Int32) * v1_156)) fun v7_171 =>
  grd (inb v7_171 2425) (
  nm (mset M 263 (ix v7_171) v3_156) fun M180 =>
  grd (inb (v7_171 + (1 : Int32)) 2425) (
  nm (mset M180 263 (ix (v7_171 + (1 : Int32))) v4_156) fun M191 =>
  grd (inb (v7_171 + (2 : Int32)) 2425) (
  nm (mset M191 263 (ix (v7_171 + (2 : Int32))) v5_156) fun M202 =>
  grd (inb (v7_171 + (3 : Int32)) 2425) (
  nm (mset M202 263 (ix (v7_171 + (3 : Int32))) v5_156) fun M213 =>
  grd (inb (v7_171 + (4 : Int32)) 2425) (
  nm (mset M213 263 (ix (v7_171 + (4 : Int32))) v6_156) fun M224 =>
  some M224))))))
set_option maxRecDepth 100000 in
theorem j_X11_readRule_156_ok {C : zC} {d : Nat} {g : zG} {l : Launch} {w : zW} {r : zM} {v1_156 : Int32} {v3_156 : Int32} {v4_156 : Int32} {v5_156 : Int32} {v6_156 : Int32} (hB : bOK C cX11_readRule 8 RX11 d g l w false) (hd : 9 ≤ d) (M : zM) (hR : RtV C cX11_readRule w r) : Sg C w (0, 0) 156 [(0, zr w 257), (1, .int v1_156), (3, .int v3_156), (4, .int v4_156), (5, .int v5_156), (6, .int v6_156)] [] M (j_X11_readRule_156 v1_156 v3_156 v4_156 v5_156 v6_156 M) (fun q => q = r) := by
  have hC := hB.1.1
  have hq1 : 1 ≤ d := by omega
  unfold j_X11_readRule_156
  refine x_aload_n hC dX11_readRule_156 rfl 0 rfl ?_
  refine r_cV0 (as := []) (rest := []) hB dX11_readRule_157 kv_X11_149 th_257 hq1 rfl rfl (Nat.le_of_ble_eq_true rfl) (f_X11_fine_met hB.2 (by omega)) ?_
  refine x_if_ne (tgt := 164) hC dX11_readRule_160 (by decide) ?_ ?_
  · exact r_retV hR dX11_readRule_163 (fun h => h)
  · refine x_sipush (v := (945 : Int32)) hC dX11_readRule_164 kh_945 ?_
    refine x_iconst (v := (5 : Int32)) hC dX11_readRule_167 ki_5 ?_
    refine x_iload_n hC dX11_readRule_168 rfl 1 rfl ?_
    refine x_imul hC dX11_readRule_169 ?_
    refine x_iadd hC dX11_readRule_170 ?_
    refine x_top (fun v7_171 => ?_)
    refine x_istore (f := 0) hC dX11_readRule_171 [(7, .int v7_171), (0, zr w 257), (1, .int v1_156), (3, .int v3_156), (4, .int v4_156), (5, .int v5_156), (6, .int v6_156)] (by decide) rfl ?_
    refine x_aload_n hC dX11_readRule_173 rfl 1 rfl ?_
    refine r_getR hB dX11_readRule_174 kf_X11_29 rfl th_257 rf_257_16 ?_
    refine x_iload hC dX11_readRule_177 0 rfl ?_
    refine x_iload_n hC dX11_readRule_179 rfl 3 rfl ?_
    refine r_iast hB dX11_readRule_180 th_263 ?_
    refine x_mem (fun M180 => ?_)
    refine x_aload_n hC dX11_readRule_181 rfl 1 rfl ?_
    refine r_getR hB dX11_readRule_182 kf_X11_29 rfl th_257 rf_257_16 ?_
    refine x_iload hC dX11_readRule_185 0 rfl ?_
    refine x_iconst (v := (1 : Int32)) hC dX11_readRule_187 ki_1 ?_
    refine x_iadd hC dX11_readRule_188 ?_
    refine x_iload hC dX11_readRule_189 4 rfl ?_
    refine r_iast hB dX11_readRule_191 th_263 ?_
    refine x_mem (fun M191 => ?_)
    refine x_aload_n hC dX11_readRule_192 rfl 1 rfl ?_
    refine r_getR hB dX11_readRule_193 kf_X11_29 rfl th_257 rf_257_16 ?_
    refine x_iload hC dX11_readRule_196 0 rfl ?_
    refine x_iconst (v := (2 : Int32)) hC dX11_readRule_198 ki_2 ?_
    refine x_iadd hC dX11_readRule_199 ?_
    refine x_iload hC dX11_readRule_200 5 rfl ?_
    refine r_iast hB dX11_readRule_202 th_263 ?_
    refine x_mem (fun M202 => ?_)
    refine x_aload_n hC dX11_readRule_203 rfl 1 rfl ?_
    refine r_getR hB dX11_readRule_204 kf_X11_29 rfl th_257 rf_257_16 ?_
    refine x_iload hC dX11_readRule_207 0 rfl ?_
    refine x_iconst (v := (3 : Int32)) hC dX11_readRule_209 ki_3 ?_
    refine x_iadd hC dX11_readRule_210 ?_
    refine x_iload hC dX11_readRule_211 5 rfl ?_
    refine r_iast hB dX11_readRule_213 th_263 ?_
    refine x_mem (fun M213 => ?_)
    refine x_aload_n hC dX11_readRule_214 rfl 1 rfl ?_
    refine r_getR hB dX11_readRule_215 kf_X11_29 rfl th_257 rf_257_16 ?_
    refine x_iload hC dX11_readRule_218 0 rfl ?_
    refine x_iconst (v := (4 : Int32)) hC dX11_readRule_220 ki_4 ?_
    refine x_iadd hC dX11_readRule_221 ?_
    refine x_iload hC dX11_readRule_222 6 rfl ?_
    refine r_iast hB dX11_readRule_224 th_263 ?_
    refine x_mem (fun M224 => ?_)
    exact r_retV hR dX11_readRule_225 (fun h => h)
noncomputable def j_X11_readRule_93 (v1_93 : Int32) (v3_93 : Int32) (s1_93 : Int32) (s2_93 : Int32) (M : zM) : Option (zM) :=
  (f_X11_mayBegin s1_93 s2_93 M).bind fun M93 =>
  nm (M93 257 17) fun v4_100 =>
  (f_X11_readSum M93).bind fun M103 =>
  nm (M103 257 17) fun v5_110 =>
  if (f_X11_fine M103) = 0 then (j_X11_readRule_156 v1_93 v3_93 v4_100 v5_110 (-1 : Int32) M103)
  else (bnd2 (f_X11_word M103) fun u123 M123 =>
  if u123 = (f_X11_spelt (119 : Int32) (104 : Int32) (101 : Int32) (110 : Int32) (0 : Int32) (0 : Int32)) then ((f_X11_pass M123).bind fun M143 =>
  (f_X11_readEither M143).bind fun M147 =>
  nm (M147 257 17) fun v6_154 =>
  j_X11_readRule_156 v1_93 v3_93 v4_100 v5_110 v6_154 M147)
  else (j_X11_readRule_156 v1_93 v3_93 v4_100 v5_110 (-1 : Int32) M123))
set_option maxRecDepth 100000 in
theorem j_X11_readRule_93_ok {C : zC} {d : Nat} {g : zG} {l : Launch} {w : zW} {r : zM} {v1_93 : Int32} {v3_93 : Int32} {s1_93 : Int32} {s2_93 : Int32} (hB : bOK C cX11_readRule 8 RX11 d g l w false) (hd : 9 ≤ d) (M : zM) (hR : RtV C cX11_readRule w r) : Sg C w (0, 0) 93 [(0, zr w 257), (1, .int v1_93), (3, .int v3_93)] [.int s2_93, .int s1_93, zr w 257] M (j_X11_readRule_93 v1_93 v3_93 s1_93 s2_93 M) (fun q => q = r) := by
  have hC := hB.1.1
  have hq1 : 1 ≤ d := by omega
  unfold j_X11_readRule_93
  refine r_cVv (as := [.int s1_93, .int s2_93]) (rest := []) hB dX11_readRule_93 kv_X11_198 th_257 hq1 rfl rfl (Nat.le_of_ble_eq_true rfl) (fun M' hv => f_X11_mayBegin_met hB.2 (by omega) hv) (fun M93 => ?_)
  refine x_aload_n hC dX11_readRule_96 rfl 0 rfl ?_
  refine r_getI hB dX11_readRule_97 kf_X11_172 rfl th_257 ?_
  refine x_top (fun v4_100 => ?_)
  refine x_istore (f := 0) hC dX11_readRule_100 [(4, .int v4_100), (0, zr w 257), (1, .int v1_93), (3, .int v3_93)] (by decide) rfl ?_
  refine x_aload_n hC dX11_readRule_102 rfl 1 rfl ?_
  refine r_cVv (as := []) (rest := []) hB dX11_readRule_103 kv_X11_208 th_257 hq1 rfl rfl (Nat.le_of_ble_eq_true rfl) (fun M' hv => f_X11_readSum_met hB.2 (by omega) hv) (fun M103 => ?_)
  refine x_aload_n hC dX11_readRule_106 rfl 1 rfl ?_
  refine r_getI hB dX11_readRule_107 kf_X11_172 rfl th_257 ?_
  refine x_top (fun v5_110 => ?_)
  refine x_istore (f := 0) hC dX11_readRule_110 [(5, .int v5_110), (4, .int v4_100), (0, zr w 257), (1, .int v1_93), (3, .int v3_93)] (by decide) rfl ?_
  refine x_iconst (v := (-1 : Int32)) hC dX11_readRule_112 ki_m1 ?_
  refine x_istore (f := 0) hC dX11_readRule_113 [(6, .int (-1 : Int32)), (5, .int v5_110), (4, .int v4_100), (0, zr w 257), (1, .int v1_93), (3, .int v3_93)] (by decide) rfl ?_
  refine x_aload_n hC dX11_readRule_115 rfl 3 rfl ?_
  refine r_cV0 (as := []) (rest := []) hB dX11_readRule_116 kv_X11_149 th_257 hq1 rfl rfl (Nat.le_of_ble_eq_true rfl) (f_X11_fine_met hB.2 (by omega)) ?_
  refine x_if_eq (tgt := 156) hC dX11_readRule_119 (by decide) ?_ ?_
  · refine x_sub [3, 4, 5, 2, 1, 0] rfl ?_
    exact j_X11_readRule_156_ok hB hd M103 hR
  · refine x_aload_n hC dX11_readRule_122 rfl 3 rfl ?_
    refine r_cV2 (as := []) (rest := []) hB dX11_readRule_123 kv_X11_160 th_257 hq1 rfl rfl (Nat.le_of_ble_eq_true rfl) (fun v M' hv => f_X11_word_met hB.2 (by omega) hv) (fun u123 M123 => ?_)
    refine x_bipush (v := (119 : Int32)) hC dX11_readRule_126 kb_119 ?_
    refine x_bipush (v := (104 : Int32)) hC dX11_readRule_128 kb_104 ?_
    refine x_bipush (v := (101 : Int32)) hC dX11_readRule_130 kb_101 ?_
    refine x_bipush (v := (110 : Int32)) hC dX11_readRule_132 kb_110 ?_
    refine x_iconst (v := (0 : Int32)) hC dX11_readRule_134 ki_0 ?_
    refine x_iconst (v := (0 : Int32)) hC dX11_readRule_135 ki_0 ?_
    refine r_cS0 (as := [.int (119 : Int32), .int (104 : Int32), .int (101 : Int32), .int (110 : Int32), .int (0 : Int32), .int (0 : Int32)]) (rest := [.int u123]) hB dX11_readRule_136 ks_X11_194 hq1 rfl rfl (Nat.le_of_ble_eq_true rfl) (f_X11_spelt_met hB.2 (by omega)) ?_
    refine x_icmp_ne (tgt := 156) hC dX11_readRule_139 (by decide) ?_ ?_
    · refine x_aload_n hC dX11_readRule_142 rfl 3 rfl ?_
      refine r_cVv (as := []) (rest := []) hB dX11_readRule_143 kv_X11_163 th_257 hq1 rfl rfl (Nat.le_of_ble_eq_true rfl) (fun M' hv => f_X11_pass_met hB.2 (by omega) hv) (fun M143 => ?_)
      refine x_aload_n hC dX11_readRule_146 rfl 3 rfl ?_
      refine r_cVv (as := []) (rest := []) hB dX11_readRule_147 kv_X11_211 th_257 hq1 rfl rfl (Nat.le_of_ble_eq_true rfl) (fun M' hv => f_X11_readEither_met hB.2 (by omega) hv) (fun M147 => ?_)
      refine x_aload_n hC dX11_readRule_150 rfl 3 rfl ?_
      refine r_getI hB dX11_readRule_151 kf_X11_172 rfl th_257 ?_
      refine x_top (fun v6_154 => ?_)
      refine x_istore (f := 0) hC dX11_readRule_154 [(6, .int v6_154), (5, .int v5_110), (4, .int v4_100), (0, zr w 257), (1, .int v1_93), (3, .int v3_93)] (by decide) rfl ?_
      refine x_sub [3, 4, 5, 2, 1, 0] rfl ?_
      exact j_X11_readRule_156_ok hB hd M147 hR
    · refine x_sub [3, 4, 5, 2, 1, 0] rfl ?_
      exact j_X11_readRule_156_ok hB hd M123 hR
noncomputable def j_X11_readRule_82 (v1_82 : Int32) (v3_82 : Int32) (s1_82 : Int32) (M : zM) : Option (zM) :=
  if v1_82 = (16 : Int32) then (j_X11_readRule_93 v1_82 v3_82 s1_82 (1 : Int32) M)
  else (j_X11_readRule_93 v1_82 v3_82 s1_82 (0 : Int32) M)
set_option maxRecDepth 100000 in
theorem j_X11_readRule_82_ok {C : zC} {d : Nat} {g : zG} {l : Launch} {w : zW} {r : zM} {v1_82 : Int32} {v3_82 : Int32} {s1_82 : Int32} (hB : bOK C cX11_readRule 8 RX11 d g l w false) (hd : 9 ≤ d) (M : zM) (hR : RtV C cX11_readRule w r) : Sg C w (0, 0) 82 [(0, zr w 257), (1, .int v1_82), (3, .int v3_82)] [.int s1_82, zr w 257] M (j_X11_readRule_82 v1_82 v3_82 s1_82 M) (fun q => q = r) := by
  have hC := hB.1.1
  have hq1 : 1 ≤ d := by omega
  unfold j_X11_readRule_82
  refine x_iload_n hC dX11_readRule_82 rfl 1 rfl ?_
  refine x_bipush (v := (16 : Int32)) hC dX11_readRule_83 kb_16 ?_
  refine x_icmp_ne (tgt := 92) hC dX11_readRule_85 (by decide) ?_ ?_
  · refine x_iconst (v := (1 : Int32)) hC dX11_readRule_88 ki_1 ?_
    refine x_goto (tgt := 93) hC dX11_readRule_89 (by decide) ?_
    exact j_X11_readRule_93_ok hB hd M hR
  · refine x_iconst (v := (0 : Int32)) hC dX11_readRule_92 ki_0 ?_
    exact j_X11_readRule_93_ok hB hd M hR
noncomputable def j_X11_readRule_70 (v1_70 : Int32) (s0_70 : Int32) (M : zM) : Option (zM) :=
  if s0_70 = (-1 : Int32) then (j_X11_readRule_82 v1_70 s0_70 (0 : Int32) M)
  else (j_X11_readRule_82 v1_70 s0_70 (1 : Int32) M)
set_option maxRecDepth 100000 in
theorem j_X11_readRule_70_ok {C : zC} {d : Nat} {g : zG} {l : Launch} {w : zW} {r : zM} {v1_70 : Int32} {s0_70 : Int32} (hB : bOK C cX11_readRule 8 RX11 d g l w false) (hd : 9 ≤ d) (M : zM) (hR : RtV C cX11_readRule w r) : Sg C w (0, 0) 70 [(0, zr w 257), (1, .int v1_70)] [.int s0_70] M (j_X11_readRule_70 v1_70 s0_70 M) (fun q => q = r) := by
  have hC := hB.1.1
  have hq1 : 1 ≤ d := by omega
  unfold j_X11_readRule_70
  refine x_istore_n hC dX11_readRule_70 rfl [(3, .int s0_70), (0, zr w 257), (1, .int v1_70)] (by decide) rfl ?_
  refine x_aload_n hC dX11_readRule_71 rfl 1 rfl ?_
  refine x_iload_n hC dX11_readRule_72 rfl 0 rfl ?_
  refine x_iconst (v := (-1 : Int32)) hC dX11_readRule_73 ki_m1 ?_
  refine x_icmp_eq (tgt := 81) hC dX11_readRule_74 (by decide) ?_ ?_
  · refine x_iconst (v := (0 : Int32)) hC dX11_readRule_81 ki_0 ?_
    refine x_sub [1, 2, 0] rfl ?_
    exact j_X11_readRule_82_ok hB hd M hR
  · refine x_iconst (v := (1 : Int32)) hC dX11_readRule_77 ki_1 ?_
    refine x_goto (tgt := 82) hC dX11_readRule_78 (by decide) ?_
    refine x_sub [1, 2, 0] rfl ?_
    exact j_X11_readRule_82_ok hB hd M hR
noncomputable def f_X11_readRule (p1 : Int32) (M : zM) : Option (zM) :=
  bnd2 (f_X11_word M) fun u1 M1 =>
  if u1 = (f_X11_spelt (115 : Int32) (108 : Int32) (105 : Int32) (112 : Int32) (115 : Int32) (0 : Int32)) then (j_X11_readRule_70 p1 (0 : Int32) M1)
  else (if u1 = (f_X11_spelt (115 : Int32) (101 : Int32) (101 : Int32) (115 : Int32) (0 : Int32) (0 : Int32)) then (j_X11_readRule_70 p1 (1 : Int32) M1)
  else (if u1 = (f_X11_spelt (112 : Int32) (97 : Int32) (121 : Int32) (115 : Int32) (0 : Int32) (0 : Int32)) then (j_X11_readRule_70 p1 (2 : Int32) M1)
  else (j_X11_readRule_70 p1 (-1 : Int32) M1)))
set_option maxRecDepth 100000 in
theorem f_X11_readRule_ok {C : zC} {d : Nat} {g : zG} {l : Launch} {w : zW} {r : zM} {p1 : Int32} (hB : bOK C cX11_readRule 8 RX11 d g l w false) (hd : 9 ≤ d) (M : zM) (hR : RtV C cX11_readRule w r) : Sg C w (0, 0) 0 [(0, zr w 257), (1, .int p1)] [] M (f_X11_readRule p1 M) (fun q => q = r) := by
  have hC := hB.1.1
  have hq1 : 1 ≤ d := by omega
  unfold f_X11_readRule
  refine x_aload_n hC dX11_readRule_0 rfl 0 rfl ?_
  refine r_cV2 (as := []) (rest := []) hB dX11_readRule_1 kv_X11_160 th_257 hq1 rfl rfl (Nat.le_of_ble_eq_true rfl) (fun v M' hv => f_X11_word_met hB.2 (by omega) hv) (fun u1 M1 => ?_)
  refine x_istore_n hC dX11_readRule_4 rfl [(2, .int u1), (0, zr w 257), (1, .int p1)] (by decide) rfl ?_
  refine x_iload_n hC dX11_readRule_5 rfl 0 rfl ?_
  refine x_bipush (v := (115 : Int32)) hC dX11_readRule_6 kb_115 ?_
  refine x_bipush (v := (108 : Int32)) hC dX11_readRule_8 kb_108 ?_
  refine x_bipush (v := (105 : Int32)) hC dX11_readRule_10 kb_105 ?_
  refine x_bipush (v := (112 : Int32)) hC dX11_readRule_12 kb_112 ?_
  refine x_bipush (v := (115 : Int32)) hC dX11_readRule_14 kb_115 ?_
  refine x_iconst (v := (0 : Int32)) hC dX11_readRule_16 ki_0 ?_
  refine r_cS0 (as := [.int (115 : Int32), .int (108 : Int32), .int (105 : Int32), .int (112 : Int32), .int (115 : Int32), .int (0 : Int32)]) (rest := [.int u1]) hB dX11_readRule_17 ks_X11_194 hq1 rfl rfl (Nat.le_of_ble_eq_true rfl) (f_X11_spelt_met hB.2 (by omega)) ?_
  refine x_icmp_ne (tgt := 27) hC dX11_readRule_20 (by decide) ?_ ?_
  · refine x_iconst (v := (0 : Int32)) hC dX11_readRule_23 ki_0 ?_
    refine x_goto (tgt := 70) hC dX11_readRule_24 (by decide) ?_
    refine x_sub [1, 2] rfl ?_
    exact j_X11_readRule_70_ok hB hd M1 hR
  · refine x_iload_n hC dX11_readRule_27 rfl 0 rfl ?_
    refine x_bipush (v := (115 : Int32)) hC dX11_readRule_28 kb_115 ?_
    refine x_bipush (v := (101 : Int32)) hC dX11_readRule_30 kb_101 ?_
    refine x_bipush (v := (101 : Int32)) hC dX11_readRule_32 kb_101 ?_
    refine x_bipush (v := (115 : Int32)) hC dX11_readRule_34 kb_115 ?_
    refine x_iconst (v := (0 : Int32)) hC dX11_readRule_36 ki_0 ?_
    refine x_iconst (v := (0 : Int32)) hC dX11_readRule_37 ki_0 ?_
    refine r_cS0 (as := [.int (115 : Int32), .int (101 : Int32), .int (101 : Int32), .int (115 : Int32), .int (0 : Int32), .int (0 : Int32)]) (rest := [.int u1]) hB dX11_readRule_38 ks_X11_194 hq1 rfl rfl (Nat.le_of_ble_eq_true rfl) (f_X11_spelt_met hB.2 (by omega)) ?_
    refine x_icmp_ne (tgt := 48) hC dX11_readRule_41 (by decide) ?_ ?_
    · refine x_iconst (v := (1 : Int32)) hC dX11_readRule_44 ki_1 ?_
      refine x_goto (tgt := 70) hC dX11_readRule_45 (by decide) ?_
      refine x_sub [1, 2] rfl ?_
      exact j_X11_readRule_70_ok hB hd M1 hR
    · refine x_iload_n hC dX11_readRule_48 rfl 0 rfl ?_
      refine x_bipush (v := (112 : Int32)) hC dX11_readRule_49 kb_112 ?_
      refine x_bipush (v := (97 : Int32)) hC dX11_readRule_51 kb_97 ?_
      refine x_bipush (v := (121 : Int32)) hC dX11_readRule_53 kb_121 ?_
      refine x_bipush (v := (115 : Int32)) hC dX11_readRule_55 kb_115 ?_
      refine x_iconst (v := (0 : Int32)) hC dX11_readRule_57 ki_0 ?_
      refine x_iconst (v := (0 : Int32)) hC dX11_readRule_58 ki_0 ?_
      refine r_cS0 (as := [.int (112 : Int32), .int (97 : Int32), .int (121 : Int32), .int (115 : Int32), .int (0 : Int32), .int (0 : Int32)]) (rest := [.int u1]) hB dX11_readRule_59 ks_X11_194 hq1 rfl rfl (Nat.le_of_ble_eq_true rfl) (f_X11_spelt_met hB.2 (by omega)) ?_
      refine x_icmp_ne (tgt := 69) hC dX11_readRule_62 (by decide) ?_ ?_
      · refine x_iconst (v := (2 : Int32)) hC dX11_readRule_65 ki_2 ?_
        refine x_goto (tgt := 70) hC dX11_readRule_66 (by decide) ?_
        refine x_sub [1, 2] rfl ?_
        exact j_X11_readRule_70_ok hB hd M1 hR
      · refine x_iconst (v := (-1 : Int32)) hC dX11_readRule_69 ki_m1 ?_
        refine x_sub [1, 2] rfl ?_
        exact j_X11_readRule_70_ok hB hd M1 hR
theorem f_X11_readRule_met {l : Launch} {d : Nat} {g : zG} {w : zW} {M0 : zM} {p1 : Int32} {M : zM} (hw : wS w) (hd : 9 ≤ d) {M' : zM} (h : f_X11_readRule p1 M = some M') : zMet l yX11_readRule cX11_readRule 8 none d g w (zin false) M0 [zr w 257, .int p1] M none M' :=
  met_v (by decide +kernel) (Nat.le_of_ble_eq_true rfl) (fun C hB0 hR => f_X11_readRule_ok ⟨hB0, hw⟩ hd M hR _ h rfl)
/-! WindingSquareModel.minutes(I)I -/
noncomputable def b_X11_minutes_32 (v1_32 : Int32) (v2_32 : Int32) (v3_32 : Int32) (M : zM) : Option ((Int32 × Int32) ⊕ (Int32)) :=
  if (M 258 (ix (940 : Int32))) ≤ v3_32 then (some (.inr v2_32))
  else (grd (inb (((144 : Int32) + ((12 : Int32) * v3_32)) + (9 : Int32)) 2425) (
  nm (v2_32 + (M 258 (ix (((144 : Int32) + ((12 : Int32) * v3_32)) + (9 : Int32))))) fun v2_62_32 =>
  some (.inl (v2_62_32, (v3_32 + (1 : Int32))))))
set_option maxRecDepth 100000 in
theorem b_X11_minutes_32_ok {C : zC} {d : Nat} {g : zG} {l : Launch} {w : zW} {r : Int32 × zM} {v1_32 : Int32} {v2_32 : Int32} {v3_32 : Int32} (hB : bOK C cX11_minutes 4 RX11 d g l w false) (hd : 9 ≤ d) (M : zM) (hR : RtI C cX11_minutes w r.1 r.2) : Sg C w (0, 0) 32 [(0, zr w 257), (1, .int v1_32), (2, .int v2_32), (3, .int v3_32)] [] M (b_X11_minutes_32 v1_32 v2_32 v3_32 M) (fun o => Sum.elim (fun (s : (Int32 × Int32)) => Zs C w (0, 0) 32 [(0, zr w 257), (1, .int v1_32), (2, .int s.1), (3, .int s.2)] [] M) (fun (s : (Int32)) => Zs C w (0, 0) 69 [(0, zr w 257), (1, .int v1_32), (2, .int s)] [] M) o) := by
  have hC := hB.1.1
  have hq1 : 1 ≤ d := by omega
  unfold b_X11_minutes_32
  refine x_iload_n hC dX11_minutes_32 rfl 3 rfl ?_
  refine x_aload_n hC dX11_minutes_33 rfl 0 rfl ?_
  refine r_getR hB dX11_minutes_34 kf_X11_9 rfl th_257 rf_257_0 ?_
  refine x_sipush (v := (940 : Int32)) hC dX11_minutes_37 kh_940 ?_
  refine r_iald0 hB dX11_minutes_40 th_258 ib_940_2425 ?_
  refine x_icmp_ge (tgt := 69) hC dX11_minutes_41 (by decide) ?_ ?_
  · refine x_sub [0, 1, 2] rfl ?_
    exact x_done (fun h => h)
  · refine x_iload_n hC dX11_minutes_44 rfl 2 rfl ?_
    refine x_aload_n hC dX11_minutes_45 rfl 0 rfl ?_
    refine r_getR hB dX11_minutes_46 kf_X11_9 rfl th_257 rf_257_0 ?_
    refine x_sipush (v := (144 : Int32)) hC dX11_minutes_49 kh_144 ?_
    refine x_bipush (v := (12 : Int32)) hC dX11_minutes_52 kb_12 ?_
    refine x_iload_n hC dX11_minutes_54 rfl 3 rfl ?_
    refine x_imul hC dX11_minutes_55 ?_
    refine x_iadd hC dX11_minutes_56 ?_
    refine x_bipush (v := (9 : Int32)) hC dX11_minutes_57 kb_9 ?_
    refine x_iadd hC dX11_minutes_59 ?_
    refine r_iald hB dX11_minutes_60 th_258 ?_
    refine x_iadd hC dX11_minutes_61 ?_
    refine x_top (fun v2_62_32 => ?_)
    refine x_istore_n hC dX11_minutes_62 rfl [(2, .int v2_62_32), (0, zr w 257), (1, .int v1_32), (3, .int v3_32)] (by decide) rfl ?_
    refine x_iinc hC dX11_minutes_63 ki_1 [(3, .int (v3_32 + (1 : Int32))), (2, .int v2_62_32), (0, zr w 257), (1, .int v1_32)] 3 rfl (by decide) rfl ?_
    refine x_goto (tgt := 32) hC dX11_minutes_66 (by decide) ?_
    refine x_sub [2, 3, 1, 0] rfl ?_
    exact x_done (fun h => h)
noncomputable def b_X11_minutes_71 (v1_71 : Int32) (v2_71 : Int32) (v3_71 : Int32) (M : zM) : Option ((Int32 × zM) ⊕ (zM)) :=
  if v1_71 ≤ v3_71 then (some (.inr M))
  else ((f_X11_begins M).bind fun M77_71 =>
  (f_X11_goesMinute M77_71).bind fun M81_71 =>
  (f_X11_ends M81_71).bind fun M85_71 =>
  some (.inl ((v3_71 + (1 : Int32)), M85_71)))
set_option maxRecDepth 100000 in
theorem b_X11_minutes_71_ok {C : zC} {d : Nat} {g : zG} {l : Launch} {w : zW} {r : Int32 × zM} {v1_71 : Int32} {v2_71 : Int32} {v3_71 : Int32} (hB : bOK C cX11_minutes 4 RX11 d g l w false) (hd : 9 ≤ d) (M : zM) (hR : RtI C cX11_minutes w r.1 r.2) : Sg C w (0, 0) 71 [(0, zr w 257), (1, .int v1_71), (2, .int v2_71), (3, .int v3_71)] [] M (b_X11_minutes_71 v1_71 v2_71 v3_71 M) (fun o => Sum.elim (fun (s : (Int32 × zM)) => Zs C w (0, 0) 71 [(0, zr w 257), (1, .int v1_71), (2, .int v2_71), (3, .int s.1)] [] s.2) (fun (s : (zM)) => Zs C w (0, 0) 94 [(0, zr w 257), (2, .int v2_71)] [] s) o) := by
  have hC := hB.1.1
  have hq1 : 1 ≤ d := by omega
  unfold b_X11_minutes_71
  refine x_iload_n hC dX11_minutes_71 rfl 3 rfl ?_
  refine x_iload_n hC dX11_minutes_72 rfl 1 rfl ?_
  refine x_icmp_ge (tgt := 94) hC dX11_minutes_73 (by decide) ?_ ?_
  · refine x_sub [0, 2] rfl ?_
    exact x_done (fun h => h)
  · refine x_aload_n hC dX11_minutes_76 rfl 0 rfl ?_
    refine r_cVv (as := []) (rest := []) hB dX11_minutes_77 kv_X11_310 th_257 hq1 rfl rfl (Nat.le_of_ble_eq_true rfl) (fun M' hv => f_X11_begins_met hB.2 (by omega) hv) (fun M77_71 => ?_)
    refine x_aload_n hC dX11_minutes_80 rfl 0 rfl ?_
    refine r_cVv (as := []) (rest := []) hB dX11_minutes_81 kv_X11_313 th_257 hq1 rfl rfl (Nat.le_of_ble_eq_true rfl) (fun M' hv => f_X11_goesMinute_met hB.2 (by omega) hv) (fun M81_71 => ?_)
    refine x_aload_n hC dX11_minutes_84 rfl 0 rfl ?_
    refine r_cVv (as := []) (rest := []) hB dX11_minutes_85 kv_X11_316 th_257 hq1 rfl rfl (Nat.le_of_ble_eq_true rfl) (fun M' hv => f_X11_ends_met hB.2 (by omega) hv) (fun M85_71 => ?_)
    refine x_iinc hC dX11_minutes_88 ki_1 [(3, .int (v3_71 + (1 : Int32))), (0, zr w 257), (1, .int v1_71), (2, .int v2_71)] 3 rfl (by decide) rfl ?_
    refine x_goto (tgt := 71) hC dX11_minutes_91 (by decide) ?_
    refine x_sub [1, 2, 3, 0] rfl ?_
    exact x_done (fun h => h)
noncomputable def j_X11_minutes_94 (v2_94 : Int32) (M : zM) : Option (Int32 × zM) :=
  (f_X11_sumOf (9 : Int32) M).bind fun u97 =>
  some ((u97 - v2_94), M)
set_option maxRecDepth 100000 in
theorem j_X11_minutes_94_ok {C : zC} {d : Nat} {g : zG} {l : Launch} {w : zW} {r : Int32 × zM} {v2_94 : Int32} (hB : bOK C cX11_minutes 4 RX11 d g l w false) (hd : 9 ≤ d) (M : zM) (hR : RtI C cX11_minutes w r.1 r.2) : Sg C w (0, 0) 94 [(0, zr w 257), (2, .int v2_94)] [] M (j_X11_minutes_94 v2_94 M) (fun q => q = r) := by
  have hC := hB.1.1
  have hq1 : 1 ≤ d := by omega
  unfold j_X11_minutes_94
  refine x_aload_n hC dX11_minutes_94 rfl 0 rfl ?_
  refine x_bipush (v := (9 : Int32)) hC dX11_minutes_95 kb_9 ?_
  refine r_cV1 (as := [.int (9 : Int32)]) (rest := []) hB dX11_minutes_97 kv_X11_319 th_257 hq1 rfl rfl (Nat.le_of_ble_eq_true rfl) (fun v hv => f_X11_sumOf_met hB.2 (by omega) hv) (fun u97 => ?_)
  refine x_iload_n hC dX11_minutes_100 rfl 1 rfl ?_
  refine x_isub hC dX11_minutes_101 ?_
  exact r_retI hR dX11_minutes_102 (fun h => h)
noncomputable def j_X11_minutes_69 (v1_69 : Int32) (v2_69 : Int32) (M : zM) : Option (Int32 × zM) :=
  (loopW (fun s => b_X11_minutes_71 v1_69 v2_69 s.1 s.2) ((0 : Int32), M)).bind (fun r => j_X11_minutes_94 v2_69 r)
set_option maxRecDepth 100000 in
theorem j_X11_minutes_69_ok {C : zC} {d : Nat} {g : zG} {l : Launch} {w : zW} {r : Int32 × zM} {v1_69 : Int32} {v2_69 : Int32} (hB : bOK C cX11_minutes 4 RX11 d g l w false) (hd : 9 ≤ d) (M : zM) (hR : RtI C cX11_minutes w r.1 r.2) : Sg C w (0, 0) 69 [(0, zr w 257), (1, .int v1_69), (2, .int v2_69)] [] M (j_X11_minutes_69 v1_69 v2_69 M) (fun q => q = r) := by
  have hC := hB.1.1
  have hq1 : 1 ≤ d := by omega
  unfold j_X11_minutes_69
  refine x_iconst (v := (0 : Int32)) hC dX11_minutes_69 ki_0 ?_
  refine x_istore_n hC dX11_minutes_70 rfl [(3, .int (0 : Int32)), (0, zr w 257), (1, .int v1_69), (2, .int v2_69)] (by decide) rfl ?_
  refine x_sub [1, 2, 3, 0] rfl ?_
  refine x_loopB (pc2 := 94) (fun (s : (Int32 × zM)) => [(0, zr w 257), (1, .int v1_69), (2, .int v2_69), (3, .int s.1)]) (fun (s : (Int32 × zM)) => s.2) (fun (s : (zM)) => [(0, zr w 257), (2, .int v2_69)]) (fun (s : (zM)) => s) ((0 : Int32), M) ?_ ?_
  · exact fun s => b_X11_minutes_71_ok hB hd s.2 hR
  · intro r9
    exact j_X11_minutes_94_ok hB hd r9 hR
noncomputable def f_X11_minutes (p1 : Int32) (M : zM) : Option (Int32 × zM) :=
  if (f_X11_within p1 (1 : Int32) (60 : Int32)) = 0 then (some ((-1 : Int32), M))
  else (if ((M 258 (ix (936 : Int32))) + p1) ≤ (9999 : Int32) then ((loopW (fun s => b_X11_minutes_32 p1 s.1 s.2 M) ((0 : Int32), (0 : Int32))).bind (fun r => j_X11_minutes_69 p1 r M))
  else (some ((-1 : Int32), M)))
set_option maxRecDepth 100000 in
theorem f_X11_minutes_ok {C : zC} {d : Nat} {g : zG} {l : Launch} {w : zW} {r : Int32 × zM} {p1 : Int32} (hB : bOK C cX11_minutes 4 RX11 d g l w false) (hd : 9 ≤ d) (M : zM) (hR : RtI C cX11_minutes w r.1 r.2) : Sg C w (0, 0) 0 [(0, zr w 257), (1, .int p1)] [] M (f_X11_minutes p1 M) (fun q => q = r) := by
  have hC := hB.1.1
  have hq1 : 1 ≤ d := by omega
  unfold f_X11_minutes
  refine x_iload_n hC dX11_minutes_0 rfl 1 rfl ?_
  refine x_iconst (v := (1 : Int32)) hC dX11_minutes_1 ki_1 ?_
  refine x_bipush (v := (60 : Int32)) hC dX11_minutes_2 kb_60 ?_
  refine r_cS0 (as := [.int p1, .int (1 : Int32), .int (60 : Int32)]) (rest := []) hB dX11_minutes_4 ks_X11_100 hq1 rfl rfl (Nat.le_of_ble_eq_true rfl) (f_X11_within_met hB.2 (by omega)) ?_
  refine x_if_eq (tgt := 26) hC dX11_minutes_7 (by decide) ?_ ?_
  · refine x_iconst (v := (-1 : Int32)) hC dX11_minutes_26 ki_m1 ?_
    exact r_retI hR dX11_minutes_27 (fun h => h)
  · refine x_aload_n hC dX11_minutes_10 rfl 0 rfl ?_
    refine r_getR hB dX11_minutes_11 kf_X11_9 rfl th_257 rf_257_0 ?_
    refine x_sipush (v := (936 : Int32)) hC dX11_minutes_14 kh_936 ?_
    refine r_iald0 hB dX11_minutes_17 th_258 ib_936_2425 ?_
    refine x_iload_n hC dX11_minutes_18 rfl 1 rfl ?_
    refine x_iadd hC dX11_minutes_19 ?_
    refine x_sipush (v := (9999 : Int32)) hC dX11_minutes_20 kh_9999 ?_
    refine x_icmp_le (tgt := 28) hC dX11_minutes_23 (by decide) ?_ ?_
    · refine x_iconst (v := (0 : Int32)) hC dX11_minutes_28 ki_0 ?_
      refine x_istore_n hC dX11_minutes_29 rfl [(2, .int (0 : Int32)), (0, zr w 257), (1, .int p1)] (by decide) rfl ?_
      refine x_iconst (v := (0 : Int32)) hC dX11_minutes_30 ki_0 ?_
      refine x_istore_n hC dX11_minutes_31 rfl [(3, .int (0 : Int32)), (2, .int (0 : Int32)), (0, zr w 257), (1, .int p1)] (by decide) rfl ?_
      refine x_sub [2, 3, 1, 0] rfl ?_
      refine x_loopB (pc2 := 69) (fun (s : (Int32 × Int32)) => [(0, zr w 257), (1, .int p1), (2, .int s.1), (3, .int s.2)]) (fun (s : (Int32 × Int32)) => M) (fun (s : (Int32)) => [(0, zr w 257), (1, .int p1), (2, .int s)]) (fun (s : (Int32)) => M) ((0 : Int32), (0 : Int32)) ?_ ?_
      · exact fun s => b_X11_minutes_32_ok hB hd M hR
      · intro r9
        exact j_X11_minutes_69_ok hB hd M hR
    · refine x_iconst (v := (-1 : Int32)) hC dX11_minutes_26 ki_m1 ?_
      exact r_retI hR dX11_minutes_27 (fun h => h)
theorem f_X11_minutes_met {l : Launch} {d : Nat} {g : zG} {w : zW} {M0 : zM} {p1 : Int32} {M : zM} (hw : wS w) (hd : 9 ≤ d) {v : Int32} {M' : zM} (h : f_X11_minutes p1 M = some (v, M')) : zMet l yX11_minutes cX11_minutes 4 (some .int) d g w (zin false) M0 [zr w 257, .int p1] M (some (.int v)) M' :=
  met_i (by decide +kernel) (Nat.le_of_ble_eq_true rfl) rfl (fun C hB0 hR => f_X11_minutes_ok (r := (v, M')) ⟨hB0, hw⟩ hd M hR _ h rfl)
/-! WindingSquareModel.goes(II)I -/
noncomputable def b_X11_goes_27 (v1_27 : Int32) (v2_27 : Int32) (v3_27 : Int32) (M : zM) : Option ((Int32 × zM) ⊕ (zM)) :=
  if v1_27 ≤ v3_27 then (some (.inr M))
  else ((f_X11_goesMinute M).bind fun M33_27 =>
  some (.inl ((v3_27 + (1 : Int32)), M33_27)))
set_option maxRecDepth 100000 in
theorem b_X11_goes_27_ok {C : zC} {d : Nat} {g : zG} {l : Launch} {w : zW} {r : Int32 × zM} {v1_27 : Int32} {v2_27 : Int32} {v3_27 : Int32} (hB : bOK C cX11_goes 4 RX11 d g l w false) (hd : 9 ≤ d) (M : zM) (hR : RtI C cX11_goes w r.1 r.2) : Sg C w (0, 0) 27 [(0, zr w 257), (1, .int v1_27), (2, .int v2_27), (3, .int v3_27)] [] M (b_X11_goes_27 v1_27 v2_27 v3_27 M) (fun o => Sum.elim (fun (s : (Int32 × zM)) => Zs C w (0, 0) 27 [(0, zr w 257), (1, .int v1_27), (2, .int v2_27), (3, .int s.1)] [] s.2) (fun (s : (zM)) => Zs C w (0, 0) 42 [(0, zr w 257), (2, .int v2_27)] [] s) o) := by
  have hC := hB.1.1
  have hq1 : 1 ≤ d := by omega
  unfold b_X11_goes_27
  refine x_iload_n hC dX11_goes_27 rfl 3 rfl ?_
  refine x_iload_n hC dX11_goes_28 rfl 1 rfl ?_
  refine x_icmp_ge (tgt := 42) hC dX11_goes_29 (by decide) ?_ ?_
  · refine x_sub [0, 2] rfl ?_
    exact x_done (fun h => h)
  · refine x_aload_n hC dX11_goes_32 rfl 0 rfl ?_
    refine r_cVv (as := []) (rest := []) hB dX11_goes_33 kv_X11_313 th_257 hq1 rfl rfl (Nat.le_of_ble_eq_true rfl) (fun M' hv => f_X11_goesMinute_met hB.2 (by omega) hv) (fun M33_27 => ?_)
    refine x_iinc hC dX11_goes_36 ki_1 [(3, .int (v3_27 + (1 : Int32))), (0, zr w 257), (1, .int v1_27), (2, .int v2_27)] 3 rfl (by decide) rfl ?_
    refine x_goto (tgt := 27) hC dX11_goes_39 (by decide) ?_
    refine x_sub [1, 2, 3, 0] rfl ?_
    exact x_done (fun h => h)
noncomputable def j_X11_goes_42 (v2_42 : Int32) (M : zM) : Option (Int32 × zM) :=
  if v2_42 = 0 then ((f_X11_inside M).bind fun u47 =>
  some (u47, M))
  else (if v2_42 = (1 : Int32) then ((f_X11_sumOf (9 : Int32) M).bind fun u61 =>
  some (u61, M))
  else (if v2_42 = (2 : Int32) then ((f_X11_sumOf (10 : Int32) M).bind fun u75 =>
  some (u75, M))
  else (some ((M 259 (ix (937 : Int32))), M))))
set_option maxRecDepth 100000 in
theorem j_X11_goes_42_ok {C : zC} {d : Nat} {g : zG} {l : Launch} {w : zW} {r : Int32 × zM} {v2_42 : Int32} (hB : bOK C cX11_goes 4 RX11 d g l w false) (hd : 9 ≤ d) (M : zM) (hR : RtI C cX11_goes w r.1 r.2) : Sg C w (0, 0) 42 [(0, zr w 257), (2, .int v2_42)] [] M (j_X11_goes_42 v2_42 M) (fun q => q = r) := by
  have hC := hB.1.1
  have hq1 : 1 ≤ d := by omega
  unfold j_X11_goes_42
  refine x_iload_n hC dX11_goes_42 rfl 1 rfl ?_
  refine x_if_ne (tgt := 53) hC dX11_goes_43 (by decide) ?_ ?_
  · refine x_aload_n hC dX11_goes_46 rfl 0 rfl ?_
    refine r_cV1 (as := []) (rest := []) hB dX11_goes_47 kv_X11_243 th_257 hq1 rfl rfl (Nat.le_of_ble_eq_true rfl) (fun v hv => f_X11_inside_met hB.2 (by omega) hv) (fun u47 => ?_)
    refine x_goto (tgt := 89) hC dX11_goes_50 (by decide) ?_
    exact r_retI hR dX11_goes_89 (fun h => h)
  · refine x_iload_n hC dX11_goes_53 rfl 1 rfl ?_
    refine x_iconst (v := (1 : Int32)) hC dX11_goes_54 ki_1 ?_
    refine x_icmp_ne (tgt := 67) hC dX11_goes_55 (by decide) ?_ ?_
    · refine x_aload_n hC dX11_goes_58 rfl 0 rfl ?_
      refine x_bipush (v := (9 : Int32)) hC dX11_goes_59 kb_9 ?_
      refine r_cV1 (as := [.int (9 : Int32)]) (rest := []) hB dX11_goes_61 kv_X11_319 th_257 hq1 rfl rfl (Nat.le_of_ble_eq_true rfl) (fun v hv => f_X11_sumOf_met hB.2 (by omega) hv) (fun u61 => ?_)
      refine x_goto (tgt := 89) hC dX11_goes_64 (by decide) ?_
      exact r_retI hR dX11_goes_89 (fun h => h)
    · refine x_iload_n hC dX11_goes_67 rfl 1 rfl ?_
      refine x_iconst (v := (2 : Int32)) hC dX11_goes_68 ki_2 ?_
      refine x_icmp_ne (tgt := 81) hC dX11_goes_69 (by decide) ?_ ?_
      · refine x_aload_n hC dX11_goes_72 rfl 0 rfl ?_
        refine x_bipush (v := (10 : Int32)) hC dX11_goes_73 kb_10 ?_
        refine r_cV1 (as := [.int (10 : Int32)]) (rest := []) hB dX11_goes_75 kv_X11_319 th_257 hq1 rfl rfl (Nat.le_of_ble_eq_true rfl) (fun v hv => f_X11_sumOf_met hB.2 (by omega) hv) (fun u75 => ?_)
        refine x_goto (tgt := 89) hC dX11_goes_78 (by decide) ?_
        exact r_retI hR dX11_goes_89 (fun h => h)
      · refine x_aload_n hC dX11_goes_81 rfl 0 rfl ?_
        refine r_getR hB dX11_goes_82 kf_X11_13 rfl th_257 rf_257_1 ?_
        refine x_sipush (v := (937 : Int32)) hC dX11_goes_85 kh_937 ?_
        refine r_iald0 hB dX11_goes_88 th_259 ib_937_2425 ?_
        exact r_retI hR dX11_goes_89 (fun h => h)
noncomputable def f_X11_goes (p1 : Int32) (p2 : Int32) (M : zM) : Option (Int32 × zM) :=
  if (f_X11_within p1 (1 : Int32) (60 : Int32)) = 0 then (some ((-1 : Int32), M))
  else (if (f_X11_within p2 (0 : Int32) (3 : Int32)) = 0 then (some ((-1 : Int32), M))
  else ((f_X11_take M).bind fun M22 =>
  (loopW (fun s => b_X11_goes_27 p1 p2 s.1 s.2) ((0 : Int32), M22)).bind (fun r => j_X11_goes_42 p2 r)))
set_option maxRecDepth 100000 in
theorem f_X11_goes_ok {C : zC} {d : Nat} {g : zG} {l : Launch} {w : zW} {r : Int32 × zM} {p1 : Int32} {p2 : Int32} (hB : bOK C cX11_goes 4 RX11 d g l w false) (hd : 9 ≤ d) (M : zM) (hR : RtI C cX11_goes w r.1 r.2) : Sg C w (0, 0) 0 [(0, zr w 257), (1, .int p1), (2, .int p2)] [] M (f_X11_goes p1 p2 M) (fun q => q = r) := by
  have hC := hB.1.1
  have hq1 : 1 ≤ d := by omega
  unfold f_X11_goes
  refine x_iload_n hC dX11_goes_0 rfl 1 rfl ?_
  refine x_iconst (v := (1 : Int32)) hC dX11_goes_1 ki_1 ?_
  refine x_bipush (v := (60 : Int32)) hC dX11_goes_2 kb_60 ?_
  refine r_cS0 (as := [.int p1, .int (1 : Int32), .int (60 : Int32)]) (rest := []) hB dX11_goes_4 ks_X11_100 hq1 rfl rfl (Nat.le_of_ble_eq_true rfl) (f_X11_within_met hB.2 (by omega)) ?_
  refine x_if_eq (tgt := 19) hC dX11_goes_7 (by decide) ?_ ?_
  · refine x_iconst (v := (-1 : Int32)) hC dX11_goes_19 ki_m1 ?_
    exact r_retI hR dX11_goes_20 (fun h => h)
  · refine x_iload_n hC dX11_goes_10 rfl 2 rfl ?_
    refine x_iconst (v := (0 : Int32)) hC dX11_goes_11 ki_0 ?_
    refine x_iconst (v := (3 : Int32)) hC dX11_goes_12 ki_3 ?_
    refine r_cS0 (as := [.int p2, .int (0 : Int32), .int (3 : Int32)]) (rest := []) hB dX11_goes_13 ks_X11_100 hq1 rfl rfl (Nat.le_of_ble_eq_true rfl) (f_X11_within_met hB.2 (by omega)) ?_
    refine x_if_ne (tgt := 21) hC dX11_goes_16 (by decide) ?_ ?_
    · refine x_iconst (v := (-1 : Int32)) hC dX11_goes_19 ki_m1 ?_
      exact r_retI hR dX11_goes_20 (fun h => h)
    · refine x_aload_n hC dX11_goes_21 rfl 0 rfl ?_
      refine r_cVv (as := []) (rest := []) hB dX11_goes_22 kv_X11_328 th_257 hq1 rfl rfl (Nat.le_of_ble_eq_true rfl) (fun M' hv => f_X11_take_met hB.2 (by omega) hv) (fun M22 => ?_)
      refine x_iconst (v := (0 : Int32)) hC dX11_goes_25 ki_0 ?_
      refine x_istore_n hC dX11_goes_26 rfl [(3, .int (0 : Int32)), (0, zr w 257), (1, .int p1), (2, .int p2)] (by decide) rfl ?_
      refine x_sub [1, 2, 3, 0] rfl ?_
      refine x_loopB (pc2 := 42) (fun (s : (Int32 × zM)) => [(0, zr w 257), (1, .int p1), (2, .int p2), (3, .int s.1)]) (fun (s : (Int32 × zM)) => s.2) (fun (s : (zM)) => [(0, zr w 257), (2, .int p2)]) (fun (s : (zM)) => s) ((0 : Int32), M22) ?_ ?_
      · exact fun s => b_X11_goes_27_ok hB hd s.2 hR
      · intro r9
        exact j_X11_goes_42_ok hB hd r9 hR
theorem f_X11_goes_met {l : Launch} {d : Nat} {g : zG} {w : zW} {M0 : zM} {p1 : Int32} {p2 : Int32} {M : zM} (hw : wS w) (hd : 9 ≤ d) {v : Int32} {M' : zM} (h : f_X11_goes p1 p2 M = some (v, M')) : zMet l yX11_goes cX11_goes 4 (some .int) d g w (zin false) M0 [zr w 257, .int p1, .int p2] M (some (.int v)) M' :=
  met_i (by decide +kernel) (Nat.le_of_ble_eq_true rfl) rfl (fun C hB0 hR => f_X11_goes_ok (r := (v, M')) ⟨hB0, hw⟩ hd M hR _ h rfl)
/-! WindingSquareModel.over(I)I -/
noncomputable def b_X11_over_27 (v1_27 : Int32) (v2_27 : Int32) (M : zM) : Option ((Int32 × zM) ⊕ ((zM) ⊕ (Int32 × zM))) :=
  if (60 : Int32) < v2_27 then (some (.inr (.inl M)))
  else ((f_X11_goesMinute M).bind fun M34_27 =>
  (f_X11_has v1_27 (1 : Int32) M34_27).bind fun u40_27 =>
  if u40_27 = 0 then (some (.inr (.inr (v2_27, M34_27))))
  else (some (.inl ((v2_27 + (1 : Int32)), M34_27))))
set_option maxRecDepth 100000 in
theorem b_X11_over_27_ok {C : zC} {d : Nat} {g : zG} {l : Launch} {w : zW} {r : Int32 × zM} {v1_27 : Int32} {v2_27 : Int32} (hB : bOK C cX11_over 3 RX11 d g l w false) (hd : 9 ≤ d) (M : zM) (hR : RtI C cX11_over w r.1 r.2) : Sg C w (0, 0) 27 [(0, zr w 257), (1, .int v1_27), (2, .int v2_27)] [] M (b_X11_over_27 v1_27 v2_27 M) (fun o => Sum.elim (fun (s : (Int32 × zM)) => Zs C w (0, 0) 27 [(0, zr w 257), (1, .int v1_27), (2, .int s.1)] [] s.2) (fun q => Sum.elim (fun (s : (zM)) => Zs C w (0, 0) 54 [] [] s) (fun q => q = r) q) o) := by
  have hC := hB.1.1
  have hq1 : 1 ≤ d := by omega
  unfold b_X11_over_27
  refine x_iload_n hC dX11_over_27 rfl 2 rfl ?_
  refine x_bipush (v := (60 : Int32)) hC dX11_over_28 kb_60 ?_
  refine x_icmp_gt (tgt := 54) hC dX11_over_30 (by decide) ?_ ?_
  · refine x_sub [] rfl ?_
    exact x_done (fun h => h)
  · refine x_aload_n hC dX11_over_33 rfl 0 rfl ?_
    refine r_cVv (as := []) (rest := []) hB dX11_over_34 kv_X11_313 th_257 hq1 rfl rfl (Nat.le_of_ble_eq_true rfl) (fun M' hv => f_X11_goesMinute_met hB.2 (by omega) hv) (fun M34_27 => ?_)
    refine x_aload_n hC dX11_over_37 rfl 0 rfl ?_
    refine x_iload_n hC dX11_over_38 rfl 1 rfl ?_
    refine x_iconst (v := (1 : Int32)) hC dX11_over_39 ki_1 ?_
    refine r_cV1 (as := [.int v1_27, .int (1 : Int32)]) (rest := []) hB dX11_over_40 kv_X11_104 th_257 hq1 rfl rfl (Nat.le_of_ble_eq_true rfl) (fun v hv => f_X11_has_met hB.2 (by omega) hv) (fun u40_27 => ?_)
    refine x_if_ne (tgt := 48) hC dX11_over_43 (by decide) ?_ ?_
    · refine x_iload_n hC dX11_over_46 rfl 2 rfl ?_
      exact r_retI hR dX11_over_47 (fun h => h)
    · refine x_iinc hC dX11_over_48 ki_1 [(2, .int (v2_27 + (1 : Int32))), (0, zr w 257), (1, .int v1_27)] 2 rfl (by decide) rfl ?_
      refine x_goto (tgt := 27) hC dX11_over_51 (by decide) ?_
      refine x_sub [1, 2, 0] rfl ?_
      exact x_done (fun h => h)
noncomputable def j_X11_over_54 (M : zM) : Option (Int32 × zM) :=
  some ((-1 : Int32), M)
set_option maxRecDepth 100000 in
theorem j_X11_over_54_ok {C : zC} {d : Nat} {g : zG} {l : Launch} {w : zW} {r : Int32 × zM} (hB : bOK C cX11_over 3 RX11 d g l w false) (hd : 9 ≤ d) (M : zM) (hR : RtI C cX11_over w r.1 r.2) : Sg C w (0, 0) 54 [] [] M (j_X11_over_54 M) (fun q => q = r) := by
  have hC := hB.1.1
  have hq1 : 1 ≤ d := by omega
  unfold j_X11_over_54
  refine x_iconst (v := (-1 : Int32)) hC dX11_over_54 ki_m1 ?_
  exact r_retI hR dX11_over_55 (fun h => h)
noncomputable def f_X11_over (p1 : Int32) (M : zM) : Option (Int32 × zM) :=
  (f_X11_isWalker p1 M).bind fun u2 =>
  if u2 = 0 then (some ((-1 : Int32), M))
  else ((f_X11_take M).bind fun M11 =>
  (f_X11_has p1 (1 : Int32) M11).bind fun u17 =>
  if u17 = 0 then (some ((-1 : Int32), M11))
  else ((loopW (fun s => b_X11_over_27 p1 s.1 s.2) ((1 : Int32), M11)).bind (fun q => Sum.elim (fun r => j_X11_over_54 r) some q)))
set_option maxRecDepth 100000 in
theorem f_X11_over_ok {C : zC} {d : Nat} {g : zG} {l : Launch} {w : zW} {r : Int32 × zM} {p1 : Int32} (hB : bOK C cX11_over 3 RX11 d g l w false) (hd : 9 ≤ d) (M : zM) (hR : RtI C cX11_over w r.1 r.2) : Sg C w (0, 0) 0 [(0, zr w 257), (1, .int p1)] [] M (f_X11_over p1 M) (fun q => q = r) := by
  have hC := hB.1.1
  have hq1 : 1 ≤ d := by omega
  unfold f_X11_over
  refine x_aload_n hC dX11_over_0 rfl 0 rfl ?_
  refine x_iload_n hC dX11_over_1 rfl 1 rfl ?_
  refine r_cV1 (as := [.int p1]) (rest := []) hB dX11_over_2 kv_X11_322 th_257 hq1 rfl rfl (Nat.le_of_ble_eq_true rfl) (fun v hv => f_X11_isWalker_met hB.2 (by omega) hv) (fun u2 => ?_)
  refine x_if_ne (tgt := 10) hC dX11_over_5 (by decide) ?_ ?_
  · refine x_iconst (v := (-1 : Int32)) hC dX11_over_8 ki_m1 ?_
    exact r_retI hR dX11_over_9 (fun h => h)
  · refine x_aload_n hC dX11_over_10 rfl 0 rfl ?_
    refine r_cVv (as := []) (rest := []) hB dX11_over_11 kv_X11_328 th_257 hq1 rfl rfl (Nat.le_of_ble_eq_true rfl) (fun M' hv => f_X11_take_met hB.2 (by omega) hv) (fun M11 => ?_)
    refine x_aload_n hC dX11_over_14 rfl 0 rfl ?_
    refine x_iload_n hC dX11_over_15 rfl 1 rfl ?_
    refine x_iconst (v := (1 : Int32)) hC dX11_over_16 ki_1 ?_
    refine r_cV1 (as := [.int p1, .int (1 : Int32)]) (rest := []) hB dX11_over_17 kv_X11_104 th_257 hq1 rfl rfl (Nat.le_of_ble_eq_true rfl) (fun v hv => f_X11_has_met hB.2 (by omega) hv) (fun u17 => ?_)
    refine x_if_ne (tgt := 25) hC dX11_over_20 (by decide) ?_ ?_
    · refine x_iconst (v := (-1 : Int32)) hC dX11_over_23 ki_m1 ?_
      exact r_retI hR dX11_over_24 (fun h => h)
    · refine x_iconst (v := (1 : Int32)) hC dX11_over_25 ki_1 ?_
      refine x_istore_n hC dX11_over_26 rfl [(2, .int (1 : Int32)), (0, zr w 257), (1, .int p1)] (by decide) rfl ?_
      refine x_sub [1, 2, 0] rfl ?_
      refine x_loopR (pc2 := 54) (fun (s : (Int32 × zM)) => [(0, zr w 257), (1, .int p1), (2, .int s.1)]) (fun (s : (Int32 × zM)) => s.2) (fun (s : (zM)) => []) (fun (s : (zM)) => s) ((1 : Int32), M11) ?_ ?_
      · exact fun s => b_X11_over_27_ok hB hd s.2 hR
      · intro r9
        exact j_X11_over_54_ok hB hd r9 hR
theorem f_X11_over_met {l : Launch} {d : Nat} {g : zG} {w : zW} {M0 : zM} {p1 : Int32} {M : zM} (hw : wS w) (hd : 9 ≤ d) {v : Int32} {M' : zM} (h : f_X11_over p1 M = some (v, M')) : zMet l yX11_over cX11_over 3 (some .int) d g w (zin false) M0 [zr w 257, .int p1] M (some (.int v)) M' :=
  met_i (by decide +kernel) (Nat.le_of_ble_eq_true rfl) rfl (fun C hB0 hR => f_X11_over_ok (r := (v, M')) ⟨hB0, hw⟩ hd M hR _ h rfl)
/-! WindingSquareModel.text(I)I -/
noncomputable def b_X11_text_82 (v1_82 : Int32) (v2_82 : Int32) (v3_82 : Int32) (M : zM) : Option ((Int32 × zM) ⊕ (zM)) :=
  if (144 : Int32) ≤ v3_82 then (some (.inr M))
  else (grd (inb v3_82 2425) (
  nm (mset M 263 (ix v3_82) (0 : Int32)) fun M95_82 =>
  some (.inl ((v3_82 + (1 : Int32)), M95_82))))
set_option maxRecDepth 100000 in
theorem b_X11_text_82_ok {C : zC} {d : Nat} {g : zG} {l : Launch} {w : zW} {r : Int32 × zM} {v1_82 : Int32} {v2_82 : Int32} {v3_82 : Int32} (hB : bOK C cX11_text 4 RX11 d g l w false) (hd : 10 ≤ d) (M : zM) (hR : RtI C cX11_text w r.1 r.2) : Sg C w (0, 0) 82 [(0, zr w 257), (1, .int v1_82), (2, .int v2_82), (3, .int v3_82)] [] M (b_X11_text_82 v1_82 v2_82 v3_82 M) (fun o => Sum.elim (fun (s : (Int32 × zM)) => Zs C w (0, 0) 82 [(0, zr w 257), (1, .int v1_82), (2, .int v2_82), (3, .int s.1)] [] s.2) (fun (s : (zM)) => Zs C w (0, 0) 102 [(0, zr w 257), (1, .int v1_82), (2, .int v2_82)] [] s) o) := by
  have hC := hB.1.1
  have hq1 : 1 ≤ d := by omega
  unfold b_X11_text_82
  refine x_iload_n hC dX11_text_82 rfl 3 rfl ?_
  refine x_sipush (v := (144 : Int32)) hC dX11_text_83 kh_144 ?_
  refine x_icmp_ge (tgt := 102) hC dX11_text_86 (by decide) ?_ ?_
  · refine x_sub [0, 1, 2] rfl ?_
    exact x_done (fun h => h)
  · refine x_aload_n hC dX11_text_89 rfl 0 rfl ?_
    refine r_getR hB dX11_text_90 kf_X11_29 rfl th_257 rf_257_16 ?_
    refine x_iload_n hC dX11_text_93 rfl 3 rfl ?_
    refine x_iconst (v := (0 : Int32)) hC dX11_text_94 ki_0 ?_
    refine r_iast hB dX11_text_95 th_263 ?_
    refine x_mem (fun M95_82 => ?_)
    refine x_iinc hC dX11_text_96 ki_1 [(3, .int (v3_82 + (1 : Int32))), (0, zr w 257), (1, .int v1_82), (2, .int v2_82)] 3 rfl (by decide) rfl ?_
    refine x_goto (tgt := 82) hC dX11_text_99 (by decide) ?_
    refine x_sub [1, 2, 3, 0] rfl ?_
    exact x_done (fun h => h)
noncomputable def b_X11_text_111 (v1_111 : Int32) (v2_111 : Int32) (v3_111 : Int32) (M : zM) : Option ((Int32 × zM) ⊕ (zM)) :=
  if (2325 : Int32) ≤ v3_111 then (some (.inr M))
  else (grd (inb v3_111 2425) (
  nm (mset M 263 (ix v3_111) (0 : Int32)) fun M124_111 =>
  some (.inl ((v3_111 + (1 : Int32)), M124_111))))
set_option maxRecDepth 100000 in
theorem b_X11_text_111_ok {C : zC} {d : Nat} {g : zG} {l : Launch} {w : zW} {r : Int32 × zM} {v1_111 : Int32} {v2_111 : Int32} {v3_111 : Int32} (hB : bOK C cX11_text 4 RX11 d g l w false) (hd : 10 ≤ d) (M : zM) (hR : RtI C cX11_text w r.1 r.2) : Sg C w (0, 0) 111 [(0, zr w 257), (1, .int v1_111), (2, .int v2_111), (3, .int v3_111)] [] M (b_X11_text_111 v1_111 v2_111 v3_111 M) (fun o => Sum.elim (fun (s : (Int32 × zM)) => Zs C w (0, 0) 111 [(0, zr w 257), (1, .int v1_111), (2, .int v2_111), (3, .int s.1)] [] s.2) (fun (s : (zM)) => Zs C w (0, 0) 131 [(0, zr w 257), (1, .int v1_111), (2, .int v2_111)] [] s) o) := by
  have hC := hB.1.1
  have hq1 : 1 ≤ d := by omega
  unfold b_X11_text_111
  refine x_iload_n hC dX11_text_111 rfl 3 rfl ?_
  refine x_sipush (v := (2325 : Int32)) hC dX11_text_112 kh_2325 ?_
  refine x_icmp_ge (tgt := 131) hC dX11_text_115 (by decide) ?_ ?_
  · refine x_sub [0, 1, 2] rfl ?_
    exact x_done (fun h => h)
  · refine x_aload_n hC dX11_text_118 rfl 0 rfl ?_
    refine r_getR hB dX11_text_119 kf_X11_29 rfl th_257 rf_257_16 ?_
    refine x_iload_n hC dX11_text_122 rfl 3 rfl ?_
    refine x_iconst (v := (0 : Int32)) hC dX11_text_123 ki_0 ?_
    refine r_iast hB dX11_text_124 th_263 ?_
    refine x_mem (fun M124_111 => ?_)
    refine x_iinc hC dX11_text_125 ki_1 [(3, .int (v3_111 + (1 : Int32))), (0, zr w 257), (1, .int v1_111), (2, .int v2_111)] 3 rfl (by decide) rfl ?_
    refine x_goto (tgt := 111) hC dX11_text_128 (by decide) ?_
    refine x_sub [1, 2, 3, 0] rfl ?_
    exact x_done (fun h => h)
noncomputable def j_X11_text_199_131 (v1_131 : Int32) (v2_199_131 : Int32) (M : zM) : Option ((Int32 × zM) ⊕ (Int32 × zM)) :=
  (f_X11_sign (59 : Int32) M).bind fun M202_131 =>
  some (.inl ((v2_199_131 + (1 : Int32)), M202_131))
set_option maxRecDepth 100000 in
theorem j_X11_text_199_131_ok {C : zC} {d : Nat} {g : zG} {l : Launch} {w : zW} {r : Int32 × zM} {v1_131 : Int32} {v2_199_131 : Int32} (hB : bOK C cX11_text 4 RX11 d g l w false) (hd : 10 ≤ d) (M : zM) (hR : RtI C cX11_text w r.1 r.2) : Sg C w (0, 0) 199 [(0, zr w 257), (1, .int v1_131), (2, .int v2_199_131)] [] M (j_X11_text_199_131 v1_131 v2_199_131 M) (fun o => Sum.elim (fun (s : (Int32 × zM)) => Zs C w (0, 0) 131 [(0, zr w 257), (1, .int v1_131), (2, .int s.1)] [] s.2) (fun (s : (Int32 × zM)) => Zs C w (0, 0) 211 [(0, zr w 257), (1, .int v1_131), (2, .int s.1)] [] s.2) o) := by
  have hC := hB.1.1
  have hq1 : 1 ≤ d := by omega
  unfold j_X11_text_199_131
  refine x_aload_n hC dX11_text_199 rfl 0 rfl ?_
  refine x_bipush (v := (59 : Int32)) hC dX11_text_200 kb_59 ?_
  refine r_cVv (as := [.int (59 : Int32)]) (rest := []) hB dX11_text_202 kv_X11_188 th_257 hq1 rfl rfl (Nat.le_of_ble_eq_true rfl) (fun M' hv => f_X11_sign_met hB.2 (by omega) hv) (fun M202_131 => ?_)
  refine x_iinc hC dX11_text_205 ki_1 [(2, .int (v2_199_131 + (1 : Int32))), (0, zr w 257), (1, .int v1_131)] 2 rfl (by decide) rfl ?_
  refine x_goto (tgt := 131) hC dX11_text_208 (by decide) ?_
  refine x_sub [1, 2, 0] rfl ?_
  exact x_done (fun h => h)
noncomputable def b_X11_text_131 (v1_131 : Int32) (v2_131 : Int32) (M : zM) : Option ((Int32 × zM) ⊕ (Int32 × zM)) :=
  if (f_X11_fine M) = 0 then (some (.inr (v2_131, M)))
  else (bnd2 (f_X11_here M) fun u139_131 M139_131 =>
  if u139_131 < 0 then (some (.inr (v2_131, M139_131)))
  else (if (M139_131 257 8) ≤ (M139_131 257 9) then (some (.inr (v2_131, M139_131)))
  else (if v1_131 = 0 then ((f_X11_readRule v2_131 M139_131).bind fun M162_131 =>
  j_X11_text_199_131 v1_131 v2_131 M162_131)
  else (if v1_131 = (1 : Int32) then ((f_X11_readStones v2_131 M139_131).bind fun M175_131 =>
  j_X11_text_199_131 v1_131 v2_131 M175_131)
  else (if v1_131 = (2 : Int32) then ((f_X11_readWay v2_131 M139_131).bind fun M188_131 =>
  j_X11_text_199_131 v1_131 v2_131 M188_131)
  else ((f_X11_readHour v2_131 M139_131).bind fun M196_131 =>
  j_X11_text_199_131 v1_131 v2_131 M196_131))))))
set_option maxRecDepth 100000 in
theorem b_X11_text_131_ok {C : zC} {d : Nat} {g : zG} {l : Launch} {w : zW} {r : Int32 × zM} {v1_131 : Int32} {v2_131 : Int32} (hB : bOK C cX11_text 4 RX11 d g l w false) (hd : 10 ≤ d) (M : zM) (hR : RtI C cX11_text w r.1 r.2) : Sg C w (0, 0) 131 [(0, zr w 257), (1, .int v1_131), (2, .int v2_131)] [] M (b_X11_text_131 v1_131 v2_131 M) (fun o => Sum.elim (fun (s : (Int32 × zM)) => Zs C w (0, 0) 131 [(0, zr w 257), (1, .int v1_131), (2, .int s.1)] [] s.2) (fun (s : (Int32 × zM)) => Zs C w (0, 0) 211 [(0, zr w 257), (1, .int v1_131), (2, .int s.1)] [] s.2) o) := by
  have hC := hB.1.1
  have hq1 : 1 ≤ d := by omega
  unfold b_X11_text_131
  refine x_aload_n hC dX11_text_131 rfl 0 rfl ?_
  refine r_cV0 (as := []) (rest := []) hB dX11_text_132 kv_X11_149 th_257 hq1 rfl rfl (Nat.le_of_ble_eq_true rfl) (f_X11_fine_met hB.2 (by omega)) ?_
  refine x_if_eq (tgt := 211) hC dX11_text_135 (by decide) ?_ ?_
  · exact x_done (fun h => h)
  · refine x_aload_n hC dX11_text_138 rfl 0 rfl ?_
    refine r_cV2 (as := []) (rest := []) hB dX11_text_139 kv_X11_138 th_257 hq1 rfl rfl (Nat.le_of_ble_eq_true rfl) (fun v M' hv => f_X11_here_met hB.2 (by omega) hv) (fun u139_131 M139_131 => ?_)
    refine x_if_lt (tgt := 211) hC dX11_text_142 (by decide) ?_ ?_
    · exact x_done (fun h => h)
    · refine x_aload_n hC dX11_text_145 rfl 0 rfl ?_
      refine r_getI hB dX11_text_146 kf_X11_132 rfl th_257 ?_
      refine x_aload_n hC dX11_text_149 rfl 0 rfl ?_
      refine r_getI hB dX11_text_150 kf_X11_135 rfl th_257 ?_
      refine x_icmp_ge (tgt := 211) hC dX11_text_153 (by decide) ?_ ?_
      · exact x_done (fun h => h)
      · refine x_iload_n hC dX11_text_156 rfl 1 rfl ?_
        refine x_if_ne (tgt := 168) hC dX11_text_157 (by decide) ?_ ?_
        · refine x_aload_n hC dX11_text_160 rfl 0 rfl ?_
          refine x_iload_n hC dX11_text_161 rfl 2 rfl ?_
          refine r_cVv (as := [.int v2_131]) (rest := []) hB dX11_text_162 kv_X11_175 th_257 hq1 rfl rfl (Nat.le_of_ble_eq_true rfl) (fun M' hv => f_X11_readRule_met hB.2 (by omega) hv) (fun M162_131 => ?_)
          refine x_goto (tgt := 199) hC dX11_text_165 (by decide) ?_
          exact j_X11_text_199_131_ok hB hd M162_131 hR
        · refine x_iload_n hC dX11_text_168 rfl 1 rfl ?_
          refine x_iconst (v := (1 : Int32)) hC dX11_text_169 ki_1 ?_
          refine x_icmp_ne (tgt := 181) hC dX11_text_170 (by decide) ?_ ?_
          · refine x_aload_n hC dX11_text_173 rfl 0 rfl ?_
            refine x_iload_n hC dX11_text_174 rfl 2 rfl ?_
            refine r_cVv (as := [.int v2_131]) (rest := []) hB dX11_text_175 kv_X11_179 th_257 hq1 rfl rfl (Nat.le_of_ble_eq_true rfl) (fun M' hv => f_X11_readStones_met hB.2 (by omega) hv) (fun M175_131 => ?_)
            refine x_goto (tgt := 199) hC dX11_text_178 (by decide) ?_
            exact j_X11_text_199_131_ok hB hd M175_131 hR
          · refine x_iload_n hC dX11_text_181 rfl 1 rfl ?_
            refine x_iconst (v := (2 : Int32)) hC dX11_text_182 ki_2 ?_
            refine x_icmp_ne (tgt := 194) hC dX11_text_183 (by decide) ?_ ?_
            · refine x_aload_n hC dX11_text_186 rfl 0 rfl ?_
              refine x_iload_n hC dX11_text_187 rfl 2 rfl ?_
              refine r_cVv (as := [.int v2_131]) (rest := []) hB dX11_text_188 kv_X11_182 th_257 hq1 rfl rfl (Nat.le_of_ble_eq_true rfl) (fun M' hv => f_X11_readWay_met hB.2 (by omega) hv) (fun M188_131 => ?_)
              refine x_goto (tgt := 199) hC dX11_text_191 (by decide) ?_
              exact j_X11_text_199_131_ok hB hd M188_131 hR
            · refine x_aload_n hC dX11_text_194 rfl 0 rfl ?_
              refine x_iload_n hC dX11_text_195 rfl 2 rfl ?_
              refine r_cVv (as := [.int v2_131]) (rest := []) hB dX11_text_196 kv_X11_185 th_257 hq1 rfl rfl (Nat.le_of_ble_eq_true rfl) (fun M' hv => f_X11_readHour_met hB.2 (by omega) hv) (fun M196_131 => ?_)
              exact j_X11_text_199_131_ok hB hd M196_131 hR
noncomputable def b_X11_text_272 (v1_272 : Int32) (v2_272 : Int32) (v3_272 : Int32) (M : zM) : Option ((Int32 × zM) ⊕ (zM)) :=
  if (16 : Int32) ≤ v3_272 then (some (.inr M))
  else (if v1_272 = (2 : Int32) then (grd (inb (((144 : Int32) + ((12 : Int32) * v3_272)) + (8 : Int32)) 2425) (
  nm (mset M 258 (ix (((144 : Int32) + ((12 : Int32) * v3_272)) + (8 : Int32))) (0 : Int32)) fun M299_272 =>
  some (.inl ((v3_272 + (1 : Int32)), M299_272))))
  else (some (.inr M)))
set_option maxRecDepth 100000 in
theorem b_X11_text_272_ok {C : zC} {d : Nat} {g : zG} {l : Launch} {w : zW} {r : Int32 × zM} {v1_272 : Int32} {v2_272 : Int32} {v3_272 : Int32} (hB : bOK C cX11_text 4 RX11 d g l w false) (hd : 10 ≤ d) (M : zM) (hR : RtI C cX11_text w r.1 r.2) : Sg C w (0, 0) 272 [(0, zr w 257), (1, .int v1_272), (2, .int v2_272), (3, .int v3_272)] [] M (b_X11_text_272 v1_272 v2_272 v3_272 M) (fun o => Sum.elim (fun (s : (Int32 × zM)) => Zs C w (0, 0) 272 [(0, zr w 257), (1, .int v1_272), (2, .int v2_272), (3, .int s.1)] [] s.2) (fun (s : (zM)) => Zs C w (0, 0) 306 [(0, zr w 257), (1, .int v1_272), (2, .int v2_272)] [] s) o) := by
  have hC := hB.1.1
  have hq1 : 1 ≤ d := by omega
  unfold b_X11_text_272
  refine x_iload_n hC dX11_text_272 rfl 3 rfl ?_
  refine x_bipush (v := (16 : Int32)) hC dX11_text_273 kb_16 ?_
  refine x_icmp_ge (tgt := 306) hC dX11_text_275 (by decide) ?_ ?_
  · refine x_sub [0, 1, 2] rfl ?_
    exact x_done (fun h => h)
  · refine x_iload_n hC dX11_text_278 rfl 1 rfl ?_
    refine x_iconst (v := (2 : Int32)) hC dX11_text_279 ki_2 ?_
    refine x_icmp_ne (tgt := 306) hC dX11_text_280 (by decide) ?_ ?_
    · refine x_aload_n hC dX11_text_283 rfl 0 rfl ?_
      refine r_getR hB dX11_text_284 kf_X11_9 rfl th_257 rf_257_0 ?_
      refine x_sipush (v := (144 : Int32)) hC dX11_text_287 kh_144 ?_
      refine x_bipush (v := (12 : Int32)) hC dX11_text_290 kb_12 ?_
      refine x_iload_n hC dX11_text_292 rfl 3 rfl ?_
      refine x_imul hC dX11_text_293 ?_
      refine x_iadd hC dX11_text_294 ?_
      refine x_bipush (v := (8 : Int32)) hC dX11_text_295 kb_8 ?_
      refine x_iadd hC dX11_text_297 ?_
      refine x_iconst (v := (0 : Int32)) hC dX11_text_298 ki_0 ?_
      refine r_iast hB dX11_text_299 th_258 ?_
      refine x_mem (fun M299_272 => ?_)
      refine x_iinc hC dX11_text_300 ki_1 [(3, .int (v3_272 + (1 : Int32))), (0, zr w 257), (1, .int v1_272), (2, .int v2_272)] 3 rfl (by decide) rfl ?_
      refine x_goto (tgt := 272) hC dX11_text_303 (by decide) ?_
      refine x_sub [1, 2, 3, 0] rfl ?_
      exact x_done (fun h => h)
    · refine x_sub [0, 1, 2] rfl ?_
      exact x_done (fun h => h)
noncomputable def j_X11_text_306 (v1_306 : Int32) (v2_306 : Int32) (M : zM) : Option (Int32 × zM) :=
  if v1_306 ≤ 0 then (some (v2_306, M))
  else (nm (mset M 257 4 (0 : Int32)) fun M312 =>
  some (v2_306, M312))
set_option maxRecDepth 100000 in
theorem j_X11_text_306_ok {C : zC} {d : Nat} {g : zG} {l : Launch} {w : zW} {r : Int32 × zM} {v1_306 : Int32} {v2_306 : Int32} (hB : bOK C cX11_text 4 RX11 d g l w false) (hd : 10 ≤ d) (M : zM) (hR : RtI C cX11_text w r.1 r.2) : Sg C w (0, 0) 306 [(0, zr w 257), (1, .int v1_306), (2, .int v2_306)] [] M (j_X11_text_306 v1_306 v2_306 M) (fun q => q = r) := by
  have hC := hB.1.1
  have hq1 : 1 ≤ d := by omega
  unfold j_X11_text_306
  refine x_iload_n hC dX11_text_306 rfl 1 rfl ?_
  refine x_if_le (tgt := 315) hC dX11_text_307 (by decide) ?_ ?_
  · refine x_iload_n hC dX11_text_315 rfl 2 rfl ?_
    exact r_retI hR dX11_text_316 (fun h => h)
  · refine x_aload_n hC dX11_text_310 rfl 0 rfl ?_
    refine x_iconst (v := (0 : Int32)) hC dX11_text_311 ki_0 ?_
    refine r_putI hB dX11_text_312 kf_X11_94 rfl th_257 ?_
    refine x_mem (fun M312 => ?_)
    refine x_iload_n hC dX11_text_315 rfl 2 rfl ?_
    exact r_retI hR dX11_text_316 (fun h => h)
noncomputable def j_X11_text_270 (v1_270 : Int32) (v2_270 : Int32) (M : zM) : Option (Int32 × zM) :=
  (loopW (fun s => b_X11_text_272 v1_270 v2_270 s.1 s.2) ((0 : Int32), M)).bind (fun r => j_X11_text_306 v1_270 v2_270 r)
set_option maxRecDepth 100000 in
theorem j_X11_text_270_ok {C : zC} {d : Nat} {g : zG} {l : Launch} {w : zW} {r : Int32 × zM} {v1_270 : Int32} {v2_270 : Int32} (hB : bOK C cX11_text 4 RX11 d g l w false) (hd : 10 ≤ d) (M : zM) (hR : RtI C cX11_text w r.1 r.2) : Sg C w (0, 0) 270 [(0, zr w 257), (1, .int v1_270), (2, .int v2_270)] [] M (j_X11_text_270 v1_270 v2_270 M) (fun q => q = r) := by
  have hC := hB.1.1
  have hq1 : 1 ≤ d := by omega
  unfold j_X11_text_270
  refine x_iconst (v := (0 : Int32)) hC dX11_text_270 ki_0 ?_
  refine x_istore_n hC dX11_text_271 rfl [(3, .int (0 : Int32)), (0, zr w 257), (1, .int v1_270), (2, .int v2_270)] (by decide) rfl ?_
  refine x_sub [1, 2, 3, 0] rfl ?_
  refine x_loopB (pc2 := 306) (fun (s : (Int32 × zM)) => [(0, zr w 257), (1, .int v1_270), (2, .int v2_270), (3, .int s.1)]) (fun (s : (Int32 × zM)) => s.2) (fun (s : (zM)) => [(0, zr w 257), (1, .int v1_270), (2, .int v2_270)]) (fun (s : (zM)) => s) ((0 : Int32), M) ?_ ?_
  · exact fun s => b_X11_text_272_ok hB hd s.2 hR
  · intro r9
    exact j_X11_text_306_ok hB hd r9 hR
noncomputable def j_X11_text_211 (v1_211 : Int32) (v2_211 : Int32) (M : zM) : Option (Int32 × zM) :=
  if (f_X11_fine M) = 0 then (nm (mset M 257 13 (M 257 11)) fun M223 =>
  nm (mset M223 257 14 (M223 257 10)) fun M231 =>
  some ((-1 : Int32), M231))
  else (grd (inb ((941 : Int32) + v1_211) 2425) (
  nm (mset M 263 (ix ((941 : Int32) + v1_211)) v2_211) fun M246 =>
  (f_X11_copies 263 258 (2425 : Int32) M246).bind fun M258 =>
  if v1_211 = (1 : Int32) then ((f_X11_drivesOut M258).bind fun M267 =>
  j_X11_text_270 v1_211 v2_211 M267)
  else (j_X11_text_270 v1_211 v2_211 M258)))
set_option maxRecDepth 100000 in
theorem j_X11_text_211_ok {C : zC} {d : Nat} {g : zG} {l : Launch} {w : zW} {r : Int32 × zM} {v1_211 : Int32} {v2_211 : Int32} (hB : bOK C cX11_text 4 RX11 d g l w false) (hd : 10 ≤ d) (M : zM) (hR : RtI C cX11_text w r.1 r.2) : Sg C w (0, 0) 211 [(0, zr w 257), (1, .int v1_211), (2, .int v2_211)] [] M (j_X11_text_211 v1_211 v2_211 M) (fun q => q = r) := by
  have hC := hB.1.1
  have hq1 : 1 ≤ d := by omega
  unfold j_X11_text_211
  refine x_aload_n hC dX11_text_211 rfl 0 rfl ?_
  refine r_cV0 (as := []) (rest := []) hB dX11_text_212 kv_X11_149 th_257 hq1 rfl rfl (Nat.le_of_ble_eq_true rfl) (f_X11_fine_met hB.2 (by omega)) ?_
  refine x_if_ne (tgt := 236) hC dX11_text_215 (by decide) ?_ ?_
  · refine x_aload_n hC dX11_text_218 rfl 0 rfl ?_
    refine x_aload_n hC dX11_text_219 rfl 0 rfl ?_
    refine r_getI hB dX11_text_220 kf_X11_129 rfl th_257 ?_
    refine r_putI hB dX11_text_223 kf_X11_169 rfl th_257 ?_
    refine x_mem (fun M223 => ?_)
    refine x_aload_n hC dX11_text_226 rfl 0 rfl ?_
    refine x_aload_n hC dX11_text_227 rfl 0 rfl ?_
    refine r_getI hB dX11_text_228 kf_X11_126 rfl th_257 ?_
    refine r_putI hB dX11_text_231 kf_X11_22 rfl th_257 ?_
    refine x_mem (fun M231 => ?_)
    refine x_iconst (v := (-1 : Int32)) hC dX11_text_234 ki_m1 ?_
    exact r_retI hR dX11_text_235 (fun h => h)
  · refine x_aload_n hC dX11_text_236 rfl 0 rfl ?_
    refine r_getR hB dX11_text_237 kf_X11_29 rfl th_257 rf_257_16 ?_
    refine x_sipush (v := (941 : Int32)) hC dX11_text_240 kh_941 ?_
    refine x_iload_n hC dX11_text_243 rfl 1 rfl ?_
    refine x_iadd hC dX11_text_244 ?_
    refine x_iload_n hC dX11_text_245 rfl 2 rfl ?_
    refine r_iast hB dX11_text_246 th_263 ?_
    refine x_mem (fun M246 => ?_)
    refine x_aload_n hC dX11_text_247 rfl 0 rfl ?_
    refine r_getR hB dX11_text_248 kf_X11_29 rfl th_257 rf_257_16 ?_
    refine x_aload_n hC dX11_text_251 rfl 0 rfl ?_
    refine r_getR hB dX11_text_252 kf_X11_9 rfl th_257 rf_257_0 ?_
    refine x_sipush (v := (2425 : Int32)) hC dX11_text_255 kh_2425 ?_
    refine r_cSv (as := [zr w 263, zr w 258, .int (2425 : Int32)]) (rest := []) hB dX11_text_258 ks_X11_86 hq1 rfl rfl (Nat.le_of_ble_eq_true rfl) (fun M' hv => f_X11_copies_met hB.2 (tA.toI th_263) (tA.toI th_258) (by omega) hv) (fun M258 => ?_)
    refine x_iload_n hC dX11_text_261 rfl 1 rfl ?_
    refine x_iconst (v := (1 : Int32)) hC dX11_text_262 ki_1 ?_
    refine x_icmp_ne (tgt := 270) hC dX11_text_263 (by decide) ?_ ?_
    · refine x_aload_n hC dX11_text_266 rfl 0 rfl ?_
      refine r_cVv (as := []) (rest := []) hB dX11_text_267 kv_X11_191 th_257 hq1 rfl rfl (Nat.le_of_ble_eq_true rfl) (fun M' hv => f_X11_drivesOut_met hB.2 (by omega) hv) (fun M267 => ?_)
      exact j_X11_text_270_ok hB hd M267 hR
    · exact j_X11_text_270_ok hB hd M258 hR
noncomputable def j_X11_text_102 (v1_102 : Int32) (v2_102 : Int32) (M : zM) : Option (Int32 × zM) :=
  if v1_102 = (2 : Int32) then ((loopW (fun s => b_X11_text_111 v1_102 v2_102 s.1 s.2) ((1925 : Int32), M)).bind (fun r => (loopW (fun s => b_X11_text_131 v1_102 s.1 s.2) (v2_102, r)).bind (fun r => j_X11_text_211 v1_102 r.1 r.2)))
  else ((loopW (fun s => b_X11_text_131 v1_102 s.1 s.2) (v2_102, M)).bind (fun r => j_X11_text_211 v1_102 r.1 r.2))
set_option maxRecDepth 100000 in
theorem j_X11_text_102_ok {C : zC} {d : Nat} {g : zG} {l : Launch} {w : zW} {r : Int32 × zM} {v1_102 : Int32} {v2_102 : Int32} (hB : bOK C cX11_text 4 RX11 d g l w false) (hd : 10 ≤ d) (M : zM) (hR : RtI C cX11_text w r.1 r.2) : Sg C w (0, 0) 102 [(0, zr w 257), (1, .int v1_102), (2, .int v2_102)] [] M (j_X11_text_102 v1_102 v2_102 M) (fun q => q = r) := by
  have hC := hB.1.1
  have hq1 : 1 ≤ d := by omega
  unfold j_X11_text_102
  refine x_iload_n hC dX11_text_102 rfl 1 rfl ?_
  refine x_iconst (v := (2 : Int32)) hC dX11_text_103 ki_2 ?_
  refine x_icmp_ne (tgt := 131) hC dX11_text_104 (by decide) ?_ ?_
  · refine x_sipush (v := (1925 : Int32)) hC dX11_text_107 kh_1925 ?_
    refine x_istore_n hC dX11_text_110 rfl [(3, .int (1925 : Int32)), (0, zr w 257), (1, .int v1_102), (2, .int v2_102)] (by decide) rfl ?_
    refine x_sub [1, 2, 3, 0] rfl ?_
    refine x_loopB (pc2 := 131) (fun (s : (Int32 × zM)) => [(0, zr w 257), (1, .int v1_102), (2, .int v2_102), (3, .int s.1)]) (fun (s : (Int32 × zM)) => s.2) (fun (s : (zM)) => [(0, zr w 257), (1, .int v1_102), (2, .int v2_102)]) (fun (s : (zM)) => s) ((1925 : Int32), M) ?_ ?_
    · exact fun s => b_X11_text_111_ok hB hd s.2 hR
    · intro r9
      refine x_loopB (pc2 := 211) (fun (s : (Int32 × zM)) => [(0, zr w 257), (1, .int v1_102), (2, .int s.1)]) (fun (s : (Int32 × zM)) => s.2) (fun (s : (Int32 × zM)) => [(0, zr w 257), (1, .int v1_102), (2, .int s.1)]) (fun (s : (Int32 × zM)) => s.2) (v2_102, r9) ?_ ?_
      · exact fun s => b_X11_text_131_ok hB hd s.2 hR
      · intro r9
        exact j_X11_text_211_ok hB hd r9.2 hR
  · refine x_loopB (pc2 := 211) (fun (s : (Int32 × zM)) => [(0, zr w 257), (1, .int v1_102), (2, .int s.1)]) (fun (s : (Int32 × zM)) => s.2) (fun (s : (Int32 × zM)) => [(0, zr w 257), (1, .int v1_102), (2, .int s.1)]) (fun (s : (Int32 × zM)) => s.2) (v2_102, M) ?_ ?_
    · exact fun s => b_X11_text_131_ok hB hd s.2 hR
    · intro r9
      exact j_X11_text_211_ok hB hd r9.2 hR
noncomputable def f_X11_text (p1 : Int32) (M : zM) : Option (Int32 × zM) :=
  nm (mset M 257 8 (M 257 7)) fun M5 =>
  nm (mset M5 257 7 (0 : Int32)) fun M10 =>
  nm (mset M10 257 9 (0 : Int32)) fun M15 =>
  nm (mset M15 257 10 (-1 : Int32)) fun M20 =>
  nm (mset M20 257 11 (0 : Int32)) fun M25 =>
  nm (mset M25 257 12 (0 : Int32)) fun M30 =>
  nm (mset M30 257 13 (0 : Int32)) fun M35 =>
  nm (mset M35 257 14 (-1 : Int32)) fun M40 =>
  if (f_X11_within p1 (0 : Int32) (3 : Int32)) = 0 then (some ((-1 : Int32), M40))
  else ((f_X11_copies 258 263 (2425 : Int32) M40).bind fun M65 =>
  nm (mset M65 257 17 (0 : Int32)) fun M72 =>
  if p1 = (1 : Int32) then ((loopW (fun s => b_X11_text_82 p1 (0 : Int32) s.1 s.2) ((0 : Int32), M72)).bind (fun r => j_X11_text_102 p1 (0 : Int32) r))
  else (j_X11_text_102 p1 (0 : Int32) M72))
set_option maxRecDepth 100000 in
theorem f_X11_text_ok {C : zC} {d : Nat} {g : zG} {l : Launch} {w : zW} {r : Int32 × zM} {p1 : Int32} (hB : bOK C cX11_text 4 RX11 d g l w false) (hd : 10 ≤ d) (M : zM) (hR : RtI C cX11_text w r.1 r.2) : Sg C w (0, 0) 0 [(0, zr w 257), (1, .int p1)] [] M (f_X11_text p1 M) (fun q => q = r) := by
  have hC := hB.1.1
  have hq1 : 1 ≤ d := by omega
  unfold f_X11_text
  refine x_aload_n hC dX11_text_0 rfl 0 rfl ?_
  refine x_aload_n hC dX11_text_1 rfl 0 rfl ?_
  refine r_getI hB dX11_text_2 kf_X11_123 rfl th_257 ?_
  refine r_putI hB dX11_text_5 kf_X11_135 rfl th_257 ?_
  refine x_mem (fun M5 => ?_)
  refine x_aload_n hC dX11_text_8 rfl 0 rfl ?_
  refine x_iconst (v := (0 : Int32)) hC dX11_text_9 ki_0 ?_
  refine r_putI hB dX11_text_10 kf_X11_123 rfl th_257 ?_
  refine x_mem (fun M10 => ?_)
  refine x_aload_n hC dX11_text_13 rfl 0 rfl ?_
  refine x_iconst (v := (0 : Int32)) hC dX11_text_14 ki_0 ?_
  refine r_putI hB dX11_text_15 kf_X11_132 rfl th_257 ?_
  refine x_mem (fun M15 => ?_)
  refine x_aload_n hC dX11_text_18 rfl 0 rfl ?_
  refine x_iconst (v := (-1 : Int32)) hC dX11_text_19 ki_m1 ?_
  refine r_putI hB dX11_text_20 kf_X11_126 rfl th_257 ?_
  refine x_mem (fun M20 => ?_)
  refine x_aload_n hC dX11_text_23 rfl 0 rfl ?_
  refine x_iconst (v := (0 : Int32)) hC dX11_text_24 ki_0 ?_
  refine r_putI hB dX11_text_25 kf_X11_129 rfl th_257 ?_
  refine x_mem (fun M25 => ?_)
  refine x_aload_n hC dX11_text_28 rfl 0 rfl ?_
  refine x_iconst (v := (0 : Int32)) hC dX11_text_29 ki_0 ?_
  refine r_putI hB dX11_text_30 kf_X11_166 rfl th_257 ?_
  refine x_mem (fun M30 => ?_)
  refine x_aload_n hC dX11_text_33 rfl 0 rfl ?_
  refine x_iconst (v := (0 : Int32)) hC dX11_text_34 ki_0 ?_
  refine r_putI hB dX11_text_35 kf_X11_169 rfl th_257 ?_
  refine x_mem (fun M35 => ?_)
  refine x_aload_n hC dX11_text_38 rfl 0 rfl ?_
  refine x_iconst (v := (-1 : Int32)) hC dX11_text_39 ki_m1 ?_
  refine r_putI hB dX11_text_40 kf_X11_22 rfl th_257 ?_
  refine x_mem (fun M40 => ?_)
  refine x_iload_n hC dX11_text_43 rfl 1 rfl ?_
  refine x_iconst (v := (0 : Int32)) hC dX11_text_44 ki_0 ?_
  refine x_iconst (v := (3 : Int32)) hC dX11_text_45 ki_3 ?_
  refine r_cS0 (as := [.int p1, .int (0 : Int32), .int (3 : Int32)]) (rest := []) hB dX11_text_46 ks_X11_100 hq1 rfl rfl (Nat.le_of_ble_eq_true rfl) (f_X11_within_met hB.2 (by omega)) ?_
  refine x_if_ne (tgt := 54) hC dX11_text_49 (by decide) ?_ ?_
  · refine x_iconst (v := (-1 : Int32)) hC dX11_text_52 ki_m1 ?_
    exact r_retI hR dX11_text_53 (fun h => h)
  · refine x_aload_n hC dX11_text_54 rfl 0 rfl ?_
    refine r_getR hB dX11_text_55 kf_X11_9 rfl th_257 rf_257_0 ?_
    refine x_aload_n hC dX11_text_58 rfl 0 rfl ?_
    refine r_getR hB dX11_text_59 kf_X11_29 rfl th_257 rf_257_16 ?_
    refine x_sipush (v := (2425 : Int32)) hC dX11_text_62 kh_2425 ?_
    refine r_cSv (as := [zr w 258, zr w 263, .int (2425 : Int32)]) (rest := []) hB dX11_text_65 ks_X11_86 hq1 rfl rfl (Nat.le_of_ble_eq_true rfl) (fun M' hv => f_X11_copies_met hB.2 (tA.toI th_258) (tA.toI th_263) (by omega) hv) (fun M65 => ?_)
    refine x_iconst (v := (0 : Int32)) hC dX11_text_68 ki_0 ?_
    refine x_istore_n hC dX11_text_69 rfl [(2, .int (0 : Int32)), (0, zr w 257), (1, .int p1)] (by decide) rfl ?_
    refine x_aload_n hC dX11_text_70 rfl 1 rfl ?_
    refine x_iconst (v := (0 : Int32)) hC dX11_text_71 ki_0 ?_
    refine r_putI hB dX11_text_72 kf_X11_172 rfl th_257 ?_
    refine x_mem (fun M72 => ?_)
    refine x_iload_n hC dX11_text_75 rfl 2 rfl ?_
    refine x_iconst (v := (1 : Int32)) hC dX11_text_76 ki_1 ?_
    refine x_icmp_ne (tgt := 102) hC dX11_text_77 (by decide) ?_ ?_
    · refine x_iconst (v := (0 : Int32)) hC dX11_text_80 ki_0 ?_
      refine x_istore_n hC dX11_text_81 rfl [(3, .int (0 : Int32)), (2, .int (0 : Int32)), (0, zr w 257), (1, .int p1)] (by decide) rfl ?_
      refine x_sub [2, 3, 1, 0] rfl ?_
      refine x_loopB (pc2 := 102) (fun (s : (Int32 × zM)) => [(0, zr w 257), (1, .int p1), (2, .int (0 : Int32)), (3, .int s.1)]) (fun (s : (Int32 × zM)) => s.2) (fun (s : (zM)) => [(0, zr w 257), (1, .int p1), (2, .int (0 : Int32))]) (fun (s : (zM)) => s) ((0 : Int32), M72) ?_ ?_
      · exact fun s => b_X11_text_82_ok hB hd s.2 hR
      · intro r9
        exact j_X11_text_102_ok hB hd r9 hR
    · refine x_sub [1, 2, 0] rfl ?_
      exact j_X11_text_102_ok hB hd M72 hR
theorem f_X11_text_met {l : Launch} {d : Nat} {g : zG} {w : zW} {M0 : zM} {p1 : Int32} {M : zM} (hw : wS w) (hd : 10 ≤ d) {v : Int32} {M' : zM} (h : f_X11_text p1 M = some (v, M')) : zMet l yX11_text cX11_text 4 (some .int) d g w (zin false) M0 [zr w 257, .int p1] M (some (.int v)) M' :=
  met_i (by decide +kernel) (Nat.le_of_ble_eq_true rfl) rfl (fun C hB0 hR => f_X11_text_ok (r := (v, M')) ⟨hB0, hw⟩ hd M hR _ h rfl)
