/-! WindingSquareModel.here()I -/
noncomputable def j_X11_here_39_0 (M : zM) : Option ((zM) ⊕ (zM)) :=
  nm (mset M 257 9 ((M 257 9) + (1 : Int32))) fun M46_0 =>
  some (.inl M46_0)
set_option maxRecDepth 100000 in
theorem j_X11_here_39_0_ok {C : zC} {d : Nat} {g : zG} {l : Launch} {w : zW} {r : Int32 × zM} (hB : bOK C cX11_here 1 RX11 d g l w false) (hd : 1 ≤ d) (M : zM) (hR : RtI C cX11_here w r.1 r.2) : Sg C w (0, 0) 39 [(0, zr w 257)] [] M (j_X11_here_39_0 M) (fun o => Sum.elim (fun (s : (zM)) => Zs C w (0, 0) 0 [(0, zr w 257)] [] s) (fun (s : (zM)) => Zs C w (0, 0) 52 [(0, zr w 257)] [] s) o) := by
  have hC := hB.1.1
  have hq1 : 1 ≤ d := by omega
  unfold j_X11_here_39_0
  refine x_aload_n hC dX11_here_39 rfl 0 rfl ?_
  refine x_dup hC dX11_here_40 rfl ?_
  refine r_getI hB dX11_here_41 kf_X11_132 rfl th_257 ?_
  refine x_iconst (v := (1 : Int32)) hC dX11_here_44 ki_1 ?_
  refine x_iadd hC dX11_here_45 ?_
  refine r_putI hB dX11_here_46 kf_X11_132 rfl th_257 ?_
  refine x_mem (fun M46_0 => ?_)
  refine x_goto (tgt := 0) hC dX11_here_49 (by decide) ?_
  exact x_done (fun h => h)
noncomputable def b_X11_here_0 (M : zM) : Option ((zM) ⊕ (zM)) :=
  if (M 257 8) ≤ (M 257 9) then (some (.inr M))
  else (grd (inb (M 257 9) 400) (
  if (M 262 (ix (M 257 9))) = (32 : Int32) then (j_X11_here_39_0 M)
  else (grd (inb (M 257 9) 400) (
  if (M 262 (ix (M 257 9))) = (10 : Int32) then (j_X11_here_39_0 M)
  else (some (.inr M))))))
set_option maxRecDepth 100000 in
theorem b_X11_here_0_ok {C : zC} {d : Nat} {g : zG} {l : Launch} {w : zW} {r : Int32 × zM} (hB : bOK C cX11_here 1 RX11 d g l w false) (hd : 1 ≤ d) (M : zM) (hR : RtI C cX11_here w r.1 r.2) : Sg C w (0, 0) 0 [(0, zr w 257)] [] M (b_X11_here_0 M) (fun o => Sum.elim (fun (s : (zM)) => Zs C w (0, 0) 0 [(0, zr w 257)] [] s) (fun (s : (zM)) => Zs C w (0, 0) 52 [(0, zr w 257)] [] s) o) := by
  have hC := hB.1.1
  have hq1 : 1 ≤ d := by omega
  unfold b_X11_here_0
  refine x_aload_n hC dX11_here_0 rfl 0 rfl ?_
  refine r_getI hB dX11_here_1 kf_X11_132 rfl th_257 ?_
  refine x_aload_n hC dX11_here_4 rfl 0 rfl ?_
  refine r_getI hB dX11_here_5 kf_X11_135 rfl th_257 ?_
  refine x_icmp_ge (tgt := 52) hC dX11_here_8 (by decide) ?_ ?_
  · exact x_done (fun h => h)
  · refine x_aload_n hC dX11_here_11 rfl 0 rfl ?_
    refine r_getR hB dX11_here_12 kf_X11_26 rfl th_257 rf_257_15 ?_
    refine x_aload_n hC dX11_here_15 rfl 0 rfl ?_
    refine r_getI hB dX11_here_16 kf_X11_132 rfl th_257 ?_
    refine r_iald hB dX11_here_19 th_262 ?_
    refine x_bipush (v := (32 : Int32)) hC dX11_here_20 kb_32 ?_
    refine x_icmp_eq (tgt := 39) hC dX11_here_22 (by decide) ?_ ?_
    · exact j_X11_here_39_0_ok hB hd M hR
    · refine x_aload_n hC dX11_here_25 rfl 0 rfl ?_
      refine r_getR hB dX11_here_26 kf_X11_26 rfl th_257 rf_257_15 ?_
      refine x_aload_n hC dX11_here_29 rfl 0 rfl ?_
      refine r_getI hB dX11_here_30 kf_X11_132 rfl th_257 ?_
      refine r_iald hB dX11_here_33 th_262 ?_
      refine x_bipush (v := (10 : Int32)) hC dX11_here_34 kb_10 ?_
      refine x_icmp_ne (tgt := 52) hC dX11_here_36 (by decide) ?_ ?_
      · exact j_X11_here_39_0_ok hB hd M hR
      · exact x_done (fun h => h)
noncomputable def j_X11_here_52 (M : zM) : Option (Int32 × zM) :=
  if (M 257 8) ≤ (M 257 9) then (some ((0 : Int32), M))
  else (grd (inb (M 257 9) 400) (
  some ((M 262 (ix (M 257 9))), M)))
set_option maxRecDepth 100000 in
theorem j_X11_here_52_ok {C : zC} {d : Nat} {g : zG} {l : Launch} {w : zW} {r : Int32 × zM} (hB : bOK C cX11_here 1 RX11 d g l w false) (hd : 1 ≤ d) (M : zM) (hR : RtI C cX11_here w r.1 r.2) : Sg C w (0, 0) 52 [(0, zr w 257)] [] M (j_X11_here_52 M) (fun q => q = r) := by
  have hC := hB.1.1
  have hq1 : 1 ≤ d := by omega
  unfold j_X11_here_52
  refine x_aload_n hC dX11_here_52 rfl 0 rfl ?_
  refine r_getI hB dX11_here_53 kf_X11_132 rfl th_257 ?_
  refine x_aload_n hC dX11_here_56 rfl 0 rfl ?_
  refine r_getI hB dX11_here_57 kf_X11_135 rfl th_257 ?_
  refine x_icmp_ge (tgt := 75) hC dX11_here_60 (by decide) ?_ ?_
  · refine x_iconst (v := (0 : Int32)) hC dX11_here_75 ki_0 ?_
    exact r_retI hR dX11_here_76 (fun h => h)
  · refine x_aload_n hC dX11_here_63 rfl 0 rfl ?_
    refine r_getR hB dX11_here_64 kf_X11_26 rfl th_257 rf_257_15 ?_
    refine x_aload_n hC dX11_here_67 rfl 0 rfl ?_
    refine r_getI hB dX11_here_68 kf_X11_132 rfl th_257 ?_
    refine r_iald hB dX11_here_71 th_262 ?_
    refine x_goto (tgt := 76) hC dX11_here_72 (by decide) ?_
    exact r_retI hR dX11_here_76 (fun h => h)
noncomputable def f_X11_here (M : zM) : Option (Int32 × zM) :=
  (loopW (fun s => b_X11_here_0 s) M).bind (fun r => j_X11_here_52 r)
set_option maxRecDepth 100000 in
theorem f_X11_here_ok {C : zC} {d : Nat} {g : zG} {l : Launch} {w : zW} {r : Int32 × zM} (hB : bOK C cX11_here 1 RX11 d g l w false) (hd : 1 ≤ d) (M : zM) (hR : RtI C cX11_here w r.1 r.2) : Sg C w (0, 0) 0 [(0, zr w 257)] [] M (f_X11_here M) (fun q => q = r) := by
  have hC := hB.1.1
  have hq1 : 1 ≤ d := by omega
  unfold f_X11_here
  refine x_loopB (pc2 := 52) (fun (s : (zM)) => [(0, zr w 257)]) (fun (s : (zM)) => s) (fun (s : (zM)) => [(0, zr w 257)]) (fun (s : (zM)) => s) M ?_ ?_
  · exact fun s => b_X11_here_0_ok hB hd s hR
  · intro r9
    exact j_X11_here_52_ok hB hd r9 hR
theorem f_X11_here_met {l : Launch} {d : Nat} {g : zG} {w : zW} {M0 : zM} {M : zM} (hw : wS w) (hd : 1 ≤ d) {v : Int32} {M' : zM} (h : f_X11_here M = some (v, M')) : zMet l yX11_here cX11_here 1 (some .int) d g w (zin false) M0 [zr w 257] M (some (.int v)) M' :=
  met_i (by decide +kernel) (Nat.le_of_ble_eq_true rfl) rfl (fun C hB0 hR => f_X11_here_ok (r := (v, M')) ⟨hB0, hw⟩ hd M hR _ h rfl)
/-! WindingSquareModel.isLetter(I)Z -/
def j_X11_isLetter_12 (v0_12 : Int32) : Int32 :=
  if v0_12 < (65 : Int32) then ((0 : Int32))
  else (if (90 : Int32) < v0_12 then ((0 : Int32))
  else ((1 : Int32)))
set_option maxRecDepth 100000 in
theorem j_X11_isLetter_12_ok {C : zC} {d : Nat} {g : zG} {l : Launch} {w : zW} {r : Int32} {v0_12 : Int32} (hB : bOK C cX11_isLetter 1 RX11 d g l w false) (hd : 1 ≤ d) (M : zM) (hR : RtZ C cX11_isLetter w r M) : Sg C w (0, 0) 12 [(0, .int v0_12)] [] M (some (j_X11_isLetter_12 v0_12)) (fun q => q = r) := by
  have hC := hB.1.1
  have hq1 : 1 ≤ d := by omega
  unfold j_X11_isLetter_12
  refine x_iload_n hC dX11_isLetter_12 rfl 0 rfl ?_
  refine x_bipush (v := (65 : Int32)) hC dX11_isLetter_13 kb_65 ?_
  refine x_si ?_
  refine x_icmp_lt (tgt := 28) hC dX11_isLetter_15 (by decide) ?_ ?_
  · refine x_iconst (v := (0 : Int32)) hC dX11_isLetter_28 ki_0 ?_
    exact r_retZ hR dX11_isLetter_29 (Or.inl rfl) (fun h => congrArg (fun q => (q, M)) h)
  · refine x_iload_n hC dX11_isLetter_18 rfl 0 rfl ?_
    refine x_bipush (v := (90 : Int32)) hC dX11_isLetter_19 kb_90 ?_
    refine x_si ?_
    refine x_icmp_gt (tgt := 28) hC dX11_isLetter_21 (by decide) ?_ ?_
    · refine x_iconst (v := (0 : Int32)) hC dX11_isLetter_28 ki_0 ?_
      exact r_retZ hR dX11_isLetter_29 (Or.inl rfl) (fun h => congrArg (fun q => (q, M)) h)
    · refine x_iconst (v := (1 : Int32)) hC dX11_isLetter_24 ki_1 ?_
      refine x_goto (tgt := 29) hC dX11_isLetter_25 (by decide) ?_
      exact r_retZ hR dX11_isLetter_29 (Or.inr rfl) (fun h => congrArg (fun q => (q, M)) h)
def f_X11_isLetter (p0 : Int32) : Int32 :=
  if p0 < (97 : Int32) then (j_X11_isLetter_12 p0)
  else (if p0 ≤ (122 : Int32) then ((1 : Int32))
  else (j_X11_isLetter_12 p0))
set_option maxRecDepth 100000 in
theorem f_X11_isLetter_ok {C : zC} {d : Nat} {g : zG} {l : Launch} {w : zW} {r : Int32} {p0 : Int32} (hB : bOK C cX11_isLetter 1 RX11 d g l w false) (hd : 1 ≤ d) (M : zM) (hR : RtZ C cX11_isLetter w r M) : Sg C w (0, 0) 0 [(0, .int p0)] [] M (some (f_X11_isLetter p0)) (fun q => q = r) := by
  have hC := hB.1.1
  have hq1 : 1 ≤ d := by omega
  unfold f_X11_isLetter
  refine x_iload_n hC dX11_isLetter_0 rfl 0 rfl ?_
  refine x_bipush (v := (97 : Int32)) hC dX11_isLetter_1 kb_97 ?_
  refine x_si ?_
  refine x_icmp_lt (tgt := 12) hC dX11_isLetter_3 (by decide) ?_ ?_
  · exact j_X11_isLetter_12_ok hB hd M hR
  · refine x_iload_n hC dX11_isLetter_6 rfl 0 rfl ?_
    refine x_bipush (v := (122 : Int32)) hC dX11_isLetter_7 kb_122 ?_
    refine x_si ?_
    refine x_icmp_le (tgt := 24) hC dX11_isLetter_9 (by decide) ?_ ?_
    · refine x_iconst (v := (1 : Int32)) hC dX11_isLetter_24 ki_1 ?_
      refine x_goto (tgt := 29) hC dX11_isLetter_25 (by decide) ?_
      exact r_retZ hR dX11_isLetter_29 (Or.inr rfl) (fun h => congrArg (fun q => (q, M)) h)
    · exact j_X11_isLetter_12_ok hB hd M hR
theorem f_X11_isLetter_met {l : Launch} {d : Nat} {g : zG} {w : zW} {M0 : zM} {p0 : Int32} {M : zM} (hw : wS w) (hd : 1 ≤ d) : zMet l yX11_isLetter cX11_isLetter 1 (some .boolean) d g w (zin false) M0 [.int p0] M (some (.int (f_X11_isLetter p0))) M :=
  met_z (by decide +kernel) (Nat.le_of_ble_eq_true rfl) (fun C hB0 hR => f_X11_isLetter_ok ⟨hB0, hw⟩ hd M hR _ rfl rfl)
/-! WindingSquareModel.isDigit(I)Z -/
def f_X11_isDigit (p0 : Int32) : Int32 :=
  if p0 < (48 : Int32) then ((0 : Int32))
  else (if (57 : Int32) < p0 then ((0 : Int32))
  else ((1 : Int32)))
set_option maxRecDepth 100000 in
theorem f_X11_isDigit_ok {C : zC} {d : Nat} {g : zG} {l : Launch} {w : zW} {r : Int32} {p0 : Int32} (hB : bOK C cX11_isDigit 1 RX11 d g l w false) (hd : 1 ≤ d) (M : zM) (hR : RtZ C cX11_isDigit w r M) : Sg C w (0, 0) 0 [(0, .int p0)] [] M (some (f_X11_isDigit p0)) (fun q => q = r) := by
  have hC := hB.1.1
  have hq1 : 1 ≤ d := by omega
  unfold f_X11_isDigit
  refine x_iload_n hC dX11_isDigit_0 rfl 0 rfl ?_
  refine x_bipush (v := (48 : Int32)) hC dX11_isDigit_1 kb_48 ?_
  refine x_si ?_
  refine x_icmp_lt (tgt := 16) hC dX11_isDigit_3 (by decide) ?_ ?_
  · refine x_iconst (v := (0 : Int32)) hC dX11_isDigit_16 ki_0 ?_
    exact r_retZ hR dX11_isDigit_17 (Or.inl rfl) (fun h => congrArg (fun q => (q, M)) h)
  · refine x_iload_n hC dX11_isDigit_6 rfl 0 rfl ?_
    refine x_bipush (v := (57 : Int32)) hC dX11_isDigit_7 kb_57 ?_
    refine x_si ?_
    refine x_icmp_gt (tgt := 16) hC dX11_isDigit_9 (by decide) ?_ ?_
    · refine x_iconst (v := (0 : Int32)) hC dX11_isDigit_16 ki_0 ?_
      exact r_retZ hR dX11_isDigit_17 (Or.inl rfl) (fun h => congrArg (fun q => (q, M)) h)
    · refine x_iconst (v := (1 : Int32)) hC dX11_isDigit_12 ki_1 ?_
      refine x_goto (tgt := 17) hC dX11_isDigit_13 (by decide) ?_
      exact r_retZ hR dX11_isDigit_17 (Or.inr rfl) (fun h => congrArg (fun q => (q, M)) h)
theorem f_X11_isDigit_met {l : Launch} {d : Nat} {g : zG} {w : zW} {M0 : zM} {p0 : Int32} {M : zM} (hw : wS w) (hd : 1 ≤ d) : zMet l yX11_isDigit cX11_isDigit 1 (some .boolean) d g w (zin false) M0 [.int p0] M (some (.int (f_X11_isDigit p0))) M :=
  met_z (by decide +kernel) (Nat.le_of_ble_eq_true rfl) (fun C hB0 hR => f_X11_isDigit_ok ⟨hB0, hw⟩ hd M hR _ rfl rfl)
/-! WindingSquareModel.packed(II)I -/
def f_X11_packed (p0 : Int32) (p1 : Int32) : Int32 :=
  ((p0 <<< ((5 : Int32) &&& 31)) ||| (p1 - (96 : Int32)))
set_option maxRecDepth 100000 in
theorem f_X11_packed_ok {C : zC} {d : Nat} {g : zG} {l : Launch} {w : zW} {r : Int32} {p0 : Int32} {p1 : Int32} (hB : bOK C cX11_packed 2 RX11 d g l w false) (hd : 1 ≤ d) (M : zM) (hR : RtI C cX11_packed w r M) : Sg C w (0, 0) 0 [(0, .int p0), (1, .int p1)] [] M (some (f_X11_packed p0 p1)) (fun q => q = r) := by
  have hC := hB.1.1
  have hq1 : 1 ≤ d := by omega
  unfold f_X11_packed
  refine x_iload_n hC dX11_packed_0 rfl 0 rfl ?_
  refine x_iconst (v := (5 : Int32)) hC dX11_packed_1 ki_5 ?_
  refine x_ishl hC dX11_packed_2 ?_
  refine x_iload_n hC dX11_packed_3 rfl 1 rfl ?_
  refine x_bipush (v := (96 : Int32)) hC dX11_packed_4 kb_96 ?_
  refine x_isub hC dX11_packed_6 ?_
  refine x_ior hC dX11_packed_7 ?_
  exact r_retI hR dX11_packed_8 (fun h => congrArg (fun q => (q, M)) h)
theorem f_X11_packed_met {l : Launch} {d : Nat} {g : zG} {w : zW} {M0 : zM} {p0 : Int32} {p1 : Int32} {M : zM} (hw : wS w) (hd : 1 ≤ d) : zMet l yX11_packed cX11_packed 2 (some .int) d g w (zin false) M0 [.int p0, .int p1] M (some (.int (f_X11_packed p0 p1))) M :=
  met_i (by decide +kernel) (Nat.le_of_ble_eq_true rfl) rfl (fun C hB0 hR => f_X11_packed_ok ⟨hB0, hw⟩ hd M hR _ rfl rfl)
/-! WindingSquareModel.fault(I)I -/
def f_X11_fault (p1 : Int32) (M : zM) : Int32 :=
  if p1 = 0 then ((M 257 13))
  else (if p1 = (1 : Int32) then ((M 257 14))
  else ((-1 : Int32)))
set_option maxRecDepth 100000 in
theorem f_X11_fault_ok {C : zC} {d : Nat} {g : zG} {l : Launch} {w : zW} {r : Int32} {p1 : Int32} (hB : bOK C cX11_fault 2 RX11 d g l w false) (hd : 1 ≤ d) (M : zM) (hR : RtI C cX11_fault w r M) : Sg C w (0, 0) 0 [(0, zr w 257), (1, .int p1)] [] M (some (f_X11_fault p1 M)) (fun q => q = r) := by
  have hC := hB.1.1
  have hq1 : 1 ≤ d := by omega
  unfold f_X11_fault
  refine x_iload_n hC dX11_fault_0 rfl 1 rfl ?_
  refine x_si ?_
  refine x_if_ne (tgt := 11) hC dX11_fault_1 (by decide) ?_ ?_
  · refine x_aload_n hC dX11_fault_4 rfl 0 rfl ?_
    refine r_getI hB dX11_fault_5 kf_X11_169 rfl th_257 ?_
    refine x_goto (tgt := 24) hC dX11_fault_8 (by decide) ?_
    exact r_retI hR dX11_fault_24 (fun h => congrArg (fun q => (q, M)) h)
  · refine x_iload_n hC dX11_fault_11 rfl 1 rfl ?_
    refine x_iconst (v := (1 : Int32)) hC dX11_fault_12 ki_1 ?_
    refine x_si ?_
    refine x_icmp_ne (tgt := 23) hC dX11_fault_13 (by decide) ?_ ?_
    · refine x_aload_n hC dX11_fault_16 rfl 0 rfl ?_
      refine r_getI hB dX11_fault_17 kf_X11_22 rfl th_257 ?_
      refine x_goto (tgt := 24) hC dX11_fault_20 (by decide) ?_
      exact r_retI hR dX11_fault_24 (fun h => congrArg (fun q => (q, M)) h)
    · refine x_iconst (v := (-1 : Int32)) hC dX11_fault_23 ki_m1 ?_
      exact r_retI hR dX11_fault_24 (fun h => congrArg (fun q => (q, M)) h)
theorem f_X11_fault_met {l : Launch} {d : Nat} {g : zG} {w : zW} {M0 : zM} {p1 : Int32} {M : zM} (hw : wS w) (hd : 1 ≤ d) : zMet l yX11_fault cX11_fault 2 (some .int) d g w (zin false) M0 [zr w 257, .int p1] M (some (.int (f_X11_fault p1 M))) M :=
  met_i (by decide +kernel) (Nat.le_of_ble_eq_true rfl) rfl (fun C hB0 hR => f_X11_fault_ok ⟨hB0, hw⟩ hd M hR _ rfl rfl)
/-! WindingSquareModel.watchNow()I -/
noncomputable def j_X11_watchNow_54_4 (v1_54_4 : Int32) (v2_54_4 : Int32) (M : zM) : Option ((Int32 × Int32) ⊕ (Int32)) :=
  some (.inl (v1_54_4, (v2_54_4 + (1 : Int32))))
set_option maxRecDepth 100000 in
theorem j_X11_watchNow_54_4_ok {C : zC} {d : Nat} {g : zG} {l : Launch} {w : zW} {r : Int32} {v1_54_4 : Int32} {v2_54_4 : Int32} (hB : bOK C cX11_watchNow 3 RX11 d g l w false) (hd : 1 ≤ d) (M : zM) (hR : RtI C cX11_watchNow w r M) : Sg C w (0, 0) 54 [(0, zr w 257), (1, .int v1_54_4), (2, .int v2_54_4)] [] M (j_X11_watchNow_54_4 v1_54_4 v2_54_4 M) (fun o => Sum.elim (fun (s : (Int32 × Int32)) => Zs C w (0, 0) 4 [(0, zr w 257), (1, .int s.1), (2, .int s.2)] [] M) (fun (s : (Int32)) => Zs C w (0, 0) 60 [(1, .int s)] [] M) o) := by
  have hC := hB.1.1
  have hq1 : 1 ≤ d := by omega
  unfold j_X11_watchNow_54_4
  refine x_iinc hC dX11_watchNow_54 ki_1 [(2, .int (v2_54_4 + (1 : Int32))), (0, zr w 257), (1, .int v1_54_4)] 2 rfl (by decide) rfl ?_
  refine x_goto (tgt := 4) hC dX11_watchNow_57 (by decide) ?_
  refine x_sub [1, 2, 0] rfl ?_
  exact x_done (fun h => h)
noncomputable def b_X11_watchNow_4 (v1_4 : Int32) (v2_4 : Int32) (M : zM) : Option ((Int32 × Int32) ⊕ (Int32)) :=
  if (M 259 (ix (944 : Int32))) ≤ v2_4 then (some (.inr v1_4))
  else (grd (inb ((2325 : Int32) + ((2 : Int32) * v2_4)) 2425) (
  if (M 259 (ix (936 : Int32))) < (M 259 (ix ((2325 : Int32) + ((2 : Int32) * v2_4)))) then (j_X11_watchNow_54_4 v1_4 v2_4 M)
  else (grd (inb (((2325 : Int32) + ((2 : Int32) * v2_4)) + (1 : Int32)) 2425) (
  nm (M 259 (ix (((2325 : Int32) + ((2 : Int32) * v2_4)) + (1 : Int32)))) fun v1_53_4 =>
  j_X11_watchNow_54_4 v1_53_4 v2_4 M))))
set_option maxRecDepth 100000 in
theorem b_X11_watchNow_4_ok {C : zC} {d : Nat} {g : zG} {l : Launch} {w : zW} {r : Int32} {v1_4 : Int32} {v2_4 : Int32} (hB : bOK C cX11_watchNow 3 RX11 d g l w false) (hd : 1 ≤ d) (M : zM) (hR : RtI C cX11_watchNow w r M) : Sg C w (0, 0) 4 [(0, zr w 257), (1, .int v1_4), (2, .int v2_4)] [] M (b_X11_watchNow_4 v1_4 v2_4 M) (fun o => Sum.elim (fun (s : (Int32 × Int32)) => Zs C w (0, 0) 4 [(0, zr w 257), (1, .int s.1), (2, .int s.2)] [] M) (fun (s : (Int32)) => Zs C w (0, 0) 60 [(1, .int s)] [] M) o) := by
  have hC := hB.1.1
  have hq1 : 1 ≤ d := by omega
  unfold b_X11_watchNow_4
  refine x_iload_n hC dX11_watchNow_4 rfl 2 rfl ?_
  refine x_aload_n hC dX11_watchNow_5 rfl 0 rfl ?_
  refine r_getR hB dX11_watchNow_6 kf_X11_13 rfl th_257 rf_257_1 ?_
  refine x_sipush (v := (944 : Int32)) hC dX11_watchNow_9 kh_944 ?_
  refine r_iald0 hB dX11_watchNow_12 th_259 ib_944_2425 ?_
  refine x_icmp_ge (tgt := 60) hC dX11_watchNow_13 (by decide) ?_ ?_
  · refine x_sub [1] rfl ?_
    exact x_done (fun h => h)
  · refine x_aload_n hC dX11_watchNow_16 rfl 0 rfl ?_
    refine r_getR hB dX11_watchNow_17 kf_X11_13 rfl th_257 rf_257_1 ?_
    refine x_sipush (v := (2325 : Int32)) hC dX11_watchNow_20 kh_2325 ?_
    refine x_iconst (v := (2 : Int32)) hC dX11_watchNow_23 ki_2 ?_
    refine x_iload_n hC dX11_watchNow_24 rfl 2 rfl ?_
    refine x_imul hC dX11_watchNow_25 ?_
    refine x_iadd hC dX11_watchNow_26 ?_
    refine r_iald hB dX11_watchNow_27 th_259 ?_
    refine x_aload_n hC dX11_watchNow_28 rfl 0 rfl ?_
    refine r_getR hB dX11_watchNow_29 kf_X11_13 rfl th_257 rf_257_1 ?_
    refine x_sipush (v := (936 : Int32)) hC dX11_watchNow_32 kh_936 ?_
    refine r_iald0 hB dX11_watchNow_35 th_259 ib_936_2425 ?_
    refine x_icmp_gt (tgt := 54) hC dX11_watchNow_36 (by decide) ?_ ?_
    · exact j_X11_watchNow_54_4_ok hB hd M hR
    · refine x_aload_n hC dX11_watchNow_39 rfl 0 rfl ?_
      refine r_getR hB dX11_watchNow_40 kf_X11_13 rfl th_257 rf_257_1 ?_
      refine x_sipush (v := (2325 : Int32)) hC dX11_watchNow_43 kh_2325 ?_
      refine x_iconst (v := (2 : Int32)) hC dX11_watchNow_46 ki_2 ?_
      refine x_iload_n hC dX11_watchNow_47 rfl 2 rfl ?_
      refine x_imul hC dX11_watchNow_48 ?_
      refine x_iadd hC dX11_watchNow_49 ?_
      refine x_iconst (v := (1 : Int32)) hC dX11_watchNow_50 ki_1 ?_
      refine x_iadd hC dX11_watchNow_51 ?_
      refine r_iald hB dX11_watchNow_52 th_259 ?_
      refine x_top (fun v1_53_4 => ?_)
      refine x_istore_n hC dX11_watchNow_53 rfl [(1, .int v1_53_4), (0, zr w 257), (2, .int v2_4)] (by decide) rfl ?_
      refine x_sub [1, 0, 2] rfl ?_
      exact j_X11_watchNow_54_4_ok hB hd M hR
noncomputable def j_X11_watchNow_60 (v1_60 : Int32) (M : zM) : Option (Int32) :=
  some v1_60
set_option maxRecDepth 100000 in
theorem j_X11_watchNow_60_ok {C : zC} {d : Nat} {g : zG} {l : Launch} {w : zW} {r : Int32} {v1_60 : Int32} (hB : bOK C cX11_watchNow 3 RX11 d g l w false) (hd : 1 ≤ d) (M : zM) (hR : RtI C cX11_watchNow w r M) : Sg C w (0, 0) 60 [(1, .int v1_60)] [] M (j_X11_watchNow_60 v1_60 M) (fun q => q = r) := by
  have hC := hB.1.1
  have hq1 : 1 ≤ d := by omega
  unfold j_X11_watchNow_60
  refine x_iload_n hC dX11_watchNow_60 rfl 0 rfl ?_
  exact r_retI hR dX11_watchNow_61 (fun h => congrArg (fun q => (q, M)) h)
noncomputable def f_X11_watchNow (M : zM) : Option (Int32) :=
  (loopW (fun s => b_X11_watchNow_4 s.1 s.2 M) ((0 : Int32), (0 : Int32))).bind (fun r => j_X11_watchNow_60 r M)
set_option maxRecDepth 100000 in
theorem f_X11_watchNow_ok {C : zC} {d : Nat} {g : zG} {l : Launch} {w : zW} {r : Int32} (hB : bOK C cX11_watchNow 3 RX11 d g l w false) (hd : 1 ≤ d) (M : zM) (hR : RtI C cX11_watchNow w r M) : Sg C w (0, 0) 0 [(0, zr w 257)] [] M (f_X11_watchNow M) (fun q => q = r) := by
  have hC := hB.1.1
  have hq1 : 1 ≤ d := by omega
  unfold f_X11_watchNow
  refine x_iconst (v := (0 : Int32)) hC dX11_watchNow_0 ki_0 ?_
  refine x_istore_n hC dX11_watchNow_1 rfl [(1, .int (0 : Int32)), (0, zr w 257)] (by decide) rfl ?_
  refine x_iconst (v := (0 : Int32)) hC dX11_watchNow_2 ki_0 ?_
  refine x_istore_n hC dX11_watchNow_3 rfl [(2, .int (0 : Int32)), (1, .int (0 : Int32)), (0, zr w 257)] (by decide) rfl ?_
  refine x_sub [2, 1, 0] rfl ?_
  refine x_loopB (pc2 := 60) (fun (s : (Int32 × Int32)) => [(0, zr w 257), (1, .int s.1), (2, .int s.2)]) (fun (s : (Int32 × Int32)) => M) (fun (s : (Int32)) => [(1, .int s)]) (fun (s : (Int32)) => M) ((0 : Int32), (0 : Int32)) ?_ ?_
  · exact fun s => b_X11_watchNow_4_ok hB hd M hR
  · intro r9
    exact j_X11_watchNow_60_ok hB hd M hR
theorem f_X11_watchNow_met {l : Launch} {d : Nat} {g : zG} {w : zW} {M0 : zM} {M : zM} (hw : wS w) (hd : 1 ≤ d) {v : Int32} (h : f_X11_watchNow M = some v) : zMet l yX11_watchNow cX11_watchNow 3 (some .int) d g w (zin false) M0 [zr w 257] M (some (.int v)) M :=
  met_i (by decide +kernel) (Nat.le_of_ble_eq_true rfl) rfl (fun C hB0 hR => f_X11_watchNow_ok ⟨hB0, hw⟩ hd M hR _ h rfl)
/-! WindingSquareModel.asInt(Z)I -/
def f_X11_asInt (p0 : Int32) : Int32 :=
  if p0 = 0 then ((0 : Int32))
  else ((1 : Int32))
set_option maxRecDepth 100000 in
theorem f_X11_asInt_ok {C : zC} {d : Nat} {g : zG} {l : Launch} {w : zW} {r : Int32} {p0 : Int32} (hB : bOK C cX11_asInt 1 RX11 d g l w false) (hd : 1 ≤ d) (M : zM) (hR : RtI C cX11_asInt w r M) : Sg C w (0, 0) 0 [(0, .int p0)] [] M (some (f_X11_asInt p0)) (fun q => q = r) := by
  have hC := hB.1.1
  have hq1 : 1 ≤ d := by omega
  unfold f_X11_asInt
  refine x_iload_n hC dX11_asInt_0 rfl 0 rfl ?_
  refine x_si ?_
  refine x_if_eq (tgt := 8) hC dX11_asInt_1 (by decide) ?_ ?_
  · refine x_iconst (v := (0 : Int32)) hC dX11_asInt_8 ki_0 ?_
    exact r_retI hR dX11_asInt_9 (fun h => congrArg (fun q => (q, M)) h)
  · refine x_iconst (v := (1 : Int32)) hC dX11_asInt_4 ki_1 ?_
    refine x_goto (tgt := 9) hC dX11_asInt_5 (by decide) ?_
    exact r_retI hR dX11_asInt_9 (fun h => congrArg (fun q => (q, M)) h)
theorem f_X11_asInt_met {l : Launch} {d : Nat} {g : zG} {w : zW} {M0 : zM} {p0 : Int32} {M : zM} (hw : wS w) (hd : 1 ≤ d) : zMet l yX11_asInt cX11_asInt 1 (some .int) d g w (zin false) M0 [.int p0] M (some (.int (f_X11_asInt p0))) M :=
  met_i (by decide +kernel) (Nat.le_of_ble_eq_true rfl) rfl (fun C hB0 hR => f_X11_asInt_ok ⟨hB0, hw⟩ hd M hR _ rfl rfl)
/-! WindingSquareModel.turned(II)I -/
def f_X11_turned (p0 : Int32) (p1 : Int32) : Int32 :=
  if p1 = 0 then ((irem (p0 + (3 : Int32)) (4 : Int32)))
  else ((irem (p0 + p1) (4 : Int32)))
set_option maxRecDepth 100000 in
theorem f_X11_turned_ok {C : zC} {d : Nat} {g : zG} {l : Launch} {w : zW} {r : Int32} {p0 : Int32} {p1 : Int32} (hB : bOK C cX11_turned 2 RX11 d g l w false) (hd : 1 ≤ d) (M : zM) (hR : RtI C cX11_turned w r M) : Sg C w (0, 0) 0 [(0, .int p0), (1, .int p1)] [] M (some (f_X11_turned p0 p1)) (fun q => q = r) := by
  have hC := hB.1.1
  have hq1 : 1 ≤ d := by omega
  unfold f_X11_turned
  refine x_iload_n hC dX11_turned_0 rfl 0 rfl ?_
  refine x_iload_n hC dX11_turned_1 rfl 1 rfl ?_
  refine x_si ?_
  refine x_if_ne (tgt := 9) hC dX11_turned_2 (by decide) ?_ ?_
  · refine x_iconst (v := (3 : Int32)) hC dX11_turned_5 ki_3 ?_
    refine x_goto (tgt := 10) hC dX11_turned_6 (by decide) ?_
    refine x_iadd hC dX11_turned_10 ?_
    refine x_iconst (v := (4 : Int32)) hC dX11_turned_11 ki_4 ?_
    refine x_irem0 hC dX11_turned_12 nz_4 ?_
    exact r_retI hR dX11_turned_13 (fun h => congrArg (fun q => (q, M)) h)
  · refine x_iload_n hC dX11_turned_9 rfl 1 rfl ?_
    refine x_iadd hC dX11_turned_10 ?_
    refine x_iconst (v := (4 : Int32)) hC dX11_turned_11 ki_4 ?_
    refine x_irem0 hC dX11_turned_12 nz_4 ?_
    exact r_retI hR dX11_turned_13 (fun h => congrArg (fun q => (q, M)) h)
theorem f_X11_turned_met {l : Launch} {d : Nat} {g : zG} {w : zW} {M0 : zM} {p0 : Int32} {p1 : Int32} {M : zM} (hw : wS w) (hd : 1 ≤ d) : zMet l yX11_turned cX11_turned 2 (some .int) d g w (zin false) M0 [.int p0, .int p1] M (some (.int (f_X11_turned p0 p1))) M :=
  met_i (by decide +kernel) (Nat.le_of_ble_eq_true rfl) rfl (fun C hB0 hR => f_X11_turned_ok ⟨hB0, hw⟩ hd M hR _ rfl rfl)
/-! WindingSquareModel.state(I)I -/
noncomputable def f_X11_state (p1 : Int32) (M : zM) : Option (Int32 × zM) :=
  nm (M 258 (ix (938 : Int32))) fun v2_8 =>
  nm (mset M 258 (ix (938 : Int32)) p1) fun M17 =>
  nm (mset M17 257 4 (0 : Int32)) fun M20 =>
  some (v2_8, M20)
set_option maxRecDepth 100000 in
theorem f_X11_state_ok {C : zC} {d : Nat} {g : zG} {l : Launch} {w : zW} {r : Int32 × zM} {p1 : Int32} (hB : bOK C cX11_state 3 RX11 d g l w false) (hd : 1 ≤ d) (M : zM) (hR : RtI C cX11_state w r.1 r.2) : Sg C w (0, 0) 0 [(0, zr w 257), (1, .int p1)] [] M (f_X11_state p1 M) (fun q => q = r) := by
  have hC := hB.1.1
  have hq1 : 1 ≤ d := by omega
  unfold f_X11_state
  refine x_aload_n hC dX11_state_0 rfl 0 rfl ?_
  refine r_getR hB dX11_state_1 kf_X11_9 rfl th_257 rf_257_0 ?_
  refine x_sipush (v := (938 : Int32)) hC dX11_state_4 kh_938 ?_
  refine r_iald0 hB dX11_state_7 th_258 ib_938_2425 ?_
  refine x_top (fun v2_8 => ?_)
  refine x_istore_n hC dX11_state_8 rfl [(2, .int v2_8), (0, zr w 257), (1, .int p1)] (by decide) rfl ?_
  refine x_aload_n hC dX11_state_9 rfl 1 rfl ?_
  refine r_getR hB dX11_state_10 kf_X11_9 rfl th_257 rf_257_0 ?_
  refine x_sipush (v := (938 : Int32)) hC dX11_state_13 kh_938 ?_
  refine x_iload_n hC dX11_state_16 rfl 2 rfl ?_
  refine r_iast0 hB dX11_state_17 th_258 ib_938_2425 ?_
  refine x_mem (fun M17 => ?_)
  refine x_aload_n hC dX11_state_18 rfl 1 rfl ?_
  refine x_iconst (v := (0 : Int32)) hC dX11_state_19 ki_0 ?_
  refine r_putI hB dX11_state_20 kf_X11_94 rfl th_257 ?_
  refine x_mem (fun M20 => ?_)
  refine x_iload_n hC dX11_state_23 rfl 0 rfl ?_
  exact r_retI hR dX11_state_24 (fun h => h)
theorem f_X11_state_met {l : Launch} {d : Nat} {g : zG} {w : zW} {M0 : zM} {p1 : Int32} {M : zM} (hw : wS w) (hd : 1 ≤ d) {v : Int32} {M' : zM} (h : f_X11_state p1 M = some (v, M')) : zMet l yX11_state cX11_state 3 (some .int) d g w (zin false) M0 [zr w 257, .int p1] M (some (.int v)) M' :=
  met_i (by decide +kernel) (Nat.le_of_ble_eq_true rfl) rfl (fun C hB0 hR => f_X11_state_ok (r := (v, M')) ⟨hB0, hw⟩ hd M hR _ h rfl)
/-! WindingSquareModel.undo()Z -/
noncomputable def b_X11_undo_21 (v1_21 : Int32) (M : zM) : Option ((Int32 × zM) ⊕ (zM)) :=
  if (940 : Int32) ≤ v1_21 then (some (.inr M))
  else (grd (inb (((940 : Int32) * (M 257 4)) + v1_21) 5640) (
  grd (inb v1_21 2425) (
  nm (mset M 258 (ix v1_21) (M 261 (ix (((940 : Int32) * (M 257 4)) + v1_21)))) fun M48_21 =>
  some (.inl ((v1_21 + (1 : Int32)), M48_21)))))
set_option maxRecDepth 100000 in
theorem b_X11_undo_21_ok {C : zC} {d : Nat} {g : zG} {l : Launch} {w : zW} {r : Int32 × zM} {v1_21 : Int32} (hB : bOK C cX11_undo 2 RX11 d g l w false) (hd : 1 ≤ d) (M : zM) (hR : RtZ C cX11_undo w r.1 r.2) : Sg C w (0, 0) 21 [(0, zr w 257), (1, .int v1_21)] [] M (b_X11_undo_21 v1_21 M) (fun o => Sum.elim (fun (s : (Int32 × zM)) => Zs C w (0, 0) 21 [(0, zr w 257), (1, .int s.1)] [] s.2) (fun (s : (zM)) => Zs C w (0, 0) 55 [] [] s) o) := by
  have hC := hB.1.1
  have hq1 : 1 ≤ d := by omega
  unfold b_X11_undo_21
  refine x_iload_n hC dX11_undo_21 rfl 1 rfl ?_
  refine x_sipush (v := (940 : Int32)) hC dX11_undo_22 kh_940 ?_
  refine x_icmp_ge (tgt := 55) hC dX11_undo_25 (by decide) ?_ ?_
  · refine x_sub [] rfl ?_
    exact x_done (fun h => h)
  · refine x_aload_n hC dX11_undo_28 rfl 0 rfl ?_
    refine r_getR hB dX11_undo_29 kf_X11_9 rfl th_257 rf_257_0 ?_
    refine x_iload_n hC dX11_undo_32 rfl 1 rfl ?_
    refine x_aload_n hC dX11_undo_33 rfl 0 rfl ?_
    refine r_getR hB dX11_undo_34 kf_X11_19 rfl th_257 rf_257_3 ?_
    refine x_sipush (v := (940 : Int32)) hC dX11_undo_37 kh_940 ?_
    refine x_aload_n hC dX11_undo_40 rfl 0 rfl ?_
    refine r_getI hB dX11_undo_41 kf_X11_94 rfl th_257 ?_
    refine x_imul hC dX11_undo_44 ?_
    refine x_iload_n hC dX11_undo_45 rfl 1 rfl ?_
    refine x_iadd hC dX11_undo_46 ?_
    refine r_iald hB dX11_undo_47 th_261 ?_
    refine r_iast hB dX11_undo_48 th_258 ?_
    refine x_mem (fun M48_21 => ?_)
    refine x_iinc hC dX11_undo_49 ki_1 [(1, .int (v1_21 + (1 : Int32))), (0, zr w 257)] 1 rfl (by decide) rfl ?_
    refine x_goto (tgt := 21) hC dX11_undo_52 (by decide) ?_
    refine x_sub [1, 0] rfl ?_
    exact x_done (fun h => h)
noncomputable def j_X11_undo_55 (M : zM) : Option (Int32 × zM) :=
  some ((1 : Int32), M)
set_option maxRecDepth 100000 in
theorem j_X11_undo_55_ok {C : zC} {d : Nat} {g : zG} {l : Launch} {w : zW} {r : Int32 × zM} (hB : bOK C cX11_undo 2 RX11 d g l w false) (hd : 1 ≤ d) (M : zM) (hR : RtZ C cX11_undo w r.1 r.2) : Sg C w (0, 0) 55 [] [] M (j_X11_undo_55 M) (fun q => q = r) := by
  have hC := hB.1.1
  have hq1 : 1 ≤ d := by omega
  unfold j_X11_undo_55
  refine x_iconst (v := (1 : Int32)) hC dX11_undo_55 ki_1 ?_
  exact r_retZ hR dX11_undo_56 (Or.inr rfl) (fun h => h)
noncomputable def f_X11_undo (M : zM) : Option (Int32 × zM) :=
  if (M 257 4) = 0 then (some ((0 : Int32), M))
  else (nm (mset M 257 4 ((M 257 4) - (1 : Int32))) fun M16 =>
  (loopW (fun s => b_X11_undo_21 s.1 s.2) ((0 : Int32), M16)).bind (fun r => j_X11_undo_55 r))
set_option maxRecDepth 100000 in
theorem f_X11_undo_ok {C : zC} {d : Nat} {g : zG} {l : Launch} {w : zW} {r : Int32 × zM} (hB : bOK C cX11_undo 2 RX11 d g l w false) (hd : 1 ≤ d) (M : zM) (hR : RtZ C cX11_undo w r.1 r.2) : Sg C w (0, 0) 0 [(0, zr w 257)] [] M (f_X11_undo M) (fun q => q = r) := by
  have hC := hB.1.1
  have hq1 : 1 ≤ d := by omega
  unfold f_X11_undo
  refine x_aload_n hC dX11_undo_0 rfl 0 rfl ?_
  refine r_getI hB dX11_undo_1 kf_X11_94 rfl th_257 ?_
  refine x_if_ne (tgt := 9) hC dX11_undo_4 (by decide) ?_ ?_
  · refine x_iconst (v := (0 : Int32)) hC dX11_undo_7 ki_0 ?_
    exact r_retZ hR dX11_undo_8 (Or.inl rfl) (fun h => h)
  · refine x_aload_n hC dX11_undo_9 rfl 0 rfl ?_
    refine x_dup hC dX11_undo_10 rfl ?_
    refine r_getI hB dX11_undo_11 kf_X11_94 rfl th_257 ?_
    refine x_iconst (v := (1 : Int32)) hC dX11_undo_14 ki_1 ?_
    refine x_isub hC dX11_undo_15 ?_
    refine r_putI hB dX11_undo_16 kf_X11_94 rfl th_257 ?_
    refine x_mem (fun M16 => ?_)
    refine x_iconst (v := (0 : Int32)) hC dX11_undo_19 ki_0 ?_
    refine x_istore_n hC dX11_undo_20 rfl [(1, .int (0 : Int32)), (0, zr w 257)] (by decide) rfl ?_
    refine x_sub [1, 0] rfl ?_
    refine x_loopB (pc2 := 55) (fun (s : (Int32 × zM)) => [(0, zr w 257), (1, .int s.1)]) (fun (s : (Int32 × zM)) => s.2) (fun (s : (zM)) => []) (fun (s : (zM)) => s) ((0 : Int32), M16) ?_ ?_
    · exact fun s => b_X11_undo_21_ok hB hd s.2 hR
    · intro r9
      exact j_X11_undo_55_ok hB hd r9 hR
theorem f_X11_undo_met {l : Launch} {d : Nat} {g : zG} {w : zW} {M0 : zM} {M : zM} (hw : wS w) (hd : 1 ≤ d) {v : Int32} {M' : zM} (h : f_X11_undo M = some (v, M')) : zMet l yX11_undo cX11_undo 2 (some .boolean) d g w (zin false) M0 [zr w 257] M (some (.int v)) M' :=
  met_z (by decide +kernel) (Nat.le_of_ble_eq_true rfl) (fun C hB0 hR => f_X11_undo_ok (r := (v, M')) ⟨hB0, hw⟩ hd M hR _ h rfl)
/-! WindingSquareModel.plus(II)I -/
def f_X11_plus (p0 : Int32) (p1 : Int32) : Int32 :=
  if p0 < ((1000000007 : Int32) - p1) then ((p0 + p1))
  else ((p0 - ((1000000007 : Int32) - p1)))
set_option maxRecDepth 100000 in
theorem f_X11_plus_ok {C : zC} {d : Nat} {g : zG} {l : Launch} {w : zW} {r : Int32} {p0 : Int32} {p1 : Int32} (hB : bOK C cX11_plus 2 RX11 d g l w false) (hd : 1 ≤ d) (M : zM) (hR : RtI C cX11_plus w r M) : Sg C w (0, 0) 0 [(0, .int p0), (1, .int p1)] [] M (some (f_X11_plus p0 p1)) (fun q => q = r) := by
  have hC := hB.1.1
  have hq1 : 1 ≤ d := by omega
  unfold f_X11_plus
  refine x_iload_n hC dX11_plus_0 rfl 0 rfl ?_
  refine x_ldc_w hC dX11_plus_1 wd_1850 ?_
  refine x_iload_n hC dX11_plus_4 rfl 1 rfl ?_
  refine x_isub hC dX11_plus_5 ?_
  refine x_si ?_
  refine x_icmp_lt (tgt := 19) hC dX11_plus_6 (by decide) ?_ ?_
  · refine x_iload_n hC dX11_plus_19 rfl 0 rfl ?_
    refine x_iload_n hC dX11_plus_20 rfl 1 rfl ?_
    refine x_iadd hC dX11_plus_21 ?_
    exact r_retI hR dX11_plus_22 (fun h => congrArg (fun q => (q, M)) h)
  · refine x_iload_n hC dX11_plus_9 rfl 0 rfl ?_
    refine x_ldc_w hC dX11_plus_10 wd_1850 ?_
    refine x_iload_n hC dX11_plus_13 rfl 1 rfl ?_
    refine x_isub hC dX11_plus_14 ?_
    refine x_isub hC dX11_plus_15 ?_
    refine x_goto (tgt := 22) hC dX11_plus_16 (by decide) ?_
    exact r_retI hR dX11_plus_22 (fun h => congrArg (fun q => (q, M)) h)
theorem f_X11_plus_met {l : Launch} {d : Nat} {g : zG} {w : zW} {M0 : zM} {p0 : Int32} {p1 : Int32} {M : zM} (hw : wS w) (hd : 1 ≤ d) : zMet l yX11_plus cX11_plus 2 (some .int) d g w (zin false) M0 [.int p0, .int p1] M (some (.int (f_X11_plus p0 p1))) M :=
  met_i (by decide +kernel) (Nat.le_of_ble_eq_true rfl) rfl (fun C hB0 hR => f_X11_plus_ok ⟨hB0, hw⟩ hd M hR _ rfl rfl)
/-! WindingSquareModel.abs(I)I -/
def f_X11_abs (p0 : Int32) : Int32 :=
  if 0 ≤ p0 then (p0)
  else ((-p0))
set_option maxRecDepth 100000 in
theorem f_X11_abs_ok {C : zC} {d : Nat} {g : zG} {l : Launch} {w : zW} {r : Int32} {p0 : Int32} (hB : bOK C cX11_abs 1 RX11 d g l w false) (hd : 1 ≤ d) (M : zM) (hR : RtI C cX11_abs w r M) : Sg C w (0, 0) 0 [(0, .int p0)] [] M (some (f_X11_abs p0)) (fun q => q = r) := by
  have hC := hB.1.1
  have hq1 : 1 ≤ d := by omega
  unfold f_X11_abs
  refine x_iload_n hC dX11_abs_0 rfl 0 rfl ?_
  refine x_si ?_
  refine x_if_ge (tgt := 9) hC dX11_abs_1 (by decide) ?_ ?_
  · refine x_iload_n hC dX11_abs_9 rfl 0 rfl ?_
    exact r_retI hR dX11_abs_10 (fun h => congrArg (fun q => (q, M)) h)
  · refine x_iload_n hC dX11_abs_4 rfl 0 rfl ?_
    refine x_ineg hC dX11_abs_5 ?_
    refine x_goto (tgt := 10) hC dX11_abs_6 (by decide) ?_
    exact r_retI hR dX11_abs_10 (fun h => congrArg (fun q => (q, M)) h)
theorem f_X11_abs_met {l : Launch} {d : Nat} {g : zG} {w : zW} {M0 : zM} {p0 : Int32} {M : zM} (hw : wS w) (hd : 1 ≤ d) : zMet l yX11_abs cX11_abs 1 (some .int) d g w (zin false) M0 [.int p0] M (some (.int (f_X11_abs p0))) M :=
  met_i (by decide +kernel) (Nat.le_of_ble_eq_true rfl) rfl (fun C hB0 hR => f_X11_abs_ok ⟨hB0, hw⟩ hd M hR _ rfl rfl)
/-! WindingSquareModel.downBy(II)I -/
noncomputable def f_X11_downBy (p0 : Int32) (p1 : Int32) : Option (Int32) :=
  if 0 ≤ p0 then (grd (¬ p1 = 0) (
  some (p0 / p1)))
  else (grd (¬ p1 = 0) (
  some (-((((-p0) + p1) - (1 : Int32)) / p1))))
set_option maxRecDepth 100000 in
theorem f_X11_downBy_ok {C : zC} {d : Nat} {g : zG} {l : Launch} {w : zW} {r : Int32} {p0 : Int32} {p1 : Int32} (hB : bOK C cX11_downBy 2 RX11 d g l w false) (hd : 1 ≤ d) (M : zM) (hR : RtI C cX11_downBy w r M) : Sg C w (0, 0) 0 [(0, .int p0), (1, .int p1)] [] M (f_X11_downBy p0 p1) (fun q => q = r) := by
  have hC := hB.1.1
  have hq1 : 1 ≤ d := by omega
  unfold f_X11_downBy
  refine x_iload_n hC dX11_downBy_0 rfl 0 rfl ?_
  refine x_if_ge (tgt := 16) hC dX11_downBy_1 (by decide) ?_ ?_
  · refine x_iload_n hC dX11_downBy_16 rfl 0 rfl ?_
    refine x_iload_n hC dX11_downBy_17 rfl 1 rfl ?_
    refine x_grd (fun hne => ?_)
    refine x_idiv0 hC dX11_downBy_18 hne ?_
    exact r_retI hR dX11_downBy_19 (fun h => congrArg (fun q => (q, M)) h)
  · refine x_iload_n hC dX11_downBy_4 rfl 0 rfl ?_
    refine x_ineg hC dX11_downBy_5 ?_
    refine x_iload_n hC dX11_downBy_6 rfl 1 rfl ?_
    refine x_iadd hC dX11_downBy_7 ?_
    refine x_iconst (v := (1 : Int32)) hC dX11_downBy_8 ki_1 ?_
    refine x_isub hC dX11_downBy_9 ?_
    refine x_iload_n hC dX11_downBy_10 rfl 1 rfl ?_
    refine x_grd (fun hne => ?_)
    refine x_idiv0 hC dX11_downBy_11 hne ?_
    refine x_ineg hC dX11_downBy_12 ?_
    refine x_goto (tgt := 19) hC dX11_downBy_13 (by decide) ?_
    exact r_retI hR dX11_downBy_19 (fun h => congrArg (fun q => (q, M)) h)
theorem f_X11_downBy_met {l : Launch} {d : Nat} {g : zG} {w : zW} {M0 : zM} {p0 : Int32} {p1 : Int32} {M : zM} (hw : wS w) (hd : 1 ≤ d) {v : Int32} (h : f_X11_downBy p0 p1 = some v) : zMet l yX11_downBy cX11_downBy 2 (some .int) d g w (zin false) M0 [.int p0, .int p1] M (some (.int v)) M :=
  met_i (by decide +kernel) (Nat.le_of_ble_eq_true rfl) rfl (fun C hB0 hR => f_X11_downBy_ok ⟨hB0, hw⟩ hd M hR _ h rfl)
/-! WindingSquareModel.otherwise(II)I -/
noncomputable def f_X11_otherwise (p1 : Int32) (p2 : Int32) (M : zM) : Option (Int32) :=
  nm (M 258 (ix (2357 : Int32))) fun v3_8 =>
  grd (¬ v3_8 = 0) (
  grd (inb ((2358 : Int32) + (irem ((p1 / (2 : Int32)) + p2) v3_8)) 2425) (
  nm (M 258 (ix ((2358 : Int32) + (irem ((p1 / (2 : Int32)) + p2) v3_8)))) fun v4_25 =>
  if (irem p1 (2 : Int32)) = (1 : Int32) then (if (2 : Int32) ≤ v4_25 then (some v4_25)
  else (some ((1 : Int32) - v4_25)))
  else (some v4_25)))
set_option maxRecDepth 100000 in
theorem f_X11_otherwise_ok {C : zC} {d : Nat} {g : zG} {l : Launch} {w : zW} {r : Int32} {p1 : Int32} {p2 : Int32} (hB : bOK C cX11_otherwise 5 RX11 d g l w false) (hd : 1 ≤ d) (M : zM) (hR : RtI C cX11_otherwise w r M) : Sg C w (0, 0) 0 [(0, zr w 257), (1, .int p1), (2, .int p2)] [] M (f_X11_otherwise p1 p2 M) (fun q => q = r) := by
  have hC := hB.1.1
  have hq1 : 1 ≤ d := by omega
  unfold f_X11_otherwise
  refine x_aload_n hC dX11_otherwise_0 rfl 0 rfl ?_
  refine r_getR hB dX11_otherwise_1 kf_X11_9 rfl th_257 rf_257_0 ?_
  refine x_sipush (v := (2357 : Int32)) hC dX11_otherwise_4 kh_2357 ?_
  refine r_iald0 hB dX11_otherwise_7 th_258 ib_2357_2425 ?_
  refine x_top (fun v3_8 => ?_)
  refine x_istore_n hC dX11_otherwise_8 rfl [(3, .int v3_8), (0, zr w 257), (1, .int p1), (2, .int p2)] (by decide) rfl ?_
  refine x_aload_n hC dX11_otherwise_9 rfl 1 rfl ?_
  refine r_getR hB dX11_otherwise_10 kf_X11_9 rfl th_257 rf_257_0 ?_
  refine x_sipush (v := (2358 : Int32)) hC dX11_otherwise_13 kh_2358 ?_
  refine x_iload_n hC dX11_otherwise_16 rfl 2 rfl ?_
  refine x_iconst (v := (2 : Int32)) hC dX11_otherwise_17 ki_2 ?_
  refine x_idiv0 hC dX11_otherwise_18 nz_2 ?_
  refine x_iload_n hC dX11_otherwise_19 rfl 3 rfl ?_
  refine x_iadd hC dX11_otherwise_20 ?_
  refine x_iload_n hC dX11_otherwise_21 rfl 0 rfl ?_
  refine x_grd (fun hne => ?_)
  refine x_irem0 hC dX11_otherwise_22 hne ?_
  refine x_iadd hC dX11_otherwise_23 ?_
  refine r_iald hB dX11_otherwise_24 th_258 ?_
  refine x_top (fun v4_25 => ?_)
  refine x_istore (f := 0) hC dX11_otherwise_25 [(4, .int v4_25), (3, .int v3_8), (0, zr w 257), (1, .int p1), (2, .int p2)] (by decide) rfl ?_
  refine x_iload_n hC dX11_otherwise_27 rfl 3 rfl ?_
  refine x_iconst (v := (2 : Int32)) hC dX11_otherwise_28 ki_2 ?_
  refine x_irem0 hC dX11_otherwise_29 nz_2 ?_
  refine x_iconst (v := (1 : Int32)) hC dX11_otherwise_30 ki_1 ?_
  refine x_icmp_ne (tgt := 47) hC dX11_otherwise_31 (by decide) ?_ ?_
  · refine x_iload hC dX11_otherwise_34 0 rfl ?_
    refine x_iconst (v := (2 : Int32)) hC dX11_otherwise_36 ki_2 ?_
    refine x_icmp_ge (tgt := 47) hC dX11_otherwise_37 (by decide) ?_ ?_
    · refine x_iload hC dX11_otherwise_47 0 rfl ?_
      exact r_retI hR dX11_otherwise_49 (fun h => congrArg (fun q => (q, M)) h)
    · refine x_iconst (v := (1 : Int32)) hC dX11_otherwise_40 ki_1 ?_
      refine x_iload hC dX11_otherwise_41 0 rfl ?_
      refine x_isub hC dX11_otherwise_43 ?_
      refine x_goto (tgt := 49) hC dX11_otherwise_44 (by decide) ?_
      exact r_retI hR dX11_otherwise_49 (fun h => congrArg (fun q => (q, M)) h)
  · refine x_iload hC dX11_otherwise_47 0 rfl ?_
    exact r_retI hR dX11_otherwise_49 (fun h => congrArg (fun q => (q, M)) h)
theorem f_X11_otherwise_met {l : Launch} {d : Nat} {g : zG} {w : zW} {M0 : zM} {p1 : Int32} {p2 : Int32} {M : zM} (hw : wS w) (hd : 1 ≤ d) {v : Int32} (h : f_X11_otherwise p1 p2 M = some v) : zMet l yX11_otherwise cX11_otherwise 5 (some .int) d g w (zin false) M0 [zr w 257, .int p1, .int p2] M (some (.int v)) M :=
  met_i (by decide +kernel) (Nat.le_of_ble_eq_true rfl) rfl (fun C hB0 hR => f_X11_otherwise_ok ⟨hB0, hw⟩ hd M hR _ h rfl)
/-! WindingSquareModel.again()I -/
noncomputable def j_X11_again_61_4_17 (v1_17_4 : Int32) (v2_17_4 : Int32) (v4_61_4_17 : Int32) (s0_61_4_17 : Int32) (s1_61_4_17 : Int32) (M : zM) : Option ((Int32 × Int32) ⊕ (Int32)) :=
  nm (s0_61_4_17 + s1_61_4_17) fun v3_62_4_17 =>
  some (.inl (v3_62_4_17, (v4_61_4_17 + (1 : Int32))))
set_option maxRecDepth 100000 in
theorem j_X11_again_61_4_17_ok {C : zC} {d : Nat} {g : zG} {l : Launch} {w : zW} {r : Int32} {v1_17_4 : Int32} {v2_17_4 : Int32} {v4_61_4_17 : Int32} {s0_61_4_17 : Int32} {s1_61_4_17 : Int32} (hB : bOK C cX11_again 5 RX11 d g l w false) (hd : 1 ≤ d) (M : zM) (hR : RtI C cX11_again w r M) : Sg C w (0, 0) 61 [(0, zr w 257), (1, .int v1_17_4), (2, .int v2_17_4), (4, .int v4_61_4_17)] [.int s1_61_4_17, .int s0_61_4_17] M (j_X11_again_61_4_17 v1_17_4 v2_17_4 v4_61_4_17 s0_61_4_17 s1_61_4_17 M) (fun o => Sum.elim (fun (s : (Int32 × Int32)) => Zs C w (0, 0) 17 [(0, zr w 257), (1, .int v1_17_4), (2, .int v2_17_4), (3, .int s.1), (4, .int s.2)] [] M) (fun (s : (Int32)) => Zs C w (0, 0) 69 [(0, zr w 257), (1, .int v1_17_4), (2, .int v2_17_4), (3, .int s)] [] M) o) := by
  have hC := hB.1.1
  have hq1 : 1 ≤ d := by omega
  unfold j_X11_again_61_4_17
  refine x_iadd hC dX11_again_61 ?_
  refine x_top (fun v3_62_4_17 => ?_)
  refine x_istore_n hC dX11_again_62 rfl [(3, .int v3_62_4_17), (0, zr w 257), (1, .int v1_17_4), (2, .int v2_17_4), (4, .int v4_61_4_17)] (by decide) rfl ?_
  refine x_iinc hC dX11_again_63 ki_1 [(4, .int (v4_61_4_17 + (1 : Int32))), (3, .int v3_62_4_17), (0, zr w 257), (1, .int v1_17_4), (2, .int v2_17_4)] 4 rfl (by decide) rfl ?_
  refine x_goto (tgt := 17) hC dX11_again_66 (by decide) ?_
  refine x_sub [2, 3, 4, 1, 0] rfl ?_
  exact x_done (fun h => h)
noncomputable def j_X11_again_60_4_17 (v1_17_4 : Int32) (v2_17_4 : Int32) (v4_60_4_17 : Int32) (s0_60_4_17 : Int32) (M : zM) : Option ((Int32 × Int32) ⊕ (Int32)) :=
  j_X11_again_61_4_17 v1_17_4 v2_17_4 v4_60_4_17 s0_60_4_17 (0 : Int32) M
set_option maxRecDepth 100000 in
theorem j_X11_again_60_4_17_ok {C : zC} {d : Nat} {g : zG} {l : Launch} {w : zW} {r : Int32} {v1_17_4 : Int32} {v2_17_4 : Int32} {v4_60_4_17 : Int32} {s0_60_4_17 : Int32} (hB : bOK C cX11_again 5 RX11 d g l w false) (hd : 1 ≤ d) (M : zM) (hR : RtI C cX11_again w r M) : Sg C w (0, 0) 60 [(0, zr w 257), (1, .int v1_17_4), (2, .int v2_17_4), (4, .int v4_60_4_17)] [.int s0_60_4_17] M (j_X11_again_60_4_17 v1_17_4 v2_17_4 v4_60_4_17 s0_60_4_17 M) (fun o => Sum.elim (fun (s : (Int32 × Int32)) => Zs C w (0, 0) 17 [(0, zr w 257), (1, .int v1_17_4), (2, .int v2_17_4), (3, .int s.1), (4, .int s.2)] [] M) (fun (s : (Int32)) => Zs C w (0, 0) 69 [(0, zr w 257), (1, .int v1_17_4), (2, .int v2_17_4), (3, .int s)] [] M) o) := by
  have hC := hB.1.1
  have hq1 : 1 ≤ d := by omega
  unfold j_X11_again_60_4_17
  refine x_iconst (v := (0 : Int32)) hC dX11_again_60 ki_0 ?_
  exact j_X11_again_61_4_17_ok hB hd M hR
noncomputable def b_X11_again_17_4 (v1_17_4 : Int32) (v2_17_4 : Int32) (v3_17_4 : Int32) (v4_17_4 : Int32) (M : zM) : Option ((Int32 × Int32) ⊕ (Int32)) :=
  if v2_17_4 ≤ v4_17_4 then (some (.inr v3_17_4))
  else (grd (inb v4_17_4 25) (
  grd (inb v2_17_4 25) (
  if (M 271 (ix v4_17_4)) = (M 271 (ix v2_17_4)) then (grd (inb v4_17_4 25) (
  grd (inb v2_17_4 25) (
  if (M 272 (ix v4_17_4)) = (M 272 (ix v2_17_4)) then (j_X11_again_61_4_17 v1_17_4 v2_17_4 v4_17_4 v3_17_4 (1 : Int32) M)
  else (j_X11_again_60_4_17 v1_17_4 v2_17_4 v4_17_4 v3_17_4 M))))
  else (j_X11_again_60_4_17 v1_17_4 v2_17_4 v4_17_4 v3_17_4 M))))
set_option maxRecDepth 100000 in
theorem b_X11_again_17_4_ok {C : zC} {d : Nat} {g : zG} {l : Launch} {w : zW} {r : Int32} {v1_17_4 : Int32} {v2_17_4 : Int32} {v3_17_4 : Int32} {v4_17_4 : Int32} (hB : bOK C cX11_again 5 RX11 d g l w false) (hd : 1 ≤ d) (M : zM) (hR : RtI C cX11_again w r M) : Sg C w (0, 0) 17 [(0, zr w 257), (1, .int v1_17_4), (2, .int v2_17_4), (3, .int v3_17_4), (4, .int v4_17_4)] [] M (b_X11_again_17_4 v1_17_4 v2_17_4 v3_17_4 v4_17_4 M) (fun o => Sum.elim (fun (s : (Int32 × Int32)) => Zs C w (0, 0) 17 [(0, zr w 257), (1, .int v1_17_4), (2, .int v2_17_4), (3, .int s.1), (4, .int s.2)] [] M) (fun (s : (Int32)) => Zs C w (0, 0) 69 [(0, zr w 257), (1, .int v1_17_4), (2, .int v2_17_4), (3, .int s)] [] M) o) := by
  have hC := hB.1.1
  have hq1 : 1 ≤ d := by omega
  unfold b_X11_again_17_4
  refine x_iload hC dX11_again_17 4 rfl ?_
  refine x_iload_n hC dX11_again_19 rfl 2 rfl ?_
  refine x_icmp_ge (tgt := 69) hC dX11_again_20 (by decide) ?_ ?_
  · refine x_sub [0, 1, 2, 3] rfl ?_
    exact x_done (fun h => h)
  · refine x_iload_n hC dX11_again_23 rfl 3 rfl ?_
    refine x_aload_n hC dX11_again_24 rfl 0 rfl ?_
    refine r_getR hB dX11_again_25 kf_X11_53 rfl th_257 rf_257_26 ?_
    refine x_iload hC dX11_again_28 4 rfl ?_
    refine r_iald hB dX11_again_30 th_271 ?_
    refine x_aload_n hC dX11_again_31 rfl 0 rfl ?_
    refine r_getR hB dX11_again_32 kf_X11_53 rfl th_257 rf_257_26 ?_
    refine x_iload_n hC dX11_again_35 rfl 2 rfl ?_
    refine r_iald hB dX11_again_36 th_271 ?_
    refine x_icmp_ne (tgt := 60) hC dX11_again_37 (by decide) ?_ ?_
    · refine x_aload_n hC dX11_again_40 rfl 0 rfl ?_
      refine r_getR hB dX11_again_41 kf_X11_56 rfl th_257 rf_257_27 ?_
      refine x_iload hC dX11_again_44 4 rfl ?_
      refine r_iald hB dX11_again_46 th_272 ?_
      refine x_aload_n hC dX11_again_47 rfl 0 rfl ?_
      refine r_getR hB dX11_again_48 kf_X11_56 rfl th_257 rf_257_27 ?_
      refine x_iload_n hC dX11_again_51 rfl 2 rfl ?_
      refine r_iald hB dX11_again_52 th_272 ?_
      refine x_icmp_ne (tgt := 60) hC dX11_again_53 (by decide) ?_ ?_
      · refine x_iconst (v := (1 : Int32)) hC dX11_again_56 ki_1 ?_
        refine x_goto (tgt := 61) hC dX11_again_57 (by decide) ?_
        refine x_sub [0, 1, 2, 4] rfl ?_
        exact j_X11_again_61_4_17_ok hB hd M hR
      · refine x_sub [0, 1, 2, 4] rfl ?_
        exact j_X11_again_60_4_17_ok hB hd M hR
    · refine x_sub [0, 1, 2, 4] rfl ?_
      exact j_X11_again_60_4_17_ok hB hd M hR
noncomputable def j_X11_again_80_4 (v2_80_4 : Int32) (s0_80_4 : Int32) (s1_80_4 : Int32) (M : zM) : Option ((Int32 × Int32) ⊕ (Int32)) :=
  nm (s0_80_4 + s1_80_4) fun v1_81_4 =>
  some (.inl (v1_81_4, (v2_80_4 + (1 : Int32))))
set_option maxRecDepth 100000 in
theorem j_X11_again_80_4_ok {C : zC} {d : Nat} {g : zG} {l : Launch} {w : zW} {r : Int32} {v2_80_4 : Int32} {s0_80_4 : Int32} {s1_80_4 : Int32} (hB : bOK C cX11_again 5 RX11 d g l w false) (hd : 1 ≤ d) (M : zM) (hR : RtI C cX11_again w r M) : Sg C w (0, 0) 80 [(0, zr w 257), (2, .int v2_80_4)] [.int s1_80_4, .int s0_80_4] M (j_X11_again_80_4 v2_80_4 s0_80_4 s1_80_4 M) (fun o => Sum.elim (fun (s : (Int32 × Int32)) => Zs C w (0, 0) 4 [(0, zr w 257), (1, .int s.1), (2, .int s.2)] [] M) (fun (s : (Int32)) => Zs C w (0, 0) 88 [(1, .int s)] [] M) o) := by
  have hC := hB.1.1
  have hq1 : 1 ≤ d := by omega
  unfold j_X11_again_80_4
  refine x_iadd hC dX11_again_80 ?_
  refine x_top (fun v1_81_4 => ?_)
  refine x_istore_n hC dX11_again_81 rfl [(1, .int v1_81_4), (0, zr w 257), (2, .int v2_80_4)] (by decide) rfl ?_
  refine x_iinc hC dX11_again_82 ki_1 [(2, .int (v2_80_4 + (1 : Int32))), (1, .int v1_81_4), (0, zr w 257)] 2 rfl (by decide) rfl ?_
  refine x_goto (tgt := 4) hC dX11_again_85 (by decide) ?_
  refine x_sub [2, 1, 0] rfl ?_
  exact x_done (fun h => h)
noncomputable def j_X11_again_69_4 (v1_69_4 : Int32) (v2_69_4 : Int32) (v3_69_4 : Int32) (M : zM) : Option ((Int32 × Int32) ⊕ (Int32)) :=
  if v3_69_4 = (1 : Int32) then (j_X11_again_80_4 v2_69_4 v1_69_4 (1 : Int32) M)
  else (j_X11_again_80_4 v2_69_4 v1_69_4 (0 : Int32) M)
set_option maxRecDepth 100000 in
theorem j_X11_again_69_4_ok {C : zC} {d : Nat} {g : zG} {l : Launch} {w : zW} {r : Int32} {v1_69_4 : Int32} {v2_69_4 : Int32} {v3_69_4 : Int32} (hB : bOK C cX11_again 5 RX11 d g l w false) (hd : 1 ≤ d) (M : zM) (hR : RtI C cX11_again w r M) : Sg C w (0, 0) 69 [(0, zr w 257), (1, .int v1_69_4), (2, .int v2_69_4), (3, .int v3_69_4)] [] M (j_X11_again_69_4 v1_69_4 v2_69_4 v3_69_4 M) (fun o => Sum.elim (fun (s : (Int32 × Int32)) => Zs C w (0, 0) 4 [(0, zr w 257), (1, .int s.1), (2, .int s.2)] [] M) (fun (s : (Int32)) => Zs C w (0, 0) 88 [(1, .int s)] [] M) o) := by
  have hC := hB.1.1
  have hq1 : 1 ≤ d := by omega
  unfold j_X11_again_69_4
  refine x_iload_n hC dX11_again_69 rfl 1 rfl ?_
  refine x_iload_n hC dX11_again_70 rfl 3 rfl ?_
  refine x_iconst (v := (1 : Int32)) hC dX11_again_71 ki_1 ?_
  refine x_icmp_ne (tgt := 79) hC dX11_again_72 (by decide) ?_ ?_
  · refine x_iconst (v := (1 : Int32)) hC dX11_again_75 ki_1 ?_
    refine x_goto (tgt := 80) hC dX11_again_76 (by decide) ?_
    refine x_sub [0, 2] rfl ?_
    exact j_X11_again_80_4_ok hB hd M hR
  · refine x_iconst (v := (0 : Int32)) hC dX11_again_79 ki_0 ?_
    refine x_sub [0, 2] rfl ?_
    exact j_X11_again_80_4_ok hB hd M hR
noncomputable def b_X11_again_4 (v1_4 : Int32) (v2_4 : Int32) (M : zM) : Option ((Int32 × Int32) ⊕ (Int32)) :=
  if (M 257 28) ≤ v2_4 then (some (.inr v1_4))
  else ((loopW (fun s => b_X11_again_17_4 v1_4 v2_4 s.1 s.2 M) ((0 : Int32), (0 : Int32))).bind (fun r => j_X11_again_69_4 v1_4 v2_4 r M))
set_option maxRecDepth 100000 in
theorem b_X11_again_4_ok {C : zC} {d : Nat} {g : zG} {l : Launch} {w : zW} {r : Int32} {v1_4 : Int32} {v2_4 : Int32} (hB : bOK C cX11_again 5 RX11 d g l w false) (hd : 1 ≤ d) (M : zM) (hR : RtI C cX11_again w r M) : Sg C w (0, 0) 4 [(0, zr w 257), (1, .int v1_4), (2, .int v2_4)] [] M (b_X11_again_4 v1_4 v2_4 M) (fun o => Sum.elim (fun (s : (Int32 × Int32)) => Zs C w (0, 0) 4 [(0, zr w 257), (1, .int s.1), (2, .int s.2)] [] M) (fun (s : (Int32)) => Zs C w (0, 0) 88 [(1, .int s)] [] M) o) := by
  have hC := hB.1.1
  have hq1 : 1 ≤ d := by omega
  unfold b_X11_again_4
  refine x_iload_n hC dX11_again_4 rfl 2 rfl ?_
  refine x_aload_n hC dX11_again_5 rfl 0 rfl ?_
  refine r_getI hB dX11_again_6 kf_X11_374 rfl th_257 ?_
  refine x_icmp_ge (tgt := 88) hC dX11_again_9 (by decide) ?_ ?_
  · refine x_sub [1] rfl ?_
    exact x_done (fun h => h)
  · refine x_iconst (v := (0 : Int32)) hC dX11_again_12 ki_0 ?_
    refine x_istore_n hC dX11_again_13 rfl [(3, .int (0 : Int32)), (0, zr w 257), (1, .int v1_4), (2, .int v2_4)] (by decide) rfl ?_
    refine x_iconst (v := (0 : Int32)) hC dX11_again_14 ki_0 ?_
    refine x_istore (f := 0) hC dX11_again_15 [(4, .int (0 : Int32)), (3, .int (0 : Int32)), (0, zr w 257), (1, .int v1_4), (2, .int v2_4)] (by decide) rfl ?_
    refine x_sub [2, 3, 4, 1, 0] rfl ?_
    refine x_loopB (pc2 := 69) (fun (s : (Int32 × Int32)) => [(0, zr w 257), (1, .int v1_4), (2, .int v2_4), (3, .int s.1), (4, .int s.2)]) (fun (s : (Int32 × Int32)) => M) (fun (s : (Int32)) => [(0, zr w 257), (1, .int v1_4), (2, .int v2_4), (3, .int s)]) (fun (s : (Int32)) => M) ((0 : Int32), (0 : Int32)) ?_ ?_
    · exact fun s => b_X11_again_17_4_ok hB hd M hR
    · intro r9
      exact j_X11_again_69_4_ok hB hd M hR
noncomputable def j_X11_again_88 (v1_88 : Int32) (M : zM) : Option (Int32) :=
  some v1_88
set_option maxRecDepth 100000 in
theorem j_X11_again_88_ok {C : zC} {d : Nat} {g : zG} {l : Launch} {w : zW} {r : Int32} {v1_88 : Int32} (hB : bOK C cX11_again 5 RX11 d g l w false) (hd : 1 ≤ d) (M : zM) (hR : RtI C cX11_again w r M) : Sg C w (0, 0) 88 [(1, .int v1_88)] [] M (j_X11_again_88 v1_88 M) (fun q => q = r) := by
  have hC := hB.1.1
  have hq1 : 1 ≤ d := by omega
  unfold j_X11_again_88
  refine x_iload_n hC dX11_again_88 rfl 0 rfl ?_
  exact r_retI hR dX11_again_89 (fun h => congrArg (fun q => (q, M)) h)
noncomputable def f_X11_again (M : zM) : Option (Int32) :=
  (loopW (fun s => b_X11_again_4 s.1 s.2 M) ((0 : Int32), (0 : Int32))).bind (fun r => j_X11_again_88 r M)
set_option maxRecDepth 100000 in
theorem f_X11_again_ok {C : zC} {d : Nat} {g : zG} {l : Launch} {w : zW} {r : Int32} (hB : bOK C cX11_again 5 RX11 d g l w false) (hd : 1 ≤ d) (M : zM) (hR : RtI C cX11_again w r M) : Sg C w (0, 0) 0 [(0, zr w 257)] [] M (f_X11_again M) (fun q => q = r) := by
  have hC := hB.1.1
  have hq1 : 1 ≤ d := by omega
  unfold f_X11_again
  refine x_iconst (v := (0 : Int32)) hC dX11_again_0 ki_0 ?_
  refine x_istore_n hC dX11_again_1 rfl [(1, .int (0 : Int32)), (0, zr w 257)] (by decide) rfl ?_
  refine x_iconst (v := (0 : Int32)) hC dX11_again_2 ki_0 ?_
  refine x_istore_n hC dX11_again_3 rfl [(2, .int (0 : Int32)), (1, .int (0 : Int32)), (0, zr w 257)] (by decide) rfl ?_
  refine x_sub [2, 1, 0] rfl ?_
  refine x_loopB (pc2 := 88) (fun (s : (Int32 × Int32)) => [(0, zr w 257), (1, .int s.1), (2, .int s.2)]) (fun (s : (Int32 × Int32)) => M) (fun (s : (Int32)) => [(1, .int s)]) (fun (s : (Int32)) => M) ((0 : Int32), (0 : Int32)) ?_ ?_
  · exact fun s => b_X11_again_4_ok hB hd M hR
  · intro r9
    exact j_X11_again_88_ok hB hd M hR
theorem f_X11_again_met {l : Launch} {d : Nat} {g : zG} {w : zW} {M0 : zM} {M : zM} (hw : wS w) (hd : 1 ≤ d) {v : Int32} (h : f_X11_again M = some v) : zMet l yX11_again cX11_again 5 (some .int) d g w (zin false) M0 [zr w 257] M (some (.int v)) M :=
  met_i (by decide +kernel) (Nat.le_of_ble_eq_true rfl) rfl (fun C hB0 hR => f_X11_again_ok ⟨hB0, hw⟩ hd M hR _ h rfl)
/-! WindingSquareModel.fold(I)I -/
noncomputable def b_X11_fold_2 (v1_2 : Int32) : Option ((Int32) ⊕ (Int32)) :=
  if (irem v1_2 (2 : Int32)) = 0 then (nm (v1_2 / (2 : Int32)) fun v1_11_2 =>
  some (.inl v1_11_2))
  else (some (.inr v1_2))
set_option maxRecDepth 100000 in
theorem b_X11_fold_2_ok {C : zC} {d : Nat} {g : zG} {l : Launch} {w : zW} {r : Int32} {v1_2 : Int32} (hB : bOK C cX11_fold 2 RX11 d g l w false) (hd : 1 ≤ d) (M : zM) (hR : RtI C cX11_fold w r M) : Sg C w (0, 0) 2 [(1, .int v1_2)] [] M (b_X11_fold_2 v1_2) (fun o => Sum.elim (fun (s : (Int32)) => Zs C w (0, 0) 2 [(1, .int s)] [] M) (fun (s : (Int32)) => Zs C w (0, 0) 15 [(1, .int s)] [] M) o) := by
  have hC := hB.1.1
  have hq1 : 1 ≤ d := by omega
  unfold b_X11_fold_2
  refine x_iload_n hC dX11_fold_2 rfl 0 rfl ?_
  refine x_iconst (v := (2 : Int32)) hC dX11_fold_3 ki_2 ?_
  refine x_irem0 hC dX11_fold_4 nz_2 ?_
  refine x_if_ne (tgt := 15) hC dX11_fold_5 (by decide) ?_ ?_
  · refine x_iload_n hC dX11_fold_8 rfl 0 rfl ?_
    refine x_iconst (v := (2 : Int32)) hC dX11_fold_9 ki_2 ?_
    refine x_idiv0 hC dX11_fold_10 nz_2 ?_
    refine x_top (fun v1_11_2 => ?_)
    refine x_istore_n hC dX11_fold_11 rfl [(1, .int v1_11_2)] (by decide) rfl ?_
    refine x_goto (tgt := 2) hC dX11_fold_12 (by decide) ?_
    exact x_done (fun h => h)
  · exact x_done (fun h => h)
noncomputable def j_X11_fold_15 (v1_15 : Int32) : Option (Int32) :=
  if (irem v1_15 (4 : Int32)) = (1 : Int32) then (some (1 : Int32))
  else (some (0 : Int32))
set_option maxRecDepth 100000 in
theorem j_X11_fold_15_ok {C : zC} {d : Nat} {g : zG} {l : Launch} {w : zW} {r : Int32} {v1_15 : Int32} (hB : bOK C cX11_fold 2 RX11 d g l w false) (hd : 1 ≤ d) (M : zM) (hR : RtI C cX11_fold w r M) : Sg C w (0, 0) 15 [(1, .int v1_15)] [] M (j_X11_fold_15 v1_15) (fun q => q = r) := by
  have hC := hB.1.1
  have hq1 : 1 ≤ d := by omega
  unfold j_X11_fold_15
  refine x_iload_n hC dX11_fold_15 rfl 0 rfl ?_
  refine x_iconst (v := (4 : Int32)) hC dX11_fold_16 ki_4 ?_
  refine x_irem0 hC dX11_fold_17 nz_4 ?_
  refine x_iconst (v := (1 : Int32)) hC dX11_fold_18 ki_1 ?_
  refine x_icmp_ne (tgt := 26) hC dX11_fold_19 (by decide) ?_ ?_
  · refine x_iconst (v := (1 : Int32)) hC dX11_fold_22 ki_1 ?_
    refine x_goto (tgt := 27) hC dX11_fold_23 (by decide) ?_
    exact r_retI hR dX11_fold_27 (fun h => congrArg (fun q => (q, M)) h)
  · refine x_iconst (v := (0 : Int32)) hC dX11_fold_26 ki_0 ?_
    exact r_retI hR dX11_fold_27 (fun h => congrArg (fun q => (q, M)) h)
noncomputable def f_X11_fold (p0 : Int32) : Option (Int32) :=
  (loopW (fun s => b_X11_fold_2 s) p0).bind (fun r => j_X11_fold_15 r)
set_option maxRecDepth 100000 in
theorem f_X11_fold_ok {C : zC} {d : Nat} {g : zG} {l : Launch} {w : zW} {r : Int32} {p0 : Int32} (hB : bOK C cX11_fold 2 RX11 d g l w false) (hd : 1 ≤ d) (M : zM) (hR : RtI C cX11_fold w r M) : Sg C w (0, 0) 0 [(0, .int p0)] [] M (f_X11_fold p0) (fun q => q = r) := by
  have hC := hB.1.1
  have hq1 : 1 ≤ d := by omega
  unfold f_X11_fold
  refine x_iload_n hC dX11_fold_0 rfl 0 rfl ?_
  refine x_istore_n hC dX11_fold_1 rfl [(1, .int p0), (0, .int p0)] (by decide) rfl ?_
  refine x_sub [0] rfl ?_
  refine x_loopB (pc2 := 15) (fun (s : (Int32)) => [(1, .int s)]) (fun (s : (Int32)) => M) (fun (s : (Int32)) => [(1, .int s)]) (fun (s : (Int32)) => M) p0 ?_ ?_
  · exact fun s => b_X11_fold_2_ok hB hd M hR
  · intro r9
    exact j_X11_fold_15_ok hB hd M hR
theorem f_X11_fold_met {l : Launch} {d : Nat} {g : zG} {w : zW} {M0 : zM} {p0 : Int32} {M : zM} (hw : wS w) (hd : 1 ≤ d) {v : Int32} (h : f_X11_fold p0 = some v) : zMet l yX11_fold cX11_fold 2 (some .int) d g w (zin false) M0 [.int p0] M (some (.int v)) M :=
  met_i (by decide +kernel) (Nat.le_of_ble_eq_true rfl) rfl (fun C hB0 hR => f_X11_fold_ok ⟨hB0, hw⟩ hd M hR _ h rfl)
/-! WindingSquareModel.pacesFrom(IIIII)V -/
noncomputable def j_X11_pacesFrom_101_3 (v1_3 : Int32) (v2_3 : Int32) (v3_3 : Int32) (v4_3 : Int32) (v5_3 : Int32) (v6_101_3 : Int32) (M : zM) : Option ((Int32 × zM) ⊕ (zM)) :=
  some (.inl ((v6_101_3 + (1 : Int32)), M))
set_option maxRecDepth 100000 in
theorem j_X11_pacesFrom_101_3_ok {C : zC} {d : Nat} {g : zG} {l : Launch} {w : zW} {r : zM} {v1_3 : Int32} {v2_3 : Int32} {v3_3 : Int32} {v4_3 : Int32} {v5_3 : Int32} {v6_101_3 : Int32} (hB : bOK C cX11_pacesFrom 10 RX11 d g l w false) (hd : 1 ≤ d) (M : zM) (hR : RtV C cX11_pacesFrom w r) : Sg C w (0, 0) 101 [(0, zr w 257), (1, .int v1_3), (2, .int v2_3), (3, .int v3_3), (4, .int v4_3), (5, .int v5_3), (6, .int v6_101_3)] [] M (j_X11_pacesFrom_101_3 v1_3 v2_3 v3_3 v4_3 v5_3 v6_101_3 M) (fun o => Sum.elim (fun (s : (Int32 × zM)) => Zs C w (0, 0) 3 [(0, zr w 257), (1, .int v1_3), (2, .int v2_3), (3, .int v3_3), (4, .int v4_3), (5, .int v5_3), (6, .int s.1)] [] s.2) (fun (s : (zM)) => Zs C w (0, 0) 107 [] [] s) o) := by
  have hC := hB.1.1
  have hq1 : 1 ≤ d := by omega
  unfold j_X11_pacesFrom_101_3
  refine x_iinc hC dX11_pacesFrom_101 ki_1 [(6, .int (v6_101_3 + (1 : Int32))), (0, zr w 257), (1, .int v1_3), (2, .int v2_3), (3, .int v3_3), (4, .int v4_3), (5, .int v5_3)] 6 rfl (by decide) rfl ?_
  refine x_goto (tgt := 3) hC dX11_pacesFrom_104 (by decide) ?_
  refine x_sub [1, 2, 3, 4, 5, 6, 0] rfl ?_
  exact x_done (fun h => h)
noncomputable def j_X11_pacesFrom_76_3 (v1_3 : Int32) (v2_3 : Int32) (v3_3 : Int32) (v4_3 : Int32) (v5_3 : Int32) (v6_76_3 : Int32) (s0_76_3 : Int32) (s1_76_3 : Int32) (M : zM) : Option ((Int32 × zM) ⊕ (zM)) :=
  nm (s0_76_3 + s1_76_3) fun v9_77_3 =>
  grd (inb v9_77_3 14641) (
  if (M 275 (ix v9_77_3)) = (9999 : Int32) then (grd (inb v9_77_3 14641) (
  nm (mset M 275 (ix v9_77_3) v5_3) fun M100_3 =>
  j_X11_pacesFrom_101_3 v1_3 v2_3 v3_3 v4_3 v5_3 v6_76_3 M100_3))
  else (j_X11_pacesFrom_101_3 v1_3 v2_3 v3_3 v4_3 v5_3 v6_76_3 M))
set_option maxRecDepth 100000 in
theorem j_X11_pacesFrom_76_3_ok {C : zC} {d : Nat} {g : zG} {l : Launch} {w : zW} {r : zM} {v1_3 : Int32} {v2_3 : Int32} {v3_3 : Int32} {v4_3 : Int32} {v5_3 : Int32} {v6_76_3 : Int32} {s0_76_3 : Int32} {s1_76_3 : Int32} (hB : bOK C cX11_pacesFrom 10 RX11 d g l w false) (hd : 1 ≤ d) (M : zM) (hR : RtV C cX11_pacesFrom w r) : Sg C w (0, 0) 76 [(0, zr w 257), (1, .int v1_3), (2, .int v2_3), (3, .int v3_3), (4, .int v4_3), (5, .int v5_3), (6, .int v6_76_3)] [.int s1_76_3, .int s0_76_3] M (j_X11_pacesFrom_76_3 v1_3 v2_3 v3_3 v4_3 v5_3 v6_76_3 s0_76_3 s1_76_3 M) (fun o => Sum.elim (fun (s : (Int32 × zM)) => Zs C w (0, 0) 3 [(0, zr w 257), (1, .int v1_3), (2, .int v2_3), (3, .int v3_3), (4, .int v4_3), (5, .int v5_3), (6, .int s.1)] [] s.2) (fun (s : (zM)) => Zs C w (0, 0) 107 [] [] s) o) := by
  have hC := hB.1.1
  have hq1 : 1 ≤ d := by omega
  unfold j_X11_pacesFrom_76_3
  refine x_iadd hC dX11_pacesFrom_76 ?_
  refine x_top (fun v9_77_3 => ?_)
  refine x_istore (f := 0) hC dX11_pacesFrom_77 [(9, .int v9_77_3), (0, zr w 257), (1, .int v1_3), (2, .int v2_3), (3, .int v3_3), (4, .int v4_3), (5, .int v5_3), (6, .int v6_76_3)] (by decide) rfl ?_
  refine x_aload_n hC dX11_pacesFrom_79 rfl 1 rfl ?_
  refine r_getR hB dX11_pacesFrom_80 kf_X11_65 rfl th_257 rf_257_33 ?_
  refine x_iload hC dX11_pacesFrom_83 0 rfl ?_
  refine r_iald hB dX11_pacesFrom_85 th_275 ?_
  refine x_sipush (v := (9999 : Int32)) hC dX11_pacesFrom_86 kh_9999 ?_
  refine x_icmp_ne (tgt := 101) hC dX11_pacesFrom_89 (by decide) ?_ ?_
  · refine x_aload_n hC dX11_pacesFrom_92 rfl 1 rfl ?_
    refine r_getR hB dX11_pacesFrom_93 kf_X11_65 rfl th_257 rf_257_33 ?_
    refine x_iload hC dX11_pacesFrom_96 0 rfl ?_
    refine x_iload hC dX11_pacesFrom_98 6 rfl ?_
    refine r_iast hB dX11_pacesFrom_100 th_275 ?_
    refine x_mem (fun M100_3 => ?_)
    refine x_sub [1, 2, 3, 4, 5, 6, 7] rfl ?_
    exact j_X11_pacesFrom_101_3_ok hB hd M100_3 hR
  · refine x_sub [1, 2, 3, 4, 5, 6, 7] rfl ?_
    exact j_X11_pacesFrom_101_3_ok hB hd M hR
noncomputable def j_X11_pacesFrom_57_3 (v1_3 : Int32) (v2_3 : Int32) (v3_3 : Int32) (v4_3 : Int32) (v5_3 : Int32) (v6_57_3 : Int32) (v7_57_3 : Int32) (s0_57_3 : Int32) (s1_57_3 : Int32) (s2_57_3 : Int32) (M : zM) : Option ((Int32 × zM) ⊕ (zM)) :=
  if (irem v6_57_3 (2 : Int32)) = 0 then (j_X11_pacesFrom_76_3 v1_3 v2_3 v3_3 v4_3 v5_3 v6_57_3 ((s0_57_3 * (s1_57_3 + s2_57_3)) + v1_3) v7_57_3 M)
  else (j_X11_pacesFrom_76_3 v1_3 v2_3 v3_3 v4_3 v5_3 v6_57_3 ((s0_57_3 * (s1_57_3 + s2_57_3)) + v1_3) (-v7_57_3) M)
set_option maxRecDepth 100000 in
theorem j_X11_pacesFrom_57_3_ok {C : zC} {d : Nat} {g : zG} {l : Launch} {w : zW} {r : zM} {v1_3 : Int32} {v2_3 : Int32} {v3_3 : Int32} {v4_3 : Int32} {v5_3 : Int32} {v6_57_3 : Int32} {v7_57_3 : Int32} {s0_57_3 : Int32} {s1_57_3 : Int32} {s2_57_3 : Int32} (hB : bOK C cX11_pacesFrom 10 RX11 d g l w false) (hd : 1 ≤ d) (M : zM) (hR : RtV C cX11_pacesFrom w r) : Sg C w (0, 0) 57 [(0, zr w 257), (1, .int v1_3), (2, .int v2_3), (3, .int v3_3), (4, .int v4_3), (5, .int v5_3), (6, .int v6_57_3), (7, .int v7_57_3)] [.int s2_57_3, .int s1_57_3, .int s0_57_3] M (j_X11_pacesFrom_57_3 v1_3 v2_3 v3_3 v4_3 v5_3 v6_57_3 v7_57_3 s0_57_3 s1_57_3 s2_57_3 M) (fun o => Sum.elim (fun (s : (Int32 × zM)) => Zs C w (0, 0) 3 [(0, zr w 257), (1, .int v1_3), (2, .int v2_3), (3, .int v3_3), (4, .int v4_3), (5, .int v5_3), (6, .int s.1)] [] s.2) (fun (s : (zM)) => Zs C w (0, 0) 107 [] [] s) o) := by
  have hC := hB.1.1
  have hq1 : 1 ≤ d := by omega
  unfold j_X11_pacesFrom_57_3
  refine x_iadd hC dX11_pacesFrom_57 ?_
  refine x_imul hC dX11_pacesFrom_58 ?_
  refine x_iload_n hC dX11_pacesFrom_59 rfl 1 rfl ?_
  refine x_iadd hC dX11_pacesFrom_60 ?_
  refine x_iload hC dX11_pacesFrom_61 6 rfl ?_
  refine x_iconst (v := (2 : Int32)) hC dX11_pacesFrom_63 ki_2 ?_
  refine x_irem0 hC dX11_pacesFrom_64 nz_2 ?_
  refine x_if_ne (tgt := 73) hC dX11_pacesFrom_65 (by decide) ?_ ?_
  · refine x_iload hC dX11_pacesFrom_68 7 rfl ?_
    refine x_goto (tgt := 76) hC dX11_pacesFrom_70 (by decide) ?_
    refine x_sub [0, 1, 2, 3, 4, 5, 6] rfl ?_
    exact j_X11_pacesFrom_76_3_ok hB hd M hR
  · refine x_iload hC dX11_pacesFrom_73 7 rfl ?_
    refine x_ineg hC dX11_pacesFrom_75 ?_
    refine x_sub [0, 1, 2, 3, 4, 5, 6] rfl ?_
    exact j_X11_pacesFrom_76_3_ok hB hd M hR
noncomputable def j_X11_pacesFrom_36_3 (v1_3 : Int32) (v2_3 : Int32) (v3_3 : Int32) (v4_3 : Int32) (v5_3 : Int32) (v6_36_3 : Int32) (v7_36_3 : Int32) (s0_36_3 : Int32) (M : zM) : Option ((Int32 × zM) ⊕ (zM)) :=
  if (2 : Int32) ≤ (irem v6_36_3 (4 : Int32)) then (j_X11_pacesFrom_57_3 v1_3 v2_3 v3_3 v4_3 v5_3 v6_36_3 v7_36_3 (121 : Int32) v2_3 (-s0_36_3) M)
  else (j_X11_pacesFrom_57_3 v1_3 v2_3 v3_3 v4_3 v5_3 v6_36_3 v7_36_3 (121 : Int32) v2_3 s0_36_3 M)
set_option maxRecDepth 100000 in
theorem j_X11_pacesFrom_36_3_ok {C : zC} {d : Nat} {g : zG} {l : Launch} {w : zW} {r : zM} {v1_3 : Int32} {v2_3 : Int32} {v3_3 : Int32} {v4_3 : Int32} {v5_3 : Int32} {v6_36_3 : Int32} {v7_36_3 : Int32} {s0_36_3 : Int32} (hB : bOK C cX11_pacesFrom 10 RX11 d g l w false) (hd : 1 ≤ d) (M : zM) (hR : RtV C cX11_pacesFrom w r) : Sg C w (0, 0) 36 [(0, zr w 257), (1, .int v1_3), (2, .int v2_3), (3, .int v3_3), (4, .int v4_3), (5, .int v5_3), (6, .int v6_36_3), (7, .int v7_36_3)] [.int s0_36_3] M (j_X11_pacesFrom_36_3 v1_3 v2_3 v3_3 v4_3 v5_3 v6_36_3 v7_36_3 s0_36_3 M) (fun o => Sum.elim (fun (s : (Int32 × zM)) => Zs C w (0, 0) 3 [(0, zr w 257), (1, .int v1_3), (2, .int v2_3), (3, .int v3_3), (4, .int v4_3), (5, .int v5_3), (6, .int s.1)] [] s.2) (fun (s : (zM)) => Zs C w (0, 0) 107 [] [] s) o) := by
  have hC := hB.1.1
  have hq1 : 1 ≤ d := by omega
  unfold j_X11_pacesFrom_36_3
  refine x_istore (f := 0) hC dX11_pacesFrom_36 [(8, .int s0_36_3), (0, zr w 257), (1, .int v1_3), (2, .int v2_3), (3, .int v3_3), (4, .int v4_3), (5, .int v5_3), (6, .int v6_36_3), (7, .int v7_36_3)] (by decide) rfl ?_
  refine x_bipush (v := (121 : Int32)) hC dX11_pacesFrom_38 kb_121 ?_
  refine x_iload_n hC dX11_pacesFrom_40 rfl 3 rfl ?_
  refine x_iload hC dX11_pacesFrom_41 7 rfl ?_
  refine x_iconst (v := (4 : Int32)) hC dX11_pacesFrom_43 ki_4 ?_
  refine x_irem0 hC dX11_pacesFrom_44 nz_4 ?_
  refine x_iconst (v := (2 : Int32)) hC dX11_pacesFrom_45 ki_2 ?_
  refine x_icmp_ge (tgt := 54) hC dX11_pacesFrom_46 (by decide) ?_ ?_
  · refine x_iload hC dX11_pacesFrom_54 0 rfl ?_
    refine x_ineg hC dX11_pacesFrom_56 ?_
    refine x_sub [1, 2, 3, 4, 5, 6, 7, 8] rfl ?_
    exact j_X11_pacesFrom_57_3_ok hB hd M hR
  · refine x_iload hC dX11_pacesFrom_49 0 rfl ?_
    refine x_goto (tgt := 57) hC dX11_pacesFrom_51 (by decide) ?_
    refine x_sub [1, 2, 3, 4, 5, 6, 7, 8] rfl ?_
    exact j_X11_pacesFrom_57_3_ok hB hd M hR
noncomputable def j_X11_pacesFrom_22_3 (v1_3 : Int32) (v2_3 : Int32) (v3_3 : Int32) (v4_3 : Int32) (v5_3 : Int32) (v6_22_3 : Int32) (s0_22_3 : Int32) (M : zM) : Option ((Int32 × zM) ⊕ (zM)) :=
  if (4 : Int32) ≤ v6_22_3 then (j_X11_pacesFrom_36_3 v1_3 v2_3 v3_3 v4_3 v5_3 v6_22_3 s0_22_3 v3_3 M)
  else (j_X11_pacesFrom_36_3 v1_3 v2_3 v3_3 v4_3 v5_3 v6_22_3 s0_22_3 v4_3 M)
set_option maxRecDepth 100000 in
theorem j_X11_pacesFrom_22_3_ok {C : zC} {d : Nat} {g : zG} {l : Launch} {w : zW} {r : zM} {v1_3 : Int32} {v2_3 : Int32} {v3_3 : Int32} {v4_3 : Int32} {v5_3 : Int32} {v6_22_3 : Int32} {s0_22_3 : Int32} (hB : bOK C cX11_pacesFrom 10 RX11 d g l w false) (hd : 1 ≤ d) (M : zM) (hR : RtV C cX11_pacesFrom w r) : Sg C w (0, 0) 22 [(0, zr w 257), (1, .int v1_3), (2, .int v2_3), (3, .int v3_3), (4, .int v4_3), (5, .int v5_3), (6, .int v6_22_3)] [.int s0_22_3] M (j_X11_pacesFrom_22_3 v1_3 v2_3 v3_3 v4_3 v5_3 v6_22_3 s0_22_3 M) (fun o => Sum.elim (fun (s : (Int32 × zM)) => Zs C w (0, 0) 3 [(0, zr w 257), (1, .int v1_3), (2, .int v2_3), (3, .int v3_3), (4, .int v4_3), (5, .int v5_3), (6, .int s.1)] [] s.2) (fun (s : (zM)) => Zs C w (0, 0) 107 [] [] s) o) := by
  have hC := hB.1.1
  have hq1 : 1 ≤ d := by omega
  unfold j_X11_pacesFrom_22_3
  refine x_istore (f := 0) hC dX11_pacesFrom_22 [(7, .int s0_22_3), (0, zr w 257), (1, .int v1_3), (2, .int v2_3), (3, .int v3_3), (4, .int v4_3), (5, .int v5_3), (6, .int v6_22_3)] (by decide) rfl ?_
  refine x_iload hC dX11_pacesFrom_24 7 rfl ?_
  refine x_iconst (v := (4 : Int32)) hC dX11_pacesFrom_26 ki_4 ?_
  refine x_icmp_ge (tgt := 35) hC dX11_pacesFrom_27 (by decide) ?_ ?_
  · refine x_iload_n hC dX11_pacesFrom_35 rfl 4 rfl ?_
    refine x_sub [1, 2, 3, 4, 5, 6, 7, 0] rfl ?_
    exact j_X11_pacesFrom_36_3_ok hB hd M hR
  · refine x_iload hC dX11_pacesFrom_30 5 rfl ?_
    refine x_goto (tgt := 36) hC dX11_pacesFrom_32 (by decide) ?_
    refine x_sub [1, 2, 3, 4, 5, 6, 7, 0] rfl ?_
    exact j_X11_pacesFrom_36_3_ok hB hd M hR
noncomputable def b_X11_pacesFrom_3 (v1_3 : Int32) (v2_3 : Int32) (v3_3 : Int32) (v4_3 : Int32) (v5_3 : Int32) (v6_3 : Int32) (M : zM) : Option ((Int32 × zM) ⊕ (zM)) :=
  if (8 : Int32) ≤ v6_3 then (some (.inr M))
  else (if (4 : Int32) ≤ v6_3 then (j_X11_pacesFrom_22_3 v1_3 v2_3 v3_3 v4_3 v5_3 v6_3 v4_3 M)
  else (j_X11_pacesFrom_22_3 v1_3 v2_3 v3_3 v4_3 v5_3 v6_3 v3_3 M))
set_option maxRecDepth 100000 in
theorem b_X11_pacesFrom_3_ok {C : zC} {d : Nat} {g : zG} {l : Launch} {w : zW} {r : zM} {v1_3 : Int32} {v2_3 : Int32} {v3_3 : Int32} {v4_3 : Int32} {v5_3 : Int32} {v6_3 : Int32} (hB : bOK C cX11_pacesFrom 10 RX11 d g l w false) (hd : 1 ≤ d) (M : zM) (hR : RtV C cX11_pacesFrom w r) : Sg C w (0, 0) 3 [(0, zr w 257), (1, .int v1_3), (2, .int v2_3), (3, .int v3_3), (4, .int v4_3), (5, .int v5_3), (6, .int v6_3)] [] M (b_X11_pacesFrom_3 v1_3 v2_3 v3_3 v4_3 v5_3 v6_3 M) (fun o => Sum.elim (fun (s : (Int32 × zM)) => Zs C w (0, 0) 3 [(0, zr w 257), (1, .int v1_3), (2, .int v2_3), (3, .int v3_3), (4, .int v4_3), (5, .int v5_3), (6, .int s.1)] [] s.2) (fun (s : (zM)) => Zs C w (0, 0) 107 [] [] s) o) := by
  have hC := hB.1.1
  have hq1 : 1 ≤ d := by omega
  unfold b_X11_pacesFrom_3
  refine x_iload hC dX11_pacesFrom_3 6 rfl ?_
  refine x_bipush (v := (8 : Int32)) hC dX11_pacesFrom_5 kb_8 ?_
  refine x_icmp_ge (tgt := 107) hC dX11_pacesFrom_7 (by decide) ?_ ?_
  · refine x_sub [] rfl ?_
    exact x_done (fun h => h)
  · refine x_iload hC dX11_pacesFrom_10 6 rfl ?_
    refine x_iconst (v := (4 : Int32)) hC dX11_pacesFrom_12 ki_4 ?_
    refine x_icmp_ge (tgt := 20) hC dX11_pacesFrom_13 (by decide) ?_ ?_
    · refine x_iload hC dX11_pacesFrom_20 4 rfl ?_
      exact j_X11_pacesFrom_22_3_ok hB hd M hR
    · refine x_iload_n hC dX11_pacesFrom_16 rfl 3 rfl ?_
      refine x_goto (tgt := 22) hC dX11_pacesFrom_17 (by decide) ?_
      exact j_X11_pacesFrom_22_3_ok hB hd M hR
noncomputable def j_X11_pacesFrom_107 (M : zM) : Option (zM) :=
  some M
set_option maxRecDepth 100000 in
theorem j_X11_pacesFrom_107_ok {C : zC} {d : Nat} {g : zG} {l : Launch} {w : zW} {r : zM} (hB : bOK C cX11_pacesFrom 10 RX11 d g l w false) (hd : 1 ≤ d) (M : zM) (hR : RtV C cX11_pacesFrom w r) : Sg C w (0, 0) 107 [] [] M (j_X11_pacesFrom_107 M) (fun q => q = r) := by
  have hC := hB.1.1
  have hq1 : 1 ≤ d := by omega
  unfold j_X11_pacesFrom_107
  exact r_retV hR dX11_pacesFrom_107 (fun h => h)
noncomputable def f_X11_pacesFrom (p1 : Int32) (p2 : Int32) (p3 : Int32) (p4 : Int32) (p5 : Int32) (M : zM) : Option (zM) :=
  (loopW (fun s => b_X11_pacesFrom_3 p1 p2 p3 p4 p5 s.1 s.2) ((0 : Int32), M)).bind (fun r => j_X11_pacesFrom_107 r)
set_option maxRecDepth 100000 in
theorem f_X11_pacesFrom_ok {C : zC} {d : Nat} {g : zG} {l : Launch} {w : zW} {r : zM} {p1 : Int32} {p2 : Int32} {p3 : Int32} {p4 : Int32} {p5 : Int32} (hB : bOK C cX11_pacesFrom 10 RX11 d g l w false) (hd : 1 ≤ d) (M : zM) (hR : RtV C cX11_pacesFrom w r) : Sg C w (0, 0) 0 [(0, zr w 257), (1, .int p1), (2, .int p2), (3, .int p3), (4, .int p4), (5, .int p5)] [] M (f_X11_pacesFrom p1 p2 p3 p4 p5 M) (fun q => q = r) := by
  have hC := hB.1.1
  have hq1 : 1 ≤ d := by omega
  unfold f_X11_pacesFrom
  refine x_iconst (v := (0 : Int32)) hC dX11_pacesFrom_0 ki_0 ?_
  refine x_istore (f := 0) hC dX11_pacesFrom_1 [(6, .int (0 : Int32)), (0, zr w 257), (1, .int p1), (2, .int p2), (3, .int p3), (4, .int p4), (5, .int p5)] (by decide) rfl ?_
  refine x_sub [1, 2, 3, 4, 5, 6, 0] rfl ?_
  refine x_loopB (pc2 := 107) (fun (s : (Int32 × zM)) => [(0, zr w 257), (1, .int p1), (2, .int p2), (3, .int p3), (4, .int p4), (5, .int p5), (6, .int s.1)]) (fun (s : (Int32 × zM)) => s.2) (fun (s : (zM)) => []) (fun (s : (zM)) => s) ((0 : Int32), M) ?_ ?_
  · exact fun s => b_X11_pacesFrom_3_ok hB hd s.2 hR
  · intro r9
    exact j_X11_pacesFrom_107_ok hB hd r9 hR
theorem f_X11_pacesFrom_met {l : Launch} {d : Nat} {g : zG} {w : zW} {M0 : zM} {p1 : Int32} {p2 : Int32} {p3 : Int32} {p4 : Int32} {p5 : Int32} {M : zM} (hw : wS w) (hd : 1 ≤ d) {M' : zM} (h : f_X11_pacesFrom p1 p2 p3 p4 p5 M = some M') : zMet l yX11_pacesFrom cX11_pacesFrom 10 none d g w (zin false) M0 [zr w 257, .int p1, .int p2, .int p3, .int p4, .int p5] M none M' :=
  met_v (by decide +kernel) (Nat.le_of_ble_eq_true rfl) (fun C hB0 hR => f_X11_pacesFrom_ok ⟨hB0, hw⟩ hd M hR _ h rfl)
/-! WindingSquareModel.bend(III)I -/
def j_X11_bend_50 (v3_50 : Int32) (s0_50 : Int32) : Int32 :=
  if v3_50 < 0 then ((-1 : Int32))
  else (if 0 ≤ s0_50 then ((((61 : Int32) * s0_50) + v3_50))
  else ((-1 : Int32)))
set_option maxRecDepth 100000 in
theorem j_X11_bend_50_ok {C : zC} {d : Nat} {g : zG} {l : Launch} {w : zW} {r : Int32} {v3_50 : Int32} {s0_50 : Int32} (hB : bOK C cX11_bend 5 RX11 d g l w false) (hd : 1 ≤ d) (M : zM) (hR : RtI C cX11_bend w r M) : Sg C w (0, 0) 50 [(3, .int v3_50)] [.int s0_50] M (some (j_X11_bend_50 v3_50 s0_50)) (fun q => q = r) := by
  have hC := hB.1.1
  have hq1 : 1 ≤ d := by omega
  unfold j_X11_bend_50
  refine x_istore (f := 0) hC dX11_bend_50 [(4, .int s0_50), (3, .int v3_50)] (by decide) rfl ?_
  refine x_iload_n hC dX11_bend_52 rfl 1 rfl ?_
  refine x_si ?_
  refine x_if_lt (tgt := 61) hC dX11_bend_53 (by decide) ?_ ?_
  · refine x_iconst (v := (-1 : Int32)) hC dX11_bend_61 ki_m1 ?_
    refine x_goto (tgt := 72) hC dX11_bend_62 (by decide) ?_
    exact r_retI hR dX11_bend_72 (fun h => congrArg (fun q => (q, M)) h)
  · refine x_iload hC dX11_bend_56 0 rfl ?_
    refine x_si ?_
    refine x_if_ge (tgt := 65) hC dX11_bend_58 (by decide) ?_ ?_
    · refine x_bipush (v := (61 : Int32)) hC dX11_bend_65 kb_61 ?_
      refine x_iload hC dX11_bend_67 0 rfl ?_
      refine x_imul hC dX11_bend_69 ?_
      refine x_iload_n hC dX11_bend_70 rfl 1 rfl ?_
      refine x_iadd hC dX11_bend_71 ?_
      exact r_retI hR dX11_bend_72 (fun h => congrArg (fun q => (q, M)) h)
    · refine x_iconst (v := (-1 : Int32)) hC dX11_bend_61 ki_m1 ?_
      refine x_goto (tgt := 72) hC dX11_bend_62 (by decide) ?_
      exact r_retI hR dX11_bend_72 (fun h => congrArg (fun q => (q, M)) h)
def j_X11_bend_25 (v1_25 : Int32) (v2_25 : Int32) (s0_25 : Int32) : Int32 :=
  if v2_25 = 0 then (j_X11_bend_50 s0_25 (v1_25 + (1 : Int32)))
  else (if v2_25 = (1 : Int32) then (j_X11_bend_50 s0_25 (v1_25 - (1 : Int32)))
  else (j_X11_bend_50 s0_25 (v1_25 - (2 : Int32))))
set_option maxRecDepth 100000 in
theorem j_X11_bend_25_ok {C : zC} {d : Nat} {g : zG} {l : Launch} {w : zW} {r : Int32} {v1_25 : Int32} {v2_25 : Int32} {s0_25 : Int32} (hB : bOK C cX11_bend 5 RX11 d g l w false) (hd : 1 ≤ d) (M : zM) (hR : RtI C cX11_bend w r M) : Sg C w (0, 0) 25 [(1, .int v1_25), (2, .int v2_25)] [.int s0_25] M (some (j_X11_bend_25 v1_25 v2_25 s0_25)) (fun q => q = r) := by
  have hC := hB.1.1
  have hq1 : 1 ≤ d := by omega
  unfold j_X11_bend_25
  refine x_istore_n hC dX11_bend_25 rfl [(3, .int s0_25), (1, .int v1_25), (2, .int v2_25)] (by decide) rfl ?_
  refine x_iload_n hC dX11_bend_26 rfl 2 rfl ?_
  refine x_si ?_
  refine x_if_ne (tgt := 36) hC dX11_bend_27 (by decide) ?_ ?_
  · refine x_iload_n hC dX11_bend_30 rfl 1 rfl ?_
    refine x_iconst (v := (1 : Int32)) hC dX11_bend_31 ki_1 ?_
    refine x_iadd hC dX11_bend_32 ?_
    refine x_goto (tgt := 50) hC dX11_bend_33 (by decide) ?_
    refine x_sub [0] rfl ?_
    exact j_X11_bend_50_ok hB hd M hR
  · refine x_iload_n hC dX11_bend_36 rfl 2 rfl ?_
    refine x_iconst (v := (1 : Int32)) hC dX11_bend_37 ki_1 ?_
    refine x_si ?_
    refine x_icmp_ne (tgt := 47) hC dX11_bend_38 (by decide) ?_ ?_
    · refine x_iload_n hC dX11_bend_41 rfl 1 rfl ?_
      refine x_iconst (v := (1 : Int32)) hC dX11_bend_42 ki_1 ?_
      refine x_isub hC dX11_bend_43 ?_
      refine x_goto (tgt := 50) hC dX11_bend_44 (by decide) ?_
      refine x_sub [0] rfl ?_
      exact j_X11_bend_50_ok hB hd M hR
    · refine x_iload_n hC dX11_bend_47 rfl 1 rfl ?_
      refine x_iconst (v := (2 : Int32)) hC dX11_bend_48 ki_2 ?_
      refine x_isub hC dX11_bend_49 ?_
      refine x_sub [0] rfl ?_
      exact j_X11_bend_50_ok hB hd M hR
def f_X11_bend (p0 : Int32) (p1 : Int32) (p2 : Int32) : Int32 :=
  if (2 : Int32) ≤ p2 then (if p2 = (2 : Int32) then (j_X11_bend_25 p1 p2 (p0 + (1 : Int32)))
  else (j_X11_bend_25 p1 p2 (p0 - (1 : Int32))))
  else (j_X11_bend_25 p1 p2 (p0 - (2 : Int32)))
set_option maxRecDepth 100000 in
theorem f_X11_bend_ok {C : zC} {d : Nat} {g : zG} {l : Launch} {w : zW} {r : Int32} {p0 : Int32} {p1 : Int32} {p2 : Int32} (hB : bOK C cX11_bend 5 RX11 d g l w false) (hd : 1 ≤ d) (M : zM) (hR : RtI C cX11_bend w r M) : Sg C w (0, 0) 0 [(0, .int p0), (1, .int p1), (2, .int p2)] [] M (some (f_X11_bend p0 p1 p2)) (fun q => q = r) := by
  have hC := hB.1.1
  have hq1 : 1 ≤ d := by omega
  unfold f_X11_bend
  refine x_iload_n hC dX11_bend_0 rfl 2 rfl ?_
  refine x_iconst (v := (2 : Int32)) hC dX11_bend_1 ki_2 ?_
  refine x_si ?_
  refine x_icmp_ge (tgt := 11) hC dX11_bend_2 (by decide) ?_ ?_
  · refine x_iload_n hC dX11_bend_11 rfl 2 rfl ?_
    refine x_iconst (v := (2 : Int32)) hC dX11_bend_12 ki_2 ?_
    refine x_si ?_
    refine x_icmp_ne (tgt := 22) hC dX11_bend_13 (by decide) ?_ ?_
    · refine x_iload_n hC dX11_bend_16 rfl 0 rfl ?_
      refine x_iconst (v := (1 : Int32)) hC dX11_bend_17 ki_1 ?_
      refine x_iadd hC dX11_bend_18 ?_
      refine x_goto (tgt := 25) hC dX11_bend_19 (by decide) ?_
      refine x_sub [1, 2] rfl ?_
      exact j_X11_bend_25_ok hB hd M hR
    · refine x_iload_n hC dX11_bend_22 rfl 0 rfl ?_
      refine x_iconst (v := (1 : Int32)) hC dX11_bend_23 ki_1 ?_
      refine x_isub hC dX11_bend_24 ?_
      refine x_sub [1, 2] rfl ?_
      exact j_X11_bend_25_ok hB hd M hR
  · refine x_iload_n hC dX11_bend_5 rfl 0 rfl ?_
    refine x_iconst (v := (2 : Int32)) hC dX11_bend_6 ki_2 ?_
    refine x_isub hC dX11_bend_7 ?_
    refine x_goto (tgt := 25) hC dX11_bend_8 (by decide) ?_
    refine x_sub [1, 2] rfl ?_
    exact j_X11_bend_25_ok hB hd M hR
theorem f_X11_bend_met {l : Launch} {d : Nat} {g : zG} {w : zW} {M0 : zM} {p0 : Int32} {p1 : Int32} {p2 : Int32} {M : zM} (hw : wS w) (hd : 1 ≤ d) : zMet l yX11_bend cX11_bend 5 (some .int) d g w (zin false) M0 [.int p0, .int p1, .int p2] M (some (.int (f_X11_bend p0 p1 p2))) M :=
  met_i (by decide +kernel) (Nat.le_of_ble_eq_true rfl) rfl (fun C hB0 hR => f_X11_bend_ok ⟨hB0, hw⟩ hd M hR _ rfl rfl)
/-! java/lang/Integer.bitCount(I)I -/
def f_J6_bitCount_0f7a4 (p0 : Int32) : Int32 :=
  nm (p0 - ((iush p0 (1 : Int32)) &&& (1431655765 : Int32))) fun v0_9 =>
  nm ((v0_9 &&& (858993459 : Int32)) + ((iush v0_9 (2 : Int32)) &&& (858993459 : Int32))) fun v0_23 =>
  nm ((v0_23 + (iush v0_23 (4 : Int32))) &&& (252645135 : Int32)) fun v0_33 =>
  nm (v0_33 + (iush v0_33 (8 : Int32))) fun v0_40 =>
  nm (v0_40 + (iush v0_40 (16 : Int32))) fun v0_47 =>
  (v0_47 &&& (63 : Int32))
set_option maxRecDepth 100000 in
theorem f_J6_bitCount_0f7a4_ok {C : zC} {d : Nat} {g : zG} {l : Launch} {w : zW} {z : Bool} {r : Int32} {p0 : Int32} (hB : bOK C cJ6_bitCount_0f7a4 1 RJ6 d g l w z) (hd : 1 ≤ d) (M : zM) (hR : RtI C cJ6_bitCount_0f7a4 w r M) : Sg C w (0, 0) 0 [(0, .int p0)] [] M (some (f_J6_bitCount_0f7a4 p0)) (fun q => q = r) := by
  have hC := hB.1.1
  have hq1 : 1 ≤ d := by omega
  unfold f_J6_bitCount_0f7a4
  refine x_iload_n hC dJ6_bitCount_0f7a4_0 rfl 0 rfl ?_
  refine x_iload_n hC dJ6_bitCount_0f7a4_1 rfl 0 rfl ?_
  refine x_iconst (v := (1 : Int32)) hC dJ6_bitCount_0f7a4_2 ki_1 ?_
  refine x_iushr hC dJ6_bitCount_0f7a4_3 ?_
  refine x_ldc_w hC dJ6_bitCount_0f7a4_4 wd_689 ?_
  refine x_iand hC dJ6_bitCount_0f7a4_7 ?_
  refine x_isub hC dJ6_bitCount_0f7a4_8 ?_
  refine x_sn ?_
  refine x_top (fun v0_9 => ?_)
  refine x_istore_n hC dJ6_bitCount_0f7a4_9 rfl [(0, .int v0_9)] (by decide) rfl ?_
  refine x_iload_n hC dJ6_bitCount_0f7a4_10 rfl 0 rfl ?_
  refine x_ldc_w hC dJ6_bitCount_0f7a4_11 wd_690 ?_
  refine x_iand hC dJ6_bitCount_0f7a4_14 ?_
  refine x_iload_n hC dJ6_bitCount_0f7a4_15 rfl 0 rfl ?_
  refine x_iconst (v := (2 : Int32)) hC dJ6_bitCount_0f7a4_16 ki_2 ?_
  refine x_iushr hC dJ6_bitCount_0f7a4_17 ?_
  refine x_ldc_w hC dJ6_bitCount_0f7a4_18 wd_690 ?_
  refine x_iand hC dJ6_bitCount_0f7a4_21 ?_
  refine x_iadd hC dJ6_bitCount_0f7a4_22 ?_
  refine x_sn ?_
  refine x_top (fun v0_23 => ?_)
  refine x_istore_n hC dJ6_bitCount_0f7a4_23 rfl [(0, .int v0_23)] (by decide) rfl ?_
  refine x_iload_n hC dJ6_bitCount_0f7a4_24 rfl 0 rfl ?_
  refine x_iload_n hC dJ6_bitCount_0f7a4_25 rfl 0 rfl ?_
  refine x_iconst (v := (4 : Int32)) hC dJ6_bitCount_0f7a4_26 ki_4 ?_
  refine x_iushr hC dJ6_bitCount_0f7a4_27 ?_
  refine x_iadd hC dJ6_bitCount_0f7a4_28 ?_
  refine x_ldc_w hC dJ6_bitCount_0f7a4_29 wd_691 ?_
  refine x_iand hC dJ6_bitCount_0f7a4_32 ?_
  refine x_sn ?_
  refine x_top (fun v0_33 => ?_)
  refine x_istore_n hC dJ6_bitCount_0f7a4_33 rfl [(0, .int v0_33)] (by decide) rfl ?_
  refine x_iload_n hC dJ6_bitCount_0f7a4_34 rfl 0 rfl ?_
  refine x_iload_n hC dJ6_bitCount_0f7a4_35 rfl 0 rfl ?_
  refine x_bipush (v := (8 : Int32)) hC dJ6_bitCount_0f7a4_36 kb_8 ?_
  refine x_iushr hC dJ6_bitCount_0f7a4_38 ?_
  refine x_iadd hC dJ6_bitCount_0f7a4_39 ?_
  refine x_sn ?_
  refine x_top (fun v0_40 => ?_)
  refine x_istore_n hC dJ6_bitCount_0f7a4_40 rfl [(0, .int v0_40)] (by decide) rfl ?_
  refine x_iload_n hC dJ6_bitCount_0f7a4_41 rfl 0 rfl ?_
  refine x_iload_n hC dJ6_bitCount_0f7a4_42 rfl 0 rfl ?_
  refine x_bipush (v := (16 : Int32)) hC dJ6_bitCount_0f7a4_43 kb_16 ?_
  refine x_iushr hC dJ6_bitCount_0f7a4_45 ?_
  refine x_iadd hC dJ6_bitCount_0f7a4_46 ?_
  refine x_sn ?_
  refine x_top (fun v0_47 => ?_)
  refine x_istore_n hC dJ6_bitCount_0f7a4_47 rfl [(0, .int v0_47)] (by decide) rfl ?_
  refine x_iload_n hC dJ6_bitCount_0f7a4_48 rfl 0 rfl ?_
  refine x_bipush (v := (63 : Int32)) hC dJ6_bitCount_0f7a4_49 kb_63 ?_
  refine x_iand hC dJ6_bitCount_0f7a4_51 ?_
  exact r_retI hR dJ6_bitCount_0f7a4_52 (fun h => congrArg (fun q => (q, M)) h)
theorem f_J6_bitCount_0f7a4_met {l : Launch} {d : Nat} {g : zG} {w : zW} {M0 : zM} {z : Bool} {p0 : Int32} {M : zM} (hw : wS w) (hd : 1 ≤ d) : zMet l yJ6_bitCount_0f7a4 cJ6_bitCount_0f7a4 1 (some .int) d g w (zin z) M0 [.int p0] M (some (.int (f_J6_bitCount_0f7a4 p0))) M :=
  met_i (by decide +kernel) (Nat.le_of_ble_eq_true rfl) rfl (fun C hB0 hR => f_J6_bitCount_0f7a4_ok ⟨hB0, hw⟩ hd M hR _ rfl rfl)
/-! java/lang/Math.floorDiv(II)I -/
noncomputable def f_J9_floorDiv_7cf53 (p0 : Int32) (p1 : Int32) : Option (Int32) :=
  grd (¬ p1 = 0) (
  nm (p0 / p1) fun v2_3 =>
  if 0 ≤ (p0 ^^^ p1) then (some v2_3)
  else (if (v2_3 * p1) = p0 then (some v2_3)
  else (some (v2_3 - (1 : Int32)))))
set_option maxRecDepth 100000 in
theorem f_J9_floorDiv_7cf53_ok {C : zC} {d : Nat} {g : zG} {l : Launch} {w : zW} {z : Bool} {r : Int32} {p0 : Int32} {p1 : Int32} (hB : bOK C cJ9_floorDiv_7cf53 3 RJ9 d g l w z) (hd : 1 ≤ d) (M : zM) (hR : RtI C cJ9_floorDiv_7cf53 w r M) : Sg C w (0, 0) 0 [(0, .int p0), (1, .int p1)] [] M (f_J9_floorDiv_7cf53 p0 p1) (fun q => q = r) := by
  have hC := hB.1.1
  have hq1 : 1 ≤ d := by omega
  unfold f_J9_floorDiv_7cf53
  refine x_iload_n hC dJ9_floorDiv_7cf53_0 rfl 0 rfl ?_
  refine x_iload_n hC dJ9_floorDiv_7cf53_1 rfl 1 rfl ?_
  refine x_grd (fun hne => ?_)
  refine x_idiv0 hC dJ9_floorDiv_7cf53_2 hne ?_
  refine x_top (fun v2_3 => ?_)
  refine x_istore_n hC dJ9_floorDiv_7cf53_3 rfl [(2, .int v2_3), (0, .int p0), (1, .int p1)] (by decide) rfl ?_
  refine x_iload_n hC dJ9_floorDiv_7cf53_4 rfl 1 rfl ?_
  refine x_iload_n hC dJ9_floorDiv_7cf53_5 rfl 2 rfl ?_
  refine x_ixor hC dJ9_floorDiv_7cf53_6 ?_
  refine x_if_ge (tgt := 21) hC dJ9_floorDiv_7cf53_7 (by decide) ?_ ?_
  · refine x_iload_n hC dJ9_floorDiv_7cf53_21 rfl 0 rfl ?_
    exact r_retI hR dJ9_floorDiv_7cf53_22 (fun h => congrArg (fun q => (q, M)) h)
  · refine x_iload_n hC dJ9_floorDiv_7cf53_10 rfl 0 rfl ?_
    refine x_iload_n hC dJ9_floorDiv_7cf53_11 rfl 2 rfl ?_
    refine x_imul hC dJ9_floorDiv_7cf53_12 ?_
    refine x_iload_n hC dJ9_floorDiv_7cf53_13 rfl 1 rfl ?_
    refine x_icmp_eq (tgt := 21) hC dJ9_floorDiv_7cf53_14 (by decide) ?_ ?_
    · refine x_iload_n hC dJ9_floorDiv_7cf53_21 rfl 0 rfl ?_
      exact r_retI hR dJ9_floorDiv_7cf53_22 (fun h => congrArg (fun q => (q, M)) h)
    · refine x_iload_n hC dJ9_floorDiv_7cf53_17 rfl 0 rfl ?_
      refine x_iconst (v := (1 : Int32)) hC dJ9_floorDiv_7cf53_18 ki_1 ?_
      refine x_isub hC dJ9_floorDiv_7cf53_19 ?_
      exact r_retI hR dJ9_floorDiv_7cf53_20 (fun h => congrArg (fun q => (q, M)) h)
theorem f_J9_floorDiv_7cf53_met {l : Launch} {d : Nat} {g : zG} {w : zW} {M0 : zM} {z : Bool} {p0 : Int32} {p1 : Int32} {M : zM} (hw : wS w) (hd : 1 ≤ d) {v : Int32} (h : f_J9_floorDiv_7cf53 p0 p1 = some v) : zMet l yJ9_floorDiv_7cf53 cJ9_floorDiv_7cf53 3 (some .int) d g w (zin z) M0 [.int p0, .int p1] M (some (.int v)) M :=
  met_iF (by decide +kernel) (Nat.le_of_ble_eq_true rfl) rfl (fun C hB0 hR => f_J9_floorDiv_7cf53_ok ⟨hB0, hw⟩ hd M hR _ h rfl)
/-! java/lang/Math.abs(I)I -/
def f_J9_abs_0f7a4 (p0 : Int32) : Int32 :=
  if 0 ≤ p0 then (p0)
  else ((-p0))
set_option maxRecDepth 100000 in
theorem f_J9_abs_0f7a4_ok {C : zC} {d : Nat} {g : zG} {l : Launch} {w : zW} {z : Bool} {r : Int32} {p0 : Int32} (hB : bOK C cJ9_abs_0f7a4 1 RJ9 d g l w z) (hd : 1 ≤ d) (M : zM) (hR : RtI C cJ9_abs_0f7a4 w r M) : Sg C w (0, 0) 0 [(0, .int p0)] [] M (some (f_J9_abs_0f7a4 p0)) (fun q => q = r) := by
  have hC := hB.1.1
  have hq1 : 1 ≤ d := by omega
  unfold f_J9_abs_0f7a4
  refine x_iload_n hC dJ9_abs_0f7a4_0 rfl 0 rfl ?_
  refine x_si ?_
  refine x_if_ge (tgt := 9) hC dJ9_abs_0f7a4_1 (by decide) ?_ ?_
  · refine x_iload_n hC dJ9_abs_0f7a4_9 rfl 0 rfl ?_
    exact r_retI hR dJ9_abs_0f7a4_10 (fun h => congrArg (fun q => (q, M)) h)
  · refine x_iload_n hC dJ9_abs_0f7a4_4 rfl 0 rfl ?_
    refine x_ineg hC dJ9_abs_0f7a4_5 ?_
    refine x_goto (tgt := 10) hC dJ9_abs_0f7a4_6 (by decide) ?_
    exact r_retI hR dJ9_abs_0f7a4_10 (fun h => congrArg (fun q => (q, M)) h)
theorem f_J9_abs_0f7a4_met {l : Launch} {d : Nat} {g : zG} {w : zW} {M0 : zM} {z : Bool} {p0 : Int32} {M : zM} (hw : wS w) (hd : 1 ≤ d) : zMet l yJ9_abs_0f7a4 cJ9_abs_0f7a4 1 (some .int) d g w (zin z) M0 [.int p0] M (some (.int (f_J9_abs_0f7a4 p0))) M :=
  met_iF (by decide +kernel) (Nat.le_of_ble_eq_true rfl) rfl (fun C hB0 hR => f_J9_abs_0f7a4_ok ⟨hB0, hw⟩ hd M hR _ rfl rfl)
/-! java/lang/Math.max(II)I -/
def f_J9_max_7cf53 (p0 : Int32) (p1 : Int32) : Int32 :=
  if p0 < p1 then (p1)
  else (p0)
set_option maxRecDepth 100000 in
theorem f_J9_max_7cf53_ok {C : zC} {d : Nat} {g : zG} {l : Launch} {w : zW} {z : Bool} {r : Int32} {p0 : Int32} {p1 : Int32} (hB : bOK C cJ9_max_7cf53 2 RJ9 d g l w z) (hd : 1 ≤ d) (M : zM) (hR : RtI C cJ9_max_7cf53 w r M) : Sg C w (0, 0) 0 [(0, .int p0), (1, .int p1)] [] M (some (f_J9_max_7cf53 p0 p1)) (fun q => q = r) := by
  have hC := hB.1.1
  have hq1 : 1 ≤ d := by omega
  unfold f_J9_max_7cf53
  refine x_iload_n hC dJ9_max_7cf53_0 rfl 0 rfl ?_
  refine x_iload_n hC dJ9_max_7cf53_1 rfl 1 rfl ?_
  refine x_si ?_
  refine x_icmp_lt (tgt := 9) hC dJ9_max_7cf53_2 (by decide) ?_ ?_
  · refine x_iload_n hC dJ9_max_7cf53_9 rfl 1 rfl ?_
    exact r_retI hR dJ9_max_7cf53_10 (fun h => congrArg (fun q => (q, M)) h)
  · refine x_iload_n hC dJ9_max_7cf53_5 rfl 0 rfl ?_
    refine x_goto (tgt := 10) hC dJ9_max_7cf53_6 (by decide) ?_
    exact r_retI hR dJ9_max_7cf53_10 (fun h => congrArg (fun q => (q, M)) h)
theorem f_J9_max_7cf53_met {l : Launch} {d : Nat} {g : zG} {w : zW} {M0 : zM} {z : Bool} {p0 : Int32} {p1 : Int32} {M : zM} (hw : wS w) (hd : 1 ≤ d) : zMet l yJ9_max_7cf53 cJ9_max_7cf53 2 (some .int) d g w (zin z) M0 [.int p0, .int p1] M (some (.int (f_J9_max_7cf53 p0 p1))) M :=
  met_iF (by decide +kernel) (Nat.le_of_ble_eq_true rfl) rfl (fun C hB0 hR => f_J9_max_7cf53_ok ⟨hB0, hw⟩ hd M hR _ rfl rfl)
/-! java/lang/Math.min(II)I -/
def f_J9_min_7cf53 (p0 : Int32) (p1 : Int32) : Int32 :=
  if p1 < p0 then (p1)
  else (p0)
set_option maxRecDepth 100000 in
theorem f_J9_min_7cf53_ok {C : zC} {d : Nat} {g : zG} {l : Launch} {w : zW} {z : Bool} {r : Int32} {p0 : Int32} {p1 : Int32} (hB : bOK C cJ9_min_7cf53 2 RJ9 d g l w z) (hd : 1 ≤ d) (M : zM) (hR : RtI C cJ9_min_7cf53 w r M) : Sg C w (0, 0) 0 [(0, .int p0), (1, .int p1)] [] M (some (f_J9_min_7cf53 p0 p1)) (fun q => q = r) := by
  have hC := hB.1.1
  have hq1 : 1 ≤ d := by omega
  unfold f_J9_min_7cf53
  refine x_iload_n hC dJ9_min_7cf53_0 rfl 0 rfl ?_
  refine x_iload_n hC dJ9_min_7cf53_1 rfl 1 rfl ?_
  refine x_si ?_
  refine x_icmp_gt (tgt := 9) hC dJ9_min_7cf53_2 (by decide) ?_ ?_
  · refine x_iload_n hC dJ9_min_7cf53_9 rfl 1 rfl ?_
    exact r_retI hR dJ9_min_7cf53_10 (fun h => congrArg (fun q => (q, M)) h)
  · refine x_iload_n hC dJ9_min_7cf53_5 rfl 0 rfl ?_
    refine x_goto (tgt := 10) hC dJ9_min_7cf53_6 (by decide) ?_
    exact r_retI hR dJ9_min_7cf53_10 (fun h => congrArg (fun q => (q, M)) h)
theorem f_J9_min_7cf53_met {l : Launch} {d : Nat} {g : zG} {w : zW} {M0 : zM} {z : Bool} {p0 : Int32} {p1 : Int32} {M : zM} (hw : wS w) (hd : 1 ≤ d) : zMet l yJ9_min_7cf53 cJ9_min_7cf53 2 (some .int) d g w (zin z) M0 [.int p0, .int p1] M (some (.int (f_J9_min_7cf53 p0 p1))) M :=
  met_iF (by decide +kernel) (Nat.le_of_ble_eq_true rfl) rfl (fun C hB0 hR => f_J9_min_7cf53_ok ⟨hB0, hw⟩ hd M hR _ rfl rfl)
/-! java/util/Arrays.fill([II)V -/
noncomputable def b_J7_fill_53178_5 (a0 : Nat) (v1_5 : Int32) (v3_5 : Int32) (v2_5 : Int32) (M : zM) : Option ((Int32 × zM) ⊕ (zM)) :=
  if v3_5 ≤ v2_5 then (some (.inr M))
  else (grd (inb v2_5 (LN a0)) (
  nm (mset M a0 (ix v2_5) v1_5) fun M13_5 =>
  some (.inl ((v2_5 + (1 : Int32)), M13_5))))
set_option maxRecDepth 100000 in
theorem b_J7_fill_53178_5_ok {C : zC} {d : Nat} {g : zG} {l : Launch} {w : zW} {z : Bool} {r : zM} {a0 : Nat} {v1_5 : Int32} {v3_5 : Int32} {v2_5 : Int32} (hB : bOK C cJ7_fill_53178 4 RJ7 d g l w z) (h0 : tI z a0) (hd : 1 ≤ d) (M : zM) (hR : RtV C cJ7_fill_53178 w r) : Sg C w (0, 0) 5 [(0, zr w a0), (1, .int v1_5), (2, .int v2_5), (3, .int v3_5)] [] M (b_J7_fill_53178_5 a0 v1_5 v3_5 v2_5 M) (fun o => Sum.elim (fun (s : (Int32 × zM)) => Zs C w (0, 0) 5 [(0, zr w a0), (1, .int v1_5), (2, .int s.1), (3, .int v3_5)] [] s.2) (fun (s : (zM)) => Zs C w (0, 0) 20 [] [] s) o) := by
  have hC := hB.1.1
  have hq1 : 1 ≤ d := by omega
  unfold b_J7_fill_53178_5
  refine x_iload_n hC dJ7_fill_53178_5 rfl 2 rfl ?_
  refine x_iload_n hC dJ7_fill_53178_6 rfl 3 rfl ?_
  refine x_icmp_ge (tgt := 20) hC dJ7_fill_53178_7 (by decide) ?_ ?_
  · refine x_sub [] rfl ?_
    exact x_done (fun h => h)
  · refine x_aload_n hC dJ7_fill_53178_10 rfl 0 rfl ?_
    refine x_iload_n hC dJ7_fill_53178_11 rfl 2 rfl ?_
    refine x_iload_n hC dJ7_fill_53178_12 rfl 1 rfl ?_
    refine r_iast hB dJ7_fill_53178_13 (tI.of h0) ?_
    refine x_mem (fun M13_5 => ?_)
    refine x_iinc hC dJ7_fill_53178_14 ki_1 [(2, .int (v2_5 + (1 : Int32))), (0, zr w a0), (1, .int v1_5), (3, .int v3_5)] 2 rfl (by decide) rfl ?_
    refine x_goto (tgt := 5) hC dJ7_fill_53178_17 (by decide) ?_
    refine x_sub [1, 2, 0, 3] rfl ?_
    exact x_done (fun h => h)
noncomputable def j_J7_fill_53178_20 (a0 : Nat) (M : zM) : Option (zM) :=
  some M
set_option maxRecDepth 100000 in
theorem j_J7_fill_53178_20_ok {C : zC} {d : Nat} {g : zG} {l : Launch} {w : zW} {z : Bool} {r : zM} {a0 : Nat} (hB : bOK C cJ7_fill_53178 4 RJ7 d g l w z) (h0 : tI z a0) (hd : 1 ≤ d) (M : zM) (hR : RtV C cJ7_fill_53178 w r) : Sg C w (0, 0) 20 [] [] M (j_J7_fill_53178_20 a0 M) (fun q => q = r) := by
  have hC := hB.1.1
  have hq1 : 1 ≤ d := by omega
  unfold j_J7_fill_53178_20
  exact r_retV hR dJ7_fill_53178_20 (fun h => h)
noncomputable def f_J7_fill_53178 (a0 : Nat) (p1 : Int32) (M : zM) : Option (zM) :=
  nm (nI (LN a0)) fun v3_4 =>
  (loopW (fun s => b_J7_fill_53178_5 a0 p1 v3_4 s.1 s.2) ((0 : Int32), M)).bind (fun r => j_J7_fill_53178_20 a0 r)
set_option maxRecDepth 100000 in
theorem f_J7_fill_53178_ok {C : zC} {d : Nat} {g : zG} {l : Launch} {w : zW} {z : Bool} {r : zM} {a0 : Nat} {p1 : Int32} (hB : bOK C cJ7_fill_53178 4 RJ7 d g l w z) (h0 : tI z a0) (hd : 1 ≤ d) (M : zM) (hR : RtV C cJ7_fill_53178 w r) : Sg C w (0, 0) 0 [(0, zr w a0), (1, .int p1)] [] M (f_J7_fill_53178 a0 p1 M) (fun q => q = r) := by
  have hC := hB.1.1
  have hq1 : 1 ≤ d := by omega
  unfold f_J7_fill_53178
  refine x_iconst (v := (0 : Int32)) hC dJ7_fill_53178_0 ki_0 ?_
  refine x_istore_n hC dJ7_fill_53178_1 rfl [(2, .int (0 : Int32)), (0, zr w a0), (1, .int p1)] (by decide) rfl ?_
  refine x_aload_n hC dJ7_fill_53178_2 rfl 1 rfl ?_
  refine r_alen hB dJ7_fill_53178_3 (tI.of h0) ?_
  refine x_top (fun v3_4 => ?_)
  refine x_istore_n hC dJ7_fill_53178_4 rfl [(3, .int v3_4), (2, .int (0 : Int32)), (0, zr w a0), (1, .int p1)] (by decide) rfl ?_
  refine x_sub [2, 3, 1, 0] rfl ?_
  refine x_loopB (pc2 := 20) (fun (s : (Int32 × zM)) => [(0, zr w a0), (1, .int p1), (2, .int s.1), (3, .int v3_4)]) (fun (s : (Int32 × zM)) => s.2) (fun (s : (zM)) => []) (fun (s : (zM)) => s) ((0 : Int32), M) ?_ ?_
  · exact fun s => b_J7_fill_53178_5_ok hB h0 hd s.2 hR
  · intro r9
    exact j_J7_fill_53178_20_ok hB h0 hd r9 hR
theorem f_J7_fill_53178_met {l : Launch} {d : Nat} {g : zG} {w : zW} {M0 : zM} {z : Bool} {a0 : Nat} {p1 : Int32} {M : zM} (hw : wS w) (h0 : tI z a0) (hd : 1 ≤ d) {M' : zM} (h : f_J7_fill_53178 a0 p1 M = some M') : zMet l yJ7_fill_53178 cJ7_fill_53178 4 none d g w (zin z) M0 [zr w a0, .int p1] M none M' :=
  met_v (by decide +kernel) (Nat.le_of_ble_eq_true rfl) (fun C hB0 hR => f_J7_fill_53178_ok ⟨hB0, hw⟩ h0 hd M hR _ h rfl)
/-! WindingSquare$Day.turnRound(II)V -/
noncomputable def j_X1_turnRound_65 (v1_65 : Int32) (v3_65 : Nat) (M : zM) : Option (zM) :=
  (f_X0_write 68 1 (1 : Int32) v1_65 (f_X9_at v3_65 M) M).bind fun M79 =>
  some M79
set_option maxRecDepth 100000 in
theorem j_X1_turnRound_65_ok {C : zC} {d : Nat} {g : zG} {l : Launch} {w : zW} {r : zM} {v1_65 : Int32} {v3_65 : Nat} (hB : bOK C cX1_turnRound 5 RX1 d g l w true) (hd : 2 ≤ d) (h_v3_65 : tO true 9 v3_65) (M : zM) (hR : RtV C cX1_turnRound w r) : Sg C w (0, 0) 65 [(0, zr w 83), (1, .int v1_65), (3, zr w v3_65)] [] M (j_X1_turnRound_65 v1_65 v3_65 M) (fun q => q = r) := by
  have hC := hB.1.1
  have hq1 : 1 ≤ d := by omega
  unfold j_X1_turnRound_65
  refine x_aload_n hC dX1_turnRound_65 rfl 0 rfl ?_
  refine r_getR hB dX1_turnRound_66 kf_X1_33 rfl th_83 rf_83_4 ?_
  refine x_aload_n hC dX1_turnRound_69 rfl 0 rfl ?_
  refine r_getR hB dX1_turnRound_70 kf_X1_25 rfl th_83 rf_83_2 ?_
  refine x_iconst (v := (1 : Int32)) hC dX1_turnRound_73 ki_1 ?_
  refine x_iload_n hC dX1_turnRound_74 rfl 1 rfl ?_
  refine x_aload_n hC dX1_turnRound_75 rfl 2 rfl ?_
  refine r_cV0 (as := []) (rest := [.int v1_65, .int (1 : Int32), zr w 1, zr w 68]) hB dX1_turnRound_76 kv_X1_67 h_v3_65 hq1 rfl rfl (Nat.le_of_ble_eq_true rfl) (f_X9_at_met hB.2 h_v3_65 (by omega)) ?_
  refine r_cVv (as := [zr w 1, .int (1 : Int32), .int v1_65, .int (f_X9_at v3_65 M)]) (rest := []) hB dX1_turnRound_79 kv_X1_76 th_68 hq1 rfl rfl (Nat.le_of_ble_eq_true rfl) (fun M' hv => f_X0_write_met hB.2 th_68 th_1 (by omega) hv) (fun M79 => ?_)
  exact r_retV hR dX1_turnRound_82 (fun h => h)
noncomputable def j_X1_turnRound_20 (v1_20 : Int32) (v2_20 : Int32) (v3_20 : Nat) (s0_20 : Int32) (M : zM) : Option (zM) :=
  (f_X9_face v3_20 v2_20 M).bind fun M24 =>
  nm (mset M24 v3_20 5 ((M24 v3_20 5) + s0_20)) fun M35 =>
  grd (inb (f_X9_at v3_20 M35) 144) (
  if (M35 3 (ix (f_X9_at v3_20 M35))) = (3 : Int32) then (nm (mset M35 v3_20 6 ((M35 v3_20 6) + s0_20)) fun M62 =>
  j_X1_turnRound_65 v1_20 v3_20 M62)
  else (j_X1_turnRound_65 v1_20 v3_20 M35))
set_option maxRecDepth 100000 in
theorem j_X1_turnRound_20_ok {C : zC} {d : Nat} {g : zG} {l : Launch} {w : zW} {r : zM} {v1_20 : Int32} {v2_20 : Int32} {v3_20 : Nat} {s0_20 : Int32} (hB : bOK C cX1_turnRound 5 RX1 d g l w true) (hd : 2 ≤ d) (h_v3_20 : tO true 9 v3_20) (M : zM) (hR : RtV C cX1_turnRound w r) : Sg C w (0, 0) 20 [(0, zr w 83), (1, .int v1_20), (2, .int v2_20), (3, zr w v3_20)] [.int s0_20] M (j_X1_turnRound_20 v1_20 v2_20 v3_20 s0_20 M) (fun q => q = r) := by
  have hC := hB.1.1
  have hq1 : 1 ≤ d := by omega
  unfold j_X1_turnRound_20
  refine x_istore (f := 0) hC dX1_turnRound_20 [(4, .int s0_20), (0, zr w 83), (1, .int v1_20), (2, .int v2_20), (3, zr w v3_20)] (by decide) rfl ?_
  refine x_aload_n hC dX1_turnRound_22 rfl 4 rfl ?_
  refine x_iload_n hC dX1_turnRound_23 rfl 3 rfl ?_
  refine r_cVv (as := [.int v2_20]) (rest := []) hB dX1_turnRound_24 kv_X1_58 h_v3_20 hq1 rfl rfl (Nat.le_of_ble_eq_true rfl) (fun M' hv => f_X9_face_met hB.2 h_v3_20 (by omega) hv) (fun M24 => ?_)
  refine x_aload_n hC dX1_turnRound_27 rfl 4 rfl ?_
  refine x_dup hC dX1_turnRound_28 rfl ?_
  refine r_getI hB dX1_turnRound_29 kf_X1_61 rfl h_v3_20 ?_
  refine x_iload hC dX1_turnRound_32 0 rfl ?_
  refine x_iadd hC dX1_turnRound_34 ?_
  refine r_putI hB dX1_turnRound_35 kf_X1_61 rfl h_v3_20 ?_
  refine x_mem (fun M35 => ?_)
  refine x_aload_n hC dX1_turnRound_38 rfl 1 rfl ?_
  refine r_getR hB dX1_turnRound_39 kf_X1_25 rfl th_83 rf_83_2 ?_
  refine r_getR hB dX1_turnRound_42 kf_X1_64 rfl th_1 rf_1_1 ?_
  refine x_aload_n hC dX1_turnRound_45 rfl 4 rfl ?_
  refine r_cV0 (as := []) (rest := [zr w 3]) hB dX1_turnRound_46 kv_X1_67 h_v3_20 hq1 rfl rfl (Nat.le_of_ble_eq_true rfl) (f_X9_at_met hB.2 h_v3_20 (by omega)) ?_
  refine r_iald hB dX1_turnRound_49 th_3 ?_
  refine x_iconst (v := (3 : Int32)) hC dX1_turnRound_50 ki_3 ?_
  refine x_icmp_ne (tgt := 65) hC dX1_turnRound_51 (by decide) ?_ ?_
  · refine x_aload_n hC dX1_turnRound_54 rfl 4 rfl ?_
    refine x_dup hC dX1_turnRound_55 rfl ?_
    refine r_getI hB dX1_turnRound_56 kf_X1_71 rfl h_v3_20 ?_
    refine x_iload hC dX1_turnRound_59 0 rfl ?_
    refine x_iadd hC dX1_turnRound_61 ?_
    refine r_putI hB dX1_turnRound_62 kf_X1_71 rfl h_v3_20 ?_
    refine x_mem (fun M62 => ?_)
    refine x_sub [1, 2, 4] rfl ?_
    exact j_X1_turnRound_65_ok hB hd h_v3_20 M62 hR
  · refine x_sub [1, 2, 4] rfl ?_
    exact j_X1_turnRound_65_ok hB hd h_v3_20 M35 hR
noncomputable def f_X1_turnRound (p1 : Int32) (p2 : Int32) (M : zM) : Option (zM) :=
  grd (inb p1 16) (
  if p2 = (2 : Int32) then (j_X1_turnRound_20 p1 p2 (1 + 3 + ix p1) (2 : Int32) M)
  else (j_X1_turnRound_20 p1 p2 (1 + 3 + ix p1) (1 : Int32) M))
set_option maxRecDepth 100000 in
theorem f_X1_turnRound_ok {C : zC} {d : Nat} {g : zG} {l : Launch} {w : zW} {r : zM} {p1 : Int32} {p2 : Int32} (hB : bOK C cX1_turnRound 5 RX1 d g l w true) (hd : 2 ≤ d) (M : zM) (hR : RtV C cX1_turnRound w r) : Sg C w (0, 0) 0 [(0, zr w 83), (1, .int p1), (2, .int p2)] [] M (f_X1_turnRound p1 p2 M) (fun q => q = r) := by
  have hC := hB.1.1
  have hq1 : 1 ≤ d := by omega
  unfold f_X1_turnRound
  refine x_aload_n hC dX1_turnRound_0 rfl 0 rfl ?_
  refine r_getR hB dX1_turnRound_1 kf_X1_25 rfl th_83 rf_83_2 ?_
  refine r_getR hB dX1_turnRound_4 kf_X1_43 rfl th_1 rf_1_0 ?_
  refine x_iload_n hC dX1_turnRound_7 rfl 1 rfl ?_
  refine r_aaW (a := 1) hB dX1_turnRound_8 th_1 (fun hg8 => ?_)
  refine x_astore_n hC dX1_turnRound_9 rfl [(3, zr w (1 + 3 + ix p1)), (0, zr w 83), (1, .int p1), (2, .int p2)] (by decide) rfl ?_
  refine x_iload_n hC dX1_turnRound_10 rfl 3 rfl ?_
  refine x_iconst (v := (2 : Int32)) hC dX1_turnRound_11 ki_2 ?_
  refine x_icmp_ne (tgt := 19) hC dX1_turnRound_12 (by decide) ?_ ?_
  · refine x_iconst (v := (2 : Int32)) hC dX1_turnRound_15 ki_2 ?_
    refine x_goto (tgt := 20) hC dX1_turnRound_16 (by decide) ?_
    refine x_sub [1, 2, 3, 0] rfl ?_
    exact j_X1_turnRound_20_ok hB hd (nv_wk th_1 hg8).2 M hR
  · refine x_iconst (v := (1 : Int32)) hC dX1_turnRound_19 ki_1 ?_
    refine x_sub [1, 2, 3, 0] rfl ?_
    exact j_X1_turnRound_20_ok hB hd (nv_wk th_1 hg8).2 M hR
theorem f_X1_turnRound_met {l : Launch} {d : Nat} {g : zG} {w : zW} {M0 : zM} {p1 : Int32} {p2 : Int32} {M : zM} (hw : wS w) (hd : 2 ≤ d) {M' : zM} (h : f_X1_turnRound p1 p2 M = some M') : zMet l yX1_turnRound cX1_turnRound 5 none d g w (zin true) M0 [zr w 83, .int p1, .int p2] M none M' :=
  met_v (by decide +kernel) (Nat.le_of_ble_eq_true rfl) (fun C hB0 hR => f_X1_turnRound_ok ⟨hB0, hw⟩ hd M hR _ h rfl)
/-! WindingSquare$Day.falls(I)Z -/
noncomputable def f_X1_falls (p1 : Int32) (M : zM) : Option (Int32 × zM) :=
  if (M 83 0) = 0 then (if p1 ≤ 0 then (some ((0 : Int32), M))
  else (bnd2 (f_X7_drawOf1000 1 M) fun u28 M28 =>
  if p1 ≤ u28 then (some ((0 : Int32), M28))
  else (some ((1 : Int32), M28))))
  else (if p1 < (500 : Int32) then (some ((0 : Int32), M))
  else (some ((1 : Int32), M)))
set_option maxRecDepth 100000 in
theorem f_X1_falls_ok {C : zC} {d : Nat} {g : zG} {l : Launch} {w : zW} {r : Int32 × zM} {p1 : Int32} (hB : bOK C cX1_falls 2 RX1 d g l w true) (hd : 2 ≤ d) (M : zM) (hR : RtZ C cX1_falls w r.1 r.2) : Sg C w (0, 0) 0 [(0, zr w 83), (1, .int p1)] [] M (f_X1_falls p1 M) (fun q => q = r) := by
  have hC := hB.1.1
  have hq1 : 1 ≤ d := by omega
  unfold f_X1_falls
  refine x_aload_n hC dX1_falls_0 rfl 0 rfl ?_
  refine r_getI hB dX1_falls_1 kf_X1_175 rfl th_83 ?_
  refine x_if_eq (tgt := 20) hC dX1_falls_4 (by decide) ?_ ?_
  · refine x_iload_n hC dX1_falls_20 rfl 1 rfl ?_
    refine x_if_le (tgt := 39) hC dX1_falls_21 (by decide) ?_ ?_
    · refine x_iconst (v := (0 : Int32)) hC dX1_falls_39 ki_0 ?_
      exact r_retZ hR dX1_falls_40 (Or.inl rfl) (fun h => h)
    · refine x_aload_n hC dX1_falls_24 rfl 0 rfl ?_
      refine r_getR hB dX1_falls_25 kf_X1_25 rfl th_83 rf_83_2 ?_
      refine r_cV2 (as := []) (rest := []) hB dX1_falls_28 kv_X1_178 th_1 hq1 rfl rfl (Nat.le_of_ble_eq_true rfl) (fun v M' hv => f_X7_drawOf1000_met hB.2 th_1 (by omega) hv) (fun u28 M28 => ?_)
      refine x_iload_n hC dX1_falls_31 rfl 1 rfl ?_
      refine x_icmp_ge (tgt := 39) hC dX1_falls_32 (by decide) ?_ ?_
      · refine x_iconst (v := (0 : Int32)) hC dX1_falls_39 ki_0 ?_
        exact r_retZ hR dX1_falls_40 (Or.inl rfl) (fun h => h)
      · refine x_iconst (v := (1 : Int32)) hC dX1_falls_35 ki_1 ?_
        refine x_goto (tgt := 40) hC dX1_falls_36 (by decide) ?_
        exact r_retZ hR dX1_falls_40 (Or.inr rfl) (fun h => h)
  · refine x_iload_n hC dX1_falls_7 rfl 1 rfl ?_
    refine x_sipush (v := (500 : Int32)) hC dX1_falls_8 kh_500 ?_
    refine x_icmp_lt (tgt := 18) hC dX1_falls_11 (by decide) ?_ ?_
    · refine x_iconst (v := (0 : Int32)) hC dX1_falls_18 ki_0 ?_
      exact r_retZ hR dX1_falls_19 (Or.inl rfl) (fun h => h)
    · refine x_iconst (v := (1 : Int32)) hC dX1_falls_14 ki_1 ?_
      refine x_goto (tgt := 19) hC dX1_falls_15 (by decide) ?_
      exact r_retZ hR dX1_falls_19 (Or.inr rfl) (fun h => h)
theorem f_X1_falls_met {l : Launch} {d : Nat} {g : zG} {w : zW} {M0 : zM} {p1 : Int32} {M : zM} (hw : wS w) (hd : 2 ≤ d) {v : Int32} {M' : zM} (h : f_X1_falls p1 M = some (v, M')) : zMet l yX1_falls cX1_falls 2 (some .boolean) d g w (zin true) M0 [zr w 83, .int p1] M (some (.int v)) M' :=
  met_z (by decide +kernel) (Nat.le_of_ble_eq_true rfl) (fun C hB0 hR => f_X1_falls_ok (r := (v, M')) ⟨hB0, hw⟩ hd M hR _ h rfl)
/-! WindingSquare$Grid.free(I)Z -/
noncomputable def f_X2_free (p1 : Int32) (M : zM) : Option (Int32) :=
  if (f_X10_isCell p1) = 0 then (some (0 : Int32))
  else (grd (inb p1 144) (
  if (M 3 (ix p1)) = (1 : Int32) then (some (0 : Int32))
  else (some (1 : Int32))))
set_option maxRecDepth 100000 in
theorem f_X2_free_ok {C : zC} {d : Nat} {g : zG} {l : Launch} {w : zW} {r : Int32} {p1 : Int32} (hB : bOK C cX2_free 2 RX2 d g l w true) (hd : 2 ≤ d) (M : zM) (hR : RtZ C cX2_free w r M) : Sg C w (0, 0) 0 [(0, zr w 87), (1, .int p1)] [] M (f_X2_free p1 M) (fun q => q = r) := by
  have hC := hB.1.1
  have hq1 : 1 ≤ d := by omega
  unfold f_X2_free
  refine x_iload_n hC dX2_free_0 rfl 1 rfl ?_
  refine r_cN0 (as := [.int p1]) (rest := []) hB dX2_free_1 kn_X2_36 hq1 rfl rfl (Nat.le_of_ble_eq_true rfl) (f_X10_isCell_met hB.2 (by omega)) ?_
  refine x_if_eq (tgt := 21) hC dX2_free_4 (by decide) ?_ ?_
  · refine x_iconst (v := (0 : Int32)) hC dX2_free_21 ki_0 ?_
    exact r_retZ hR dX2_free_22 (Or.inl rfl) (fun h => congrArg (fun q => (q, M)) h)
  · refine x_aload_n hC dX2_free_7 rfl 0 rfl ?_
    refine r_getR hB dX2_free_8 kf_X2_33 rfl th_87 rf_87_0 ?_
    refine x_iload_n hC dX2_free_11 rfl 1 rfl ?_
    refine r_iald hB dX2_free_12 th_3 ?_
    refine x_iconst (v := (1 : Int32)) hC dX2_free_13 ki_1 ?_
    refine x_icmp_eq (tgt := 21) hC dX2_free_14 (by decide) ?_ ?_
    · refine x_iconst (v := (0 : Int32)) hC dX2_free_21 ki_0 ?_
      exact r_retZ hR dX2_free_22 (Or.inl rfl) (fun h => congrArg (fun q => (q, M)) h)
    · refine x_iconst (v := (1 : Int32)) hC dX2_free_17 ki_1 ?_
      refine x_goto (tgt := 22) hC dX2_free_18 (by decide) ?_
      exact r_retZ hR dX2_free_22 (Or.inr rfl) (fun h => congrArg (fun q => (q, M)) h)
theorem f_X2_free_met {l : Launch} {d : Nat} {g : zG} {w : zW} {M0 : zM} {p1 : Int32} {M : zM} (hw : wS w) (hd : 2 ≤ d) {v : Int32} (h : f_X2_free p1 M = some v) : zMet l yX2_free cX2_free 2 (some .boolean) d g w (zin true) M0 [zr w 87, .int p1] M (some (.int v)) M :=
  met_z (by decide +kernel) (Nat.le_of_ble_eq_true rfl) (fun C hB0 hR => f_X2_free_ok ⟨hB0, hw⟩ hd M hR _ h rfl)
/-! WindingSquare$Grid.onward(II)I -/
noncomputable def f_X2_onward (p1 : Int32) (p2 : Int32) (M : zM) : Option (Int32) :=
  grd (inb (p2 &&& (3 : Int32)) 4) (
  nm ((irem p1 (12 : Int32)) + (zsV 0 (ix (p2 &&& (3 : Int32))))) fun v3_12 =>
  grd (inb (p2 &&& (3 : Int32)) 4) (
  nm ((p1 / (12 : Int32)) + (zsV 1 (ix (p2 &&& (3 : Int32))))) fun v4_25 =>
  if (f_X10_inRow v3_12) = 0 then (some (-1 : Int32))
  else (if (f_X10_inRow v4_25) = 0 then (some (-1 : Int32))
  else (nm (((12 : Int32) * v4_25) + v3_12) fun v5_51 =>
  grd (inb v5_51 144) (
  if (M 3 (ix v5_51)) = (1 : Int32) then (some (-1 : Int32))
  else (some v5_51))))))
set_option maxRecDepth 100000 in
theorem f_X2_onward_ok {C : zC} {d : Nat} {g : zG} {l : Launch} {w : zW} {r : Int32} {p1 : Int32} {p2 : Int32} (hB : bOK C cX2_onward 6 RX2 d g l w true) (hd : 2 ≤ d) (M : zM) (hR : RtI C cX2_onward w r M) : Sg C w (0, 0) 0 [(0, zr w 87), (1, .int p1), (2, .int p2)] [] M (f_X2_onward p1 p2 M) (fun q => q = r) := by
  have hC := hB.1.1
  have hq1 : 1 ≤ d := by omega
  unfold f_X2_onward
  refine x_iload_n hC dX2_onward_0 rfl 1 rfl ?_
  refine x_bipush (v := (12 : Int32)) hC dX2_onward_1 kb_12 ?_
  refine x_irem0 hC dX2_onward_3 nz_12 ?_
  refine r_getsN (k0 := 0) hB dX2_onward_4 (by decide) ng_X2_94 ?_
  refine x_iload_n hC dX2_onward_7 rfl 2 rfl ?_
  refine x_iconst (v := (3 : Int32)) hC dX2_onward_8 ki_3 ?_
  refine x_iand hC dX2_onward_9 ?_
  refine r_stld hB dX2_onward_10 (by decide) ?_
  refine x_iadd hC dX2_onward_11 ?_
  refine x_top (fun v3_12 => ?_)
  refine x_istore_n hC dX2_onward_12 rfl [(3, .int v3_12), (0, zr w 87), (1, .int p1), (2, .int p2)] (by decide) rfl ?_
  refine x_iload_n hC dX2_onward_13 rfl 2 rfl ?_
  refine x_bipush (v := (12 : Int32)) hC dX2_onward_14 kb_12 ?_
  refine x_idiv0 hC dX2_onward_16 nz_12 ?_
  refine r_getsN (k0 := 1) hB dX2_onward_17 (by decide) ng_X2_97 ?_
  refine x_iload_n hC dX2_onward_20 rfl 3 rfl ?_
  refine x_iconst (v := (3 : Int32)) hC dX2_onward_21 ki_3 ?_
  refine x_iand hC dX2_onward_22 ?_
  refine r_stld hB dX2_onward_23 (by decide) ?_
  refine x_iadd hC dX2_onward_24 ?_
  refine x_top (fun v4_25 => ?_)
  refine x_istore (f := 0) hC dX2_onward_25 [(4, .int v4_25), (3, .int v3_12), (0, zr w 87), (1, .int p1), (2, .int p2)] (by decide) rfl ?_
  refine x_iload_n hC dX2_onward_27 rfl 1 rfl ?_
  refine r_cN0 (as := [.int v3_12]) (rest := []) hB dX2_onward_28 kn_X2_100 hq1 rfl rfl (Nat.le_of_ble_eq_true rfl) (f_X10_inRow_met hB.2 (by omega)) ?_
  refine x_if_eq (tgt := 42) hC dX2_onward_31 (by decide) ?_ ?_
  · refine x_iconst (v := (-1 : Int32)) hC dX2_onward_42 ki_m1 ?_
    exact r_retI hR dX2_onward_43 (fun h => congrArg (fun q => (q, M)) h)
  · refine x_iload hC dX2_onward_34 0 rfl ?_
    refine r_cN0 (as := [.int v4_25]) (rest := []) hB dX2_onward_36 kn_X2_100 hq1 rfl rfl (Nat.le_of_ble_eq_true rfl) (f_X10_inRow_met hB.2 (by omega)) ?_
    refine x_if_ne (tgt := 44) hC dX2_onward_39 (by decide) ?_ ?_
    · refine x_iconst (v := (-1 : Int32)) hC dX2_onward_42 ki_m1 ?_
      exact r_retI hR dX2_onward_43 (fun h => congrArg (fun q => (q, M)) h)
    · refine x_bipush (v := (12 : Int32)) hC dX2_onward_44 kb_12 ?_
      refine x_iload hC dX2_onward_46 0 rfl ?_
      refine x_imul hC dX2_onward_48 ?_
      refine x_iload_n hC dX2_onward_49 rfl 1 rfl ?_
      refine x_iadd hC dX2_onward_50 ?_
      refine x_top (fun v5_51 => ?_)
      refine x_istore (f := 0) hC dX2_onward_51 [(5, .int v5_51), (4, .int v4_25), (3, .int v3_12), (0, zr w 87), (1, .int p1), (2, .int p2)] (by decide) rfl ?_
      refine x_aload_n hC dX2_onward_53 rfl 3 rfl ?_
      refine r_getR hB dX2_onward_54 kf_X2_33 rfl th_87 rf_87_0 ?_
      refine x_iload hC dX2_onward_57 0 rfl ?_
      refine r_iald hB dX2_onward_59 th_3 ?_
      refine x_iconst (v := (1 : Int32)) hC dX2_onward_60 ki_1 ?_
      refine x_icmp_ne (tgt := 68) hC dX2_onward_61 (by decide) ?_ ?_
      · refine x_iconst (v := (-1 : Int32)) hC dX2_onward_64 ki_m1 ?_
        refine x_goto (tgt := 70) hC dX2_onward_65 (by decide) ?_
        exact r_retI hR dX2_onward_70 (fun h => congrArg (fun q => (q, M)) h)
      · refine x_iload hC dX2_onward_68 0 rfl ?_
        exact r_retI hR dX2_onward_70 (fun h => congrArg (fun q => (q, M)) h)
theorem f_X2_onward_met {l : Launch} {d : Nat} {g : zG} {w : zW} {M0 : zM} {p1 : Int32} {p2 : Int32} {M : zM} (hw : wS w) (hd : 2 ≤ d) {v : Int32} (h : f_X2_onward p1 p2 M = some v) : zMet l yX2_onward cX2_onward 6 (some .int) d g w (zin true) M0 [zr w 87, .int p1, .int p2] M (some (.int v)) M :=
  met_i (by decide +kernel) (Nat.le_of_ble_eq_true rfl) rfl (fun C hB0 hR => f_X2_onward_ok ⟨hB0, hw⟩ hd M hR _ h rfl)
/-! WindingSquare$Grid.turnAt(II)V -/
noncomputable def b_X2_turnAt_18 (v1_18 : Int32) (v2_18 : Int32) (v3_18 : Int32) (M : zM) : Option ((Int32 × zM) ⊕ (zM)) :=
  if ((4 : Int32) * (v2_18 + (1 : Int32))) ≤ v3_18 then (some (.inr M))
  else (nm (irem v3_18 (4 : Int32)) fun v4_30_18 =>
  nm (v3_18 / (4 : Int32)) fun v5_35_18 =>
  nm ((v4_30_18 + v5_35_18) &&& (3 : Int32)) fun v6_44_18 =>
  nm ((v4_30_18 - v5_35_18) &&& (3 : Int32)) fun v7_53_18 =>
  grd (inb (((144 : Int32) * v3_18) + v1_18) 4032) (
  nm (M 92 (ix (((144 : Int32) * v3_18) + v1_18))) fun v8_67_18 =>
  grd (inb v6_44_18 4) (
  grd (inb v7_53_18 4) (
  grd (inb (((144 : Int32) * v3_18) + v1_18) 4032) (
  nm (mset M 91 (ix (((144 : Int32) * v3_18) + v1_18)) (f_X2_plus v8_67_18 (f_X2_plus (M 93 (ix v6_44_18)) (M 94 (ix v7_53_18))))) fun M102_18 =>
  grd (inb v6_44_18 4) (
  grd (inb v6_44_18 4) (
  nm (mset M102_18 93 (ix v6_44_18) (f_X2_plus (M102_18 93 (ix v6_44_18)) v8_67_18)) fun M121_18 =>
  grd (inb v7_53_18 4) (
  grd (inb v7_53_18 4) (
  nm (mset M121_18 94 (ix v7_53_18) (f_X2_plus (M121_18 94 (ix v7_53_18)) v8_67_18)) fun M140_18 =>
  some (.inl ((v3_18 + (1 : Int32)), M140_18)))))))))))
set_option maxRecDepth 100000 in
theorem b_X2_turnAt_18_ok {C : zC} {d : Nat} {g : zG} {l : Launch} {w : zW} {r : zM} {v1_18 : Int32} {v2_18 : Int32} {v3_18 : Int32} (hB : bOK C cX2_turnAt 9 RX2 d g l w true) (hd : 2 ≤ d) (M : zM) (hR : RtV C cX2_turnAt w r) : Sg C w (0, 0) 18 [(0, zr w 87), (1, .int v1_18), (2, .int v2_18), (3, .int v3_18)] [] M (b_X2_turnAt_18 v1_18 v2_18 v3_18 M) (fun o => Sum.elim (fun (s : (Int32 × zM)) => Zs C w (0, 0) 18 [(0, zr w 87), (1, .int v1_18), (2, .int v2_18), (3, .int s.1)] [] s.2) (fun (s : (zM)) => Zs C w (0, 0) 147 [] [] s) o) := by
  have hC := hB.1.1
  have hq1 : 1 ≤ d := by omega
  unfold b_X2_turnAt_18
  refine x_iload_n hC dX2_turnAt_18 rfl 3 rfl ?_
  refine x_iconst (v := (4 : Int32)) hC dX2_turnAt_19 ki_4 ?_
  refine x_iload_n hC dX2_turnAt_20 rfl 2 rfl ?_
  refine x_iconst (v := (1 : Int32)) hC dX2_turnAt_21 ki_1 ?_
  refine x_iadd hC dX2_turnAt_22 ?_
  refine x_imul hC dX2_turnAt_23 ?_
  refine x_icmp_ge (tgt := 147) hC dX2_turnAt_24 (by decide) ?_ ?_
  · refine x_sub [] rfl ?_
    exact x_done (fun h => h)
  · refine x_iload_n hC dX2_turnAt_27 rfl 3 rfl ?_
    refine x_iconst (v := (4 : Int32)) hC dX2_turnAt_28 ki_4 ?_
    refine x_irem0 hC dX2_turnAt_29 nz_4 ?_
    refine x_top (fun v4_30_18 => ?_)
    refine x_istore (f := 0) hC dX2_turnAt_30 [(4, .int v4_30_18), (0, zr w 87), (1, .int v1_18), (2, .int v2_18), (3, .int v3_18)] (by decide) rfl ?_
    refine x_iload_n hC dX2_turnAt_32 rfl 4 rfl ?_
    refine x_iconst (v := (4 : Int32)) hC dX2_turnAt_33 ki_4 ?_
    refine x_idiv0 hC dX2_turnAt_34 nz_4 ?_
    refine x_top (fun v5_35_18 => ?_)
    refine x_istore (f := 0) hC dX2_turnAt_35 [(5, .int v5_35_18), (4, .int v4_30_18), (0, zr w 87), (1, .int v1_18), (2, .int v2_18), (3, .int v3_18)] (by decide) rfl ?_
    refine x_iload hC dX2_turnAt_37 1 rfl ?_
    refine x_iload hC dX2_turnAt_39 0 rfl ?_
    refine x_iadd hC dX2_turnAt_41 ?_
    refine x_iconst (v := (3 : Int32)) hC dX2_turnAt_42 ki_3 ?_
    refine x_iand hC dX2_turnAt_43 ?_
    refine x_top (fun v6_44_18 => ?_)
    refine x_istore (f := 0) hC dX2_turnAt_44 [(6, .int v6_44_18), (5, .int v5_35_18), (4, .int v4_30_18), (0, zr w 87), (1, .int v1_18), (2, .int v2_18), (3, .int v3_18)] (by decide) rfl ?_
    refine x_iload hC dX2_turnAt_46 2 rfl ?_
    refine x_iload hC dX2_turnAt_48 1 rfl ?_
    refine x_isub hC dX2_turnAt_50 ?_
    refine x_iconst (v := (3 : Int32)) hC dX2_turnAt_51 ki_3 ?_
    refine x_iand hC dX2_turnAt_52 ?_
    refine x_top (fun v7_53_18 => ?_)
    refine x_istore (f := 0) hC dX2_turnAt_53 [(7, .int v7_53_18), (6, .int v6_44_18), (5, .int v5_35_18), (4, .int v4_30_18), (0, zr w 87), (1, .int v1_18), (2, .int v2_18), (3, .int v3_18)] (by decide) rfl ?_
    refine x_aload_n hC dX2_turnAt_55 rfl 4 rfl ?_
    refine r_getR hB dX2_turnAt_56 kf_X2_24 rfl th_87 rf_87_5 ?_
    refine x_sipush (v := (144 : Int32)) hC dX2_turnAt_59 kh_144 ?_
    refine x_iload_n hC dX2_turnAt_62 rfl 7 rfl ?_
    refine x_imul hC dX2_turnAt_63 ?_
    refine x_iload_n hC dX2_turnAt_64 rfl 5 rfl ?_
    refine x_iadd hC dX2_turnAt_65 ?_
    refine r_iald hB dX2_turnAt_66 th_92 ?_
    refine x_top (fun v8_67_18 => ?_)
    refine x_istore (f := 0) hC dX2_turnAt_67 [(8, .int v8_67_18), (7, .int v7_53_18), (6, .int v6_44_18), (5, .int v5_35_18), (4, .int v4_30_18), (0, zr w 87), (1, .int v1_18), (2, .int v2_18), (3, .int v3_18)] (by decide) rfl ?_
    refine x_aload_n hC dX2_turnAt_69 rfl 5 rfl ?_
    refine r_getR hB dX2_turnAt_70 kf_X2_21 rfl th_87 rf_87_4 ?_
    refine x_sipush (v := (144 : Int32)) hC dX2_turnAt_73 kh_144 ?_
    refine x_iload_n hC dX2_turnAt_76 rfl 8 rfl ?_
    refine x_imul hC dX2_turnAt_77 ?_
    refine x_iload_n hC dX2_turnAt_78 rfl 6 rfl ?_
    refine x_iadd hC dX2_turnAt_79 ?_
    refine x_iload hC dX2_turnAt_80 0 rfl ?_
    refine x_aload_n hC dX2_turnAt_82 rfl 5 rfl ?_
    refine r_getR hB dX2_turnAt_83 kf_X2_27 rfl th_87 rf_87_6 ?_
    refine x_iload hC dX2_turnAt_86 2 rfl ?_
    refine r_iald hB dX2_turnAt_88 th_93 ?_
    refine x_aload_n hC dX2_turnAt_89 rfl 5 rfl ?_
    refine r_getR hB dX2_turnAt_90 kf_X2_30 rfl th_87 rf_87_7 ?_
    refine x_iload hC dX2_turnAt_93 1 rfl ?_
    refine r_iald hB dX2_turnAt_95 th_94 ?_
    refine r_cS0 (as := [.int (M 93 (ix v6_44_18)), .int (M 94 (ix v7_53_18))]) (rest := [.int v8_67_18, .int (((144 : Int32) * v3_18) + v1_18), zr w 91]) hB dX2_turnAt_96 ks_X2_69 hq1 rfl rfl (Nat.le_of_ble_eq_true rfl) (f_X2_plus_met hB.2 (by omega)) ?_
    refine r_cS0 (as := [.int v8_67_18, .int (f_X2_plus (M 93 (ix v6_44_18)) (M 94 (ix v7_53_18)))]) (rest := [.int (((144 : Int32) * v3_18) + v1_18), zr w 91]) hB dX2_turnAt_99 ks_X2_69 hq1 rfl rfl (Nat.le_of_ble_eq_true rfl) (f_X2_plus_met hB.2 (by omega)) ?_
    refine r_iast hB dX2_turnAt_102 th_91 ?_
    refine x_mem (fun M102_18 => ?_)
    refine x_aload_n hC dX2_turnAt_103 rfl 5 rfl ?_
    refine r_getR hB dX2_turnAt_104 kf_X2_27 rfl th_87 rf_87_6 ?_
    refine x_iload hC dX2_turnAt_107 2 rfl ?_
    refine x_aload_n hC dX2_turnAt_109 rfl 5 rfl ?_
    refine r_getR hB dX2_turnAt_110 kf_X2_27 rfl th_87 rf_87_6 ?_
    refine x_iload hC dX2_turnAt_113 2 rfl ?_
    refine r_iald hB dX2_turnAt_115 th_93 ?_
    refine x_iload hC dX2_turnAt_116 0 rfl ?_
    refine r_cS0 (as := [.int (M102_18 93 (ix v6_44_18)), .int v8_67_18]) (rest := [.int v6_44_18, zr w 93]) hB dX2_turnAt_118 ks_X2_69 hq1 rfl rfl (Nat.le_of_ble_eq_true rfl) (f_X2_plus_met hB.2 (by omega)) ?_
    refine r_iast hB dX2_turnAt_121 th_93 ?_
    refine x_mem (fun M121_18 => ?_)
    refine x_aload_n hC dX2_turnAt_122 rfl 5 rfl ?_
    refine r_getR hB dX2_turnAt_123 kf_X2_30 rfl th_87 rf_87_7 ?_
    refine x_iload hC dX2_turnAt_126 1 rfl ?_
    refine x_aload_n hC dX2_turnAt_128 rfl 5 rfl ?_
    refine r_getR hB dX2_turnAt_129 kf_X2_30 rfl th_87 rf_87_7 ?_
    refine x_iload hC dX2_turnAt_132 1 rfl ?_
    refine r_iald hB dX2_turnAt_134 th_94 ?_
    refine x_iload hC dX2_turnAt_135 0 rfl ?_
    refine r_cS0 (as := [.int (M121_18 94 (ix v7_53_18)), .int v8_67_18]) (rest := [.int v7_53_18, zr w 94]) hB dX2_turnAt_137 ks_X2_69 hq1 rfl rfl (Nat.le_of_ble_eq_true rfl) (f_X2_plus_met hB.2 (by omega)) ?_
    refine r_iast hB dX2_turnAt_140 th_94 ?_
    refine x_mem (fun M140_18 => ?_)
    refine x_iinc hC dX2_turnAt_141 ki_1 [(3, .int (v3_18 + (1 : Int32))), (8, .int v8_67_18), (7, .int v7_53_18), (6, .int v6_44_18), (5, .int v5_35_18), (4, .int v4_30_18), (0, zr w 87), (1, .int v1_18), (2, .int v2_18)] 8 rfl (by decide) rfl ?_
    refine x_goto (tgt := 18) hC dX2_turnAt_144 (by decide) ?_
    refine x_sub [6, 7, 8, 0] rfl ?_
    exact x_done (fun h => h)
noncomputable def j_X2_turnAt_147 (M : zM) : Option (zM) :=
  some M
set_option maxRecDepth 100000 in
theorem j_X2_turnAt_147_ok {C : zC} {d : Nat} {g : zG} {l : Launch} {w : zW} {r : zM} (hB : bOK C cX2_turnAt 9 RX2 d g l w true) (hd : 2 ≤ d) (M : zM) (hR : RtV C cX2_turnAt w r) : Sg C w (0, 0) 147 [] [] M (j_X2_turnAt_147 M) (fun q => q = r) := by
  have hC := hB.1.1
  have hq1 : 1 ≤ d := by omega
  unfold j_X2_turnAt_147
  exact r_retV hR dX2_turnAt_147 (fun h => h)
noncomputable def f_X2_turnAt (p1 : Int32) (p2 : Int32) (M : zM) : Option (zM) :=
  (f_J7_fill_53178 93 (0 : Int32) M).bind fun M5 =>
  (f_J7_fill_53178 94 (0 : Int32) M5).bind fun M13 =>
  (loopW (fun s => b_X2_turnAt_18 p1 p2 s.1 s.2) ((0 : Int32), M13)).bind (fun r => j_X2_turnAt_147 r)
set_option maxRecDepth 100000 in
theorem f_X2_turnAt_ok {C : zC} {d : Nat} {g : zG} {l : Launch} {w : zW} {r : zM} {p1 : Int32} {p2 : Int32} (hB : bOK C cX2_turnAt 9 RX2 d g l w true) (hd : 2 ≤ d) (M : zM) (hR : RtV C cX2_turnAt w r) : Sg C w (0, 0) 0 [(0, zr w 87), (1, .int p1), (2, .int p2)] [] M (f_X2_turnAt p1 p2 M) (fun q => q = r) := by
  have hC := hB.1.1
  have hq1 : 1 ≤ d := by omega
  unfold f_X2_turnAt
  refine x_aload_n hC dX2_turnAt_0 rfl 0 rfl ?_
  refine r_getR hB dX2_turnAt_1 kf_X2_27 rfl th_87 rf_87_6 ?_
  refine x_iconst (v := (0 : Int32)) hC dX2_turnAt_4 ki_0 ?_
  refine r_cSv (as := [zr w 93, .int (0 : Int32)]) (rest := []) hB dX2_turnAt_5 ks_X2_40 hq1 rfl rfl (Nat.le_of_ble_eq_true rfl) (fun M' hv => f_J7_fill_53178_met hB.2 (tA.toI th_93) (by omega) hv) (fun M5 => ?_)
  refine x_aload_n hC dX2_turnAt_8 rfl 0 rfl ?_
  refine r_getR hB dX2_turnAt_9 kf_X2_30 rfl th_87 rf_87_7 ?_
  refine x_iconst (v := (0 : Int32)) hC dX2_turnAt_12 ki_0 ?_
  refine r_cSv (as := [zr w 94, .int (0 : Int32)]) (rest := []) hB dX2_turnAt_13 ks_X2_40 hq1 rfl rfl (Nat.le_of_ble_eq_true rfl) (fun M' hv => f_J7_fill_53178_met hB.2 (tA.toI th_94) (by omega) hv) (fun M13 => ?_)
  refine x_iconst (v := (0 : Int32)) hC dX2_turnAt_16 ki_0 ?_
  refine x_istore_n hC dX2_turnAt_17 rfl [(3, .int (0 : Int32)), (0, zr w 87), (1, .int p1), (2, .int p2)] (by decide) rfl ?_
  refine x_sub [1, 2, 3, 0] rfl ?_
  refine x_loopB (pc2 := 147) (fun (s : (Int32 × zM)) => [(0, zr w 87), (1, .int p1), (2, .int p2), (3, .int s.1)]) (fun (s : (Int32 × zM)) => s.2) (fun (s : (zM)) => []) (fun (s : (zM)) => s) ((0 : Int32), M13) ?_ ?_
  · exact fun s => b_X2_turnAt_18_ok hB hd s.2 hR
  · intro r9
    exact j_X2_turnAt_147_ok hB hd r9 hR
theorem f_X2_turnAt_met {l : Launch} {d : Nat} {g : zG} {w : zW} {M0 : zM} {p1 : Int32} {p2 : Int32} {M : zM} (hw : wS w) (hd : 2 ≤ d) {M' : zM} (h : f_X2_turnAt p1 p2 M = some M') : zMet l yX2_turnAt cX2_turnAt 9 none d g w (zin true) M0 [zr w 87, .int p1, .int p2] M none M' :=
  met_v (by decide +kernel) (Nat.le_of_ble_eq_true rfl) (fun C hB0 hR => f_X2_turnAt_ok ⟨hB0, hw⟩ hd M hR _ h rfl)
/-! WindingSquare$Grid.nearest(II)I -/
noncomputable def f_X2_nearest (p0 : Int32) (p1 : Int32) : Option (Int32) :=
  if 0 < p1 then ((f_J9_floorDiv_7cf53 (((2 : Int32) * p0) + p1) ((2 : Int32) * p1)).bind fun u16 =>
  some u16)
  else (some (0 : Int32))
set_option maxRecDepth 100000 in
theorem f_X2_nearest_ok {C : zC} {d : Nat} {g : zG} {l : Launch} {w : zW} {r : Int32} {p0 : Int32} {p1 : Int32} (hB : bOK C cX2_nearest 2 RX2 d g l w true) (hd : 2 ≤ d) (M : zM) (hR : RtI C cX2_nearest w r M) : Sg C w (0, 0) 0 [(0, .int p0), (1, .int p1)] [] M (f_X2_nearest p0 p1) (fun q => q = r) := by
  have hC := hB.1.1
  have hq1 : 1 ≤ d := by omega
  unfold f_X2_nearest
  refine x_iload_n hC dX2_nearest_0 rfl 1 rfl ?_
  refine x_if_gt (tgt := 8) hC dX2_nearest_1 (by decide) ?_ ?_
  · refine x_iconst (v := (2 : Int32)) hC dX2_nearest_8 ki_2 ?_
    refine x_iload_n hC dX2_nearest_9 rfl 0 rfl ?_
    refine x_imul hC dX2_nearest_10 ?_
    refine x_iload_n hC dX2_nearest_11 rfl 1 rfl ?_
    refine x_iadd hC dX2_nearest_12 ?_
    refine x_iconst (v := (2 : Int32)) hC dX2_nearest_13 ki_2 ?_
    refine x_iload_n hC dX2_nearest_14 rfl 1 rfl ?_
    refine x_imul hC dX2_nearest_15 ?_
    refine r_cS1 (as := [.int (((2 : Int32) * p0) + p1), .int ((2 : Int32) * p1)]) (rest := []) hB dX2_nearest_16 ks_X2_114 hq1 rfl rfl (Nat.le_of_ble_eq_true rfl) (fun v hv => f_J9_floorDiv_7cf53_met hB.2 (by omega) hv) (fun u16 => ?_)
    exact r_retI hR dX2_nearest_19 (fun h => congrArg (fun q => (q, M)) h)
  · refine x_iconst (v := (0 : Int32)) hC dX2_nearest_4 ki_0 ?_
    refine x_goto (tgt := 19) hC dX2_nearest_5 (by decide) ?_
    exact r_retI hR dX2_nearest_19 (fun h => congrArg (fun q => (q, M)) h)
theorem f_X2_nearest_met {l : Launch} {d : Nat} {g : zG} {w : zW} {M0 : zM} {p0 : Int32} {p1 : Int32} {M : zM} (hw : wS w) (hd : 2 ≤ d) {v : Int32} (h : f_X2_nearest p0 p1 = some v) : zMet l yX2_nearest cX2_nearest 2 (some .int) d g w (zin true) M0 [.int p0, .int p1] M (some (.int v)) M :=
  met_i (by decide +kernel) (Nat.le_of_ble_eq_true rfl) rfl (fun C hB0 hR => f_X2_nearest_ok ⟨hB0, hw⟩ hd M hR _ h rfl)
/-! WindingSquare$Grid.cheapestBeside(I)I -/
noncomputable def b_X2_cheapestBeside_47_29 (v2_29 : Int32) (v3_29 : Int32) (v5_47_29 : Int32) (v4_47_29 : Int32) (v6_47_29 : Int32) (M : zM) : Option ((Int32 × Int32) ⊕ (Int32)) :=
  if (f_J9_min_7cf53 (11 : Int32) (v2_29 + (1 : Int32))) < v6_47_29 then (some (.inr v4_47_29))
  else (grd (inb (((12 : Int32) * v5_47_29) + v6_47_29) 576) (
  nm (f_J9_min_7cf53 v4_47_29 (M 88 (ix (((12 : Int32) * v5_47_29) + v6_47_29)))) fun v4_78_29_47 =>
  some (.inl (v4_78_29_47, (v6_47_29 + (1 : Int32))))))
set_option maxRecDepth 100000 in
theorem b_X2_cheapestBeside_47_29_ok {C : zC} {d : Nat} {g : zG} {l : Launch} {w : zW} {r : Int32} {v2_29 : Int32} {v3_29 : Int32} {v5_47_29 : Int32} {v4_47_29 : Int32} {v6_47_29 : Int32} (hB : bOK C cX2_cheapestBeside 7 RX2 d g l w true) (hd : 2 ≤ d) (M : zM) (hR : RtI C cX2_cheapestBeside w r M) : Sg C w (0, 0) 47 [(0, zr w 87), (2, .int v2_29), (3, .int v3_29), (4, .int v4_47_29), (5, .int v5_47_29), (6, .int v6_47_29)] [] M (b_X2_cheapestBeside_47_29 v2_29 v3_29 v5_47_29 v4_47_29 v6_47_29 M) (fun o => Sum.elim (fun (s : (Int32 × Int32)) => Zs C w (0, 0) 47 [(0, zr w 87), (2, .int v2_29), (3, .int v3_29), (4, .int s.1), (5, .int v5_47_29), (6, .int s.2)] [] M) (fun (s : (Int32)) => Zs C w (0, 0) 86 [(0, zr w 87), (2, .int v2_29), (3, .int v3_29), (4, .int s), (5, .int v5_47_29)] [] M) o) := by
  have hC := hB.1.1
  have hq1 : 1 ≤ d := by omega
  unfold b_X2_cheapestBeside_47_29
  refine x_iload hC dX2_cheapestBeside_47 5 rfl ?_
  refine x_bipush (v := (11 : Int32)) hC dX2_cheapestBeside_49 kb_11 ?_
  refine x_iload_n hC dX2_cheapestBeside_51 rfl 1 rfl ?_
  refine x_iconst (v := (1 : Int32)) hC dX2_cheapestBeside_52 ki_1 ?_
  refine x_iadd hC dX2_cheapestBeside_53 ?_
  refine r_cS0 (as := [.int (11 : Int32), .int (v2_29 + (1 : Int32))]) (rest := [.int v6_47_29]) hB dX2_cheapestBeside_54 ks_X2_57 hq1 rfl rfl (Nat.le_of_ble_eq_true rfl) (f_J9_min_7cf53_met hB.2 (by omega)) ?_
  refine x_icmp_gt (tgt := 86) hC dX2_cheapestBeside_57 (by decide) ?_ ?_
  · refine x_sub [0, 1, 2, 3, 4] rfl ?_
    exact x_done (fun h => h)
  · refine x_iload hC dX2_cheapestBeside_60 3 rfl ?_
    refine x_aload_n hC dX2_cheapestBeside_62 rfl 0 rfl ?_
    refine r_getR hB dX2_cheapestBeside_63 kf_X2_11 rfl th_87 rf_87_1 ?_
    refine x_bipush (v := (12 : Int32)) hC dX2_cheapestBeside_66 kb_12 ?_
    refine x_iload hC dX2_cheapestBeside_68 4 rfl ?_
    refine x_imul hC dX2_cheapestBeside_70 ?_
    refine x_iload hC dX2_cheapestBeside_71 5 rfl ?_
    refine x_iadd hC dX2_cheapestBeside_73 ?_
    refine r_iald hB dX2_cheapestBeside_74 th_88 ?_
    refine r_cS0 (as := [.int v4_47_29, .int (M 88 (ix (((12 : Int32) * v5_47_29) + v6_47_29)))]) (rest := []) hB dX2_cheapestBeside_75 ks_X2_57 hq1 rfl rfl (Nat.le_of_ble_eq_true rfl) (f_J9_min_7cf53_met hB.2 (by omega)) ?_
    refine x_top (fun v4_78_29_47 => ?_)
    refine x_istore (f := 0) hC dX2_cheapestBeside_78 [(4, .int v4_78_29_47), (0, zr w 87), (2, .int v2_29), (3, .int v3_29), (5, .int v5_47_29), (6, .int v6_47_29)] (by decide) rfl ?_
    refine x_iinc hC dX2_cheapestBeside_80 ki_1 [(6, .int (v6_47_29 + (1 : Int32))), (4, .int v4_78_29_47), (0, zr w 87), (2, .int v2_29), (3, .int v3_29), (5, .int v5_47_29)] 5 rfl (by decide) rfl ?_
    refine x_goto (tgt := 47) hC dX2_cheapestBeside_83 (by decide) ?_
    refine x_sub [2, 3, 4, 1, 5, 0] rfl ?_
    exact x_done (fun h => h)
noncomputable def j_X2_cheapestBeside_86_29 (v2_29 : Int32) (v3_29 : Int32) (v4_86_29 : Int32) (v5_86_29 : Int32) (M : zM) : Option ((Int32 × Int32) ⊕ (Int32)) :=
  some (.inl (v4_86_29, (v5_86_29 + (1 : Int32))))
set_option maxRecDepth 100000 in
theorem j_X2_cheapestBeside_86_29_ok {C : zC} {d : Nat} {g : zG} {l : Launch} {w : zW} {r : Int32} {v2_29 : Int32} {v3_29 : Int32} {v4_86_29 : Int32} {v5_86_29 : Int32} (hB : bOK C cX2_cheapestBeside 7 RX2 d g l w true) (hd : 2 ≤ d) (M : zM) (hR : RtI C cX2_cheapestBeside w r M) : Sg C w (0, 0) 86 [(0, zr w 87), (2, .int v2_29), (3, .int v3_29), (4, .int v4_86_29), (5, .int v5_86_29)] [] M (j_X2_cheapestBeside_86_29 v2_29 v3_29 v4_86_29 v5_86_29 M) (fun o => Sum.elim (fun (s : (Int32 × Int32)) => Zs C w (0, 0) 29 [(0, zr w 87), (2, .int v2_29), (3, .int v3_29), (4, .int s.1), (5, .int s.2)] [] M) (fun (s : (Int32)) => Zs C w (0, 0) 92 [(4, .int s)] [] M) o) := by
  have hC := hB.1.1
  have hq1 : 1 ≤ d := by omega
  unfold j_X2_cheapestBeside_86_29
  refine x_iinc hC dX2_cheapestBeside_86 ki_1 [(5, .int (v5_86_29 + (1 : Int32))), (0, zr w 87), (2, .int v2_29), (3, .int v3_29), (4, .int v4_86_29)] 4 rfl (by decide) rfl ?_
  refine x_goto (tgt := 29) hC dX2_cheapestBeside_89 (by decide) ?_
  refine x_sub [1, 2, 3, 4, 0] rfl ?_
  exact x_done (fun h => h)
noncomputable def b_X2_cheapestBeside_29 (v2_29 : Int32) (v3_29 : Int32) (v4_29 : Int32) (v5_29 : Int32) (M : zM) : Option ((Int32 × Int32) ⊕ (Int32)) :=
  if (f_J9_min_7cf53 (11 : Int32) (v3_29 + (1 : Int32))) < v5_29 then (some (.inr v4_29))
  else (nm (v2_29 - (1 : Int32)) fun v6_45_29 =>
  (loopW (fun s => b_X2_cheapestBeside_47_29 v2_29 v3_29 v5_29 s.1 s.2 M) (v4_29, v6_45_29)).bind (fun r => j_X2_cheapestBeside_86_29 v2_29 v3_29 r v5_29 M))
set_option maxRecDepth 100000 in
theorem b_X2_cheapestBeside_29_ok {C : zC} {d : Nat} {g : zG} {l : Launch} {w : zW} {r : Int32} {v2_29 : Int32} {v3_29 : Int32} {v4_29 : Int32} {v5_29 : Int32} (hB : bOK C cX2_cheapestBeside 7 RX2 d g l w true) (hd : 2 ≤ d) (M : zM) (hR : RtI C cX2_cheapestBeside w r M) : Sg C w (0, 0) 29 [(0, zr w 87), (2, .int v2_29), (3, .int v3_29), (4, .int v4_29), (5, .int v5_29)] [] M (b_X2_cheapestBeside_29 v2_29 v3_29 v4_29 v5_29 M) (fun o => Sum.elim (fun (s : (Int32 × Int32)) => Zs C w (0, 0) 29 [(0, zr w 87), (2, .int v2_29), (3, .int v3_29), (4, .int s.1), (5, .int s.2)] [] M) (fun (s : (Int32)) => Zs C w (0, 0) 92 [(4, .int s)] [] M) o) := by
  have hC := hB.1.1
  have hq1 : 1 ≤ d := by omega
  unfold b_X2_cheapestBeside_29
  refine x_iload hC dX2_cheapestBeside_29 4 rfl ?_
  refine x_bipush (v := (11 : Int32)) hC dX2_cheapestBeside_31 kb_11 ?_
  refine x_iload_n hC dX2_cheapestBeside_33 rfl 2 rfl ?_
  refine x_iconst (v := (1 : Int32)) hC dX2_cheapestBeside_34 ki_1 ?_
  refine x_iadd hC dX2_cheapestBeside_35 ?_
  refine r_cS0 (as := [.int (11 : Int32), .int (v3_29 + (1 : Int32))]) (rest := [.int v5_29]) hB dX2_cheapestBeside_36 ks_X2_57 hq1 rfl rfl (Nat.le_of_ble_eq_true rfl) (f_J9_min_7cf53_met hB.2 (by omega)) ?_
  refine x_icmp_gt (tgt := 92) hC dX2_cheapestBeside_39 (by decide) ?_ ?_
  · refine x_sub [3] rfl ?_
    exact x_done (fun h => h)
  · refine x_iload_n hC dX2_cheapestBeside_42 rfl 1 rfl ?_
    refine x_iconst (v := (1 : Int32)) hC dX2_cheapestBeside_43 ki_1 ?_
    refine x_isub hC dX2_cheapestBeside_44 ?_
    refine x_top (fun v6_45_29 => ?_)
    refine x_istore (f := 0) hC dX2_cheapestBeside_45 [(6, .int v6_45_29), (0, zr w 87), (2, .int v2_29), (3, .int v3_29), (4, .int v4_29), (5, .int v5_29)] (by decide) rfl ?_
    refine x_sub [1, 2, 3, 4, 5, 0] rfl ?_
    refine x_loopB (pc2 := 86) (fun (s : (Int32 × Int32)) => [(0, zr w 87), (2, .int v2_29), (3, .int v3_29), (4, .int s.1), (5, .int v5_29), (6, .int s.2)]) (fun (s : (Int32 × Int32)) => M) (fun (s : (Int32)) => [(0, zr w 87), (2, .int v2_29), (3, .int v3_29), (4, .int s), (5, .int v5_29)]) (fun (s : (Int32)) => M) (v4_29, v6_45_29) ?_ ?_
    · exact fun s => b_X2_cheapestBeside_47_29_ok hB hd M hR
    · intro r9
      exact j_X2_cheapestBeside_86_29_ok hB hd M hR
noncomputable def j_X2_cheapestBeside_92 (v4_92 : Int32) (M : zM) : Option (Int32) :=
  some v4_92
set_option maxRecDepth 100000 in
theorem j_X2_cheapestBeside_92_ok {C : zC} {d : Nat} {g : zG} {l : Launch} {w : zW} {r : Int32} {v4_92 : Int32} (hB : bOK C cX2_cheapestBeside 7 RX2 d g l w true) (hd : 2 ≤ d) (M : zM) (hR : RtI C cX2_cheapestBeside w r M) : Sg C w (0, 0) 92 [(4, .int v4_92)] [] M (j_X2_cheapestBeside_92 v4_92 M) (fun q => q = r) := by
  have hC := hB.1.1
  have hq1 : 1 ≤ d := by omega
  unfold j_X2_cheapestBeside_92
  refine x_iload hC dX2_cheapestBeside_92 0 rfl ?_
  exact r_retI hR dX2_cheapestBeside_94 (fun h => congrArg (fun q => (q, M)) h)
noncomputable def f_X2_cheapestBeside (p1 : Int32) (M : zM) : Option (Int32) :=
  nm (irem p1 (12 : Int32)) fun v2_4 =>
  nm (p1 / (12 : Int32)) fun v3_9 =>
  if v2_4 = 0 then (some (0 : Int32))
  else (nm (f_J9_max_7cf53 (0 : Int32) (v3_9 - (1 : Int32))) fun v5_27 =>
  (loopW (fun s => b_X2_cheapestBeside_29 v2_4 v3_9 s.1 s.2 M) ((1000000 : Int32), v5_27)).bind (fun r => j_X2_cheapestBeside_92 r M))
set_option maxRecDepth 100000 in
theorem f_X2_cheapestBeside_ok {C : zC} {d : Nat} {g : zG} {l : Launch} {w : zW} {r : Int32} {p1 : Int32} (hB : bOK C cX2_cheapestBeside 7 RX2 d g l w true) (hd : 2 ≤ d) (M : zM) (hR : RtI C cX2_cheapestBeside w r M) : Sg C w (0, 0) 0 [(0, zr w 87), (1, .int p1)] [] M (f_X2_cheapestBeside p1 M) (fun q => q = r) := by
  have hC := hB.1.1
  have hq1 : 1 ≤ d := by omega
  unfold f_X2_cheapestBeside
  refine x_iload_n hC dX2_cheapestBeside_0 rfl 1 rfl ?_
  refine x_bipush (v := (12 : Int32)) hC dX2_cheapestBeside_1 kb_12 ?_
  refine x_irem0 hC dX2_cheapestBeside_3 nz_12 ?_
  refine x_top (fun v2_4 => ?_)
  refine x_istore_n hC dX2_cheapestBeside_4 rfl [(2, .int v2_4), (0, zr w 87), (1, .int p1)] (by decide) rfl ?_
  refine x_iload_n hC dX2_cheapestBeside_5 rfl 2 rfl ?_
  refine x_bipush (v := (12 : Int32)) hC dX2_cheapestBeside_6 kb_12 ?_
  refine x_idiv0 hC dX2_cheapestBeside_8 nz_12 ?_
  refine x_top (fun v3_9 => ?_)
  refine x_istore_n hC dX2_cheapestBeside_9 rfl [(3, .int v3_9), (2, .int v2_4), (0, zr w 87), (1, .int p1)] (by decide) rfl ?_
  refine x_iload_n hC dX2_cheapestBeside_10 rfl 1 rfl ?_
  refine x_if_ne (tgt := 16) hC dX2_cheapestBeside_11 (by decide) ?_ ?_
  · refine x_iconst (v := (0 : Int32)) hC dX2_cheapestBeside_14 ki_0 ?_
    exact r_retI hR dX2_cheapestBeside_15 (fun h => congrArg (fun q => (q, M)) h)
  · refine x_ldc hC dX2_cheapestBeside_16 wd_1063 ?_
    refine x_istore (f := 0) hC dX2_cheapestBeside_18 [(4, .int (1000000 : Int32)), (3, .int v3_9), (2, .int v2_4), (0, zr w 87), (1, .int p1)] (by decide) rfl ?_
    refine x_iconst (v := (0 : Int32)) hC dX2_cheapestBeside_20 ki_0 ?_
    refine x_iload_n hC dX2_cheapestBeside_21 rfl 1 rfl ?_
    refine x_iconst (v := (1 : Int32)) hC dX2_cheapestBeside_22 ki_1 ?_
    refine x_isub hC dX2_cheapestBeside_23 ?_
    refine r_cS0 (as := [.int (0 : Int32), .int (v3_9 - (1 : Int32))]) (rest := []) hB dX2_cheapestBeside_24 ks_X2_76 hq1 rfl rfl (Nat.le_of_ble_eq_true rfl) (f_J9_max_7cf53_met hB.2 (by omega)) ?_
    refine x_top (fun v5_27 => ?_)
    refine x_istore (f := 0) hC dX2_cheapestBeside_27 [(5, .int v5_27), (4, .int (1000000 : Int32)), (3, .int v3_9), (2, .int v2_4), (0, zr w 87), (1, .int p1)] (by decide) rfl ?_
    refine x_sub [4, 3, 2, 1, 0] rfl ?_
    refine x_loopB (pc2 := 92) (fun (s : (Int32 × Int32)) => [(0, zr w 87), (2, .int v2_4), (3, .int v3_9), (4, .int s.1), (5, .int s.2)]) (fun (s : (Int32 × Int32)) => M) (fun (s : (Int32)) => [(4, .int s)]) (fun (s : (Int32)) => M) ((1000000 : Int32), v5_27) ?_ ?_
    · exact fun s => b_X2_cheapestBeside_29_ok hB hd M hR
    · intro r9
      exact j_X2_cheapestBeside_92_ok hB hd M hR
theorem f_X2_cheapestBeside_met {l : Launch} {d : Nat} {g : zG} {w : zW} {M0 : zM} {p1 : Int32} {M : zM} (hw : wS w) (hd : 2 ≤ d) {v : Int32} (h : f_X2_cheapestBeside p1 M = some v) : zMet l yX2_cheapestBeside cX2_cheapestBeside 7 (some .int) d g w (zin true) M0 [zr w 87, .int p1] M (some (.int v)) M :=
  met_i (by decide +kernel) (Nat.le_of_ble_eq_true rfl) rfl (fun C hB0 hR => f_X2_cheapestBeside_ok ⟨hB0, hw⟩ hd M hR _ h rfl)
/-! WindingSquare$Law.run(II[I)I -/
noncomputable def j_X3_run_169_6 (a0 : Nat) (a3 : Nat) (v2_6 : Int32) (v4_169_6 : Int32) (v5_169_6 : Int32) (M : zM) : Option ((Int32 × Int32 × zM) ⊕ (zM)) :=
  some (.inl (v4_169_6, (v5_169_6 + (1 : Int32)), M))
set_option maxRecDepth 100000 in
theorem j_X3_run_169_6_ok {C : zC} {d : Nat} {g : zG} {l : Launch} {w : zW} {r : Int32 × zM} {a0 : Nat} {a3 : Nat} {v2_6 : Int32} {v4_169_6 : Int32} {v5_169_6 : Int32} (hB : bOK C cX3_run 7 RX3 d g l w true) (h0 : tO true 3 a0) (h3 : tA true 10 a3) (hd : 2 ≤ d) (M : zM) (hR : RtI C cX3_run w r.1 r.2) : Sg C w (0, 0) 169 [(0, zr w a0), (2, .int v2_6), (3, zr w a3), (4, .int v4_169_6), (5, .int v5_169_6)] [] M (j_X3_run_169_6 a0 a3 v2_6 v4_169_6 v5_169_6 M) (fun o => Sum.elim (fun (s : (Int32 × Int32 × zM)) => Zs C w (0, 0) 6 [(0, zr w a0), (2, .int v2_6), (3, zr w a3), (4, .int s.1), (5, .int s.2.1)] [] s.2.2) (fun (s : (zM)) => Zs C w (0, 0) 175 [(0, zr w a0)] [] s) o) := by
  have hC := hB.1.1
  have hq1 : 1 ≤ d := by omega
  unfold j_X3_run_169_6
  refine x_iinc hC dX3_run_169 ki_1 [(5, .int (v5_169_6 + (1 : Int32))), (0, zr w a0), (2, .int v2_6), (3, zr w a3), (4, .int v4_169_6)] 4 rfl (by decide) rfl ?_
  refine x_goto (tgt := 6) hC dX3_run_172 (by decide) ?_
  refine x_sub [1, 2, 3, 4, 0] rfl ?_
  exact x_done (fun h => h)
noncomputable def j_X3_run_130_6 (a0 : Nat) (a3 : Nat) (v2_6 : Int32) (v4_130_6 : Int32) (v5_130_6 : Int32) (v6_130_6 : Int32) (M : zM) : Option ((Int32 × Int32 × zM) ⊕ (zM)) :=
  if v4_130_6 ≤ (1 : Int32) then (j_X3_run_169_6 a0 a3 v2_6 v4_130_6 v5_130_6 M)
  else (grd (inb ((v4_130_6 + (-1 : Int32)) - (1 : Int32)) 64) (
  grd (inb (v4_130_6 + (-1 : Int32)) 64) (
  (f_X3_join v6_130_6 (M (a0 + 5) (ix ((v4_130_6 + (-1 : Int32)) - (1 : Int32)))) (M (a0 + 5) (ix (v4_130_6 + (-1 : Int32))))).bind fun u165_6 =>
  grd (inb ((v4_130_6 + (-1 : Int32)) - (1 : Int32)) 64) (
  nm (mset M (a0 + 5) (ix ((v4_130_6 + (-1 : Int32)) - (1 : Int32))) u165_6) fun M168_6 =>
  j_X3_run_169_6 a0 a3 v2_6 (v4_130_6 + (-1 : Int32)) v5_130_6 M168_6))))
set_option maxRecDepth 100000 in
theorem j_X3_run_130_6_ok {C : zC} {d : Nat} {g : zG} {l : Launch} {w : zW} {r : Int32 × zM} {a0 : Nat} {a3 : Nat} {v2_6 : Int32} {v4_130_6 : Int32} {v5_130_6 : Int32} {v6_130_6 : Int32} (hB : bOK C cX3_run 7 RX3 d g l w true) (h0 : tO true 3 a0) (h3 : tA true 10 a3) (hd : 2 ≤ d) (M : zM) (hR : RtI C cX3_run w r.1 r.2) : Sg C w (0, 0) 130 [(0, zr w a0), (2, .int v2_6), (3, zr w a3), (4, .int v4_130_6), (5, .int v5_130_6), (6, .int v6_130_6)] [] M (j_X3_run_130_6 a0 a3 v2_6 v4_130_6 v5_130_6 v6_130_6 M) (fun o => Sum.elim (fun (s : (Int32 × Int32 × zM)) => Zs C w (0, 0) 6 [(0, zr w a0), (2, .int v2_6), (3, zr w a3), (4, .int s.1), (5, .int s.2.1)] [] s.2.2) (fun (s : (zM)) => Zs C w (0, 0) 175 [(0, zr w a0)] [] s) o) := by
  have hC := hB.1.1
  have hq1 : 1 ≤ d := by omega
  unfold j_X3_run_130_6
  refine x_iload hC dX3_run_130 3 rfl ?_
  refine x_iconst (v := (1 : Int32)) hC dX3_run_132 ki_1 ?_
  refine x_icmp_le (tgt := 169) hC dX3_run_133 (by decide) ?_ ?_
  · refine x_sub [0, 1, 2, 3, 4] rfl ?_
    exact j_X3_run_169_6_ok hB h0 h3 hd M hR
  · refine x_iinc hC dX3_run_136 ki_m1 [(4, .int (v4_130_6 + (-1 : Int32))), (0, zr w a0), (2, .int v2_6), (3, zr w a3), (5, .int v5_130_6), (6, .int v6_130_6)] 3 rfl (by decide) rfl ?_
    refine x_aload_n hC dX3_run_139 rfl 1 rfl ?_
    refine r_getR hB dX3_run_140 kf_X3_24 rfl h0 (nv_3_6 h0).1 ?_
    refine x_iload hC dX3_run_143 0 rfl ?_
    refine x_iconst (v := (1 : Int32)) hC dX3_run_145 ki_1 ?_
    refine x_isub hC dX3_run_146 ?_
    refine x_iload hC dX3_run_147 5 rfl ?_
    refine x_aload_n hC dX3_run_149 rfl 1 rfl ?_
    refine r_getR hB dX3_run_150 kf_X3_24 rfl h0 (nv_3_6 h0).1 ?_
    refine x_iload hC dX3_run_153 0 rfl ?_
    refine x_iconst (v := (1 : Int32)) hC dX3_run_155 ki_1 ?_
    refine x_isub hC dX3_run_156 ?_
    refine r_iald hB dX3_run_157 (nv_3_6 h0).2 ?_
    refine x_aload_n hC dX3_run_158 rfl 1 rfl ?_
    refine r_getR hB dX3_run_159 kf_X3_24 rfl h0 (nv_3_6 h0).1 ?_
    refine x_iload hC dX3_run_162 0 rfl ?_
    refine r_iald hB dX3_run_164 (nv_3_6 h0).2 ?_
    refine r_cS1 (as := [.int v6_130_6, .int (M (a0 + 5) (ix ((v4_130_6 + (-1 : Int32)) - (1 : Int32)))), .int (M (a0 + 5) (ix (v4_130_6 + (-1 : Int32))))]) (rest := [.int ((v4_130_6 + (-1 : Int32)) - (1 : Int32)), zr w (a0 + 5)]) hB dX3_run_165 ks_X3_99 hq1 rfl rfl (Nat.le_of_ble_eq_true rfl) (fun v hv => f_X3_join_met hB.2 (by omega) hv) (fun u165_6 => ?_)
    refine r_iast hB dX3_run_168 (nv_3_6 h0).2 ?_
    refine x_mem (fun M168_6 => ?_)
    refine x_sub [1, 2, 3, 0, 4] rfl ?_
    exact j_X3_run_169_6_ok hB h0 h3 hd M168_6 hR
noncomputable def j_X3_run_94_6 (a0 : Nat) (a3 : Nat) (v2_6 : Int32) (v4_94_6 : Int32) (v5_94_6 : Int32) (v6_94_6 : Int32) (M : zM) : Option ((Int32 × Int32 × zM) ⊕ (zM)) :=
  if v6_94_6 = (134 : Int32) then (if v4_94_6 ≤ 0 then (j_X3_run_130_6 a0 a3 v2_6 v4_94_6 v5_94_6 v6_94_6 M)
  else (grd (inb (v4_94_6 - (1 : Int32)) 64) (
  grd (inb (v4_94_6 - (1 : Int32)) 64) (
  nm (mset M (a0 + 5) (ix (v4_94_6 - (1 : Int32))) ((1 : Int32) - (M (a0 + 5) (ix (v4_94_6 - (1 : Int32)))))) fun M126_6 =>
  j_X3_run_169_6 a0 a3 v2_6 v4_94_6 v5_94_6 M126_6))))
  else (j_X3_run_130_6 a0 a3 v2_6 v4_94_6 v5_94_6 v6_94_6 M)
set_option maxRecDepth 100000 in
theorem j_X3_run_94_6_ok {C : zC} {d : Nat} {g : zG} {l : Launch} {w : zW} {r : Int32 × zM} {a0 : Nat} {a3 : Nat} {v2_6 : Int32} {v4_94_6 : Int32} {v5_94_6 : Int32} {v6_94_6 : Int32} (hB : bOK C cX3_run 7 RX3 d g l w true) (h0 : tO true 3 a0) (h3 : tA true 10 a3) (hd : 2 ≤ d) (M : zM) (hR : RtI C cX3_run w r.1 r.2) : Sg C w (0, 0) 94 [(0, zr w a0), (2, .int v2_6), (3, zr w a3), (4, .int v4_94_6), (5, .int v5_94_6), (6, .int v6_94_6)] [] M (j_X3_run_94_6 a0 a3 v2_6 v4_94_6 v5_94_6 v6_94_6 M) (fun o => Sum.elim (fun (s : (Int32 × Int32 × zM)) => Zs C w (0, 0) 6 [(0, zr w a0), (2, .int v2_6), (3, zr w a3), (4, .int s.1), (5, .int s.2.1)] [] s.2.2) (fun (s : (zM)) => Zs C w (0, 0) 175 [(0, zr w a0)] [] s) o) := by
  have hC := hB.1.1
  have hq1 : 1 ≤ d := by omega
  unfold j_X3_run_94_6
  refine x_iload hC dX3_run_94 5 rfl ?_
  refine x_sipush (v := (134 : Int32)) hC dX3_run_96 kh_134 ?_
  refine x_icmp_ne (tgt := 130) hC dX3_run_99 (by decide) ?_ ?_
  · refine x_iload hC dX3_run_102 3 rfl ?_
    refine x_if_le (tgt := 130) hC dX3_run_104 (by decide) ?_ ?_
    · exact j_X3_run_130_6_ok hB h0 h3 hd M hR
    · refine x_aload_n hC dX3_run_107 rfl 0 rfl ?_
      refine r_getR hB dX3_run_108 kf_X3_24 rfl h0 (nv_3_6 h0).1 ?_
      refine x_iload hC dX3_run_111 3 rfl ?_
      refine x_iconst (v := (1 : Int32)) hC dX3_run_113 ki_1 ?_
      refine x_isub hC dX3_run_114 ?_
      refine x_iconst (v := (1 : Int32)) hC dX3_run_115 ki_1 ?_
      refine x_aload_n hC dX3_run_116 rfl 0 rfl ?_
      refine r_getR hB dX3_run_117 kf_X3_24 rfl h0 (nv_3_6 h0).1 ?_
      refine x_iload hC dX3_run_120 3 rfl ?_
      refine x_iconst (v := (1 : Int32)) hC dX3_run_122 ki_1 ?_
      refine x_isub hC dX3_run_123 ?_
      refine r_iald hB dX3_run_124 (nv_3_6 h0).2 ?_
      refine x_isub hC dX3_run_125 ?_
      refine r_iast hB dX3_run_126 (nv_3_6 h0).2 ?_
      refine x_mem (fun M126_6 => ?_)
      refine x_goto (tgt := 169) hC dX3_run_127 (by decide) ?_
      refine x_sub [0, 1, 2, 3, 4] rfl ?_
      exact j_X3_run_169_6_ok hB h0 h3 hd M126_6 hR
  · exact j_X3_run_130_6_ok hB h0 h3 hd M hR
noncomputable def b_X3_run_6 (a0 : Nat) (a3 : Nat) (v2_6 : Int32) (v4_6 : Int32) (v5_6 : Int32) (M : zM) : Option ((Int32 × Int32 × zM) ⊕ (zM)) :=
  if v2_6 ≤ v5_6 then (some (.inr M))
  else (if (64 : Int32) ≤ v4_6 then (some (.inr M))
  else (grd (inb v5_6 400) (
  nm ((M (a0 + 4) (ix v5_6)) - (10000 : Int32)) fun v6_30_6 =>
  if 0 ≤ v6_30_6 then (if v6_30_6 < (135 : Int32) then (j_X3_run_94_6 a0 a3 v2_6 v4_6 v5_6 v6_30_6 M)
  else (if (144 : Int32) < v6_30_6 then (j_X3_run_94_6 a0 a3 v2_6 v4_6 v5_6 v6_30_6 M)
  else (grd (inb (v6_30_6 - (135 : Int32)) 10) (
  grd (inb v4_6 64) (
  nm (mset M (a0 + 5) (ix v4_6) (M a3 (ix (v6_30_6 - (135 : Int32))))) fun M87_6 =>
  j_X3_run_169_6 a0 a3 v2_6 (v4_6 + (1 : Int32)) v5_6 M87_6)))))
  else (grd (inb v5_6 400) (
  grd (inb v4_6 64) (
  nm (mset M (a0 + 5) (ix v4_6) (M (a0 + 4) (ix v5_6))) fun M50_6 =>
  j_X3_run_169_6 a0 a3 v2_6 (v4_6 + (1 : Int32)) v5_6 M50_6))))))
set_option maxRecDepth 100000 in
theorem b_X3_run_6_ok {C : zC} {d : Nat} {g : zG} {l : Launch} {w : zW} {r : Int32 × zM} {a0 : Nat} {a3 : Nat} {v2_6 : Int32} {v4_6 : Int32} {v5_6 : Int32} (hB : bOK C cX3_run 7 RX3 d g l w true) (h0 : tO true 3 a0) (h3 : tA true 10 a3) (hd : 2 ≤ d) (M : zM) (hR : RtI C cX3_run w r.1 r.2) : Sg C w (0, 0) 6 [(0, zr w a0), (2, .int v2_6), (3, zr w a3), (4, .int v4_6), (5, .int v5_6)] [] M (b_X3_run_6 a0 a3 v2_6 v4_6 v5_6 M) (fun o => Sum.elim (fun (s : (Int32 × Int32 × zM)) => Zs C w (0, 0) 6 [(0, zr w a0), (2, .int v2_6), (3, zr w a3), (4, .int s.1), (5, .int s.2.1)] [] s.2.2) (fun (s : (zM)) => Zs C w (0, 0) 175 [(0, zr w a0)] [] s) o) := by
  have hC := hB.1.1
  have hq1 : 1 ≤ d := by omega
  unfold b_X3_run_6
  refine x_iload hC dX3_run_6 4 rfl ?_
  refine x_iload_n hC dX3_run_8 rfl 1 rfl ?_
  refine x_icmp_ge (tgt := 175) hC dX3_run_9 (by decide) ?_ ?_
  · refine x_sub [0] rfl ?_
    exact x_done (fun h => h)
  · refine x_iload hC dX3_run_12 3 rfl ?_
    refine x_bipush (v := (64 : Int32)) hC dX3_run_14 kb_64 ?_
    refine x_icmp_ge (tgt := 175) hC dX3_run_16 (by decide) ?_ ?_
    · refine x_sub [0] rfl ?_
      exact x_done (fun h => h)
    · refine x_aload_n hC dX3_run_19 rfl 0 rfl ?_
      refine r_getR hB dX3_run_20 kf_X3_21 rfl h0 (nv_3_4 h0).1 ?_
      refine x_iload hC dX3_run_23 4 rfl ?_
      refine r_iald hB dX3_run_25 (nv_3_4 h0).2 ?_
      refine x_sipush (v := (10000 : Int32)) hC dX3_run_26 kh_10000 ?_
      refine x_isub hC dX3_run_29 ?_
      refine x_top (fun v6_30_6 => ?_)
      refine x_istore (f := 0) hC dX3_run_30 [(6, .int v6_30_6), (0, zr w a0), (2, .int v2_6), (3, zr w a3), (4, .int v4_6), (5, .int v5_6)] (by decide) rfl ?_
      refine x_iload hC dX3_run_32 0 rfl ?_
      refine x_if_ge (tgt := 57) hC dX3_run_34 (by decide) ?_ ?_
      · refine x_iload hC dX3_run_57 0 rfl ?_
        refine x_sipush (v := (135 : Int32)) hC dX3_run_59 kh_135 ?_
        refine x_icmp_lt (tgt := 94) hC dX3_run_62 (by decide) ?_ ?_
        · refine x_sub [1, 2, 3, 4, 5, 0] rfl ?_
          exact j_X3_run_94_6_ok hB h0 h3 hd M hR
        · refine x_iload hC dX3_run_65 0 rfl ?_
          refine x_sipush (v := (144 : Int32)) hC dX3_run_67 kh_144 ?_
          refine x_icmp_gt (tgt := 94) hC dX3_run_70 (by decide) ?_ ?_
          · refine x_sub [1, 2, 3, 4, 5, 0] rfl ?_
            exact j_X3_run_94_6_ok hB h0 h3 hd M hR
          · refine x_aload_n hC dX3_run_73 rfl 1 rfl ?_
            refine r_getR hB dX3_run_74 kf_X3_24 rfl h0 (nv_3_6 h0).1 ?_
            refine x_iload hC dX3_run_77 4 rfl ?_
            refine x_aload_n hC dX3_run_79 rfl 3 rfl ?_
            refine x_iload hC dX3_run_80 0 rfl ?_
            refine x_sipush (v := (135 : Int32)) hC dX3_run_82 kh_135 ?_
            refine x_isub hC dX3_run_85 ?_
            refine r_iald hB dX3_run_86 h3 ?_
            refine r_iast hB dX3_run_87 (nv_3_6 h0).2 ?_
            refine x_mem (fun M87_6 => ?_)
            refine x_iinc hC dX3_run_88 ki_1 [(4, .int (v4_6 + (1 : Int32))), (6, .int v6_30_6), (0, zr w a0), (2, .int v2_6), (3, zr w a3), (5, .int v5_6)] 4 rfl (by decide) rfl ?_
            refine x_goto (tgt := 169) hC dX3_run_91 (by decide) ?_
            refine x_sub [2, 3, 4, 0, 5] rfl ?_
            exact j_X3_run_169_6_ok hB h0 h3 hd M87_6 hR
      · refine x_aload_n hC dX3_run_37 rfl 1 rfl ?_
        refine r_getR hB dX3_run_38 kf_X3_24 rfl h0 (nv_3_6 h0).1 ?_
        refine x_iload hC dX3_run_41 4 rfl ?_
        refine x_aload_n hC dX3_run_43 rfl 1 rfl ?_
        refine r_getR hB dX3_run_44 kf_X3_21 rfl h0 (nv_3_4 h0).1 ?_
        refine x_iload hC dX3_run_47 5 rfl ?_
        refine r_iald hB dX3_run_49 (nv_3_4 h0).2 ?_
        refine r_iast hB dX3_run_50 (nv_3_6 h0).2 ?_
        refine x_mem (fun M50_6 => ?_)
        refine x_iinc hC dX3_run_51 ki_1 [(4, .int (v4_6 + (1 : Int32))), (6, .int v6_30_6), (0, zr w a0), (2, .int v2_6), (3, zr w a3), (5, .int v5_6)] 4 rfl (by decide) rfl ?_
        refine x_goto (tgt := 169) hC dX3_run_54 (by decide) ?_
        refine x_sub [2, 3, 4, 0, 5] rfl ?_
        exact j_X3_run_169_6_ok hB h0 h3 hd M50_6 hR
noncomputable def j_X3_run_175 (a0 : Nat) (a3 : Nat) (M : zM) : Option (Int32 × zM) :=
  some ((M (a0 + 5) (ix (0 : Int32))), M)
set_option maxRecDepth 100000 in
theorem j_X3_run_175_ok {C : zC} {d : Nat} {g : zG} {l : Launch} {w : zW} {r : Int32 × zM} {a0 : Nat} {a3 : Nat} (hB : bOK C cX3_run 7 RX3 d g l w true) (h0 : tO true 3 a0) (h3 : tA true 10 a3) (hd : 2 ≤ d) (M : zM) (hR : RtI C cX3_run w r.1 r.2) : Sg C w (0, 0) 175 [(0, zr w a0)] [] M (j_X3_run_175 a0 a3 M) (fun q => q = r) := by
  have hC := hB.1.1
  have hq1 : 1 ≤ d := by omega
  unfold j_X3_run_175
  refine x_aload_n hC dX3_run_175 rfl 0 rfl ?_
  refine r_getR hB dX3_run_176 kf_X3_24 rfl h0 (nv_3_6 h0).1 ?_
  refine x_iconst (v := (0 : Int32)) hC dX3_run_179 ki_0 ?_
  refine r_iald0 hB dX3_run_180 (nv_3_6 h0).2 ib_0_64 ?_
  exact r_retI hR dX3_run_181 (fun h => h)
noncomputable def f_X3_run (a0 : Nat) (p1 : Int32) (p2 : Int32) (a3 : Nat) (M : zM) : Option (Int32 × zM) :=
  (loopW (fun s => b_X3_run_6 a0 a3 p2 s.1 s.2.1 s.2.2) ((0 : Int32), p1, M)).bind (fun r => j_X3_run_175 a0 a3 r)
set_option maxRecDepth 100000 in
theorem f_X3_run_ok {C : zC} {d : Nat} {g : zG} {l : Launch} {w : zW} {r : Int32 × zM} {a0 : Nat} {p1 : Int32} {p2 : Int32} {a3 : Nat} (hB : bOK C cX3_run 7 RX3 d g l w true) (h0 : tO true 3 a0) (h3 : tA true 10 a3) (hd : 2 ≤ d) (M : zM) (hR : RtI C cX3_run w r.1 r.2) : Sg C w (0, 0) 0 [(0, zr w a0), (1, .int p1), (2, .int p2), (3, zr w a3)] [] M (f_X3_run a0 p1 p2 a3 M) (fun q => q = r) := by
  have hC := hB.1.1
  have hq1 : 1 ≤ d := by omega
  unfold f_X3_run
  refine x_iconst (v := (0 : Int32)) hC dX3_run_0 ki_0 ?_
  refine x_istore (f := 0) hC dX3_run_1 [(4, .int (0 : Int32)), (0, zr w a0), (1, .int p1), (2, .int p2), (3, zr w a3)] (by decide) rfl ?_
  refine x_iload_n hC dX3_run_3 rfl 2 rfl ?_
  refine x_istore (f := 0) hC dX3_run_4 [(5, .int p1), (4, .int (0 : Int32)), (0, zr w a0), (1, .int p1), (2, .int p2), (3, zr w a3)] (by decide) rfl ?_
  refine x_sub [2, 4, 5, 1, 0] rfl ?_
  refine x_loopB (pc2 := 175) (fun (s : (Int32 × Int32 × zM)) => [(0, zr w a0), (2, .int p2), (3, zr w a3), (4, .int s.1), (5, .int s.2.1)]) (fun (s : (Int32 × Int32 × zM)) => s.2.2) (fun (s : (zM)) => [(0, zr w a0)]) (fun (s : (zM)) => s) ((0 : Int32), p1, M) ?_ ?_
  · exact fun s => b_X3_run_6_ok hB h0 h3 hd s.2.2 hR
  · intro r9
    exact j_X3_run_175_ok hB h0 h3 hd r9 hR
theorem f_X3_run_met {l : Launch} {d : Nat} {g : zG} {w : zW} {M0 : zM} {a0 : Nat} {p1 : Int32} {p2 : Int32} {a3 : Nat} {M : zM} (hw : wS w) (h0 : tO true 3 a0) (h3 : tA true 10 a3) (hd : 2 ≤ d) {v : Int32} {M' : zM} (h : f_X3_run a0 p1 p2 a3 M = some (v, M')) : zMet l yX3_run cX3_run 7 (some .int) d g w (zin true) M0 [zr w a0, .int p1, .int p2, zr w a3] M (some (.int v)) M' :=
  met_i (by decide +kernel) (Nat.le_of_ble_eq_true rfl) rfl (fun C hB0 hR => f_X3_run_ok (r := (v, M')) ⟨hB0, hw⟩ h0 h3 hd M hR _ h rfl)
/-! WindingSquare$Plane.field(II)I -/
def f_X4_field (p0 : Int32) (p1 : Int32) : Int32 :=
  if (40 : Int32) < (f_J9_abs_0f7a4 p0) then ((-1 : Int32))
  else (if (f_J9_abs_0f7a4 p1) ≤ (40 : Int32) then (((((81 : Int32) * (p1 + (40 : Int32))) + p0) + (40 : Int32)))
  else ((-1 : Int32)))
set_option maxRecDepth 100000 in
theorem f_X4_field_ok {C : zC} {d : Nat} {g : zG} {l : Launch} {w : zW} {r : Int32} {p0 : Int32} {p1 : Int32} (hB : bOK C cX4_field 2 RX4 d g l w true) (hd : 2 ≤ d) (M : zM) (hR : RtI C cX4_field w r M) : Sg C w (0, 0) 0 [(0, .int p0), (1, .int p1)] [] M (some (f_X4_field p0 p1)) (fun q => q = r) := by
  have hC := hB.1.1
  have hq1 : 1 ≤ d := by omega
  unfold f_X4_field
  refine x_iload_n hC dX4_field_0 rfl 0 rfl ?_
  refine r_cS0 (as := [.int p0]) (rest := []) hB dX4_field_1 ks_X4_60 hq1 rfl rfl (Nat.le_of_ble_eq_true rfl) (f_J9_abs_0f7a4_met hB.2 (by omega)) ?_
  refine x_bipush (v := (40 : Int32)) hC dX4_field_4 kb_40 ?_
  refine x_si ?_
  refine x_icmp_gt (tgt := 18) hC dX4_field_6 (by decide) ?_ ?_
  · refine x_iconst (v := (-1 : Int32)) hC dX4_field_18 ki_m1 ?_
    exact r_retI hR dX4_field_19 (fun h => congrArg (fun q => (q, M)) h)
  · refine x_iload_n hC dX4_field_9 rfl 1 rfl ?_
    refine r_cS0 (as := [.int p1]) (rest := []) hB dX4_field_10 ks_X4_60 hq1 rfl rfl (Nat.le_of_ble_eq_true rfl) (f_J9_abs_0f7a4_met hB.2 (by omega)) ?_
    refine x_bipush (v := (40 : Int32)) hC dX4_field_13 kb_40 ?_
    refine x_si ?_
    refine x_icmp_le (tgt := 20) hC dX4_field_15 (by decide) ?_ ?_
    · refine x_bipush (v := (81 : Int32)) hC dX4_field_20 kb_81 ?_
      refine x_iload_n hC dX4_field_22 rfl 1 rfl ?_
      refine x_bipush (v := (40 : Int32)) hC dX4_field_23 kb_40 ?_
      refine x_iadd hC dX4_field_25 ?_
      refine x_imul hC dX4_field_26 ?_
      refine x_iload_n hC dX4_field_27 rfl 0 rfl ?_
      refine x_iadd hC dX4_field_28 ?_
      refine x_bipush (v := (40 : Int32)) hC dX4_field_29 kb_40 ?_
      refine x_iadd hC dX4_field_31 ?_
      exact r_retI hR dX4_field_32 (fun h => congrArg (fun q => (q, M)) h)
    · refine x_iconst (v := (-1 : Int32)) hC dX4_field_18 ki_m1 ?_
      exact r_retI hR dX4_field_19 (fun h => congrArg (fun q => (q, M)) h)
theorem f_X4_field_met {l : Launch} {d : Nat} {g : zG} {w : zW} {M0 : zM} {p0 : Int32} {p1 : Int32} {M : zM} (hw : wS w) (hd : 2 ≤ d) : zMet l yX4_field cX4_field 2 (some .int) d g w (zin true) M0 [.int p0, .int p1] M (some (.int (f_X4_field p0 p1))) M :=
  met_i (by decide +kernel) (Nat.le_of_ble_eq_true rfl) rfl (fun C hB0 hR => f_X4_field_ok ⟨hB0, hw⟩ hd M hR _ rfl rfl)
/-! WindingSquare$Plane.valueAll()V -/
noncomputable def j_X4_valueAll_68_2_17_32 (v1_17_2 : Int32) (v2_32_2_17 : Int32) (v3_32_2_17 : Int32) (v5_68_2_17_32 : Int32) (s0_68_2_17_32 : Int32) (s1_68_2_17_32 : Int32) (M : zM) : Option ((Int32 × Int32) ⊕ (Int32)) :=
  nm (s0_68_2_17_32 ||| s1_68_2_17_32) fun v4_69_2_17_32 =>
  some (.inl (v4_69_2_17_32, (v5_68_2_17_32 + (1 : Int32))))
set_option maxRecDepth 100000 in
theorem j_X4_valueAll_68_2_17_32_ok {C : zC} {d : Nat} {g : zG} {l : Launch} {w : zW} {r : zM} {v1_17_2 : Int32} {v2_32_2_17 : Int32} {v3_32_2_17 : Int32} {v5_68_2_17_32 : Int32} {s0_68_2_17_32 : Int32} {s1_68_2_17_32 : Int32} (hB : bOK C cX4_valueAll 7 RX4 d g l w true) (hd : 2 ≤ d) (M : zM) (hR : RtV C cX4_valueAll w r) : Sg C w (0, 0) 68 [(0, zr w 95), (1, .int v1_17_2), (2, .int v2_32_2_17), (3, .int v3_32_2_17), (5, .int v5_68_2_17_32)] [.int s1_68_2_17_32, .int s0_68_2_17_32] M (j_X4_valueAll_68_2_17_32 v1_17_2 v2_32_2_17 v3_32_2_17 v5_68_2_17_32 s0_68_2_17_32 s1_68_2_17_32 M) (fun o => Sum.elim (fun (s : (Int32 × Int32)) => Zs C w (0, 0) 32 [(0, zr w 95), (1, .int v1_17_2), (2, .int v2_32_2_17), (3, .int v3_32_2_17), (4, .int s.1), (5, .int s.2)] [] M) (fun (s : (Int32)) => Zs C w (0, 0) 77 [(0, zr w 95), (1, .int v1_17_2), (2, .int v2_32_2_17), (3, .int v3_32_2_17), (4, .int s)] [] M) o) := by
  have hC := hB.1.1
  have hq1 : 1 ≤ d := by omega
  unfold j_X4_valueAll_68_2_17_32
  refine x_ior hC dX4_valueAll_68 ?_
  refine x_top (fun v4_69_2_17_32 => ?_)
  refine x_istore (f := 0) hC dX4_valueAll_69 [(4, .int v4_69_2_17_32), (0, zr w 95), (1, .int v1_17_2), (2, .int v2_32_2_17), (3, .int v3_32_2_17), (5, .int v5_68_2_17_32)] (by decide) rfl ?_
  refine x_iinc hC dX4_valueAll_71 ki_1 [(5, .int (v5_68_2_17_32 + (1 : Int32))), (4, .int v4_69_2_17_32), (0, zr w 95), (1, .int v1_17_2), (2, .int v2_32_2_17), (3, .int v3_32_2_17)] 5 rfl (by decide) rfl ?_
  refine x_goto (tgt := 32) hC dX4_valueAll_74 (by decide) ?_
  refine x_sub [2, 3, 4, 5, 1, 0] rfl ?_
  exact x_done (fun h => h)
noncomputable def b_X4_valueAll_32_2_17 (v1_17_2 : Int32) (v2_32_2_17 : Int32) (v3_32_2_17 : Int32) (v4_32_2_17 : Int32) (v5_32_2_17 : Int32) (M : zM) : Option ((Int32 × Int32) ⊕ (Int32)) :=
  if (4 : Int32) ≤ v5_32_2_17 then (some (.inr v4_32_2_17))
  else ((f_X4_gone v2_32_2_17 v3_32_2_17 v5_32_2_17 M).bind fun u42_2_17_32 =>
  if u42_2_17_32 = (-1 : Int32) then (j_X4_valueAll_68_2_17_32 v1_17_2 v2_32_2_17 v3_32_2_17 v5_32_2_17 v4_32_2_17 (0 : Int32) M)
  else (grd (inb u42_2_17_32 3721) (
  j_X4_valueAll_68_2_17_32 v1_17_2 v2_32_2_17 v3_32_2_17 v5_32_2_17 v4_32_2_17 ((1 : Int32) <<< ((M 99 (ix u42_2_17_32)) &&& 31)) M)))
set_option maxRecDepth 100000 in
theorem b_X4_valueAll_32_2_17_ok {C : zC} {d : Nat} {g : zG} {l : Launch} {w : zW} {r : zM} {v1_17_2 : Int32} {v2_32_2_17 : Int32} {v3_32_2_17 : Int32} {v4_32_2_17 : Int32} {v5_32_2_17 : Int32} (hB : bOK C cX4_valueAll 7 RX4 d g l w true) (hd : 2 ≤ d) (M : zM) (hR : RtV C cX4_valueAll w r) : Sg C w (0, 0) 32 [(0, zr w 95), (1, .int v1_17_2), (2, .int v2_32_2_17), (3, .int v3_32_2_17), (4, .int v4_32_2_17), (5, .int v5_32_2_17)] [] M (b_X4_valueAll_32_2_17 v1_17_2 v2_32_2_17 v3_32_2_17 v4_32_2_17 v5_32_2_17 M) (fun o => Sum.elim (fun (s : (Int32 × Int32)) => Zs C w (0, 0) 32 [(0, zr w 95), (1, .int v1_17_2), (2, .int v2_32_2_17), (3, .int v3_32_2_17), (4, .int s.1), (5, .int s.2)] [] M) (fun (s : (Int32)) => Zs C w (0, 0) 77 [(0, zr w 95), (1, .int v1_17_2), (2, .int v2_32_2_17), (3, .int v3_32_2_17), (4, .int s)] [] M) o) := by
  have hC := hB.1.1
  have hq1 : 1 ≤ d := by omega
  unfold b_X4_valueAll_32_2_17
  refine x_iload hC dX4_valueAll_32 5 rfl ?_
  refine x_iconst (v := (4 : Int32)) hC dX4_valueAll_34 ki_4 ?_
  refine x_icmp_ge (tgt := 77) hC dX4_valueAll_35 (by decide) ?_ ?_
  · refine x_sub [0, 1, 2, 3, 4] rfl ?_
    exact x_done (fun h => h)
  · refine x_iload_n hC dX4_valueAll_38 rfl 2 rfl ?_
    refine x_iload_n hC dX4_valueAll_39 rfl 3 rfl ?_
    refine x_iload hC dX4_valueAll_40 5 rfl ?_
    refine r_cS1 (as := [.int v2_32_2_17, .int v3_32_2_17, .int v5_32_2_17]) (rest := []) hB dX4_valueAll_42 ks_X4_56 hq1 rfl rfl (Nat.le_of_ble_eq_true rfl) (fun v hv => f_X4_gone_met hB.2 (by omega) hv) (fun u42_2_17_32 => ?_)
    refine x_istore (f := 0) hC dX4_valueAll_45 [(6, .int u42_2_17_32), (0, zr w 95), (1, .int v1_17_2), (2, .int v2_32_2_17), (3, .int v3_32_2_17), (4, .int v4_32_2_17), (5, .int v5_32_2_17)] (by decide) rfl ?_
    refine x_iload hC dX4_valueAll_47 5 rfl ?_
    refine x_iload hC dX4_valueAll_49 0 rfl ?_
    refine x_iconst (v := (-1 : Int32)) hC dX4_valueAll_51 ki_m1 ?_
    refine x_icmp_ne (tgt := 59) hC dX4_valueAll_52 (by decide) ?_ ?_
    · refine x_iconst (v := (0 : Int32)) hC dX4_valueAll_55 ki_0 ?_
      refine x_goto (tgt := 68) hC dX4_valueAll_56 (by decide) ?_
      refine x_sub [1, 2, 3, 4, 6] rfl ?_
      exact j_X4_valueAll_68_2_17_32_ok hB hd M hR
    · refine x_iconst (v := (1 : Int32)) hC dX4_valueAll_59 ki_1 ?_
      refine x_aload_n hC dX4_valueAll_60 rfl 1 rfl ?_
      refine r_getR hB dX4_valueAll_61 kf_X4_21 rfl th_95 rf_95_3 ?_
      refine x_iload hC dX4_valueAll_64 0 rfl ?_
      refine r_iald hB dX4_valueAll_66 th_99 ?_
      refine x_ishl hC dX4_valueAll_67 ?_
      refine x_sub [1, 2, 3, 4, 6] rfl ?_
      exact j_X4_valueAll_68_2_17_32_ok hB hd M hR
noncomputable def j_X4_valueAll_77_2_17 (v1_17_2 : Int32) (v2_77_2_17 : Int32) (v3_77_2_17 : Int32) (v4_77_2_17 : Int32) (M : zM) : Option ((Int32 × zM) ⊕ (zM)) :=
  (f_X4_leastMissing v4_77_2_17).bind fun u89_2_17 =>
  grd (inb (((61 : Int32) * v3_77_2_17) + v2_77_2_17) 3721) (
  nm (mset M 99 (ix (((61 : Int32) * v3_77_2_17) + v2_77_2_17)) u89_2_17) fun M92_2_17 =>
  some (.inl ((v2_77_2_17 + (1 : Int32)), M92_2_17)))
set_option maxRecDepth 100000 in
theorem j_X4_valueAll_77_2_17_ok {C : zC} {d : Nat} {g : zG} {l : Launch} {w : zW} {r : zM} {v1_17_2 : Int32} {v2_77_2_17 : Int32} {v3_77_2_17 : Int32} {v4_77_2_17 : Int32} (hB : bOK C cX4_valueAll 7 RX4 d g l w true) (hd : 2 ≤ d) (M : zM) (hR : RtV C cX4_valueAll w r) : Sg C w (0, 0) 77 [(0, zr w 95), (1, .int v1_17_2), (2, .int v2_77_2_17), (3, .int v3_77_2_17), (4, .int v4_77_2_17)] [] M (j_X4_valueAll_77_2_17 v1_17_2 v2_77_2_17 v3_77_2_17 v4_77_2_17 M) (fun o => Sum.elim (fun (s : (Int32 × zM)) => Zs C w (0, 0) 17 [(0, zr w 95), (1, .int v1_17_2), (2, .int s.1)] [] s.2) (fun (s : (zM)) => Zs C w (0, 0) 99 [(0, zr w 95), (1, .int v1_17_2)] [] s) o) := by
  have hC := hB.1.1
  have hq1 : 1 ≤ d := by omega
  unfold j_X4_valueAll_77_2_17
  refine x_aload_n hC dX4_valueAll_77 rfl 0 rfl ?_
  refine r_getR hB dX4_valueAll_78 kf_X4_21 rfl th_95 rf_95_3 ?_
  refine x_bipush (v := (61 : Int32)) hC dX4_valueAll_81 kb_61 ?_
  refine x_iload_n hC dX4_valueAll_83 rfl 3 rfl ?_
  refine x_imul hC dX4_valueAll_84 ?_
  refine x_iload_n hC dX4_valueAll_85 rfl 2 rfl ?_
  refine x_iadd hC dX4_valueAll_86 ?_
  refine x_iload hC dX4_valueAll_87 4 rfl ?_
  refine r_cS1 (as := [.int v4_77_2_17]) (rest := [.int (((61 : Int32) * v3_77_2_17) + v2_77_2_17), zr w 99]) hB dX4_valueAll_89 ks_X4_74 hq1 rfl rfl (Nat.le_of_ble_eq_true rfl) (fun v hv => f_X4_leastMissing_met hB.2 (by omega) hv) (fun u89_2_17 => ?_)
  refine r_iast hB dX4_valueAll_92 th_99 ?_
  refine x_mem (fun M92_2_17 => ?_)
  refine x_iinc hC dX4_valueAll_93 ki_1 [(2, .int (v2_77_2_17 + (1 : Int32))), (0, zr w 95), (1, .int v1_17_2), (3, .int v3_77_2_17), (4, .int v4_77_2_17)] 2 rfl (by decide) rfl ?_
  refine x_goto (tgt := 17) hC dX4_valueAll_96 (by decide) ?_
  refine x_sub [1, 2, 0] rfl ?_
  exact x_done (fun h => h)
noncomputable def b_X4_valueAll_17_2 (v1_17_2 : Int32) (v2_17_2 : Int32) (M : zM) : Option ((Int32 × zM) ⊕ (zM)) :=
  if v1_17_2 < v2_17_2 then (some (.inr M))
  else (nm (v1_17_2 - v2_17_2) fun v3_25_2_17 =>
  (loopW (fun s => b_X4_valueAll_32_2_17 v1_17_2 v2_17_2 v3_25_2_17 s.1 s.2 M) ((0 : Int32), (0 : Int32))).bind (fun r => j_X4_valueAll_77_2_17 v1_17_2 v2_17_2 v3_25_2_17 r M))
set_option maxRecDepth 100000 in
theorem b_X4_valueAll_17_2_ok {C : zC} {d : Nat} {g : zG} {l : Launch} {w : zW} {r : zM} {v1_17_2 : Int32} {v2_17_2 : Int32} (hB : bOK C cX4_valueAll 7 RX4 d g l w true) (hd : 2 ≤ d) (M : zM) (hR : RtV C cX4_valueAll w r) : Sg C w (0, 0) 17 [(0, zr w 95), (1, .int v1_17_2), (2, .int v2_17_2)] [] M (b_X4_valueAll_17_2 v1_17_2 v2_17_2 M) (fun o => Sum.elim (fun (s : (Int32 × zM)) => Zs C w (0, 0) 17 [(0, zr w 95), (1, .int v1_17_2), (2, .int s.1)] [] s.2) (fun (s : (zM)) => Zs C w (0, 0) 99 [(0, zr w 95), (1, .int v1_17_2)] [] s) o) := by
  have hC := hB.1.1
  have hq1 : 1 ≤ d := by omega
  unfold b_X4_valueAll_17_2
  refine x_iload_n hC dX4_valueAll_17 rfl 2 rfl ?_
  refine x_iload_n hC dX4_valueAll_18 rfl 1 rfl ?_
  refine x_icmp_gt (tgt := 99) hC dX4_valueAll_19 (by decide) ?_ ?_
  · refine x_sub [0, 1] rfl ?_
    exact x_done (fun h => h)
  · refine x_iload_n hC dX4_valueAll_22 rfl 1 rfl ?_
    refine x_iload_n hC dX4_valueAll_23 rfl 2 rfl ?_
    refine x_isub hC dX4_valueAll_24 ?_
    refine x_top (fun v3_25_2_17 => ?_)
    refine x_istore_n hC dX4_valueAll_25 rfl [(3, .int v3_25_2_17), (0, zr w 95), (1, .int v1_17_2), (2, .int v2_17_2)] (by decide) rfl ?_
    refine x_iconst (v := (0 : Int32)) hC dX4_valueAll_26 ki_0 ?_
    refine x_istore (f := 0) hC dX4_valueAll_27 [(4, .int (0 : Int32)), (3, .int v3_25_2_17), (0, zr w 95), (1, .int v1_17_2), (2, .int v2_17_2)] (by decide) rfl ?_
    refine x_iconst (v := (0 : Int32)) hC dX4_valueAll_29 ki_0 ?_
    refine x_istore (f := 0) hC dX4_valueAll_30 [(5, .int (0 : Int32)), (4, .int (0 : Int32)), (3, .int v3_25_2_17), (0, zr w 95), (1, .int v1_17_2), (2, .int v2_17_2)] (by decide) rfl ?_
    refine x_sub [3, 4, 5, 2, 1, 0] rfl ?_
    refine x_loopB (pc2 := 77) (fun (s : (Int32 × Int32)) => [(0, zr w 95), (1, .int v1_17_2), (2, .int v2_17_2), (3, .int v3_25_2_17), (4, .int s.1), (5, .int s.2)]) (fun (s : (Int32 × Int32)) => M) (fun (s : (Int32)) => [(0, zr w 95), (1, .int v1_17_2), (2, .int v2_17_2), (3, .int v3_25_2_17), (4, .int s)]) (fun (s : (Int32)) => M) ((0 : Int32), (0 : Int32)) ?_ ?_
    · exact fun s => b_X4_valueAll_32_2_17_ok hB hd M hR
    · intro r9
      exact j_X4_valueAll_77_2_17_ok hB hd M hR
noncomputable def j_X4_valueAll_99_2 (v1_99_2 : Int32) (M : zM) : Option ((Int32 × zM) ⊕ (zM)) :=
  some (.inl ((v1_99_2 + (1 : Int32)), M))
set_option maxRecDepth 100000 in
theorem j_X4_valueAll_99_2_ok {C : zC} {d : Nat} {g : zG} {l : Launch} {w : zW} {r : zM} {v1_99_2 : Int32} (hB : bOK C cX4_valueAll 7 RX4 d g l w true) (hd : 2 ≤ d) (M : zM) (hR : RtV C cX4_valueAll w r) : Sg C w (0, 0) 99 [(0, zr w 95), (1, .int v1_99_2)] [] M (j_X4_valueAll_99_2 v1_99_2 M) (fun o => Sum.elim (fun (s : (Int32 × zM)) => Zs C w (0, 0) 2 [(0, zr w 95), (1, .int s.1)] [] s.2) (fun (s : (zM)) => Zs C w (0, 0) 105 [(0, zr w 95)] [] s) o) := by
  have hC := hB.1.1
  have hq1 : 1 ≤ d := by omega
  unfold j_X4_valueAll_99_2
  refine x_iinc hC dX4_valueAll_99 ki_1 [(1, .int (v1_99_2 + (1 : Int32))), (0, zr w 95)] 1 rfl (by decide) rfl ?_
  refine x_goto (tgt := 2) hC dX4_valueAll_102 (by decide) ?_
  refine x_sub [1, 0] rfl ?_
  exact x_done (fun h => h)
noncomputable def b_X4_valueAll_2 (v1_2 : Int32) (M : zM) : Option ((Int32 × zM) ⊕ (zM)) :=
  if (61 : Int32) ≤ v1_2 then (some (.inr M))
  else (if (M 95 4) = 0 then ((loopW (fun s => b_X4_valueAll_17_2 v1_2 s.1 s.2) ((0 : Int32), M)).bind (fun r => j_X4_valueAll_99_2 v1_2 r))
  else (some (.inr M)))
set_option maxRecDepth 100000 in
theorem b_X4_valueAll_2_ok {C : zC} {d : Nat} {g : zG} {l : Launch} {w : zW} {r : zM} {v1_2 : Int32} (hB : bOK C cX4_valueAll 7 RX4 d g l w true) (hd : 2 ≤ d) (M : zM) (hR : RtV C cX4_valueAll w r) : Sg C w (0, 0) 2 [(0, zr w 95), (1, .int v1_2)] [] M (b_X4_valueAll_2 v1_2 M) (fun o => Sum.elim (fun (s : (Int32 × zM)) => Zs C w (0, 0) 2 [(0, zr w 95), (1, .int s.1)] [] s.2) (fun (s : (zM)) => Zs C w (0, 0) 105 [(0, zr w 95)] [] s) o) := by
  have hC := hB.1.1
  have hq1 : 1 ≤ d := by omega
  unfold b_X4_valueAll_2
  refine x_iload_n hC dX4_valueAll_2 rfl 1 rfl ?_
  refine x_bipush (v := (61 : Int32)) hC dX4_valueAll_3 kb_61 ?_
  refine x_icmp_ge (tgt := 105) hC dX4_valueAll_5 (by decide) ?_ ?_
  · refine x_sub [0] rfl ?_
    exact x_done (fun h => h)
  · refine x_aload_n hC dX4_valueAll_8 rfl 0 rfl ?_
    refine r_getI hB dX4_valueAll_9 kf_X4_70 rfl th_95 ?_
    refine x_if_ne (tgt := 105) hC dX4_valueAll_12 (by decide) ?_ ?_
    · refine x_iconst (v := (0 : Int32)) hC dX4_valueAll_15 ki_0 ?_
      refine x_istore_n hC dX4_valueAll_16 rfl [(2, .int (0 : Int32)), (0, zr w 95), (1, .int v1_2)] (by decide) rfl ?_
      refine x_sub [1, 2, 0] rfl ?_
      refine x_loopB (pc2 := 99) (fun (s : (Int32 × zM)) => [(0, zr w 95), (1, .int v1_2), (2, .int s.1)]) (fun (s : (Int32 × zM)) => s.2) (fun (s : (zM)) => [(0, zr w 95), (1, .int v1_2)]) (fun (s : (zM)) => s) ((0 : Int32), M) ?_ ?_
      · exact fun s => b_X4_valueAll_17_2_ok hB hd s.2 hR
      · intro r9
        exact j_X4_valueAll_99_2_ok hB hd r9 hR
    · refine x_sub [0] rfl ?_
      exact x_done (fun h => h)
noncomputable def j_X4_valueAll_105 (M : zM) : Option (zM) :=
  nm (mset M 95 4 (1 : Int32)) fun M107 =>
  some M107
set_option maxRecDepth 100000 in
theorem j_X4_valueAll_105_ok {C : zC} {d : Nat} {g : zG} {l : Launch} {w : zW} {r : zM} (hB : bOK C cX4_valueAll 7 RX4 d g l w true) (hd : 2 ≤ d) (M : zM) (hR : RtV C cX4_valueAll w r) : Sg C w (0, 0) 105 [(0, zr w 95)] [] M (j_X4_valueAll_105 M) (fun q => q = r) := by
  have hC := hB.1.1
  have hq1 : 1 ≤ d := by omega
  unfold j_X4_valueAll_105
  refine x_aload_n hC dX4_valueAll_105 rfl 0 rfl ?_
  refine x_iconst (v := (1 : Int32)) hC dX4_valueAll_106 ki_1 ?_
  refine r_putZ hB dX4_valueAll_107 kf_X4_70 rfl th_95 (Or.inr rfl) ?_
  refine x_mem (fun M107 => ?_)
  exact r_retV hR dX4_valueAll_110 (fun h => h)
noncomputable def f_X4_valueAll (M : zM) : Option (zM) :=
  (loopW (fun s => b_X4_valueAll_2 s.1 s.2) ((0 : Int32), M)).bind (fun r => j_X4_valueAll_105 r)
set_option maxRecDepth 100000 in
theorem f_X4_valueAll_ok {C : zC} {d : Nat} {g : zG} {l : Launch} {w : zW} {r : zM} (hB : bOK C cX4_valueAll 7 RX4 d g l w true) (hd : 2 ≤ d) (M : zM) (hR : RtV C cX4_valueAll w r) : Sg C w (0, 0) 0 [(0, zr w 95)] [] M (f_X4_valueAll M) (fun q => q = r) := by
  have hC := hB.1.1
  have hq1 : 1 ≤ d := by omega
  unfold f_X4_valueAll
  refine x_iconst (v := (0 : Int32)) hC dX4_valueAll_0 ki_0 ?_
  refine x_istore_n hC dX4_valueAll_1 rfl [(1, .int (0 : Int32)), (0, zr w 95)] (by decide) rfl ?_
  refine x_sub [1, 0] rfl ?_
  refine x_loopB (pc2 := 105) (fun (s : (Int32 × zM)) => [(0, zr w 95), (1, .int s.1)]) (fun (s : (Int32 × zM)) => s.2) (fun (s : (zM)) => [(0, zr w 95)]) (fun (s : (zM)) => s) ((0 : Int32), M) ?_ ?_
  · exact fun s => b_X4_valueAll_2_ok hB hd s.2 hR
  · intro r9
    exact j_X4_valueAll_105_ok hB hd r9 hR
theorem f_X4_valueAll_met {l : Launch} {d : Nat} {g : zG} {w : zW} {M0 : zM} {M : zM} (hw : wS w) (hd : 2 ≤ d) {M' : zM} (h : f_X4_valueAll M = some M') : zMet l yX4_valueAll cX4_valueAll 7 none d g w (zin true) M0 [zr w 95] M none M' :=
  met_v (by decide +kernel) (Nat.le_of_ble_eq_true rfl) (fun C hB0 hR => f_X4_valueAll_ok ⟨hB0, hw⟩ hd M hR _ h rfl)
/-! WindingSquare$Reader.take(I)Z -/
noncomputable def f_X5_take (p1 : Int32) (M : zM) : Option (Int32 × zM) :=
  grd (inb (M 78 7) 401) (
  if (M 80 (ix (M 78 7))) = p1 then ((f_X5_next M).bind fun M20 =>
  some ((1 : Int32), M20))
  else (bnd2 (f_X5_fail (1 : Int32) M) fun u15 M15 =>
  grd (isB u15) (some (u15, M15))))
set_option maxRecDepth 100000 in
theorem f_X5_take_ok {C : zC} {d : Nat} {g : zG} {l : Launch} {w : zW} {r : Int32 × zM} {p1 : Int32} (hB : bOK C cX5_take 2 RX5 d g l w true) (hd : 2 ≤ d) (M : zM) (hR : RtZ C cX5_take w r.1 r.2) : Sg C w (0, 0) 0 [(0, zr w 78), (1, .int p1)] [] M (f_X5_take p1 M) (fun q => q = r) := by
  have hC := hB.1.1
  have hq1 : 1 ≤ d := by omega
  unfold f_X5_take
  refine x_aload_n hC dX5_take_0 rfl 0 rfl ?_
  refine r_getR hB dX5_take_1 kf_X5_19 rfl th_78 rf_78_4 ?_
  refine x_aload_n hC dX5_take_4 rfl 0 rfl ?_
  refine r_getI hB dX5_take_5 kf_X5_34 rfl th_78 ?_
  refine r_iald hB dX5_take_8 th_80 ?_
  refine x_iload_n hC dX5_take_9 rfl 1 rfl ?_
  refine x_icmp_eq (tgt := 19) hC dX5_take_10 (by decide) ?_ ?_
  · refine x_aload_n hC dX5_take_19 rfl 0 rfl ?_
    refine r_cVv (as := []) (rest := []) hB dX5_take_20 kv_X5_73 th_78 hq1 rfl rfl (Nat.le_of_ble_eq_true rfl) (fun M' hv => f_X5_next_met hB.2 (by omega) hv) (fun M20 => ?_)
    refine x_iconst (v := (1 : Int32)) hC dX5_take_23 ki_1 ?_
    exact r_retZ hR dX5_take_24 (Or.inr rfl) (fun h => h)
  · refine x_aload_n hC dX5_take_13 rfl 0 rfl ?_
    refine x_iconst (v := (1 : Int32)) hC dX5_take_14 ki_1 ?_
    refine r_cV2 (as := [.int (1 : Int32)]) (rest := []) hB dX5_take_15 kv_X5_70 th_78 hq1 rfl rfl (Nat.le_of_ble_eq_true rfl) (fun v M' hv => f_X5_fail_met hB.2 (by omega) hv) (fun u15 M15 => ?_)
    refine x_grd (fun hb => ?_)
    exact r_retZ hR dX5_take_18 hb (fun h => h)
theorem f_X5_take_met {l : Launch} {d : Nat} {g : zG} {w : zW} {M0 : zM} {p1 : Int32} {M : zM} (hw : wS w) (hd : 2 ≤ d) {v : Int32} {M' : zM} (h : f_X5_take p1 M = some (v, M')) : zMet l yX5_take cX5_take 2 (some .boolean) d g w (zin true) M0 [zr w 78, .int p1] M (some (.int v)) M' :=
  met_z (by decide +kernel) (Nat.le_of_ble_eq_true rfl) (fun C hB0 hR => f_X5_take_ok (r := (v, M')) ⟨hB0, hw⟩ hd M hR _ h rfl)
/-! WindingSquare$Reader.opens(ZII)Z -/
noncomputable def f_X5_opens (p1 : Int32) (p2 : Int32) (p3 : Int32) (M : zM) : Option (Int32 × zM) :=
  if p1 = 0 then (bnd2 (f_X5_fail (1 : Int32) M) fun u6 M6 =>
  grd (isB u6) (some (u6, M6)))
  else (if p2 < p3 then (some ((1 : Int32), M))
  else (bnd2 (f_X5_fail (3 : Int32) M) fun u17 M17 =>
  if u17 = 0 then (some ((0 : Int32), M17))
  else (some ((1 : Int32), M17))))
set_option maxRecDepth 100000 in
theorem f_X5_opens_ok {C : zC} {d : Nat} {g : zG} {l : Launch} {w : zW} {r : Int32 × zM} {p1 : Int32} {p2 : Int32} {p3 : Int32} (hB : bOK C cX5_opens 4 RX5 d g l w true) (hd : 2 ≤ d) (M : zM) (hR : RtZ C cX5_opens w r.1 r.2) : Sg C w (0, 0) 0 [(0, zr w 78), (1, .int p1), (2, .int p2), (3, .int p3)] [] M (f_X5_opens p1 p2 p3 M) (fun q => q = r) := by
  have hC := hB.1.1
  have hq1 : 1 ≤ d := by omega
  unfold f_X5_opens
  refine x_iload_n hC dX5_opens_0 rfl 1 rfl ?_
  refine x_if_ne (tgt := 10) hC dX5_opens_1 (by decide) ?_ ?_
  · refine x_aload_n hC dX5_opens_4 rfl 0 rfl ?_
    refine x_iconst (v := (1 : Int32)) hC dX5_opens_5 ki_1 ?_
    refine r_cV2 (as := [.int (1 : Int32)]) (rest := []) hB dX5_opens_6 kv_X5_70 th_78 hq1 rfl rfl (Nat.le_of_ble_eq_true rfl) (fun v M' hv => f_X5_fail_met hB.2 (by omega) hv) (fun u6 M6 => ?_)
    refine x_grd (fun hb => ?_)
    exact r_retZ hR dX5_opens_9 hb (fun h => h)
  · refine x_iload_n hC dX5_opens_10 rfl 2 rfl ?_
    refine x_iload_n hC dX5_opens_11 rfl 3 rfl ?_
    refine x_icmp_lt (tgt := 23) hC dX5_opens_12 (by decide) ?_ ?_
    · refine x_iconst (v := (1 : Int32)) hC dX5_opens_23 ki_1 ?_
      refine x_goto (tgt := 28) hC dX5_opens_24 (by decide) ?_
      exact r_retZ hR dX5_opens_28 (Or.inr rfl) (fun h => h)
    · refine x_aload_n hC dX5_opens_15 rfl 0 rfl ?_
      refine x_iconst (v := (3 : Int32)) hC dX5_opens_16 ki_3 ?_
      refine r_cV2 (as := [.int (3 : Int32)]) (rest := []) hB dX5_opens_17 kv_X5_70 th_78 hq1 rfl rfl (Nat.le_of_ble_eq_true rfl) (fun v M' hv => f_X5_fail_met hB.2 (by omega) hv) (fun u17 M17 => ?_)
      refine x_if_eq (tgt := 27) hC dX5_opens_20 (by decide) ?_ ?_
      · refine x_iconst (v := (0 : Int32)) hC dX5_opens_27 ki_0 ?_
        exact r_retZ hR dX5_opens_28 (Or.inl rfl) (fun h => h)
      · refine x_iconst (v := (1 : Int32)) hC dX5_opens_23 ki_1 ?_
        refine x_goto (tgt := 28) hC dX5_opens_24 (by decide) ?_
        exact r_retZ hR dX5_opens_28 (Or.inr rfl) (fun h => h)
theorem f_X5_opens_met {l : Launch} {d : Nat} {g : zG} {w : zW} {M0 : zM} {p1 : Int32} {p2 : Int32} {p3 : Int32} {M : zM} (hw : wS w) (hd : 2 ≤ d) {v : Int32} {M' : zM} (h : f_X5_opens p1 p2 p3 M = some (v, M')) : zMet l yX5_opens cX5_opens 4 (some .boolean) d g w (zin true) M0 [zr w 78, .int p1, .int p2, .int p3] M (some (.int v)) M' :=
  met_z (by decide +kernel) (Nat.le_of_ble_eq_true rfl) (fun C hB0 hR => f_X5_opens_ok (r := (v, M')) ⟨hB0, hw⟩ hd M hR _ h rfl)
/-! WindingSquare$Reader.number(II)I -/
noncomputable def j_X5_number_64 (s1_64 : Int32) (M : zM) : Option (Int32 × zM) :=
  bnd2 (f_X5_fail s1_64 M) fun u64 M64 =>
  some ((-1 : Int32), M64)
set_option maxRecDepth 100000 in
theorem j_X5_number_64_ok {C : zC} {d : Nat} {g : zG} {l : Launch} {w : zW} {r : Int32 × zM} {s1_64 : Int32} (hB : bOK C cX5_number 5 RX5 d g l w true) (hd : 2 ≤ d) (M : zM) (hR : RtI C cX5_number w r.1 r.2) : Sg C w (0, 0) 64 [] [.int s1_64, zr w 78] M (j_X5_number_64 s1_64 M) (fun q => q = r) := by
  have hC := hB.1.1
  have hq1 : 1 ≤ d := by omega
  unfold j_X5_number_64
  refine r_cV2 (as := [.int s1_64]) (rest := []) hB dX5_number_64 kv_X5_70 th_78 hq1 rfl rfl (Nat.le_of_ble_eq_true rfl) (fun v M' hv => f_X5_fail_met hB.2 (by omega) hv) (fun u64 M64 => ?_)
  refine x_pop hC dX5_number_67 rfl ?_
  refine x_iconst (v := (-1 : Int32)) hC dX5_number_68 ki_m1 ?_
  exact r_retI hR dX5_number_69 (fun h => h)
noncomputable def j_X5_number_54 (v3_54 : Int32) (M : zM) : Option (Int32 × zM) :=
  if v3_54 = 0 then (j_X5_number_64 (1 : Int32) M)
  else (j_X5_number_64 (2 : Int32) M)
set_option maxRecDepth 100000 in
theorem j_X5_number_54_ok {C : zC} {d : Nat} {g : zG} {l : Launch} {w : zW} {r : Int32 × zM} {v3_54 : Int32} (hB : bOK C cX5_number 5 RX5 d g l w true) (hd : 2 ≤ d) (M : zM) (hR : RtI C cX5_number w r.1 r.2) : Sg C w (0, 0) 54 [(0, zr w 78), (3, .int v3_54)] [] M (j_X5_number_54 v3_54 M) (fun q => q = r) := by
  have hC := hB.1.1
  have hq1 : 1 ≤ d := by omega
  unfold j_X5_number_54
  refine x_aload_n hC dX5_number_54 rfl 0 rfl ?_
  refine x_iload_n hC dX5_number_55 rfl 1 rfl ?_
  refine x_if_eq (tgt := 63) hC dX5_number_56 (by decide) ?_ ?_
  · refine x_iconst (v := (1 : Int32)) hC dX5_number_63 ki_1 ?_
    refine x_sub [] rfl ?_
    exact j_X5_number_64_ok hB hd M hR
  · refine x_iconst (v := (2 : Int32)) hC dX5_number_59 ki_2 ?_
    refine x_goto (tgt := 64) hC dX5_number_60 (by decide) ?_
    refine x_sub [] rfl ?_
    exact j_X5_number_64_ok hB hd M hR
noncomputable def j_X5_number_36 (v1_36 : Int32) (v2_36 : Int32) (v3_36 : Int32) (s0_36 : Int32) (M : zM) : Option (Int32 × zM) :=
  if v3_36 = 0 then (j_X5_number_54 v3_36 M)
  else (if s0_36 < v1_36 then (j_X5_number_54 v3_36 M)
  else (if s0_36 ≤ v2_36 then ((f_X5_next M).bind fun M71 =>
  some (s0_36, M71))
  else (j_X5_number_54 v3_36 M)))
set_option maxRecDepth 100000 in
theorem j_X5_number_36_ok {C : zC} {d : Nat} {g : zG} {l : Launch} {w : zW} {r : Int32 × zM} {v1_36 : Int32} {v2_36 : Int32} {v3_36 : Int32} {s0_36 : Int32} (hB : bOK C cX5_number 5 RX5 d g l w true) (hd : 2 ≤ d) (M : zM) (hR : RtI C cX5_number w r.1 r.2) : Sg C w (0, 0) 36 [(0, zr w 78), (1, .int v1_36), (2, .int v2_36), (3, .int v3_36)] [.int s0_36] M (j_X5_number_36 v1_36 v2_36 v3_36 s0_36 M) (fun q => q = r) := by
  have hC := hB.1.1
  have hq1 : 1 ≤ d := by omega
  unfold j_X5_number_36
  refine x_istore (f := 0) hC dX5_number_36 [(4, .int s0_36), (0, zr w 78), (1, .int v1_36), (2, .int v2_36), (3, .int v3_36)] (by decide) rfl ?_
  refine x_iload_n hC dX5_number_38 rfl 4 rfl ?_
  refine x_if_eq (tgt := 54) hC dX5_number_39 (by decide) ?_ ?_
  · refine x_sub [1, 4] rfl ?_
    exact j_X5_number_54_ok hB hd M hR
  · refine x_iload hC dX5_number_42 0 rfl ?_
    refine x_iload_n hC dX5_number_44 rfl 2 rfl ?_
    refine x_icmp_lt (tgt := 54) hC dX5_number_45 (by decide) ?_ ?_
    · refine x_sub [1, 4] rfl ?_
      exact j_X5_number_54_ok hB hd M hR
    · refine x_iload hC dX5_number_48 0 rfl ?_
      refine x_iload_n hC dX5_number_50 rfl 3 rfl ?_
      refine x_icmp_le (tgt := 70) hC dX5_number_51 (by decide) ?_ ?_
      · refine x_aload_n hC dX5_number_70 rfl 1 rfl ?_
        refine r_cVv (as := []) (rest := []) hB dX5_number_71 kv_X5_73 th_78 hq1 rfl rfl (Nat.le_of_ble_eq_true rfl) (fun M' hv => f_X5_next_met hB.2 (by omega) hv) (fun M71 => ?_)
        refine x_iload hC dX5_number_74 0 rfl ?_
        exact r_retI hR dX5_number_76 (fun h => h)
      · refine x_sub [1, 4] rfl ?_
        exact j_X5_number_54_ok hB hd M hR
noncomputable def j_X5_number_18 (v1_18 : Int32) (v2_18 : Int32) (s0_18 : Int32) (M : zM) : Option (Int32 × zM) :=
  if s0_18 = 0 then (j_X5_number_36 v1_18 v2_18 s0_18 (-1 : Int32) M)
  else (grd (inb (M 78 7) 401) (
  j_X5_number_36 v1_18 v2_18 s0_18 (M 81 (ix (M 78 7))) M))
set_option maxRecDepth 100000 in
theorem j_X5_number_18_ok {C : zC} {d : Nat} {g : zG} {l : Launch} {w : zW} {r : Int32 × zM} {v1_18 : Int32} {v2_18 : Int32} {s0_18 : Int32} (hB : bOK C cX5_number 5 RX5 d g l w true) (hd : 2 ≤ d) (M : zM) (hR : RtI C cX5_number w r.1 r.2) : Sg C w (0, 0) 18 [(0, zr w 78), (1, .int v1_18), (2, .int v2_18)] [.int s0_18] M (j_X5_number_18 v1_18 v2_18 s0_18 M) (fun q => q = r) := by
  have hC := hB.1.1
  have hq1 : 1 ≤ d := by omega
  unfold j_X5_number_18
  refine x_istore_n hC dX5_number_18 rfl [(3, .int s0_18), (0, zr w 78), (1, .int v1_18), (2, .int v2_18)] (by decide) rfl ?_
  refine x_iload_n hC dX5_number_19 rfl 0 rfl ?_
  refine x_if_eq (tgt := 35) hC dX5_number_20 (by decide) ?_ ?_
  · refine x_iconst (v := (-1 : Int32)) hC dX5_number_35 ki_m1 ?_
    refine x_sub [1, 2, 3, 0] rfl ?_
    exact j_X5_number_36_ok hB hd M hR
  · refine x_aload_n hC dX5_number_23 rfl 1 rfl ?_
    refine r_getR hB dX5_number_24 kf_X5_22 rfl th_78 rf_78_5 ?_
    refine x_aload_n hC dX5_number_27 rfl 1 rfl ?_
    refine r_getI hB dX5_number_28 kf_X5_34 rfl th_78 ?_
    refine r_iald hB dX5_number_31 th_81 ?_
    refine x_goto (tgt := 36) hC dX5_number_32 (by decide) ?_
    refine x_sub [1, 2, 3, 0] rfl ?_
    exact j_X5_number_36_ok hB hd M hR
noncomputable def f_X5_number (p1 : Int32) (p2 : Int32) (M : zM) : Option (Int32 × zM) :=
  grd (inb (M 78 7) 401) (
  if (M 80 (ix (M 78 7))) = (2 : Int32) then (j_X5_number_18 p1 p2 (1 : Int32) M)
  else (j_X5_number_18 p1 p2 (0 : Int32) M))
set_option maxRecDepth 100000 in
theorem f_X5_number_ok {C : zC} {d : Nat} {g : zG} {l : Launch} {w : zW} {r : Int32 × zM} {p1 : Int32} {p2 : Int32} (hB : bOK C cX5_number 5 RX5 d g l w true) (hd : 2 ≤ d) (M : zM) (hR : RtI C cX5_number w r.1 r.2) : Sg C w (0, 0) 0 [(0, zr w 78), (1, .int p1), (2, .int p2)] [] M (f_X5_number p1 p2 M) (fun q => q = r) := by
  have hC := hB.1.1
  have hq1 : 1 ≤ d := by omega
  unfold f_X5_number
  refine x_aload_n hC dX5_number_0 rfl 0 rfl ?_
  refine r_getR hB dX5_number_1 kf_X5_19 rfl th_78 rf_78_4 ?_
  refine x_aload_n hC dX5_number_4 rfl 0 rfl ?_
  refine r_getI hB dX5_number_5 kf_X5_34 rfl th_78 ?_
  refine r_iald hB dX5_number_8 th_80 ?_
  refine x_iconst (v := (2 : Int32)) hC dX5_number_9 ki_2 ?_
  refine x_icmp_ne (tgt := 17) hC dX5_number_10 (by decide) ?_ ?_
  · refine x_iconst (v := (1 : Int32)) hC dX5_number_13 ki_1 ?_
    refine x_goto (tgt := 18) hC dX5_number_14 (by decide) ?_
    exact j_X5_number_18_ok hB hd M hR
  · refine x_iconst (v := (0 : Int32)) hC dX5_number_17 ki_0 ?_
    exact j_X5_number_18_ok hB hd M hR
theorem f_X5_number_met {l : Launch} {d : Nat} {g : zG} {w : zW} {M0 : zM} {p1 : Int32} {p2 : Int32} {M : zM} (hw : wS w) (hd : 2 ≤ d) {v : Int32} {M' : zM} (h : f_X5_number p1 p2 M = some (v, M')) : zMet l yX5_number cX5_number 5 (some .int) d g w (zin true) M0 [zr w 78, .int p1, .int p2] M (some (.int v)) M' :=
  met_i (by decide +kernel) (Nat.le_of_ble_eq_true rfl) rfl (fun C hB0 hR => f_X5_number_ok (r := (v, M')) ⟨hB0, hw⟩ hd M hR _ h rfl)
/-! WindingSquare$Reader.behindLetters(I)I -/
noncomputable def b_X5_behindLetters_2 (v2_2 : Int32) (M : zM) : Option ((Int32) ⊕ (Int32)) :=
  if (M 78 0) ≤ v2_2 then (some (.inr v2_2))
  else (grd (inb v2_2 400) (
  if (f_X5_isLetter (M 79 (ix v2_2))) = 0 then (some (.inr v2_2))
  else (some (.inl (v2_2 + (1 : Int32))))))
set_option maxRecDepth 100000 in
theorem b_X5_behindLetters_2_ok {C : zC} {d : Nat} {g : zG} {l : Launch} {w : zW} {r : Int32} {v2_2 : Int32} (hB : bOK C cX5_behindLetters 3 RX5 d g l w true) (hd : 2 ≤ d) (M : zM) (hR : RtI C cX5_behindLetters w r M) : Sg C w (0, 0) 2 [(0, zr w 78), (2, .int v2_2)] [] M (b_X5_behindLetters_2 v2_2 M) (fun o => Sum.elim (fun (s : (Int32)) => Zs C w (0, 0) 2 [(0, zr w 78), (2, .int s)] [] M) (fun (s : (Int32)) => Zs C w (0, 0) 28 [(2, .int s)] [] M) o) := by
  have hC := hB.1.1
  have hq1 : 1 ≤ d := by omega
  unfold b_X5_behindLetters_2
  refine x_iload_n hC dX5_behindLetters_2 rfl 1 rfl ?_
  refine x_aload_n hC dX5_behindLetters_3 rfl 0 rfl ?_
  refine r_getI hB dX5_behindLetters_4 kf_X5_28 rfl th_78 ?_
  refine x_icmp_ge (tgt := 28) hC dX5_behindLetters_7 (by decide) ?_ ?_
  · refine x_sub [1] rfl ?_
    exact x_done (fun h => h)
  · refine x_aload_n hC dX5_behindLetters_10 rfl 0 rfl ?_
    refine r_getR hB dX5_behindLetters_11 kf_X5_15 rfl th_78 rf_78_3 ?_
    refine x_iload_n hC dX5_behindLetters_14 rfl 1 rfl ?_
    refine r_iald hB dX5_behindLetters_15 th_79 ?_
    refine r_cS0 (as := [.int (M 79 (ix v2_2))]) (rest := []) hB dX5_behindLetters_16 ks_X5_37 hq1 rfl rfl (Nat.le_of_ble_eq_true rfl) (f_X5_isLetter_met hB.2 (by omega)) ?_
    refine x_if_eq (tgt := 28) hC dX5_behindLetters_19 (by decide) ?_ ?_
    · refine x_sub [1] rfl ?_
      exact x_done (fun h => h)
    · refine x_iinc hC dX5_behindLetters_22 ki_1 [(2, .int (v2_2 + (1 : Int32))), (0, zr w 78)] 1 rfl (by decide) rfl ?_
      refine x_goto (tgt := 2) hC dX5_behindLetters_25 (by decide) ?_
      refine x_sub [1, 0] rfl ?_
      exact x_done (fun h => h)
noncomputable def j_X5_behindLetters_28 (v2_28 : Int32) (M : zM) : Option (Int32) :=
  some v2_28
set_option maxRecDepth 100000 in
theorem j_X5_behindLetters_28_ok {C : zC} {d : Nat} {g : zG} {l : Launch} {w : zW} {r : Int32} {v2_28 : Int32} (hB : bOK C cX5_behindLetters 3 RX5 d g l w true) (hd : 2 ≤ d) (M : zM) (hR : RtI C cX5_behindLetters w r M) : Sg C w (0, 0) 28 [(2, .int v2_28)] [] M (j_X5_behindLetters_28 v2_28 M) (fun q => q = r) := by
  have hC := hB.1.1
  have hq1 : 1 ≤ d := by omega
  unfold j_X5_behindLetters_28
  refine x_iload_n hC dX5_behindLetters_28 rfl 0 rfl ?_
  exact r_retI hR dX5_behindLetters_29 (fun h => congrArg (fun q => (q, M)) h)
noncomputable def f_X5_behindLetters (p1 : Int32) (M : zM) : Option (Int32) :=
  (loopW (fun s => b_X5_behindLetters_2 s M) p1).bind (fun r => j_X5_behindLetters_28 r M)
set_option maxRecDepth 100000 in
theorem f_X5_behindLetters_ok {C : zC} {d : Nat} {g : zG} {l : Launch} {w : zW} {r : Int32} {p1 : Int32} (hB : bOK C cX5_behindLetters 3 RX5 d g l w true) (hd : 2 ≤ d) (M : zM) (hR : RtI C cX5_behindLetters w r M) : Sg C w (0, 0) 0 [(0, zr w 78), (1, .int p1)] [] M (f_X5_behindLetters p1 M) (fun q => q = r) := by
  have hC := hB.1.1
  have hq1 : 1 ≤ d := by omega
  unfold f_X5_behindLetters
  refine x_iload_n hC dX5_behindLetters_0 rfl 1 rfl ?_
  refine x_istore_n hC dX5_behindLetters_1 rfl [(2, .int p1), (0, zr w 78), (1, .int p1)] (by decide) rfl ?_
  refine x_sub [1, 0] rfl ?_
  refine x_loopB (pc2 := 28) (fun (s : (Int32)) => [(0, zr w 78), (2, .int s)]) (fun (s : (Int32)) => M) (fun (s : (Int32)) => [(2, .int s)]) (fun (s : (Int32)) => M) p1 ?_ ?_
  · exact fun s => b_X5_behindLetters_2_ok hB hd M hR
  · intro r9
    exact j_X5_behindLetters_28_ok hB hd M hR
theorem f_X5_behindLetters_met {l : Launch} {d : Nat} {g : zG} {w : zW} {M0 : zM} {p1 : Int32} {M : zM} (hw : wS w) (hd : 2 ≤ d) {v : Int32} (h : f_X5_behindLetters p1 M = some v) : zMet l yX5_behindLetters cX5_behindLetters 3 (some .int) d g w (zin true) M0 [zr w 78, .int p1] M (some (.int v)) M :=
  met_i (by decide +kernel) (Nat.le_of_ble_eq_true rfl) rfl (fun C hB0 hR => f_X5_behindLetters_ok ⟨hB0, hw⟩ hd M hR _ h rfl)
/-! WindingSquare$Reader.behindDigits(I)I -/
noncomputable def b_X5_behindDigits_2 (v2_2 : Int32) (M : zM) : Option ((Int32) ⊕ (Int32)) :=
  if (M 78 0) ≤ v2_2 then (some (.inr v2_2))
  else (grd (inb v2_2 400) (
  if (f_X5_isDigit (M 79 (ix v2_2))) = 0 then (some (.inr v2_2))
  else (some (.inl (v2_2 + (1 : Int32))))))
set_option maxRecDepth 100000 in
theorem b_X5_behindDigits_2_ok {C : zC} {d : Nat} {g : zG} {l : Launch} {w : zW} {r : Int32} {v2_2 : Int32} (hB : bOK C cX5_behindDigits 3 RX5 d g l w true) (hd : 2 ≤ d) (M : zM) (hR : RtI C cX5_behindDigits w r M) : Sg C w (0, 0) 2 [(0, zr w 78), (2, .int v2_2)] [] M (b_X5_behindDigits_2 v2_2 M) (fun o => Sum.elim (fun (s : (Int32)) => Zs C w (0, 0) 2 [(0, zr w 78), (2, .int s)] [] M) (fun (s : (Int32)) => Zs C w (0, 0) 28 [(2, .int s)] [] M) o) := by
  have hC := hB.1.1
  have hq1 : 1 ≤ d := by omega
  unfold b_X5_behindDigits_2
  refine x_iload_n hC dX5_behindDigits_2 rfl 1 rfl ?_
  refine x_aload_n hC dX5_behindDigits_3 rfl 0 rfl ?_
  refine r_getI hB dX5_behindDigits_4 kf_X5_28 rfl th_78 ?_
  refine x_icmp_ge (tgt := 28) hC dX5_behindDigits_7 (by decide) ?_ ?_
  · refine x_sub [1] rfl ?_
    exact x_done (fun h => h)
  · refine x_aload_n hC dX5_behindDigits_10 rfl 0 rfl ?_
    refine r_getR hB dX5_behindDigits_11 kf_X5_15 rfl th_78 rf_78_3 ?_
    refine x_iload_n hC dX5_behindDigits_14 rfl 1 rfl ?_
    refine r_iald hB dX5_behindDigits_15 th_79 ?_
    refine r_cS0 (as := [.int (M 79 (ix v2_2))]) (rest := []) hB dX5_behindDigits_16 ks_X5_54 hq1 rfl rfl (Nat.le_of_ble_eq_true rfl) (f_X5_isDigit_met hB.2 (by omega)) ?_
    refine x_if_eq (tgt := 28) hC dX5_behindDigits_19 (by decide) ?_ ?_
    · refine x_sub [1] rfl ?_
      exact x_done (fun h => h)
    · refine x_iinc hC dX5_behindDigits_22 ki_1 [(2, .int (v2_2 + (1 : Int32))), (0, zr w 78)] 1 rfl (by decide) rfl ?_
      refine x_goto (tgt := 2) hC dX5_behindDigits_25 (by decide) ?_
      refine x_sub [1, 0] rfl ?_
      exact x_done (fun h => h)
noncomputable def j_X5_behindDigits_28 (v2_28 : Int32) (M : zM) : Option (Int32) :=
  some v2_28
set_option maxRecDepth 100000 in
theorem j_X5_behindDigits_28_ok {C : zC} {d : Nat} {g : zG} {l : Launch} {w : zW} {r : Int32} {v2_28 : Int32} (hB : bOK C cX5_behindDigits 3 RX5 d g l w true) (hd : 2 ≤ d) (M : zM) (hR : RtI C cX5_behindDigits w r M) : Sg C w (0, 0) 28 [(2, .int v2_28)] [] M (j_X5_behindDigits_28 v2_28 M) (fun q => q = r) := by
  have hC := hB.1.1
  have hq1 : 1 ≤ d := by omega
  unfold j_X5_behindDigits_28
  refine x_iload_n hC dX5_behindDigits_28 rfl 0 rfl ?_
  exact r_retI hR dX5_behindDigits_29 (fun h => congrArg (fun q => (q, M)) h)
noncomputable def f_X5_behindDigits (p1 : Int32) (M : zM) : Option (Int32) :=
  (loopW (fun s => b_X5_behindDigits_2 s M) p1).bind (fun r => j_X5_behindDigits_28 r M)
set_option maxRecDepth 100000 in
theorem f_X5_behindDigits_ok {C : zC} {d : Nat} {g : zG} {l : Launch} {w : zW} {r : Int32} {p1 : Int32} (hB : bOK C cX5_behindDigits 3 RX5 d g l w true) (hd : 2 ≤ d) (M : zM) (hR : RtI C cX5_behindDigits w r M) : Sg C w (0, 0) 0 [(0, zr w 78), (1, .int p1)] [] M (f_X5_behindDigits p1 M) (fun q => q = r) := by
  have hC := hB.1.1
  have hq1 : 1 ≤ d := by omega
  unfold f_X5_behindDigits
  refine x_iload_n hC dX5_behindDigits_0 rfl 1 rfl ?_
  refine x_istore_n hC dX5_behindDigits_1 rfl [(2, .int p1), (0, zr w 78), (1, .int p1)] (by decide) rfl ?_
  refine x_sub [1, 0] rfl ?_
  refine x_loopB (pc2 := 28) (fun (s : (Int32)) => [(0, zr w 78), (2, .int s)]) (fun (s : (Int32)) => M) (fun (s : (Int32)) => [(2, .int s)]) (fun (s : (Int32)) => M) p1 ?_ ?_
  · exact fun s => b_X5_behindDigits_2_ok hB hd M hR
  · intro r9
    exact j_X5_behindDigits_28_ok hB hd M hR
theorem f_X5_behindDigits_met {l : Launch} {d : Nat} {g : zG} {w : zW} {M0 : zM} {p1 : Int32} {M : zM} (hw : wS w) (hd : 2 ≤ d) {v : Int32} (h : f_X5_behindDigits p1 M = some v) : zMet l yX5_behindDigits cX5_behindDigits 3 (some .int) d g w (zin true) M0 [zr w 78, .int p1] M (some (.int v)) M :=
  met_i (by decide +kernel) (Nat.le_of_ble_eq_true rfl) rfl (fun C hB0 hR => f_X5_behindDigits_ok ⟨hB0, hw⟩ hd M hR _ h rfl)
/-! WindingSquare$Rows.home()I -/
noncomputable def f_X6_home (a0 : Nat) (M : zM) : Option (Int32 × zM) :=
  bnd2 (f_X6_walk a0 M) fun u1 M1 =>
  some (((f_J9_abs_0f7a4 (M1 a0 9)) + (f_J9_abs_0f7a4 (M1 a0 10))), M1)
set_option maxRecDepth 100000 in
theorem f_X6_home_ok {C : zC} {d : Nat} {g : zG} {l : Launch} {w : zW} {r : Int32 × zM} {a0 : Nat} (hB : bOK C cX6_home 1 RX6 d g l w true) (h0 : tO true 6 a0) (hd : 2 ≤ d) (M : zM) (hR : RtI C cX6_home w r.1 r.2) : Sg C w (0, 0) 0 [(0, zr w a0)] [] M (f_X6_home a0 M) (fun q => q = r) := by
  have hC := hB.1.1
  have hq1 : 1 ≤ d := by omega
  unfold f_X6_home
  refine x_aload_n hC dX6_home_0 rfl 0 rfl ?_
  refine r_cV2 (as := []) (rest := []) hB dX6_home_1 kv_X6_48 h0 hq1 rfl rfl (Nat.le_of_ble_eq_true rfl) (fun v M' hv => f_X6_walk_met hB.2 h0 (by omega) hv) (fun u1 M1 => ?_)
  refine x_pop hC dX6_home_4 rfl ?_
  refine x_aload_n hC dX6_home_5 rfl 0 rfl ?_
  refine r_getI hB dX6_home_6 kf_X6_52 rfl h0 ?_
  refine r_cS0 (as := [.int (M1 a0 9)]) (rest := []) hB dX6_home_9 ks_X6_55 hq1 rfl rfl (Nat.le_of_ble_eq_true rfl) (f_J9_abs_0f7a4_met hB.2 (by omega)) ?_
  refine x_aload_n hC dX6_home_12 rfl 0 rfl ?_
  refine r_getI hB dX6_home_13 kf_X6_61 rfl h0 ?_
  refine r_cS0 (as := [.int (M1 a0 10)]) (rest := [.int (f_J9_abs_0f7a4 (M1 a0 9))]) hB dX6_home_16 ks_X6_55 hq1 rfl rfl (Nat.le_of_ble_eq_true rfl) (f_J9_abs_0f7a4_met hB.2 (by omega)) ?_
  refine x_iadd hC dX6_home_19 ?_
  exact r_retI hR dX6_home_20 (fun h => h)
theorem f_X6_home_met {l : Launch} {d : Nat} {g : zG} {w : zW} {M0 : zM} {a0 : Nat} {M : zM} (hw : wS w) (h0 : tO true 6 a0) (hd : 2 ≤ d) {v : Int32} {M' : zM} (h : f_X6_home a0 M = some (v, M')) : zMet l yX6_home cX6_home 1 (some .int) d g w (zin true) M0 [zr w a0] M (some (.int v)) M' :=
  met_i (by decide +kernel) (Nat.le_of_ble_eq_true rfl) rfl (fun C hB0 hR => f_X6_home_ok (r := (v, M')) ⟨hB0, hw⟩ h0 hd M hR _ h rfl)
/-! WindingSquare$Rows.again()I -/
noncomputable def j_X6_again_34_9 (a0 : Nat) (v1_9 : Int32) (v2_34_9 : Int32) (v3_34_9 : Int32) (M : zM) : Option ((Int32 × Int32) ⊕ (Int32)) :=
  some (.inl (v2_34_9, (v3_34_9 + (1 : Int32))))
set_option maxRecDepth 100000 in
theorem j_X6_again_34_9_ok {C : zC} {d : Nat} {g : zG} {l : Launch} {w : zW} {r : Int32 × zM} {a0 : Nat} {v1_9 : Int32} {v2_34_9 : Int32} {v3_34_9 : Int32} (hB : bOK C cX6_again 4 RX6 d g l w true) (h0 : tO true 6 a0) (hd : 2 ≤ d) (M : zM) (hR : RtI C cX6_again w r.1 r.2) : Sg C w (0, 0) 34 [(0, zr w a0), (1, .int v1_9), (2, .int v2_34_9), (3, .int v3_34_9)] [] M (j_X6_again_34_9 a0 v1_9 v2_34_9 v3_34_9 M) (fun o => Sum.elim (fun (s : (Int32 × Int32)) => Zs C w (0, 0) 9 [(0, zr w a0), (1, .int v1_9), (2, .int s.1), (3, .int s.2)] [] M) (fun (s : (Int32)) => Zs C w (0, 0) 40 [(2, .int s)] [] M) o) := by
  have hC := hB.1.1
  have hq1 : 1 ≤ d := by omega
  unfold j_X6_again_34_9
  refine x_iinc hC dX6_again_34 ki_1 [(3, .int (v3_34_9 + (1 : Int32))), (0, zr w a0), (1, .int v1_9), (2, .int v2_34_9)] 3 rfl (by decide) rfl ?_
  refine x_goto (tgt := 9) hC dX6_again_37 (by decide) ?_
  refine x_sub [1, 2, 3, 0] rfl ?_
  exact x_done (fun h => h)
noncomputable def b_X6_again_9 (a0 : Nat) (v1_9 : Int32) (v2_9 : Int32) (v3_9 : Int32) (M : zM) : Option ((Int32 × Int32) ⊕ (Int32)) :=
  if v1_9 < v3_9 then (some (.inr v2_9))
  else ((f_X6_firstTime a0 v3_9 M).bind fun u16_9 =>
  if u16_9 = 0 then (j_X6_again_34_9 a0 v1_9 v2_9 v3_9 M)
  else ((f_X6_comesBack a0 v3_9 v1_9 M).bind fun u25_9 =>
  if u25_9 = 0 then (j_X6_again_34_9 a0 v1_9 v2_9 v3_9 M)
  else (j_X6_again_34_9 a0 v1_9 (v2_9 + (1 : Int32)) v3_9 M)))
set_option maxRecDepth 100000 in
theorem b_X6_again_9_ok {C : zC} {d : Nat} {g : zG} {l : Launch} {w : zW} {r : Int32 × zM} {a0 : Nat} {v1_9 : Int32} {v2_9 : Int32} {v3_9 : Int32} (hB : bOK C cX6_again 4 RX6 d g l w true) (h0 : tO true 6 a0) (hd : 2 ≤ d) (M : zM) (hR : RtI C cX6_again w r.1 r.2) : Sg C w (0, 0) 9 [(0, zr w a0), (1, .int v1_9), (2, .int v2_9), (3, .int v3_9)] [] M (b_X6_again_9 a0 v1_9 v2_9 v3_9 M) (fun o => Sum.elim (fun (s : (Int32 × Int32)) => Zs C w (0, 0) 9 [(0, zr w a0), (1, .int v1_9), (2, .int s.1), (3, .int s.2)] [] M) (fun (s : (Int32)) => Zs C w (0, 0) 40 [(2, .int s)] [] M) o) := by
  have hC := hB.1.1
  have hq1 : 1 ≤ d := by omega
  unfold b_X6_again_9
  refine x_iload_n hC dX6_again_9 rfl 3 rfl ?_
  refine x_iload_n hC dX6_again_10 rfl 1 rfl ?_
  refine x_icmp_gt (tgt := 40) hC dX6_again_11 (by decide) ?_ ?_
  · refine x_sub [2] rfl ?_
    exact x_done (fun h => h)
  · refine x_aload_n hC dX6_again_14 rfl 0 rfl ?_
    refine x_iload_n hC dX6_again_15 rfl 3 rfl ?_
    refine r_cV1 (as := [.int v3_9]) (rest := []) hB dX6_again_16 kv_X6_64 h0 hq1 rfl rfl (Nat.le_of_ble_eq_true rfl) (fun v hv => f_X6_firstTime_met hB.2 h0 (by omega) hv) (fun u16_9 => ?_)
    refine x_if_eq (tgt := 34) hC dX6_again_19 (by decide) ?_ ?_
    · exact j_X6_again_34_9_ok hB h0 hd M hR
    · refine x_aload_n hC dX6_again_22 rfl 0 rfl ?_
      refine x_iload_n hC dX6_again_23 rfl 3 rfl ?_
      refine x_iload_n hC dX6_again_24 rfl 1 rfl ?_
      refine r_cV1 (as := [.int v3_9, .int v1_9]) (rest := []) hB dX6_again_25 kv_X6_68 h0 hq1 rfl rfl (Nat.le_of_ble_eq_true rfl) (fun v hv => f_X6_comesBack_met hB.2 h0 (by omega) hv) (fun u25_9 => ?_)
      refine x_if_eq (tgt := 34) hC dX6_again_28 (by decide) ?_ ?_
      · exact j_X6_again_34_9_ok hB h0 hd M hR
      · refine x_iinc hC dX6_again_31 ki_1 [(2, .int (v2_9 + (1 : Int32))), (0, zr w a0), (1, .int v1_9), (3, .int v3_9)] 2 rfl (by decide) rfl ?_
        refine x_sub [1, 2, 0, 3] rfl ?_
        exact j_X6_again_34_9_ok hB h0 hd M hR
noncomputable def j_X6_again_40 (a0 : Nat) (v2_40 : Int32) (M : zM) : Option (Int32 × zM) :=
  some (v2_40, M)
set_option maxRecDepth 100000 in
theorem j_X6_again_40_ok {C : zC} {d : Nat} {g : zG} {l : Launch} {w : zW} {r : Int32 × zM} {a0 : Nat} {v2_40 : Int32} (hB : bOK C cX6_again 4 RX6 d g l w true) (h0 : tO true 6 a0) (hd : 2 ≤ d) (M : zM) (hR : RtI C cX6_again w r.1 r.2) : Sg C w (0, 0) 40 [(2, .int v2_40)] [] M (j_X6_again_40 a0 v2_40 M) (fun q => q = r) := by
  have hC := hB.1.1
  have hq1 : 1 ≤ d := by omega
  unfold j_X6_again_40
  refine x_iload_n hC dX6_again_40 rfl 0 rfl ?_
  exact r_retI hR dX6_again_41 (fun h => h)
noncomputable def f_X6_again (a0 : Nat) (M : zM) : Option (Int32 × zM) :=
  bnd2 (f_X6_walk a0 M) fun u1 M1 =>
  (loopW (fun s => b_X6_again_9 a0 u1 s.1 s.2 M1) ((0 : Int32), (0 : Int32))).bind (fun r => j_X6_again_40 a0 r M1)
set_option maxRecDepth 100000 in
theorem f_X6_again_ok {C : zC} {d : Nat} {g : zG} {l : Launch} {w : zW} {r : Int32 × zM} {a0 : Nat} (hB : bOK C cX6_again 4 RX6 d g l w true) (h0 : tO true 6 a0) (hd : 2 ≤ d) (M : zM) (hR : RtI C cX6_again w r.1 r.2) : Sg C w (0, 0) 0 [(0, zr w a0)] [] M (f_X6_again a0 M) (fun q => q = r) := by
  have hC := hB.1.1
  have hq1 : 1 ≤ d := by omega
  unfold f_X6_again
  refine x_aload_n hC dX6_again_0 rfl 0 rfl ?_
  refine r_cV2 (as := []) (rest := []) hB dX6_again_1 kv_X6_48 h0 hq1 rfl rfl (Nat.le_of_ble_eq_true rfl) (fun v M' hv => f_X6_walk_met hB.2 h0 (by omega) hv) (fun u1 M1 => ?_)
  refine x_istore_n hC dX6_again_4 rfl [(1, .int u1), (0, zr w a0)] (by decide) rfl ?_
  refine x_iconst (v := (0 : Int32)) hC dX6_again_5 ki_0 ?_
  refine x_istore_n hC dX6_again_6 rfl [(2, .int (0 : Int32)), (1, .int u1), (0, zr w a0)] (by decide) rfl ?_
  refine x_iconst (v := (0 : Int32)) hC dX6_again_7 ki_0 ?_
  refine x_istore_n hC dX6_again_8 rfl [(3, .int (0 : Int32)), (2, .int (0 : Int32)), (1, .int u1), (0, zr w a0)] (by decide) rfl ?_
  refine x_sub [3, 2, 1, 0] rfl ?_
  refine x_loopB (pc2 := 40) (fun (s : (Int32 × Int32)) => [(0, zr w a0), (1, .int u1), (2, .int s.1), (3, .int s.2)]) (fun (s : (Int32 × Int32)) => M1) (fun (s : (Int32)) => [(2, .int s)]) (fun (s : (Int32)) => M1) ((0 : Int32), (0 : Int32)) ?_ ?_
  · exact fun s => b_X6_again_9_ok hB h0 hd M1 hR
  · intro r9
    exact j_X6_again_40_ok hB h0 hd M1 hR
theorem f_X6_again_met {l : Launch} {d : Nat} {g : zG} {w : zW} {M0 : zM} {a0 : Nat} {M : zM} (hw : wS w) (h0 : tO true 6 a0) (hd : 2 ≤ d) {v : Int32} {M' : zM} (h : f_X6_again a0 M = some (v, M')) : zMet l yX6_again cX6_again 4 (some .int) d g w (zin true) M0 [zr w a0] M (some (.int v)) M' :=
  met_i (by decide +kernel) (Nat.le_of_ble_eq_true rfl) rfl (fun C hB0 hR => f_X6_again_ok (r := (v, M')) ⟨hB0, hw⟩ h0 hd M hR _ h rfl)
/-! WindingSquare$Rows.about()I -/
noncomputable def f_X6_about (a0 : Nat) (M : zM) : Option (Int32 × zM) :=
  bnd2 (f_X6_walk a0 M) fun u1 M1 =>
  if (M1 a0 9) = 0 then (if (M1 a0 10) = 0 then (some ((f_J9_abs_0f7a4 (M1 a0 11)), M1))
  else (some ((-1 : Int32), M1)))
  else (some ((-1 : Int32), M1))
set_option maxRecDepth 100000 in
theorem f_X6_about_ok {C : zC} {d : Nat} {g : zG} {l : Launch} {w : zW} {r : Int32 × zM} {a0 : Nat} (hB : bOK C cX6_about 1 RX6 d g l w true) (h0 : tO true 6 a0) (hd : 2 ≤ d) (M : zM) (hR : RtI C cX6_about w r.1 r.2) : Sg C w (0, 0) 0 [(0, zr w a0)] [] M (f_X6_about a0 M) (fun q => q = r) := by
  have hC := hB.1.1
  have hq1 : 1 ≤ d := by omega
  unfold f_X6_about
  refine x_aload_n hC dX6_about_0 rfl 0 rfl ?_
  refine r_cV2 (as := []) (rest := []) hB dX6_about_1 kv_X6_48 h0 hq1 rfl rfl (Nat.le_of_ble_eq_true rfl) (fun v M' hv => f_X6_walk_met hB.2 h0 (by omega) hv) (fun u1 M1 => ?_)
  refine x_pop hC dX6_about_4 rfl ?_
  refine x_aload_n hC dX6_about_5 rfl 0 rfl ?_
  refine r_getI hB dX6_about_6 kf_X6_52 rfl h0 ?_
  refine x_if_ne (tgt := 29) hC dX6_about_9 (by decide) ?_ ?_
  · refine x_aload_n hC dX6_about_12 rfl 0 rfl ?_
    refine r_getI hB dX6_about_13 kf_X6_61 rfl h0 ?_
    refine x_if_ne (tgt := 29) hC dX6_about_16 (by decide) ?_ ?_
    · refine x_aload_n hC dX6_about_19 rfl 0 rfl ?_
      refine r_getI hB dX6_about_20 kf_X6_72 rfl h0 ?_
      refine r_cS0 (as := [.int (M1 a0 11)]) (rest := []) hB dX6_about_23 ks_X6_55 hq1 rfl rfl (Nat.le_of_ble_eq_true rfl) (f_J9_abs_0f7a4_met hB.2 (by omega)) ?_
      refine x_goto (tgt := 30) hC dX6_about_26 (by decide) ?_
      exact r_retI hR dX6_about_30 (fun h => h)
    · refine x_iconst (v := (-1 : Int32)) hC dX6_about_29 ki_m1 ?_
      exact r_retI hR dX6_about_30 (fun h => h)
  · refine x_iconst (v := (-1 : Int32)) hC dX6_about_29 ki_m1 ?_
    exact r_retI hR dX6_about_30 (fun h => h)
theorem f_X6_about_met {l : Launch} {d : Nat} {g : zG} {w : zW} {M0 : zM} {a0 : Nat} {M : zM} (hw : wS w) (h0 : tO true 6 a0) (hd : 2 ≤ d) {v : Int32} {M' : zM} (h : f_X6_about a0 M = some (v, M')) : zMet l yX6_about cX6_about 1 (some .int) d g w (zin true) M0 [zr w a0] M (some (.int v)) M' :=
  met_i (by decide +kernel) (Nat.le_of_ble_eq_true rfl) rfl (fun C hB0 hR => f_X6_about_ok (r := (v, M')) ⟨hB0, hw⟩ h0 hd M hR _ h rfl)
/-! WindingSquare$Rows.goesRoundTo(IZ)Z -/
noncomputable def b_X6_goesRoundTo_21 (a0 : Nat) (v1_21 : Int32) (v2_21 : Int32) (v3_21 : Int32) (v4_21 : Int32) (v5_21 : Int32) (M : zM) : Option ((Int32 × Int32) ⊕ (Int32)) :=
  if v3_21 ≤ v5_21 then (some (.inr v4_21))
  else (if v4_21 = 0 then ((f_X6_isRotation a0 v5_21 v1_21 v2_21 M).bind fun u37_21 =>
  some (.inl (u37_21, (v5_21 + (1 : Int32)))))
  else (some (.inr v4_21)))
set_option maxRecDepth 100000 in
theorem b_X6_goesRoundTo_21_ok {C : zC} {d : Nat} {g : zG} {l : Launch} {w : zW} {r : Int32} {a0 : Nat} {v1_21 : Int32} {v2_21 : Int32} {v3_21 : Int32} {v4_21 : Int32} {v5_21 : Int32} (hB : bOK C cX6_goesRoundTo 6 RX6 d g l w true) (h0 : tO true 6 a0) (hd : 2 ≤ d) (M : zM) (hR : RtZ C cX6_goesRoundTo w r M) : Sg C w (0, 0) 21 [(0, zr w a0), (1, .int v1_21), (2, .int v2_21), (3, .int v3_21), (4, .int v4_21), (5, .int v5_21)] [] M (b_X6_goesRoundTo_21 a0 v1_21 v2_21 v3_21 v4_21 v5_21 M) (fun o => Sum.elim (fun (s : (Int32 × Int32)) => Zs C w (0, 0) 21 [(0, zr w a0), (1, .int v1_21), (2, .int v2_21), (3, .int v3_21), (4, .int s.1), (5, .int s.2)] [] M) (fun (s : (Int32)) => Zs C w (0, 0) 48 [(4, .int s)] [] M) o) := by
  have hC := hB.1.1
  have hq1 : 1 ≤ d := by omega
  unfold b_X6_goesRoundTo_21
  refine x_iload hC dX6_goesRoundTo_21 5 rfl ?_
  refine x_iload_n hC dX6_goesRoundTo_23 rfl 3 rfl ?_
  refine x_icmp_ge (tgt := 48) hC dX6_goesRoundTo_24 (by decide) ?_ ?_
  · refine x_sub [4] rfl ?_
    exact x_done (fun h => h)
  · refine x_iload hC dX6_goesRoundTo_27 4 rfl ?_
    refine x_if_ne (tgt := 48) hC dX6_goesRoundTo_29 (by decide) ?_ ?_
    · refine x_aload_n hC dX6_goesRoundTo_32 rfl 0 rfl ?_
      refine x_iload hC dX6_goesRoundTo_33 5 rfl ?_
      refine x_iload_n hC dX6_goesRoundTo_35 rfl 1 rfl ?_
      refine x_iload_n hC dX6_goesRoundTo_36 rfl 2 rfl ?_
      refine r_cV1 (as := [.int v5_21, .int v1_21, .int v2_21]) (rest := []) hB dX6_goesRoundTo_37 kv_X6_44 h0 hq1 rfl rfl (Nat.le_of_ble_eq_true rfl) (fun v hv => f_X6_isRotation_met hB.2 h0 (by omega) hv) (fun u37_21 => ?_)
      refine x_istore (f := 0) hC dX6_goesRoundTo_40 [(4, .int u37_21), (0, zr w a0), (1, .int v1_21), (2, .int v2_21), (3, .int v3_21), (5, .int v5_21)] (by decide) rfl ?_
      refine x_iinc hC dX6_goesRoundTo_42 ki_1 [(5, .int (v5_21 + (1 : Int32))), (4, .int u37_21), (0, zr w a0), (1, .int v1_21), (2, .int v2_21), (3, .int v3_21)] 5 rfl (by decide) rfl ?_
      refine x_goto (tgt := 21) hC dX6_goesRoundTo_45 (by decide) ?_
      refine x_sub [2, 3, 4, 5, 1, 0] rfl ?_
      exact x_done (fun h => h)
    · refine x_sub [4] rfl ?_
      exact x_done (fun h => h)
noncomputable def j_X6_goesRoundTo_48 (a0 : Nat) (v4_48 : Int32) (M : zM) : Option (Int32) :=
  grd (isB v4_48) (some v4_48)
set_option maxRecDepth 100000 in
theorem j_X6_goesRoundTo_48_ok {C : zC} {d : Nat} {g : zG} {l : Launch} {w : zW} {r : Int32} {a0 : Nat} {v4_48 : Int32} (hB : bOK C cX6_goesRoundTo 6 RX6 d g l w true) (h0 : tO true 6 a0) (hd : 2 ≤ d) (M : zM) (hR : RtZ C cX6_goesRoundTo w r M) : Sg C w (0, 0) 48 [(4, .int v4_48)] [] M (j_X6_goesRoundTo_48 a0 v4_48 M) (fun q => q = r) := by
  have hC := hB.1.1
  have hq1 : 1 ≤ d := by omega
  unfold j_X6_goesRoundTo_48
  refine x_iload hC dX6_goesRoundTo_48 0 rfl ?_
  refine x_grd (fun hb => ?_)
  exact r_retZ hR dX6_goesRoundTo_50 hb (fun h => congrArg (fun q => (q, M)) h)
noncomputable def j_X6_goesRoundTo_16 (a0 : Nat) (v1_16 : Int32) (v2_16 : Int32) (v3_16 : Int32) (s0_16 : Int32) (M : zM) : Option (Int32) :=
  (loopW (fun s => b_X6_goesRoundTo_21 a0 v1_16 v2_16 v3_16 s.1 s.2 M) (s0_16, (0 : Int32))).bind (fun r => j_X6_goesRoundTo_48 a0 r M)
set_option maxRecDepth 100000 in
theorem j_X6_goesRoundTo_16_ok {C : zC} {d : Nat} {g : zG} {l : Launch} {w : zW} {r : Int32} {a0 : Nat} {v1_16 : Int32} {v2_16 : Int32} {v3_16 : Int32} {s0_16 : Int32} (hB : bOK C cX6_goesRoundTo 6 RX6 d g l w true) (h0 : tO true 6 a0) (hd : 2 ≤ d) (M : zM) (hR : RtZ C cX6_goesRoundTo w r M) : Sg C w (0, 0) 16 [(0, zr w a0), (1, .int v1_16), (2, .int v2_16), (3, .int v3_16)] [.int s0_16] M (j_X6_goesRoundTo_16 a0 v1_16 v2_16 v3_16 s0_16 M) (fun q => q = r) := by
  have hC := hB.1.1
  have hq1 : 1 ≤ d := by omega
  unfold j_X6_goesRoundTo_16
  refine x_istore (f := 0) hC dX6_goesRoundTo_16 [(4, .int s0_16), (0, zr w a0), (1, .int v1_16), (2, .int v2_16), (3, .int v3_16)] (by decide) rfl ?_
  refine x_iconst (v := (0 : Int32)) hC dX6_goesRoundTo_18 ki_0 ?_
  refine x_istore (f := 0) hC dX6_goesRoundTo_19 [(5, .int (0 : Int32)), (4, .int s0_16), (0, zr w a0), (1, .int v1_16), (2, .int v2_16), (3, .int v3_16)] (by decide) rfl ?_
  refine x_sub [2, 3, 4, 5, 1, 0] rfl ?_
  refine x_loopB (pc2 := 48) (fun (s : (Int32 × Int32)) => [(0, zr w a0), (1, .int v1_16), (2, .int v2_16), (3, .int v3_16), (4, .int s.1), (5, .int s.2)]) (fun (s : (Int32 × Int32)) => M) (fun (s : (Int32)) => [(4, .int s)]) (fun (s : (Int32)) => M) (s0_16, (0 : Int32)) ?_ ?_
  · exact fun s => b_X6_goesRoundTo_21_ok hB h0 hd M hR
  · intro r9
    exact j_X6_goesRoundTo_48_ok hB h0 hd M hR
noncomputable def f_X6_goesRoundTo (a0 : Nat) (p1 : Int32) (p2 : Int32) (M : zM) : Option (Int32) :=
  nm (M (a0 + 2) (ix (0 : Int32))) fun v3_6 =>
  if v3_6 = 0 then (j_X6_goesRoundTo_16 a0 p1 p2 v3_6 (1 : Int32) M)
  else (j_X6_goesRoundTo_16 a0 p1 p2 v3_6 (0 : Int32) M)
set_option maxRecDepth 100000 in
theorem f_X6_goesRoundTo_ok {C : zC} {d : Nat} {g : zG} {l : Launch} {w : zW} {r : Int32} {a0 : Nat} {p1 : Int32} {p2 : Int32} (hB : bOK C cX6_goesRoundTo 6 RX6 d g l w true) (h0 : tO true 6 a0) (hd : 2 ≤ d) (M : zM) (hR : RtZ C cX6_goesRoundTo w r M) : Sg C w (0, 0) 0 [(0, zr w a0), (1, .int p1), (2, .int p2)] [] M (f_X6_goesRoundTo a0 p1 p2 M) (fun q => q = r) := by
  have hC := hB.1.1
  have hq1 : 1 ≤ d := by omega
  unfold f_X6_goesRoundTo
  refine x_aload_n hC dX6_goesRoundTo_0 rfl 0 rfl ?_
  refine r_getR hB dX6_goesRoundTo_1 kf_X6_15 rfl h0 (nv_6_1 h0).1 ?_
  refine x_iconst (v := (0 : Int32)) hC dX6_goesRoundTo_4 ki_0 ?_
  refine r_iald0 hB dX6_goesRoundTo_5 (nv_6_1 h0).2 ib_0_2 ?_
  refine x_top (fun v3_6 => ?_)
  refine x_istore_n hC dX6_goesRoundTo_6 rfl [(3, .int v3_6), (0, zr w a0), (1, .int p1), (2, .int p2)] (by decide) rfl ?_
  refine x_iload_n hC dX6_goesRoundTo_7 rfl 0 rfl ?_
  refine x_if_ne (tgt := 15) hC dX6_goesRoundTo_8 (by decide) ?_ ?_
  · refine x_iconst (v := (1 : Int32)) hC dX6_goesRoundTo_11 ki_1 ?_
    refine x_goto (tgt := 16) hC dX6_goesRoundTo_12 (by decide) ?_
    refine x_sub [1, 2, 3, 0] rfl ?_
    exact j_X6_goesRoundTo_16_ok hB h0 hd M hR
  · refine x_iconst (v := (0 : Int32)) hC dX6_goesRoundTo_15 ki_0 ?_
    refine x_sub [1, 2, 3, 0] rfl ?_
    exact j_X6_goesRoundTo_16_ok hB h0 hd M hR
theorem f_X6_goesRoundTo_met {l : Launch} {d : Nat} {g : zG} {w : zW} {M0 : zM} {a0 : Nat} {p1 : Int32} {p2 : Int32} {M : zM} (hw : wS w) (h0 : tO true 6 a0) (hd : 2 ≤ d) {v : Int32} (h : f_X6_goesRoundTo a0 p1 p2 M = some v) : zMet l yX6_goesRoundTo cX6_goesRoundTo 6 (some .boolean) d g w (zin true) M0 [zr w a0, .int p1, .int p2] M (some (.int v)) M :=
  met_z (by decide +kernel) (Nat.le_of_ble_eq_true rfl) (fun C hB0 hR => f_X6_goesRoundTo_ok ⟨hB0, hw⟩ h0 hd M hR _ h rfl)
/-! WindingSquare$Rows.fewestTo(II)I -/
noncomputable def j_X6_fewestTo_58_13 (a0 : Nat) (v1_13 : Int32) (v2_13 : Int32) (v3_58_13 : Int32) (v4_58_13 : Int32) (M : zM) : Option ((Int32 × Int32) ⊕ (Int32)) :=
  some (.inl (v3_58_13, (v4_58_13 + (1 : Int32))))
set_option maxRecDepth 100000 in
theorem j_X6_fewestTo_58_13_ok {C : zC} {d : Nat} {g : zG} {l : Launch} {w : zW} {r : Int32} {a0 : Nat} {v1_13 : Int32} {v2_13 : Int32} {v3_58_13 : Int32} {v4_58_13 : Int32} (hB : bOK C cX6_fewestTo 5 RX6 d g l w true) (h0 : tO true 6 a0) (hd : 2 ≤ d) (M : zM) (hR : RtI C cX6_fewestTo w r M) : Sg C w (0, 0) 58 [(0, zr w a0), (1, .int v1_13), (2, .int v2_13), (3, .int v3_58_13), (4, .int v4_58_13)] [] M (j_X6_fewestTo_58_13 a0 v1_13 v2_13 v3_58_13 v4_58_13 M) (fun o => Sum.elim (fun (s : (Int32 × Int32)) => Zs C w (0, 0) 13 [(0, zr w a0), (1, .int v1_13), (2, .int v2_13), (3, .int s.1), (4, .int s.2)] [] M) (fun (s : (Int32)) => Zs C w (0, 0) 64 [(3, .int s)] [] M) o) := by
  have hC := hB.1.1
  have hq1 : 1 ≤ d := by omega
  unfold j_X6_fewestTo_58_13
  refine x_iinc hC dX6_fewestTo_58 ki_1 [(4, .int (v4_58_13 + (1 : Int32))), (0, zr w a0), (1, .int v1_13), (2, .int v2_13), (3, .int v3_58_13)] 4 rfl (by decide) rfl ?_
  refine x_goto (tgt := 13) hC dX6_fewestTo_61 (by decide) ?_
  refine x_sub [1, 2, 3, 4, 0] rfl ?_
  exact x_done (fun h => h)
noncomputable def b_X6_fewestTo_13 (a0 : Nat) (v1_13 : Int32) (v2_13 : Int32) (v3_13 : Int32) (v4_13 : Int32) (M : zM) : Option ((Int32 × Int32) ⊕ (Int32)) :=
  if (M a0 6) ≤ v4_13 then (some (.inr v3_13))
  else (grd (inb v4_13 8) (
  if (M (a0 + 4) (ix v4_13)) = v2_13 then (grd (inb v4_13 8) (
  grd (inb v4_13 8) (
  nm (f_J9_min_7cf53 v3_13 ((M (a0 + 6) (ix v4_13)) + (f_J9_abs_0f7a4 ((M (a0 + 5) (ix v4_13)) - v1_13)))) fun v3_57_13 =>
  j_X6_fewestTo_58_13 a0 v1_13 v2_13 v3_57_13 v4_13 M)))
  else (j_X6_fewestTo_58_13 a0 v1_13 v2_13 v3_13 v4_13 M)))
set_option maxRecDepth 100000 in
theorem b_X6_fewestTo_13_ok {C : zC} {d : Nat} {g : zG} {l : Launch} {w : zW} {r : Int32} {a0 : Nat} {v1_13 : Int32} {v2_13 : Int32} {v3_13 : Int32} {v4_13 : Int32} (hB : bOK C cX6_fewestTo 5 RX6 d g l w true) (h0 : tO true 6 a0) (hd : 2 ≤ d) (M : zM) (hR : RtI C cX6_fewestTo w r M) : Sg C w (0, 0) 13 [(0, zr w a0), (1, .int v1_13), (2, .int v2_13), (3, .int v3_13), (4, .int v4_13)] [] M (b_X6_fewestTo_13 a0 v1_13 v2_13 v3_13 v4_13 M) (fun o => Sum.elim (fun (s : (Int32 × Int32)) => Zs C w (0, 0) 13 [(0, zr w a0), (1, .int v1_13), (2, .int v2_13), (3, .int s.1), (4, .int s.2)] [] M) (fun (s : (Int32)) => Zs C w (0, 0) 64 [(3, .int s)] [] M) o) := by
  have hC := hB.1.1
  have hq1 : 1 ≤ d := by omega
  unfold b_X6_fewestTo_13
  refine x_iload hC dX6_fewestTo_13 4 rfl ?_
  refine x_aload_n hC dX6_fewestTo_15 rfl 0 rfl ?_
  refine r_getI hB dX6_fewestTo_16 kf_X6_37 rfl h0 ?_
  refine x_icmp_ge (tgt := 64) hC dX6_fewestTo_19 (by decide) ?_ ?_
  · refine x_sub [3] rfl ?_
    exact x_done (fun h => h)
  · refine x_aload_n hC dX6_fewestTo_22 rfl 0 rfl ?_
    refine r_getR hB dX6_fewestTo_23 kf_X6_21 rfl h0 (nv_6_4 h0).1 ?_
    refine x_iload hC dX6_fewestTo_26 4 rfl ?_
    refine r_iald hB dX6_fewestTo_28 (nv_6_4 h0).2 ?_
    refine x_iload_n hC dX6_fewestTo_29 rfl 2 rfl ?_
    refine x_icmp_ne (tgt := 58) hC dX6_fewestTo_30 (by decide) ?_ ?_
    · refine x_iload_n hC dX6_fewestTo_33 rfl 3 rfl ?_
      refine x_aload_n hC dX6_fewestTo_34 rfl 0 rfl ?_
      refine r_getR hB dX6_fewestTo_35 kf_X6_27 rfl h0 (nv_6_7 h0).1 ?_
      refine x_iload hC dX6_fewestTo_38 4 rfl ?_
      refine r_iald hB dX6_fewestTo_40 (nv_6_7 h0).2 ?_
      refine x_aload_n hC dX6_fewestTo_41 rfl 0 rfl ?_
      refine r_getR hB dX6_fewestTo_42 kf_X6_24 rfl h0 (nv_6_5 h0).1 ?_
      refine x_iload hC dX6_fewestTo_45 4 rfl ?_
      refine r_iald hB dX6_fewestTo_47 (nv_6_5 h0).2 ?_
      refine x_iload_n hC dX6_fewestTo_48 rfl 1 rfl ?_
      refine x_isub hC dX6_fewestTo_49 ?_
      refine r_cS0 (as := [.int ((M (a0 + 5) (ix v4_13)) - v1_13)]) (rest := [.int (M (a0 + 6) (ix v4_13)), .int v3_13]) hB dX6_fewestTo_50 ks_X6_55 hq1 rfl rfl (Nat.le_of_ble_eq_true rfl) (f_J9_abs_0f7a4_met hB.2 (by omega)) ?_
      refine x_iadd hC dX6_fewestTo_53 ?_
      refine r_cS0 (as := [.int v3_13, .int ((M (a0 + 6) (ix v4_13)) + (f_J9_abs_0f7a4 ((M (a0 + 5) (ix v4_13)) - v1_13)))]) (rest := []) hB dX6_fewestTo_54 ks_X6_92 hq1 rfl rfl (Nat.le_of_ble_eq_true rfl) (f_J9_min_7cf53_met hB.2 (by omega)) ?_
      refine x_top (fun v3_57_13 => ?_)
      refine x_istore_n hC dX6_fewestTo_57 rfl [(3, .int v3_57_13), (0, zr w a0), (1, .int v1_13), (2, .int v2_13), (4, .int v4_13)] (by decide) rfl ?_
      refine x_sub [1, 2, 3, 0, 4] rfl ?_
      exact j_X6_fewestTo_58_13_ok hB h0 hd M hR
    · exact j_X6_fewestTo_58_13_ok hB h0 hd M hR
noncomputable def j_X6_fewestTo_64 (a0 : Nat) (v3_64 : Int32) (M : zM) : Option (Int32) :=
  some v3_64
set_option maxRecDepth 100000 in
theorem j_X6_fewestTo_64_ok {C : zC} {d : Nat} {g : zG} {l : Launch} {w : zW} {r : Int32} {a0 : Nat} {v3_64 : Int32} (hB : bOK C cX6_fewestTo 5 RX6 d g l w true) (h0 : tO true 6 a0) (hd : 2 ≤ d) (M : zM) (hR : RtI C cX6_fewestTo w r M) : Sg C w (0, 0) 64 [(3, .int v3_64)] [] M (j_X6_fewestTo_64 a0 v3_64 M) (fun q => q = r) := by
  have hC := hB.1.1
  have hq1 : 1 ≤ d := by omega
  unfold j_X6_fewestTo_64
  refine x_iload_n hC dX6_fewestTo_64 rfl 0 rfl ?_
  exact r_retI hR dX6_fewestTo_65 (fun h => congrArg (fun q => (q, M)) h)
noncomputable def f_X6_fewestTo (a0 : Nat) (p1 : Int32) (p2 : Int32) (M : zM) : Option (Int32) :=
  if p2 = (-1 : Int32) then (some p1)
  else ((loopW (fun s => b_X6_fewestTo_13 a0 p1 p2 s.1 s.2 M) ((1000000 : Int32), (0 : Int32))).bind (fun r => j_X6_fewestTo_64 a0 r M))
set_option maxRecDepth 100000 in
theorem f_X6_fewestTo_ok {C : zC} {d : Nat} {g : zG} {l : Launch} {w : zW} {r : Int32} {a0 : Nat} {p1 : Int32} {p2 : Int32} (hB : bOK C cX6_fewestTo 5 RX6 d g l w true) (h0 : tO true 6 a0) (hd : 2 ≤ d) (M : zM) (hR : RtI C cX6_fewestTo w r M) : Sg C w (0, 0) 0 [(0, zr w a0), (1, .int p1), (2, .int p2)] [] M (f_X6_fewestTo a0 p1 p2 M) (fun q => q = r) := by
  have hC := hB.1.1
  have hq1 : 1 ≤ d := by omega
  unfold f_X6_fewestTo
  refine x_iload_n hC dX6_fewestTo_0 rfl 2 rfl ?_
  refine x_iconst (v := (-1 : Int32)) hC dX6_fewestTo_1 ki_m1 ?_
  refine x_icmp_ne (tgt := 7) hC dX6_fewestTo_2 (by decide) ?_ ?_
  · refine x_iload_n hC dX6_fewestTo_5 rfl 1 rfl ?_
    exact r_retI hR dX6_fewestTo_6 (fun h => congrArg (fun q => (q, M)) h)
  · refine x_ldc hC dX6_fewestTo_7 wd_1275 ?_
    refine x_istore_n hC dX6_fewestTo_9 rfl [(3, .int (1000000 : Int32)), (0, zr w a0), (1, .int p1), (2, .int p2)] (by decide) rfl ?_
    refine x_iconst (v := (0 : Int32)) hC dX6_fewestTo_10 ki_0 ?_
    refine x_istore (f := 0) hC dX6_fewestTo_11 [(4, .int (0 : Int32)), (3, .int (1000000 : Int32)), (0, zr w a0), (1, .int p1), (2, .int p2)] (by decide) rfl ?_
    refine x_sub [2, 3, 4, 1, 0] rfl ?_
    refine x_loopB (pc2 := 64) (fun (s : (Int32 × Int32)) => [(0, zr w a0), (1, .int p1), (2, .int p2), (3, .int s.1), (4, .int s.2)]) (fun (s : (Int32 × Int32)) => M) (fun (s : (Int32)) => [(3, .int s)]) (fun (s : (Int32)) => M) ((1000000 : Int32), (0 : Int32)) ?_ ?_
    · exact fun s => b_X6_fewestTo_13_ok hB h0 hd M hR
    · intro r9
      exact j_X6_fewestTo_64_ok hB h0 hd M hR
theorem f_X6_fewestTo_met {l : Launch} {d : Nat} {g : zG} {w : zW} {M0 : zM} {a0 : Nat} {p1 : Int32} {p2 : Int32} {M : zM} (hw : wS w) (h0 : tO true 6 a0) (hd : 2 ≤ d) {v : Int32} (h : f_X6_fewestTo a0 p1 p2 M = some v) : zMet l yX6_fewestTo cX6_fewestTo 5 (some .int) d g w (zin true) M0 [zr w a0, .int p1, .int p2] M (some (.int v)) M :=
  met_i (by decide +kernel) (Nat.le_of_ble_eq_true rfl) rfl (fun C hB0 hR => f_X6_fewestTo_ok ⟨hB0, hw⟩ h0 hd M hR _ h rfl)
/-! WindingSquare$Square.hasIn(I)Z -/
noncomputable def f_X7_hasIn (a0 : Nat) (p1 : Int32) (M : zM) : Option (Int32) :=
  if (f_X7_has a0 p1 M) = 0 then (some (0 : Int32))
  else (grd (inb p1 16) (
  if (M (a0 + 3 + ix p1) 1) = 0 then (some (0 : Int32))
  else (some (1 : Int32))))
set_option maxRecDepth 100000 in
theorem f_X7_hasIn_ok {C : zC} {d : Nat} {g : zG} {l : Launch} {w : zW} {r : Int32} {a0 : Nat} {p1 : Int32} (hB : bOK C cX7_hasIn 2 RX7 d g l w true) (h0 : tO true 7 a0) (hd : 2 ≤ d) (M : zM) (hR : RtZ C cX7_hasIn w r M) : Sg C w (0, 0) 0 [(0, zr w a0), (1, .int p1)] [] M (f_X7_hasIn a0 p1 M) (fun q => q = r) := by
  have hC := hB.1.1
  have hq1 : 1 ≤ d := by omega
  unfold f_X7_hasIn
  refine x_aload_n hC dX7_hasIn_0 rfl 0 rfl ?_
  refine x_iload_n hC dX7_hasIn_1 rfl 1 rfl ?_
  refine r_cV0 (as := [.int p1]) (rest := []) hB dX7_hasIn_2 kv_X7_48 h0 hq1 rfl rfl (Nat.le_of_ble_eq_true rfl) (f_X7_has_met hB.2 h0 (by omega)) ?_
  refine x_if_eq (tgt := 24) hC dX7_hasIn_5 (by decide) ?_ ?_
  · refine x_iconst (v := (0 : Int32)) hC dX7_hasIn_24 ki_0 ?_
    exact r_retZ hR dX7_hasIn_25 (Or.inl rfl) (fun h => congrArg (fun q => (q, M)) h)
  · refine x_aload_n hC dX7_hasIn_8 rfl 0 rfl ?_
    refine r_getR hB dX7_hasIn_9 kf_X7_11 rfl h0 (nv_7_0 h0).1 ?_
    refine x_iload_n hC dX7_hasIn_12 rfl 1 rfl ?_
    refine r_aaW (a := a0) hB dX7_hasIn_13 h0 (fun hg13 => ?_)
    refine r_getI hB dX7_hasIn_14 kf_X7_52 rfl (nv_wk h0 hg13).2 ?_
    refine x_if_eq (tgt := 24) hC dX7_hasIn_17 (by decide) ?_ ?_
    · refine x_iconst (v := (0 : Int32)) hC dX7_hasIn_24 ki_0 ?_
      exact r_retZ hR dX7_hasIn_25 (Or.inl rfl) (fun h => congrArg (fun q => (q, M)) h)
    · refine x_iconst (v := (1 : Int32)) hC dX7_hasIn_20 ki_1 ?_
      refine x_goto (tgt := 25) hC dX7_hasIn_21 (by decide) ?_
      exact r_retZ hR dX7_hasIn_25 (Or.inr rfl) (fun h => congrArg (fun q => (q, M)) h)
theorem f_X7_hasIn_met {l : Launch} {d : Nat} {g : zG} {w : zW} {M0 : zM} {a0 : Nat} {p1 : Int32} {M : zM} (hw : wS w) (h0 : tO true 7 a0) (hd : 2 ≤ d) {v : Int32} (h : f_X7_hasIn a0 p1 M = some v) : zMet l yX7_hasIn cX7_hasIn 2 (some .boolean) d g w (zin true) M0 [zr w a0, .int p1] M (some (.int v)) M :=
  met_z (by decide +kernel) (Nat.le_of_ble_eq_true rfl) (fun C hB0 hR => f_X7_hasIn_ok ⟨hB0, hw⟩ h0 hd M hR _ h rfl)
/-! WindingSquare$Square.whoAt(I)I -/
noncomputable def j_X7_whoAt_37_2 (a0 : Nat) (v1_2 : Int32) (v2_37_2 : Int32) (M : zM) : Option ((Int32) ⊕ (Unit ⊕ (Int32))) :=
  some (.inl (v2_37_2 + (1 : Int32)))
set_option maxRecDepth 100000 in
theorem j_X7_whoAt_37_2_ok {C : zC} {d : Nat} {g : zG} {l : Launch} {w : zW} {r : Int32} {a0 : Nat} {v1_2 : Int32} {v2_37_2 : Int32} (hB : bOK C cX7_whoAt 3 RX7 d g l w true) (h0 : tO true 7 a0) (hd : 2 ≤ d) (M : zM) (hR : RtI C cX7_whoAt w r M) : Sg C w (0, 0) 37 [(0, zr w a0), (1, .int v1_2), (2, .int v2_37_2)] [] M (j_X7_whoAt_37_2 a0 v1_2 v2_37_2 M) (fun o => Sum.elim (fun (s : (Int32)) => Zs C w (0, 0) 2 [(0, zr w a0), (1, .int v1_2), (2, .int s)] [] M) (fun q => Sum.elim (fun (s : Unit) => Zs C w (0, 0) 43 [] [] M) (fun q => q = r) q) o) := by
  have hC := hB.1.1
  have hq1 : 1 ≤ d := by omega
  unfold j_X7_whoAt_37_2
  refine x_iinc hC dX7_whoAt_37 ki_1 [(2, .int (v2_37_2 + (1 : Int32))), (0, zr w a0), (1, .int v1_2)] 2 rfl (by decide) rfl ?_
  refine x_goto (tgt := 2) hC dX7_whoAt_40 (by decide) ?_
  refine x_sub [1, 2, 0] rfl ?_
  exact x_done (fun h => h)
noncomputable def b_X7_whoAt_2 (a0 : Nat) (v1_2 : Int32) (v2_2 : Int32) (M : zM) : Option ((Int32) ⊕ (Unit ⊕ (Int32))) :=
  if (M a0 2) ≤ v2_2 then (some (.inr (.inl ())))
  else (grd (inb v2_2 16) (
  if (M (a0 + 3 + ix v2_2) 1) = 0 then (j_X7_whoAt_37_2 a0 v1_2 v2_2 M)
  else (grd (inb v2_2 16) (
  if (f_X9_at (a0 + 3 + ix v2_2) M) = v1_2 then (some (.inr (.inr v2_2)))
  else (j_X7_whoAt_37_2 a0 v1_2 v2_2 M)))))
set_option maxRecDepth 100000 in
theorem b_X7_whoAt_2_ok {C : zC} {d : Nat} {g : zG} {l : Launch} {w : zW} {r : Int32} {a0 : Nat} {v1_2 : Int32} {v2_2 : Int32} (hB : bOK C cX7_whoAt 3 RX7 d g l w true) (h0 : tO true 7 a0) (hd : 2 ≤ d) (M : zM) (hR : RtI C cX7_whoAt w r M) : Sg C w (0, 0) 2 [(0, zr w a0), (1, .int v1_2), (2, .int v2_2)] [] M (b_X7_whoAt_2 a0 v1_2 v2_2 M) (fun o => Sum.elim (fun (s : (Int32)) => Zs C w (0, 0) 2 [(0, zr w a0), (1, .int v1_2), (2, .int s)] [] M) (fun q => Sum.elim (fun (s : Unit) => Zs C w (0, 0) 43 [] [] M) (fun q => q = r) q) o) := by
  have hC := hB.1.1
  have hq1 : 1 ≤ d := by omega
  unfold b_X7_whoAt_2
  refine x_iload_n hC dX7_whoAt_2 rfl 2 rfl ?_
  refine x_aload_n hC dX7_whoAt_3 rfl 0 rfl ?_
  refine r_getI hB dX7_whoAt_4 kf_X7_28 rfl h0 ?_
  refine x_icmp_ge (tgt := 43) hC dX7_whoAt_7 (by decide) ?_ ?_
  · refine x_sub [] rfl ?_
    exact x_done (fun h => h)
  · refine x_aload_n hC dX7_whoAt_10 rfl 0 rfl ?_
    refine r_getR hB dX7_whoAt_11 kf_X7_11 rfl h0 (nv_7_0 h0).1 ?_
    refine x_iload_n hC dX7_whoAt_14 rfl 2 rfl ?_
    refine r_aaW (a := a0) hB dX7_whoAt_15 h0 (fun hg15 => ?_)
    refine r_getI hB dX7_whoAt_16 kf_X7_52 rfl (nv_wk h0 hg15).2 ?_
    refine x_if_eq (tgt := 37) hC dX7_whoAt_19 (by decide) ?_ ?_
    · exact j_X7_whoAt_37_2_ok hB h0 hd M hR
    · refine x_aload_n hC dX7_whoAt_22 rfl 0 rfl ?_
      refine r_getR hB dX7_whoAt_23 kf_X7_11 rfl h0 (nv_7_0 h0).1 ?_
      refine x_iload_n hC dX7_whoAt_26 rfl 2 rfl ?_
      refine r_aaW (a := a0) hB dX7_whoAt_27 h0 (fun hg27 => ?_)
      refine r_cV0 (as := []) (rest := []) hB dX7_whoAt_28 kv_X7_56 (nv_wk h0 hg27).2 hq1 rfl rfl (Nat.le_of_ble_eq_true rfl) (f_X9_at_met hB.2 (nv_wk h0 hg27).2 (by omega)) ?_
      refine x_iload_n hC dX7_whoAt_31 rfl 1 rfl ?_
      refine x_icmp_ne (tgt := 37) hC dX7_whoAt_32 (by decide) ?_ ?_
      · refine x_iload_n hC dX7_whoAt_35 rfl 2 rfl ?_
        exact r_retI hR dX7_whoAt_36 (fun h => congrArg (fun q => (q, M)) h)
      · exact j_X7_whoAt_37_2_ok hB h0 hd M hR
noncomputable def j_X7_whoAt_43 (a0 : Nat) (M : zM) : Option (Int32) :=
  some (-1 : Int32)
set_option maxRecDepth 100000 in
theorem j_X7_whoAt_43_ok {C : zC} {d : Nat} {g : zG} {l : Launch} {w : zW} {r : Int32} {a0 : Nat} (hB : bOK C cX7_whoAt 3 RX7 d g l w true) (h0 : tO true 7 a0) (hd : 2 ≤ d) (M : zM) (hR : RtI C cX7_whoAt w r M) : Sg C w (0, 0) 43 [] [] M (j_X7_whoAt_43 a0 M) (fun q => q = r) := by
  have hC := hB.1.1
  have hq1 : 1 ≤ d := by omega
  unfold j_X7_whoAt_43
  refine x_iconst (v := (-1 : Int32)) hC dX7_whoAt_43 ki_m1 ?_
  exact r_retI hR dX7_whoAt_44 (fun h => congrArg (fun q => (q, M)) h)
noncomputable def f_X7_whoAt (a0 : Nat) (p1 : Int32) (M : zM) : Option (Int32) :=
  (loopW (fun s => b_X7_whoAt_2 a0 p1 s M) (0 : Int32)).bind (fun q => Sum.elim (fun r => j_X7_whoAt_43 a0 M) some q)
set_option maxRecDepth 100000 in
theorem f_X7_whoAt_ok {C : zC} {d : Nat} {g : zG} {l : Launch} {w : zW} {r : Int32} {a0 : Nat} {p1 : Int32} (hB : bOK C cX7_whoAt 3 RX7 d g l w true) (h0 : tO true 7 a0) (hd : 2 ≤ d) (M : zM) (hR : RtI C cX7_whoAt w r M) : Sg C w (0, 0) 0 [(0, zr w a0), (1, .int p1)] [] M (f_X7_whoAt a0 p1 M) (fun q => q = r) := by
  have hC := hB.1.1
  have hq1 : 1 ≤ d := by omega
  unfold f_X7_whoAt
  refine x_iconst (v := (0 : Int32)) hC dX7_whoAt_0 ki_0 ?_
  refine x_istore_n hC dX7_whoAt_1 rfl [(2, .int (0 : Int32)), (0, zr w a0), (1, .int p1)] (by decide) rfl ?_
  refine x_sub [1, 2, 0] rfl ?_
  refine x_loopR (pc2 := 43) (fun (s : (Int32)) => [(0, zr w a0), (1, .int p1), (2, .int s)]) (fun (s : (Int32)) => M) (fun (s : Unit) => []) (fun (s : Unit) => M) (0 : Int32) ?_ ?_
  · exact fun s => b_X7_whoAt_2_ok hB h0 hd M hR
  · intro r9
    exact j_X7_whoAt_43_ok hB h0 hd M hR
theorem f_X7_whoAt_met {l : Launch} {d : Nat} {g : zG} {w : zW} {M0 : zM} {a0 : Nat} {p1 : Int32} {M : zM} (hw : wS w) (h0 : tO true 7 a0) (hd : 2 ≤ d) {v : Int32} (h : f_X7_whoAt a0 p1 M = some v) : zMet l yX7_whoAt cX7_whoAt 3 (some .int) d g w (zin true) M0 [zr w a0, .int p1] M (some (.int v)) M :=
  met_i (by decide +kernel) (Nat.le_of_ble_eq_true rfl) rfl (fun C hB0 hR => f_X7_whoAt_ok ⟨hB0, hw⟩ h0 hd M hR _ h rfl)
/-! WindingSquare$Square.sum(I)I -/
noncomputable def j_X7_sum_61_26 (a0 : Nat) (v1_26 : Int32) (v3_61_26 : Int32) (s0_61_26 : Int32) (s1_61_26 : Int32) (M : zM) : Option ((Int32 × Int32) ⊕ (Int32)) :=
  nm (s0_61_26 + s1_61_26) fun v2_62_26 =>
  some (.inl (v2_62_26, (v3_61_26 + (1 : Int32))))
set_option maxRecDepth 100000 in
theorem j_X7_sum_61_26_ok {C : zC} {d : Nat} {g : zG} {l : Launch} {w : zW} {r : Int32} {a0 : Nat} {v1_26 : Int32} {v3_61_26 : Int32} {s0_61_26 : Int32} {s1_61_26 : Int32} (hB : bOK C cX7_sum 4 RX7 d g l w true) (h0 : tO true 7 a0) (hd : 2 ≤ d) (M : zM) (hR : RtI C cX7_sum w r M) : Sg C w (0, 0) 61 [(0, zr w a0), (1, .int v1_26), (3, .int v3_61_26)] [.int s1_61_26, .int s0_61_26] M (j_X7_sum_61_26 a0 v1_26 v3_61_26 s0_61_26 s1_61_26 M) (fun o => Sum.elim (fun (s : (Int32 × Int32)) => Zs C w (0, 0) 26 [(0, zr w a0), (1, .int v1_26), (2, .int s.1), (3, .int s.2)] [] M) (fun (s : (Int32)) => Zs C w (0, 0) 69 [(2, .int s)] [] M) o) := by
  have hC := hB.1.1
  have hq1 : 1 ≤ d := by omega
  unfold j_X7_sum_61_26
  refine x_iadd hC dX7_sum_61 ?_
  refine x_top (fun v2_62_26 => ?_)
  refine x_istore_n hC dX7_sum_62 rfl [(2, .int v2_62_26), (0, zr w a0), (1, .int v1_26), (3, .int v3_61_26)] (by decide) rfl ?_
  refine x_iinc hC dX7_sum_63 ki_1 [(3, .int (v3_61_26 + (1 : Int32))), (2, .int v2_62_26), (0, zr w a0), (1, .int v1_26)] 3 rfl (by decide) rfl ?_
  refine x_goto (tgt := 26) hC dX7_sum_66 (by decide) ?_
  refine x_sub [2, 3, 1, 0] rfl ?_
  exact x_done (fun h => h)
noncomputable def b_X7_sum_26 (a0 : Nat) (v1_26 : Int32) (v2_26 : Int32) (v3_26 : Int32) (M : zM) : Option ((Int32 × Int32) ⊕ (Int32)) :=
  if (M a0 2) ≤ v3_26 then (some (.inr v2_26))
  else (if v1_26 = (1 : Int32) then (grd (inb v3_26 16) (
  j_X7_sum_61_26 a0 v1_26 v3_26 v2_26 (M (a0 + 3 + ix v3_26) 10) M))
  else (grd (inb v3_26 16) (
  j_X7_sum_61_26 a0 v1_26 v3_26 v2_26 (M (a0 + 3 + ix v3_26) 11) M)))
set_option maxRecDepth 100000 in
theorem b_X7_sum_26_ok {C : zC} {d : Nat} {g : zG} {l : Launch} {w : zW} {r : Int32} {a0 : Nat} {v1_26 : Int32} {v2_26 : Int32} {v3_26 : Int32} (hB : bOK C cX7_sum 4 RX7 d g l w true) (h0 : tO true 7 a0) (hd : 2 ≤ d) (M : zM) (hR : RtI C cX7_sum w r M) : Sg C w (0, 0) 26 [(0, zr w a0), (1, .int v1_26), (2, .int v2_26), (3, .int v3_26)] [] M (b_X7_sum_26 a0 v1_26 v2_26 v3_26 M) (fun o => Sum.elim (fun (s : (Int32 × Int32)) => Zs C w (0, 0) 26 [(0, zr w a0), (1, .int v1_26), (2, .int s.1), (3, .int s.2)] [] M) (fun (s : (Int32)) => Zs C w (0, 0) 69 [(2, .int s)] [] M) o) := by
  have hC := hB.1.1
  have hq1 : 1 ≤ d := by omega
  unfold b_X7_sum_26
  refine x_iload_n hC dX7_sum_26 rfl 3 rfl ?_
  refine x_aload_n hC dX7_sum_27 rfl 0 rfl ?_
  refine r_getI hB dX7_sum_28 kf_X7_28 rfl h0 ?_
  refine x_icmp_ge (tgt := 69) hC dX7_sum_31 (by decide) ?_ ?_
  · refine x_sub [2] rfl ?_
    exact x_done (fun h => h)
  · refine x_iload_n hC dX7_sum_34 rfl 2 rfl ?_
    refine x_iload_n hC dX7_sum_35 rfl 1 rfl ?_
    refine x_iconst (v := (1 : Int32)) hC dX7_sum_36 ki_1 ?_
    refine x_icmp_ne (tgt := 52) hC dX7_sum_37 (by decide) ?_ ?_
    · refine x_aload_n hC dX7_sum_40 rfl 0 rfl ?_
      refine r_getR hB dX7_sum_41 kf_X7_11 rfl h0 (nv_7_0 h0).1 ?_
      refine x_iload_n hC dX7_sum_44 rfl 3 rfl ?_
      refine r_aaW (a := a0) hB dX7_sum_45 h0 (fun hg45 => ?_)
      refine r_getI hB dX7_sum_46 kf_X7_69 rfl (nv_wk h0 hg45).2 ?_
      refine x_goto (tgt := 61) hC dX7_sum_49 (by decide) ?_
      refine x_sub [0, 1, 3] rfl ?_
      exact j_X7_sum_61_26_ok hB h0 hd M hR
    · refine x_aload_n hC dX7_sum_52 rfl 0 rfl ?_
      refine r_getR hB dX7_sum_53 kf_X7_11 rfl h0 (nv_7_0 h0).1 ?_
      refine x_iload_n hC dX7_sum_56 rfl 3 rfl ?_
      refine r_aaW (a := a0) hB dX7_sum_57 h0 (fun hg57 => ?_)
      refine r_getI hB dX7_sum_58 kf_X7_72 rfl (nv_wk h0 hg57).2 ?_
      refine x_sub [0, 1, 3] rfl ?_
      exact j_X7_sum_61_26_ok hB h0 hd M hR
noncomputable def j_X7_sum_69 (a0 : Nat) (v2_69 : Int32) (M : zM) : Option (Int32) :=
  some v2_69
set_option maxRecDepth 100000 in
theorem j_X7_sum_69_ok {C : zC} {d : Nat} {g : zG} {l : Launch} {w : zW} {r : Int32} {a0 : Nat} {v2_69 : Int32} (hB : bOK C cX7_sum 4 RX7 d g l w true) (h0 : tO true 7 a0) (hd : 2 ≤ d) (M : zM) (hR : RtI C cX7_sum w r M) : Sg C w (0, 0) 69 [(2, .int v2_69)] [] M (j_X7_sum_69 a0 v2_69 M) (fun q => q = r) := by
  have hC := hB.1.1
  have hq1 : 1 ≤ d := by omega
  unfold j_X7_sum_69
  refine x_iload_n hC dX7_sum_69 rfl 0 rfl ?_
  exact r_retI hR dX7_sum_70 (fun h => congrArg (fun q => (q, M)) h)
noncomputable def f_X7_sum (a0 : Nat) (p1 : Int32) (M : zM) : Option (Int32) :=
  if p1 = 0 then ((f_X7_insideSet a0 M).bind fun u5 =>
  some (f_J6_bitCount_0f7a4 u5))
  else (if p1 = (3 : Int32) then (some (M a0 4))
  else ((loopW (fun s => b_X7_sum_26 a0 p1 s.1 s.2 M) ((0 : Int32), (0 : Int32))).bind (fun r => j_X7_sum_69 a0 r M)))
set_option maxRecDepth 100000 in
theorem f_X7_sum_ok {C : zC} {d : Nat} {g : zG} {l : Launch} {w : zW} {r : Int32} {a0 : Nat} {p1 : Int32} (hB : bOK C cX7_sum 4 RX7 d g l w true) (h0 : tO true 7 a0) (hd : 2 ≤ d) (M : zM) (hR : RtI C cX7_sum w r M) : Sg C w (0, 0) 0 [(0, zr w a0), (1, .int p1)] [] M (f_X7_sum a0 p1 M) (fun q => q = r) := by
  have hC := hB.1.1
  have hq1 : 1 ≤ d := by omega
  unfold f_X7_sum
  refine x_iload_n hC dX7_sum_0 rfl 1 rfl ?_
  refine x_if_ne (tgt := 12) hC dX7_sum_1 (by decide) ?_ ?_
  · refine x_aload_n hC dX7_sum_4 rfl 0 rfl ?_
    refine r_cV1 (as := []) (rest := []) hB dX7_sum_5 kv_X7_60 h0 hq1 rfl rfl (Nat.le_of_ble_eq_true rfl) (fun v hv => f_X7_insideSet_met hB.2 h0 (by omega) hv) (fun u5 => ?_)
    refine r_cS0 (as := [.int u5]) (rest := []) hB dX7_sum_8 ks_X7_63 hq1 rfl rfl (Nat.le_of_ble_eq_true rfl) (f_J6_bitCount_0f7a4_met hB.2 (by omega)) ?_
    exact r_retI hR dX7_sum_11 (fun h => congrArg (fun q => (q, M)) h)
  · refine x_iload_n hC dX7_sum_12 rfl 1 rfl ?_
    refine x_iconst (v := (3 : Int32)) hC dX7_sum_13 ki_3 ?_
    refine x_icmp_ne (tgt := 22) hC dX7_sum_14 (by decide) ?_ ?_
    · refine x_aload_n hC dX7_sum_17 rfl 0 rfl ?_
      refine r_getI hB dX7_sum_18 kf_X7_39 rfl h0 ?_
      exact r_retI hR dX7_sum_21 (fun h => congrArg (fun q => (q, M)) h)
    · refine x_iconst (v := (0 : Int32)) hC dX7_sum_22 ki_0 ?_
      refine x_istore_n hC dX7_sum_23 rfl [(2, .int (0 : Int32)), (0, zr w a0), (1, .int p1)] (by decide) rfl ?_
      refine x_iconst (v := (0 : Int32)) hC dX7_sum_24 ki_0 ?_
      refine x_istore_n hC dX7_sum_25 rfl [(3, .int (0 : Int32)), (2, .int (0 : Int32)), (0, zr w a0), (1, .int p1)] (by decide) rfl ?_
      refine x_sub [2, 3, 1, 0] rfl ?_
      refine x_loopB (pc2 := 69) (fun (s : (Int32 × Int32)) => [(0, zr w a0), (1, .int p1), (2, .int s.1), (3, .int s.2)]) (fun (s : (Int32 × Int32)) => M) (fun (s : (Int32)) => [(2, .int s)]) (fun (s : (Int32)) => M) ((0 : Int32), (0 : Int32)) ?_ ?_
      · exact fun s => b_X7_sum_26_ok hB h0 hd M hR
      · intro r9
        exact j_X7_sum_69_ok hB h0 hd M hR
theorem f_X7_sum_met {l : Launch} {d : Nat} {g : zG} {w : zW} {M0 : zM} {a0 : Nat} {p1 : Int32} {M : zM} (hw : wS w) (h0 : tO true 7 a0) (hd : 2 ≤ d) {v : Int32} (h : f_X7_sum a0 p1 M = some v) : zMet l yX7_sum cX7_sum 4 (some .int) d g w (zin true) M0 [zr w a0, .int p1] M (some (.int v)) M :=
  met_i (by decide +kernel) (Nat.le_of_ble_eq_true rfl) rfl (fun C hB0 hR => f_X7_sum_ok ⟨hB0, hw⟩ h0 hd M hR _ h rfl)
/-! WindingSquare$Square.beginWays()V -/
noncomputable def b_X7_beginWays_2 (a0 : Nat) (v1_2 : Int32) (M : zM) : Option ((Int32 × zM) ⊕ (zM)) :=
  if (M a0 2) ≤ v1_2 then (some (.inr M))
  else (grd (inb v1_2 16) (
  (f_X9_beginWay (a0 + 3 + ix v1_2) M).bind fun M16_2 =>
  some (.inl ((v1_2 + (1 : Int32)), M16_2))))
set_option maxRecDepth 100000 in
theorem b_X7_beginWays_2_ok {C : zC} {d : Nat} {g : zG} {l : Launch} {w : zW} {r : zM} {a0 : Nat} {v1_2 : Int32} (hB : bOK C cX7_beginWays 2 RX7 d g l w true) (h0 : tO true 7 a0) (hd : 2 ≤ d) (M : zM) (hR : RtV C cX7_beginWays w r) : Sg C w (0, 0) 2 [(0, zr w a0), (1, .int v1_2)] [] M (b_X7_beginWays_2 a0 v1_2 M) (fun o => Sum.elim (fun (s : (Int32 × zM)) => Zs C w (0, 0) 2 [(0, zr w a0), (1, .int s.1)] [] s.2) (fun (s : (zM)) => Zs C w (0, 0) 25 [] [] s) o) := by
  have hC := hB.1.1
  have hq1 : 1 ≤ d := by omega
  unfold b_X7_beginWays_2
  refine x_iload_n hC dX7_beginWays_2 rfl 1 rfl ?_
  refine x_aload_n hC dX7_beginWays_3 rfl 0 rfl ?_
  refine r_getI hB dX7_beginWays_4 kf_X7_28 rfl h0 ?_
  refine x_icmp_ge (tgt := 25) hC dX7_beginWays_7 (by decide) ?_ ?_
  · refine x_sub [] rfl ?_
    exact x_done (fun h => h)
  · refine x_aload_n hC dX7_beginWays_10 rfl 0 rfl ?_
    refine r_getR hB dX7_beginWays_11 kf_X7_11 rfl h0 (nv_7_0 h0).1 ?_
    refine x_iload_n hC dX7_beginWays_14 rfl 1 rfl ?_
    refine r_aaW (a := a0) hB dX7_beginWays_15 h0 (fun hg15 => ?_)
    refine r_cVv (as := []) (rest := []) hB dX7_beginWays_16 kv_X7_75 (nv_wk h0 hg15).2 hq1 rfl rfl (Nat.le_of_ble_eq_true rfl) (fun M' hv => f_X9_beginWay_met hB.2 (nv_wk h0 hg15).2 (by omega) hv) (fun M16_2 => ?_)
    refine x_iinc hC dX7_beginWays_19 ki_1 [(1, .int (v1_2 + (1 : Int32))), (0, zr w a0)] 1 rfl (by decide) rfl ?_
    refine x_goto (tgt := 2) hC dX7_beginWays_22 (by decide) ?_
    refine x_sub [1, 0] rfl ?_
    exact x_done (fun h => h)
noncomputable def j_X7_beginWays_25 (a0 : Nat) (M : zM) : Option (zM) :=
  some M
set_option maxRecDepth 100000 in
theorem j_X7_beginWays_25_ok {C : zC} {d : Nat} {g : zG} {l : Launch} {w : zW} {r : zM} {a0 : Nat} (hB : bOK C cX7_beginWays 2 RX7 d g l w true) (h0 : tO true 7 a0) (hd : 2 ≤ d) (M : zM) (hR : RtV C cX7_beginWays w r) : Sg C w (0, 0) 25 [] [] M (j_X7_beginWays_25 a0 M) (fun q => q = r) := by
  have hC := hB.1.1
  have hq1 : 1 ≤ d := by omega
  unfold j_X7_beginWays_25
  exact r_retV hR dX7_beginWays_25 (fun h => h)
noncomputable def f_X7_beginWays (a0 : Nat) (M : zM) : Option (zM) :=
  (loopW (fun s => b_X7_beginWays_2 a0 s.1 s.2) ((0 : Int32), M)).bind (fun r => j_X7_beginWays_25 a0 r)
set_option maxRecDepth 100000 in
theorem f_X7_beginWays_ok {C : zC} {d : Nat} {g : zG} {l : Launch} {w : zW} {r : zM} {a0 : Nat} (hB : bOK C cX7_beginWays 2 RX7 d g l w true) (h0 : tO true 7 a0) (hd : 2 ≤ d) (M : zM) (hR : RtV C cX7_beginWays w r) : Sg C w (0, 0) 0 [(0, zr w a0)] [] M (f_X7_beginWays a0 M) (fun q => q = r) := by
  have hC := hB.1.1
  have hq1 : 1 ≤ d := by omega
  unfold f_X7_beginWays
  refine x_iconst (v := (0 : Int32)) hC dX7_beginWays_0 ki_0 ?_
  refine x_istore_n hC dX7_beginWays_1 rfl [(1, .int (0 : Int32)), (0, zr w a0)] (by decide) rfl ?_
  refine x_sub [1, 0] rfl ?_
  refine x_loopB (pc2 := 25) (fun (s : (Int32 × zM)) => [(0, zr w a0), (1, .int s.1)]) (fun (s : (Int32 × zM)) => s.2) (fun (s : (zM)) => []) (fun (s : (zM)) => s) ((0 : Int32), M) ?_ ?_
  · exact fun s => b_X7_beginWays_2_ok hB h0 hd s.2 hR
  · intro r9
    exact j_X7_beginWays_25_ok hB h0 hd r9 hR
theorem f_X7_beginWays_met {l : Launch} {d : Nat} {g : zG} {w : zW} {M0 : zM} {a0 : Nat} {M : zM} (hw : wS w) (h0 : tO true 7 a0) (hd : 2 ≤ d) {M' : zM} (h : f_X7_beginWays a0 M = some M') : zMet l yX7_beginWays cX7_beginWays 2 none d g w (zin true) M0 [zr w a0] M none M' :=
  met_v (by decide +kernel) (Nat.le_of_ble_eq_true rfl) (fun C hB0 hR => f_X7_beginWays_ok ⟨hB0, hw⟩ h0 hd M hR _ h rfl)
/-! WindingSquare$Walker.begin(I)V -/
noncomputable def f_X9_begin (a0 : Nat) (p1 : Int32) (M : zM) : Option (zM) :=
  nm (mset M a0 0 p1) fun M2 =>
  nm (mset M2 a0 1 (0 : Int32)) fun M7 =>
  nm (mset M7 a0 10 (0 : Int32)) fun M12 =>
  nm (mset M12 a0 11 (0 : Int32)) fun M17 =>
  nm (mset M17 a0 12 (0 : Int32)) fun M22 =>
  (f_X9_beginWay a0 M22).bind fun M26 =>
  some M26
set_option maxRecDepth 100000 in
theorem f_X9_begin_ok {C : zC} {d : Nat} {g : zG} {l : Launch} {w : zW} {r : zM} {a0 : Nat} {p1 : Int32} (hB : bOK C cX9_begin 2 RX9 d g l w true) (h0 : tO true 9 a0) (hd : 2 ≤ d) (M : zM) (hR : RtV C cX9_begin w r) : Sg C w (0, 0) 0 [(0, zr w a0), (1, .int p1)] [] M (f_X9_begin a0 p1 M) (fun q => q = r) := by
  have hC := hB.1.1
  have hq1 : 1 ≤ d := by omega
  unfold f_X9_begin
  refine x_aload_n hC dX9_begin_0 rfl 0 rfl ?_
  refine x_iload_n hC dX9_begin_1 rfl 1 rfl ?_
  refine r_putI hB dX9_begin_2 kf_X9_9 rfl h0 ?_
  refine x_mem (fun M2 => ?_)
  refine x_aload_n hC dX9_begin_5 rfl 0 rfl ?_
  refine x_iconst (v := (0 : Int32)) hC dX9_begin_6 ki_0 ?_
  refine r_putZ hB dX9_begin_7 kf_X9_15 rfl h0 (Or.inl rfl) ?_
  refine x_mem (fun M7 => ?_)
  refine x_aload_n hC dX9_begin_10 rfl 0 rfl ?_
  refine x_iconst (v := (0 : Int32)) hC dX9_begin_11 ki_0 ?_
  refine r_putI hB dX9_begin_12 kf_X9_19 rfl h0 ?_
  refine x_mem (fun M12 => ?_)
  refine x_aload_n hC dX9_begin_15 rfl 0 rfl ?_
  refine x_iconst (v := (0 : Int32)) hC dX9_begin_16 ki_0 ?_
  refine r_putI hB dX9_begin_17 kf_X9_22 rfl h0 ?_
  refine x_mem (fun M17 => ?_)
  refine x_aload_n hC dX9_begin_20 rfl 0 rfl ?_
  refine x_iconst (v := (0 : Int32)) hC dX9_begin_21 ki_0 ?_
  refine r_putI hB dX9_begin_22 kf_X9_25 rfl h0 ?_
  refine x_mem (fun M22 => ?_)
  refine x_aload_n hC dX9_begin_25 rfl 0 rfl ?_
  refine r_cVv (as := []) (rest := []) hB dX9_begin_26 kv_X9_28 h0 hq1 rfl rfl (Nat.le_of_ble_eq_true rfl) (fun M' hv => f_X9_beginWay_met hB.2 h0 (by omega) hv) (fun M26 => ?_)
  exact r_retV hR dX9_begin_29 (fun h => h)
theorem f_X9_begin_met {l : Launch} {d : Nat} {g : zG} {w : zW} {M0 : zM} {a0 : Nat} {p1 : Int32} {M : zM} (hw : wS w) (h0 : tO true 9 a0) (hd : 2 ≤ d) {M' : zM} (h : f_X9_begin a0 p1 M = some M') : zMet l yX9_begin cX9_begin 2 none d g w (zin true) M0 [zr w a0, .int p1] M none M' :=
  met_v (by decide +kernel) (Nat.le_of_ble_eq_true rfl) (fun C hB0 hR => f_X9_begin_ok ⟨hB0, hw⟩ h0 hd M hR _ h rfl)
/-! WindingSquare$Walker.enter(II)V -/
noncomputable def f_X9_enter (a0 : Nat) (p1 : Int32) (p2 : Int32) (M : zM) : Option (zM) :=
  nm (mset M a0 1 (1 : Int32)) fun M2 =>
  nm (mset M2 a0 2 (irem p2 (12 : Int32))) fun M10 =>
  nm (mset M10 a0 3 (p2 / (12 : Int32))) fun M18 =>
  nm (mset M18 a0 4 p1) fun M23 =>
  nm (mset M23 a0 7 p1) fun M28 =>
  nm (mset M28 a0 5 (0 : Int32)) fun M33 =>
  nm (mset M33 a0 6 (0 : Int32)) fun M38 =>
  (f_X9_beginWay a0 M38).bind fun M42 =>
  some M42
set_option maxRecDepth 100000 in
theorem f_X9_enter_ok {C : zC} {d : Nat} {g : zG} {l : Launch} {w : zW} {r : zM} {a0 : Nat} {p1 : Int32} {p2 : Int32} (hB : bOK C cX9_enter 3 RX9 d g l w true) (h0 : tO true 9 a0) (hd : 2 ≤ d) (M : zM) (hR : RtV C cX9_enter w r) : Sg C w (0, 0) 0 [(0, zr w a0), (1, .int p1), (2, .int p2)] [] M (f_X9_enter a0 p1 p2 M) (fun q => q = r) := by
  have hC := hB.1.1
  have hq1 : 1 ≤ d := by omega
  unfold f_X9_enter
  refine x_aload_n hC dX9_enter_0 rfl 0 rfl ?_
  refine x_iconst (v := (1 : Int32)) hC dX9_enter_1 ki_1 ?_
  refine r_putZ hB dX9_enter_2 kf_X9_15 rfl h0 (Or.inr rfl) ?_
  refine x_mem (fun M2 => ?_)
  refine x_aload_n hC dX9_enter_5 rfl 0 rfl ?_
  refine x_iload_n hC dX9_enter_6 rfl 2 rfl ?_
  refine x_bipush (v := (12 : Int32)) hC dX9_enter_7 kb_12 ?_
  refine x_irem0 hC dX9_enter_9 nz_12 ?_
  refine r_putI hB dX9_enter_10 kf_X9_37 rfl h0 ?_
  refine x_mem (fun M10 => ?_)
  refine x_aload_n hC dX9_enter_13 rfl 0 rfl ?_
  refine x_iload_n hC dX9_enter_14 rfl 2 rfl ?_
  refine x_bipush (v := (12 : Int32)) hC dX9_enter_15 kb_12 ?_
  refine x_idiv0 hC dX9_enter_17 nz_12 ?_
  refine r_putI hB dX9_enter_18 kf_X9_40 rfl h0 ?_
  refine x_mem (fun M18 => ?_)
  refine x_aload_n hC dX9_enter_21 rfl 0 rfl ?_
  refine x_iload_n hC dX9_enter_22 rfl 1 rfl ?_
  refine r_putI hB dX9_enter_23 kf_X9_43 rfl h0 ?_
  refine x_mem (fun M23 => ?_)
  refine x_aload_n hC dX9_enter_26 rfl 0 rfl ?_
  refine x_iload_n hC dX9_enter_27 rfl 1 rfl ?_
  refine r_putI hB dX9_enter_28 kf_X9_46 rfl h0 ?_
  refine x_mem (fun M28 => ?_)
  refine x_aload_n hC dX9_enter_31 rfl 0 rfl ?_
  refine x_iconst (v := (0 : Int32)) hC dX9_enter_32 ki_0 ?_
  refine r_putI hB dX9_enter_33 kf_X9_49 rfl h0 ?_
  refine x_mem (fun M33 => ?_)
  refine x_aload_n hC dX9_enter_36 rfl 0 rfl ?_
  refine x_iconst (v := (0 : Int32)) hC dX9_enter_37 ki_0 ?_
  refine r_putI hB dX9_enter_38 kf_X9_52 rfl h0 ?_
  refine x_mem (fun M38 => ?_)
  refine x_aload_n hC dX9_enter_41 rfl 0 rfl ?_
  refine r_cVv (as := []) (rest := []) hB dX9_enter_42 kv_X9_28 h0 hq1 rfl rfl (Nat.le_of_ble_eq_true rfl) (fun M' hv => f_X9_beginWay_met hB.2 h0 (by omega) hv) (fun M42 => ?_)
  exact r_retV hR dX9_enter_45 (fun h => h)
theorem f_X9_enter_met {l : Launch} {d : Nat} {g : zG} {w : zW} {M0 : zM} {a0 : Nat} {p1 : Int32} {p2 : Int32} {M : zM} (hw : wS w) (h0 : tO true 9 a0) (hd : 2 ≤ d) {M' : zM} (h : f_X9_enter a0 p1 p2 M = some M') : zMet l yX9_enter cX9_enter 3 none d g w (zin true) M0 [zr w a0, .int p1, .int p2] M none M' :=
  met_v (by decide +kernel) (Nat.le_of_ble_eq_true rfl) (fun C hB0 hR => f_X9_enter_ok ⟨hB0, hw⟩ h0 hd M hR _ h rfl)
/-! WindingSquare$Walker.ahead()I -/
noncomputable def f_X9_ahead (a0 : Nat) (M : zM) : Option (Int32) :=
  grd (inb ((M a0 4) &&& (3 : Int32)) 4) (
  nm ((M a0 2) + (zsV 0 (ix ((M a0 4) &&& (3 : Int32))))) fun v1_15 =>
  grd (inb ((M a0 4) &&& (3 : Int32)) 4) (
  nm ((M a0 3) + (zsV 1 (ix ((M a0 4) &&& (3 : Int32))))) fun v2_31 =>
  if (f_X10_inRow v1_15) = 0 then (some (-1 : Int32))
  else (if (f_X10_inRow v2_31) = 0 then (some (-1 : Int32))
  else (some (((12 : Int32) * v2_31) + v1_15)))))
set_option maxRecDepth 100000 in
theorem f_X9_ahead_ok {C : zC} {d : Nat} {g : zG} {l : Launch} {w : zW} {r : Int32} {a0 : Nat} (hB : bOK C cX9_ahead 3 RX9 d g l w true) (h0 : tO true 9 a0) (hd : 2 ≤ d) (M : zM) (hR : RtI C cX9_ahead w r M) : Sg C w (0, 0) 0 [(0, zr w a0)] [] M (f_X9_ahead a0 M) (fun q => q = r) := by
  have hC := hB.1.1
  have hq1 : 1 ≤ d := by omega
  unfold f_X9_ahead
  refine x_aload_n hC dX9_ahead_0 rfl 0 rfl ?_
  refine r_getI hB dX9_ahead_1 kf_X9_37 rfl h0 ?_
  refine r_getsN (k0 := 0) hB dX9_ahead_4 (by decide) ng_X9_55 ?_
  refine x_aload_n hC dX9_ahead_7 rfl 0 rfl ?_
  refine r_getI hB dX9_ahead_8 kf_X9_43 rfl h0 ?_
  refine x_iconst (v := (3 : Int32)) hC dX9_ahead_11 ki_3 ?_
  refine x_iand hC dX9_ahead_12 ?_
  refine r_stld hB dX9_ahead_13 (by decide) ?_
  refine x_iadd hC dX9_ahead_14 ?_
  refine x_top (fun v1_15 => ?_)
  refine x_istore_n hC dX9_ahead_15 rfl [(1, .int v1_15), (0, zr w a0)] (by decide) rfl ?_
  refine x_aload_n hC dX9_ahead_16 rfl 1 rfl ?_
  refine r_getI hB dX9_ahead_17 kf_X9_40 rfl h0 ?_
  refine r_getsN (k0 := 1) hB dX9_ahead_20 (by decide) ng_X9_59 ?_
  refine x_aload_n hC dX9_ahead_23 rfl 1 rfl ?_
  refine r_getI hB dX9_ahead_24 kf_X9_43 rfl h0 ?_
  refine x_iconst (v := (3 : Int32)) hC dX9_ahead_27 ki_3 ?_
  refine x_iand hC dX9_ahead_28 ?_
  refine r_stld hB dX9_ahead_29 (by decide) ?_
  refine x_iadd hC dX9_ahead_30 ?_
  refine x_top (fun v2_31 => ?_)
  refine x_istore_n hC dX9_ahead_31 rfl [(2, .int v2_31), (1, .int v1_15), (0, zr w a0)] (by decide) rfl ?_
  refine x_iload_n hC dX9_ahead_32 rfl 1 rfl ?_
  refine r_cN0 (as := [.int v1_15]) (rest := []) hB dX9_ahead_33 kn_X9_62 hq1 rfl rfl (Nat.le_of_ble_eq_true rfl) (f_X10_inRow_met hB.2 (by omega)) ?_
  refine x_if_eq (tgt := 55) hC dX9_ahead_36 (by decide) ?_ ?_
  · refine x_iconst (v := (-1 : Int32)) hC dX9_ahead_55 ki_m1 ?_
    exact r_retI hR dX9_ahead_56 (fun h => congrArg (fun q => (q, M)) h)
  · refine x_iload_n hC dX9_ahead_39 rfl 0 rfl ?_
    refine r_cN0 (as := [.int v2_31]) (rest := []) hB dX9_ahead_40 kn_X9_62 hq1 rfl rfl (Nat.le_of_ble_eq_true rfl) (f_X10_inRow_met hB.2 (by omega)) ?_
    refine x_if_eq (tgt := 55) hC dX9_ahead_43 (by decide) ?_ ?_
    · refine x_iconst (v := (-1 : Int32)) hC dX9_ahead_55 ki_m1 ?_
      exact r_retI hR dX9_ahead_56 (fun h => congrArg (fun q => (q, M)) h)
    · refine x_bipush (v := (12 : Int32)) hC dX9_ahead_46 kb_12 ?_
      refine x_iload_n hC dX9_ahead_48 rfl 0 rfl ?_
      refine x_imul hC dX9_ahead_49 ?_
      refine x_iload_n hC dX9_ahead_50 rfl 1 rfl ?_
      refine x_iadd hC dX9_ahead_51 ?_
      refine x_goto (tgt := 56) hC dX9_ahead_52 (by decide) ?_
      exact r_retI hR dX9_ahead_56 (fun h => congrArg (fun q => (q, M)) h)
theorem f_X9_ahead_met {l : Launch} {d : Nat} {g : zG} {w : zW} {M0 : zM} {a0 : Nat} {M : zM} (hw : wS w) (h0 : tO true 9 a0) (hd : 2 ≤ d) {v : Int32} (h : f_X9_ahead a0 M = some v) : zMet l yX9_ahead cX9_ahead 3 (some .int) d g w (zin true) M0 [zr w a0] M (some (.int v)) M :=
  met_i (by decide +kernel) (Nat.le_of_ble_eq_true rfl) rfl (fun C hB0 hR => f_X9_ahead_ok ⟨hB0, hw⟩ h0 hd M hR _ h rfl)
/-! WindingSquare.state(I)I -/
noncomputable def f_X10_state (p1 : Int32) (M : zM) : Option (Int32 × zM) :=
  nm (M 1 5) fun v2_7 =>
  nm (mset M 1 5 p1) fun M13 =>
  (f_X10_forget M13).bind fun M17 =>
  some (v2_7, M17)
set_option maxRecDepth 100000 in
theorem f_X10_state_ok {C : zC} {d : Nat} {g : zG} {l : Launch} {w : zW} {r : Int32 × zM} {p1 : Int32} (hB : bOK C cX10_state 3 RX10 d g l w true) (hd : 2 ≤ d) (M : zM) (hR : RtI C cX10_state w r.1 r.2) : Sg C w (0, 0) 0 [(0, zr w 0), (1, .int p1)] [] M (f_X10_state p1 M) (fun q => q = r) := by
  have hC := hB.1.1
  have hq1 : 1 ≤ d := by omega
  unfold f_X10_state
  refine x_aload_n hC dX10_state_0 rfl 0 rfl ?_
  refine r_getR hB dX10_state_1 kf_X10_10 rfl th_0 rf_0_0 ?_
  refine r_getI hB dX10_state_4 kf_X10_95 rfl th_1 ?_
  refine x_top (fun v2_7 => ?_)
  refine x_istore_n hC dX10_state_7 rfl [(2, .int v2_7), (0, zr w 0), (1, .int p1)] (by decide) rfl ?_
  refine x_aload_n hC dX10_state_8 rfl 1 rfl ?_
  refine r_getR hB dX10_state_9 kf_X10_10 rfl th_0 rf_0_0 ?_
  refine x_iload_n hC dX10_state_12 rfl 2 rfl ?_
  refine r_putI hB dX10_state_13 kf_X10_95 rfl th_1 ?_
  refine x_mem (fun M13 => ?_)
  refine x_aload_n hC dX10_state_16 rfl 1 rfl ?_
  refine r_cVv (as := []) (rest := []) hB dX10_state_17 kv_X10_99 th_0 hq1 rfl rfl (Nat.le_of_ble_eq_true rfl) (fun M' hv => f_X10_forget_met hB.2 (by omega) hv) (fun M17 => ?_)
  refine x_iload_n hC dX10_state_20 rfl 0 rfl ?_
  exact r_retI hR dX10_state_21 (fun h => h)
theorem f_X10_state_met {l : Launch} {d : Nat} {g : zG} {w : zW} {M0 : zM} {p1 : Int32} {M : zM} (hw : wS w) (hd : 2 ≤ d) {v : Int32} {M' : zM} (h : f_X10_state p1 M = some (v, M')) : zMet l yX10_state cX10_state 3 (some .int) d g w (zin true) M0 [zr w 0, .int p1] M (some (.int v)) M' :=
  met_i (by decide +kernel) (Nat.le_of_ble_eq_true rfl) rfl (fun C hB0 hR => f_X10_state_ok (r := (v, M')) ⟨hB0, hw⟩ hd M hR _ h rfl)
/-! WindingSquare.feed(IIIII)I -/
noncomputable def f_X10_feed (p1 : Int32) (p2 : Int32) (p3 : Int32) (p4 : Int32) (p5 : Int32) (M : zM) : Option (Int32 × zM) :=
  if ((M 78 0) + (20 : Int32)) ≤ (400 : Int32) then ((f_X5_put p1 M).bind fun M23 =>
  (f_X5_put p2 M23).bind fun M31 =>
  (f_X5_put p3 M31).bind fun M39 =>
  (f_X5_put p4 M39).bind fun M48 =>
  (f_X5_put p5 M48).bind fun M57 =>
  some ((M57 78 0), M57))
  else (some ((-1 : Int32), M))
set_option maxRecDepth 100000 in
theorem f_X10_feed_ok {C : zC} {d : Nat} {g : zG} {l : Launch} {w : zW} {r : Int32 × zM} {p1 : Int32} {p2 : Int32} {p3 : Int32} {p4 : Int32} {p5 : Int32} (hB : bOK C cX10_feed 6 RX10 d g l w true) (hd : 2 ≤ d) (M : zM) (hR : RtI C cX10_feed w r.1 r.2) : Sg C w (0, 0) 0 [(0, zr w 0), (1, .int p1), (2, .int p2), (3, .int p3), (4, .int p4), (5, .int p5)] [] M (f_X10_feed p1 p2 p3 p4 p5 M) (fun q => q = r) := by
  have hC := hB.1.1
  have hq1 : 1 ≤ d := by omega
  unfold f_X10_feed
  refine x_aload_n hC dX10_feed_0 rfl 0 rfl ?_
  refine r_getR hB dX10_feed_1 kf_X10_50 rfl th_0 rf_0_9 ?_
  refine r_getI hB dX10_feed_4 kf_X10_160 rfl th_78 ?_
  refine x_bipush (v := (20 : Int32)) hC dX10_feed_7 kb_20 ?_
  refine x_iadd hC dX10_feed_9 ?_
  refine x_sipush (v := (400 : Int32)) hC dX10_feed_10 kh_400 ?_
  refine x_icmp_le (tgt := 18) hC dX10_feed_13 (by decide) ?_ ?_
  · refine x_aload_n hC dX10_feed_18 rfl 0 rfl ?_
    refine r_getR hB dX10_feed_19 kf_X10_50 rfl th_0 rf_0_9 ?_
    refine x_iload_n hC dX10_feed_22 rfl 1 rfl ?_
    refine r_cVv (as := [.int p1]) (rest := []) hB dX10_feed_23 kv_X10_163 th_78 hq1 rfl rfl (Nat.le_of_ble_eq_true rfl) (fun M' hv => f_X5_put_met hB.2 (by omega) hv) (fun M23 => ?_)
    refine x_aload_n hC dX10_feed_26 rfl 0 rfl ?_
    refine r_getR hB dX10_feed_27 kf_X10_50 rfl th_0 rf_0_9 ?_
    refine x_iload_n hC dX10_feed_30 rfl 2 rfl ?_
    refine r_cVv (as := [.int p2]) (rest := []) hB dX10_feed_31 kv_X10_163 th_78 hq1 rfl rfl (Nat.le_of_ble_eq_true rfl) (fun M' hv => f_X5_put_met hB.2 (by omega) hv) (fun M31 => ?_)
    refine x_aload_n hC dX10_feed_34 rfl 0 rfl ?_
    refine r_getR hB dX10_feed_35 kf_X10_50 rfl th_0 rf_0_9 ?_
    refine x_iload_n hC dX10_feed_38 rfl 3 rfl ?_
    refine r_cVv (as := [.int p3]) (rest := []) hB dX10_feed_39 kv_X10_163 th_78 hq1 rfl rfl (Nat.le_of_ble_eq_true rfl) (fun M' hv => f_X5_put_met hB.2 (by omega) hv) (fun M39 => ?_)
    refine x_aload_n hC dX10_feed_42 rfl 0 rfl ?_
    refine r_getR hB dX10_feed_43 kf_X10_50 rfl th_0 rf_0_9 ?_
    refine x_iload hC dX10_feed_46 4 rfl ?_
    refine r_cVv (as := [.int p4]) (rest := []) hB dX10_feed_48 kv_X10_163 th_78 hq1 rfl rfl (Nat.le_of_ble_eq_true rfl) (fun M' hv => f_X5_put_met hB.2 (by omega) hv) (fun M48 => ?_)
    refine x_aload_n hC dX10_feed_51 rfl 0 rfl ?_
    refine r_getR hB dX10_feed_52 kf_X10_50 rfl th_0 rf_0_9 ?_
    refine x_iload hC dX10_feed_55 5 rfl ?_
    refine r_cVv (as := [.int p5]) (rest := []) hB dX10_feed_57 kv_X10_163 th_78 hq1 rfl rfl (Nat.le_of_ble_eq_true rfl) (fun M' hv => f_X5_put_met hB.2 (by omega) hv) (fun M57 => ?_)
    refine x_aload_n hC dX10_feed_60 rfl 0 rfl ?_
    refine r_getR hB dX10_feed_61 kf_X10_50 rfl th_0 rf_0_9 ?_
    refine r_getI hB dX10_feed_64 kf_X10_160 rfl th_78 ?_
    exact r_retI hR dX10_feed_67 (fun h => h)
  · refine x_iconst (v := (-1 : Int32)) hC dX10_feed_16 ki_m1 ?_
    exact r_retI hR dX10_feed_17 (fun h => h)
theorem f_X10_feed_met {l : Launch} {d : Nat} {g : zG} {w : zW} {M0 : zM} {p1 : Int32} {p2 : Int32} {p3 : Int32} {p4 : Int32} {p5 : Int32} {M : zM} (hw : wS w) (hd : 2 ≤ d) {v : Int32} {M' : zM} (h : f_X10_feed p1 p2 p3 p4 p5 M = some (v, M')) : zMet l yX10_feed cX10_feed 6 (some .int) d g w (zin true) M0 [zr w 0, .int p1, .int p2, .int p3, .int p4, .int p5] M (some (.int v)) M' :=
  met_i (by decide +kernel) (Nat.le_of_ble_eq_true rfl) rfl (fun C hB0 hR => f_X10_feed_ok (r := (v, M')) ⟨hB0, hw⟩ hd M hR _ h rfl)
/-! WindingSquare.book(II)I -/
noncomputable def f_X10_book (p1 : Int32) (p2 : Int32) (M : zM) : Option (Int32) :=
  if p1 < 0 then (some (-1 : Int32))
  else (if (M 1 6) ≤ p1 then (some (-1 : Int32))
  else (if p2 < 0 then (some (-1 : Int32))
  else (if p2 < (4 : Int32) then ((f_X0_part 68 p1 p2 M).bind fun u32 =>
  some u32)
  else (some (-1 : Int32)))))
set_option maxRecDepth 100000 in
theorem f_X10_book_ok {C : zC} {d : Nat} {g : zG} {l : Launch} {w : zW} {r : Int32} {p1 : Int32} {p2 : Int32} (hB : bOK C cX10_book 3 RX10 d g l w true) (hd : 2 ≤ d) (M : zM) (hR : RtI C cX10_book w r M) : Sg C w (0, 0) 0 [(0, zr w 0), (1, .int p1), (2, .int p2)] [] M (f_X10_book p1 p2 M) (fun q => q = r) := by
  have hC := hB.1.1
  have hq1 : 1 ≤ d := by omega
  unfold f_X10_book
  refine x_iload_n hC dX10_book_0 rfl 1 rfl ?_
  refine x_if_lt (tgt := 24) hC dX10_book_1 (by decide) ?_ ?_
  · refine x_iconst (v := (-1 : Int32)) hC dX10_book_24 ki_m1 ?_
    exact r_retI hR dX10_book_25 (fun h => congrArg (fun q => (q, M)) h)
  · refine x_iload_n hC dX10_book_4 rfl 1 rfl ?_
    refine x_aload_n hC dX10_book_5 rfl 0 rfl ?_
    refine r_getR hB dX10_book_6 kf_X10_10 rfl th_0 rf_0_0 ?_
    refine r_getI hB dX10_book_9 kf_X10_218 rfl th_1 ?_
    refine x_icmp_ge (tgt := 24) hC dX10_book_12 (by decide) ?_ ?_
    · refine x_iconst (v := (-1 : Int32)) hC dX10_book_24 ki_m1 ?_
      exact r_retI hR dX10_book_25 (fun h => congrArg (fun q => (q, M)) h)
    · refine x_iload_n hC dX10_book_15 rfl 2 rfl ?_
      refine x_if_lt (tgt := 24) hC dX10_book_16 (by decide) ?_ ?_
      · refine x_iconst (v := (-1 : Int32)) hC dX10_book_24 ki_m1 ?_
        exact r_retI hR dX10_book_25 (fun h => congrArg (fun q => (q, M)) h)
      · refine x_iload_n hC dX10_book_19 rfl 2 rfl ?_
        refine x_iconst (v := (4 : Int32)) hC dX10_book_20 ki_4 ?_
        refine x_icmp_lt (tgt := 26) hC dX10_book_21 (by decide) ?_ ?_
        · refine x_aload_n hC dX10_book_26 rfl 0 rfl ?_
          refine r_getR hB dX10_book_27 kf_X10_36 rfl th_0 rf_0_7 ?_
          refine x_iload_n hC dX10_book_30 rfl 1 rfl ?_
          refine x_iload_n hC dX10_book_31 rfl 2 rfl ?_
          refine r_cV1 (as := [.int p1, .int p2]) (rest := []) hB dX10_book_32 kv_X10_221 th_68 hq1 rfl rfl (Nat.le_of_ble_eq_true rfl) (fun v hv => f_X0_part_met hB.2 th_68 (by omega) hv) (fun u32 => ?_)
          exact r_retI hR dX10_book_35 (fun h => congrArg (fun q => (q, M)) h)
        · refine x_iconst (v := (-1 : Int32)) hC dX10_book_24 ki_m1 ?_
          exact r_retI hR dX10_book_25 (fun h => congrArg (fun q => (q, M)) h)
theorem f_X10_book_met {l : Launch} {d : Nat} {g : zG} {w : zW} {M0 : zM} {p1 : Int32} {p2 : Int32} {M : zM} (hw : wS w) (hd : 2 ≤ d) {v : Int32} (h : f_X10_book p1 p2 M = some v) : zMet l yX10_book cX10_book 3 (some .int) d g w (zin true) M0 [zr w 0, .int p1, .int p2] M (some (.int v)) M :=
  met_i (by decide +kernel) (Nat.le_of_ble_eq_true rfl) rfl (fun C hB0 hR => f_X10_book_ok ⟨hB0, hw⟩ hd M hR _ h rfl)
/-! WindingSquare.known(II)I -/
noncomputable def f_X10_known (p1 : Int32) (p2 : Int32) (M : zM) : Option (Int32 × zM) :=
  if p1 < 0 then (some ((-1 : Int32), M))
  else (if (1 : Int32) < p1 then (some ((-1 : Int32), M))
  else (if p2 < (-1 : Int32) then (some ((-1 : Int32), M))
  else (if p2 ≤ (2 : Int32) then (bnd2 (f_X6_tellTurn 70 p1 p2 M) fun u27 M27 =>
  some (u27, M27))
  else (some ((-1 : Int32), M)))))
set_option maxRecDepth 100000 in
theorem f_X10_known_ok {C : zC} {d : Nat} {g : zG} {l : Launch} {w : zW} {r : Int32 × zM} {p1 : Int32} {p2 : Int32} (hB : bOK C cX10_known 3 RX10 d g l w true) (hd : 2 ≤ d) (M : zM) (hR : RtI C cX10_known w r.1 r.2) : Sg C w (0, 0) 0 [(0, zr w 0), (1, .int p1), (2, .int p2)] [] M (f_X10_known p1 p2 M) (fun q => q = r) := by
  have hC := hB.1.1
  have hq1 : 1 ≤ d := by omega
  unfold f_X10_known
  refine x_iload_n hC dX10_known_0 rfl 1 rfl ?_
  refine x_if_lt (tgt := 19) hC dX10_known_1 (by decide) ?_ ?_
  · refine x_iconst (v := (-1 : Int32)) hC dX10_known_19 ki_m1 ?_
    exact r_retI hR dX10_known_20 (fun h => h)
  · refine x_iload_n hC dX10_known_4 rfl 1 rfl ?_
    refine x_iconst (v := (1 : Int32)) hC dX10_known_5 ki_1 ?_
    refine x_icmp_gt (tgt := 19) hC dX10_known_6 (by decide) ?_ ?_
    · refine x_iconst (v := (-1 : Int32)) hC dX10_known_19 ki_m1 ?_
      exact r_retI hR dX10_known_20 (fun h => h)
    · refine x_iload_n hC dX10_known_9 rfl 2 rfl ?_
      refine x_iconst (v := (-1 : Int32)) hC dX10_known_10 ki_m1 ?_
      refine x_icmp_lt (tgt := 19) hC dX10_known_11 (by decide) ?_ ?_
      · refine x_iconst (v := (-1 : Int32)) hC dX10_known_19 ki_m1 ?_
        exact r_retI hR dX10_known_20 (fun h => h)
      · refine x_iload_n hC dX10_known_14 rfl 2 rfl ?_
        refine x_iconst (v := (2 : Int32)) hC dX10_known_15 ki_2 ?_
        refine x_icmp_le (tgt := 21) hC dX10_known_16 (by decide) ?_ ?_
        · refine x_aload_n hC dX10_known_21 rfl 0 rfl ?_
          refine r_getR hB dX10_known_22 kf_X10_43 rfl th_0 rf_0_8 ?_
          refine x_iload_n hC dX10_known_25 rfl 1 rfl ?_
          refine x_iload_n hC dX10_known_26 rfl 2 rfl ?_
          refine r_cV2 (as := [.int p1, .int p2]) (rest := []) hB dX10_known_27 kv_X10_255 th_70 hq1 rfl rfl (Nat.le_of_ble_eq_true rfl) (fun v M' hv => f_X6_tellTurn_met hB.2 th_70 (by omega) hv) (fun u27 M27 => ?_)
          exact r_retI hR dX10_known_30 (fun h => h)
        · refine x_iconst (v := (-1 : Int32)) hC dX10_known_19 ki_m1 ?_
          exact r_retI hR dX10_known_20 (fun h => h)
theorem f_X10_known_met {l : Launch} {d : Nat} {g : zG} {w : zW} {M0 : zM} {p1 : Int32} {p2 : Int32} {M : zM} (hw : wS w) (hd : 2 ≤ d) {v : Int32} {M' : zM} (h : f_X10_known p1 p2 M = some (v, M')) : zMet l yX10_known cX10_known 3 (some .int) d g w (zin true) M0 [zr w 0, .int p1, .int p2] M (some (.int v)) M' :=
  met_i (by decide +kernel) (Nat.le_of_ble_eq_true rfl) rfl (fun C hB0 hR => f_X10_known_ok (r := (v, M')) ⟨hB0, hw⟩ hd M hR _ h rfl)
/-! WindingSquare.move(I)I -/
noncomputable def f_X10_move (p1 : Int32) (M : zM) : Option (Int32 × zM) :=
  if p1 < (-1 : Int32) then (some ((-1 : Int32), M))
  else (if p1 ≤ (2 : Int32) then (bnd2 (f_X6_tellMove 70 p1 M) fun u19 M19 =>
  some (u19, M19))
  else (some ((-1 : Int32), M)))
set_option maxRecDepth 100000 in
theorem f_X10_move_ok {C : zC} {d : Nat} {g : zG} {l : Launch} {w : zW} {r : Int32 × zM} {p1 : Int32} (hB : bOK C cX10_move 2 RX10 d g l w true) (hd : 2 ≤ d) (M : zM) (hR : RtI C cX10_move w r.1 r.2) : Sg C w (0, 0) 0 [(0, zr w 0), (1, .int p1)] [] M (f_X10_move p1 M) (fun q => q = r) := by
  have hC := hB.1.1
  have hq1 : 1 ≤ d := by omega
  unfold f_X10_move
  refine x_iload_n hC dX10_move_0 rfl 1 rfl ?_
  refine x_iconst (v := (-1 : Int32)) hC dX10_move_1 ki_m1 ?_
  refine x_icmp_lt (tgt := 10) hC dX10_move_2 (by decide) ?_ ?_
  · refine x_iconst (v := (-1 : Int32)) hC dX10_move_10 ki_m1 ?_
    refine x_goto (tgt := 22) hC dX10_move_11 (by decide) ?_
    exact r_retI hR dX10_move_22 (fun h => h)
  · refine x_iload_n hC dX10_move_5 rfl 1 rfl ?_
    refine x_iconst (v := (2 : Int32)) hC dX10_move_6 ki_2 ?_
    refine x_icmp_le (tgt := 14) hC dX10_move_7 (by decide) ?_ ?_
    · refine x_aload_n hC dX10_move_14 rfl 0 rfl ?_
      refine r_getR hB dX10_move_15 kf_X10_43 rfl th_0 rf_0_8 ?_
      refine x_iload_n hC dX10_move_18 rfl 1 rfl ?_
      refine r_cV2 (as := [.int p1]) (rest := []) hB dX10_move_19 kv_X10_266 th_70 hq1 rfl rfl (Nat.le_of_ble_eq_true rfl) (fun v M' hv => f_X6_tellMove_met hB.2 th_70 (by omega) hv) (fun u19 M19 => ?_)
      exact r_retI hR dX10_move_22 (fun h => h)
    · refine x_iconst (v := (-1 : Int32)) hC dX10_move_10 ki_m1 ?_
      refine x_goto (tgt := 22) hC dX10_move_11 (by decide) ?_
      exact r_retI hR dX10_move_22 (fun h => h)
theorem f_X10_move_met {l : Launch} {d : Nat} {g : zG} {w : zW} {M0 : zM} {p1 : Int32} {M : zM} (hw : wS w) (hd : 2 ≤ d) {v : Int32} {M' : zM} (h : f_X10_move p1 M = some (v, M')) : zMet l yX10_move cX10_move 2 (some .int) d g w (zin true) M0 [zr w 0, .int p1] M (some (.int v)) M' :=
  met_i (by decide +kernel) (Nat.le_of_ble_eq_true rfl) rfl (fun C hB0 hR => f_X10_move_ok (r := (v, M')) ⟨hB0, hw⟩ hd M hR _ h rfl)
/-! WindingSquare.folded(III)I -/
noncomputable def j_X10_folded_70 (s1_70 : Int32) (s2_70 : Int32) (M : zM) : Option (Int32) :=
  (f_X4_foldEnd s1_70 s2_70).bind fun u70 =>
  some u70
set_option maxRecDepth 100000 in
theorem j_X10_folded_70_ok {C : zC} {d : Nat} {g : zG} {l : Launch} {w : zW} {r : Int32} {s1_70 : Int32} {s2_70 : Int32} (hB : bOK C cX10_folded 4 RX10 d g l w true) (hd : 2 ≤ d) (M : zM) (hR : RtI C cX10_folded w r M) : Sg C w (0, 0) 70 [] [.int s2_70, .int s1_70, zr w 95] M (j_X10_folded_70 s1_70 s2_70 M) (fun q => q = r) := by
  have hC := hB.1.1
  have hq1 : 1 ≤ d := by omega
  unfold j_X10_folded_70
  refine r_cV1 (as := [.int s1_70, .int s2_70]) (rest := []) hB dX10_folded_70 kv_X10_284 th_95 hq1 rfl rfl (Nat.le_of_ble_eq_true rfl) (fun v hv => f_X4_foldEnd_met hB.2 (by omega) hv) (fun u70 => ?_)
  exact r_retI hR dX10_folded_73 (fun h => congrArg (fun q => (q, M)) h)
noncomputable def j_X10_folded_40 (v1_40 : Int32) (v2_40 : Int32) (v3_40 : Int32) (M : zM) : Option (Int32) :=
  if v3_40 = 0 then ((f_X4_foldTurn v2_40).bind fun u49 =>
  some u49)
  else (if v3_40 = (1 : Int32) then (j_X10_folded_70 v1_40 (1 : Int32) M)
  else (j_X10_folded_70 v1_40 (0 : Int32) M))
set_option maxRecDepth 100000 in
theorem j_X10_folded_40_ok {C : zC} {d : Nat} {g : zG} {l : Launch} {w : zW} {r : Int32} {v1_40 : Int32} {v2_40 : Int32} {v3_40 : Int32} (hB : bOK C cX10_folded 4 RX10 d g l w true) (hd : 2 ≤ d) (M : zM) (hR : RtI C cX10_folded w r M) : Sg C w (0, 0) 40 [(0, zr w 0), (1, .int v1_40), (2, .int v2_40), (3, .int v3_40)] [] M (j_X10_folded_40 v1_40 v2_40 v3_40 M) (fun q => q = r) := by
  have hC := hB.1.1
  have hq1 : 1 ≤ d := by omega
  unfold j_X10_folded_40
  refine x_iload_n hC dX10_folded_40 rfl 3 rfl ?_
  refine x_if_ne (tgt := 55) hC dX10_folded_41 (by decide) ?_ ?_
  · refine x_aload_n hC dX10_folded_44 rfl 0 rfl ?_
    refine r_getR hB dX10_folded_45 kf_X10_79 rfl th_0 rf_0_12 ?_
    refine x_iload_n hC dX10_folded_48 rfl 2 rfl ?_
    refine r_cV1 (as := [.int v2_40]) (rest := []) hB dX10_folded_49 kv_X10_281 th_95 hq1 rfl rfl (Nat.le_of_ble_eq_true rfl) (fun v hv => f_X4_foldTurn_met hB.2 (by omega) hv) (fun u49 => ?_)
    refine x_goto (tgt := 73) hC dX10_folded_52 (by decide) ?_
    exact r_retI hR dX10_folded_73 (fun h => congrArg (fun q => (q, M)) h)
  · refine x_aload_n hC dX10_folded_55 rfl 0 rfl ?_
    refine r_getR hB dX10_folded_56 kf_X10_79 rfl th_0 rf_0_12 ?_
    refine x_iload_n hC dX10_folded_59 rfl 1 rfl ?_
    refine x_iload_n hC dX10_folded_60 rfl 3 rfl ?_
    refine x_iconst (v := (1 : Int32)) hC dX10_folded_61 ki_1 ?_
    refine x_icmp_ne (tgt := 69) hC dX10_folded_62 (by decide) ?_ ?_
    · refine x_iconst (v := (1 : Int32)) hC dX10_folded_65 ki_1 ?_
      refine x_goto (tgt := 70) hC dX10_folded_66 (by decide) ?_
      refine x_sub [] rfl ?_
      exact j_X10_folded_70_ok hB hd M hR
    · refine x_iconst (v := (0 : Int32)) hC dX10_folded_69 ki_0 ?_
      refine x_sub [] rfl ?_
      exact j_X10_folded_70_ok hB hd M hR
noncomputable def f_X10_folded (p1 : Int32) (p2 : Int32) (p3 : Int32) (M : zM) : Option (Int32) :=
  if p1 < (1 : Int32) then (some (-1000 : Int32))
  else (if (15 : Int32) < p1 then (some (-1000 : Int32))
  else (if p3 < 0 then (some (-1000 : Int32))
  else (if (2 : Int32) < p3 then (some (-1000 : Int32))
  else (if p3 = 0 then (if p2 < (1 : Int32) then (some (-1000 : Int32))
  else (if p2 < ((1 : Int32) <<< (p1 &&& 31)) then (j_X10_folded_40 p1 p2 p3 M)
  else (some (-1000 : Int32))))
  else (j_X10_folded_40 p1 p2 p3 M)))))
set_option maxRecDepth 100000 in
theorem f_X10_folded_ok {C : zC} {d : Nat} {g : zG} {l : Launch} {w : zW} {r : Int32} {p1 : Int32} {p2 : Int32} {p3 : Int32} (hB : bOK C cX10_folded 4 RX10 d g l w true) (hd : 2 ≤ d) (M : zM) (hR : RtI C cX10_folded w r M) : Sg C w (0, 0) 0 [(0, zr w 0), (1, .int p1), (2, .int p2), (3, .int p3)] [] M (f_X10_folded p1 p2 p3 M) (fun q => q = r) := by
  have hC := hB.1.1
  have hq1 : 1 ≤ d := by omega
  unfold f_X10_folded
  refine x_iload_n hC dX10_folded_0 rfl 1 rfl ?_
  refine x_iconst (v := (1 : Int32)) hC dX10_folded_1 ki_1 ?_
  refine x_icmp_lt (tgt := 36) hC dX10_folded_2 (by decide) ?_ ?_
  · refine x_sipush (v := (-1000 : Int32)) hC dX10_folded_36 kh_m1000 ?_
    exact r_retI hR dX10_folded_39 (fun h => congrArg (fun q => (q, M)) h)
  · refine x_iload_n hC dX10_folded_5 rfl 1 rfl ?_
    refine x_bipush (v := (15 : Int32)) hC dX10_folded_6 kb_15 ?_
    refine x_icmp_gt (tgt := 36) hC dX10_folded_8 (by decide) ?_ ?_
    · refine x_sipush (v := (-1000 : Int32)) hC dX10_folded_36 kh_m1000 ?_
      exact r_retI hR dX10_folded_39 (fun h => congrArg (fun q => (q, M)) h)
    · refine x_iload_n hC dX10_folded_11 rfl 3 rfl ?_
      refine x_if_lt (tgt := 36) hC dX10_folded_12 (by decide) ?_ ?_
      · refine x_sipush (v := (-1000 : Int32)) hC dX10_folded_36 kh_m1000 ?_
        exact r_retI hR dX10_folded_39 (fun h => congrArg (fun q => (q, M)) h)
      · refine x_iload_n hC dX10_folded_15 rfl 3 rfl ?_
        refine x_iconst (v := (2 : Int32)) hC dX10_folded_16 ki_2 ?_
        refine x_icmp_gt (tgt := 36) hC dX10_folded_17 (by decide) ?_ ?_
        · refine x_sipush (v := (-1000 : Int32)) hC dX10_folded_36 kh_m1000 ?_
          exact r_retI hR dX10_folded_39 (fun h => congrArg (fun q => (q, M)) h)
        · refine x_iload_n hC dX10_folded_20 rfl 3 rfl ?_
          refine x_if_ne (tgt := 40) hC dX10_folded_21 (by decide) ?_ ?_
          · refine x_iload_n hC dX10_folded_24 rfl 2 rfl ?_
            refine x_iconst (v := (1 : Int32)) hC dX10_folded_25 ki_1 ?_
            refine x_icmp_lt (tgt := 36) hC dX10_folded_26 (by decide) ?_ ?_
            · refine x_sipush (v := (-1000 : Int32)) hC dX10_folded_36 kh_m1000 ?_
              exact r_retI hR dX10_folded_39 (fun h => congrArg (fun q => (q, M)) h)
            · refine x_iload_n hC dX10_folded_29 rfl 2 rfl ?_
              refine x_iconst (v := (1 : Int32)) hC dX10_folded_30 ki_1 ?_
              refine x_iload_n hC dX10_folded_31 rfl 1 rfl ?_
              refine x_ishl hC dX10_folded_32 ?_
              refine x_icmp_lt (tgt := 40) hC dX10_folded_33 (by decide) ?_ ?_
              · exact j_X10_folded_40_ok hB hd M hR
              · refine x_sipush (v := (-1000 : Int32)) hC dX10_folded_36 kh_m1000 ?_
                exact r_retI hR dX10_folded_39 (fun h => congrArg (fun q => (q, M)) h)
          · exact j_X10_folded_40_ok hB hd M hR
theorem f_X10_folded_met {l : Launch} {d : Nat} {g : zG} {w : zW} {M0 : zM} {p1 : Int32} {p2 : Int32} {p3 : Int32} {M : zM} (hw : wS w) (hd : 2 ≤ d) {v : Int32} (h : f_X10_folded p1 p2 p3 M = some v) : zMet l yX10_folded cX10_folded 4 (some .int) d g w (zin true) M0 [zr w 0, .int p1, .int p2, .int p3] M (some (.int v)) M :=
  met_i (by decide +kernel) (Nat.le_of_ble_eq_true rfl) rfl (fun C hB0 hR => f_X10_folded_ok ⟨hB0, hw⟩ hd M hR _ h rfl)
/-! WindingSquare.hooks(II)I -/
noncomputable def f_X10_hooks (p1 : Int32) (p2 : Int32) (M : zM) : Option (Int32 × zM) :=
  if p1 < 0 then (some ((-1 : Int32), M))
  else (if (40 : Int32) < p1 then (some ((-1 : Int32), M))
  else (if p2 < 0 then (some ((-1 : Int32), M))
  else (if p2 ≤ (1 : Int32) then (if p2 = 0 then (bnd2 (f_X4_hooksAndSlabs p1 M) fun u30 M30 =>
  some (u30, M30))
  else (some ((f_X4_hooksAlone p1), M)))
  else (some ((-1 : Int32), M)))))
set_option maxRecDepth 100000 in
theorem f_X10_hooks_ok {C : zC} {d : Nat} {g : zG} {l : Launch} {w : zW} {r : Int32 × zM} {p1 : Int32} {p2 : Int32} (hB : bOK C cX10_hooks 3 RX10 d g l w true) (hd : 2 ≤ d) (M : zM) (hR : RtI C cX10_hooks w r.1 r.2) : Sg C w (0, 0) 0 [(0, zr w 0), (1, .int p1), (2, .int p2)] [] M (f_X10_hooks p1 p2 M) (fun q => q = r) := by
  have hC := hB.1.1
  have hq1 : 1 ≤ d := by omega
  unfold f_X10_hooks
  refine x_iload_n hC dX10_hooks_0 rfl 1 rfl ?_
  refine x_if_lt (tgt := 19) hC dX10_hooks_1 (by decide) ?_ ?_
  · refine x_iconst (v := (-1 : Int32)) hC dX10_hooks_19 ki_m1 ?_
    exact r_retI hR dX10_hooks_20 (fun h => h)
  · refine x_iload_n hC dX10_hooks_4 rfl 1 rfl ?_
    refine x_bipush (v := (40 : Int32)) hC dX10_hooks_5 kb_40 ?_
    refine x_icmp_gt (tgt := 19) hC dX10_hooks_7 (by decide) ?_ ?_
    · refine x_iconst (v := (-1 : Int32)) hC dX10_hooks_19 ki_m1 ?_
      exact r_retI hR dX10_hooks_20 (fun h => h)
    · refine x_iload_n hC dX10_hooks_10 rfl 2 rfl ?_
      refine x_if_lt (tgt := 19) hC dX10_hooks_11 (by decide) ?_ ?_
      · refine x_iconst (v := (-1 : Int32)) hC dX10_hooks_19 ki_m1 ?_
        exact r_retI hR dX10_hooks_20 (fun h => h)
      · refine x_iload_n hC dX10_hooks_14 rfl 2 rfl ?_
        refine x_iconst (v := (1 : Int32)) hC dX10_hooks_15 ki_1 ?_
        refine x_icmp_le (tgt := 21) hC dX10_hooks_16 (by decide) ?_ ?_
        · refine x_iload_n hC dX10_hooks_21 rfl 2 rfl ?_
          refine x_if_ne (tgt := 36) hC dX10_hooks_22 (by decide) ?_ ?_
          · refine x_aload_n hC dX10_hooks_25 rfl 0 rfl ?_
            refine r_getR hB dX10_hooks_26 kf_X10_79 rfl th_0 rf_0_12 ?_
            refine x_iload_n hC dX10_hooks_29 rfl 1 rfl ?_
            refine r_cV2 (as := [.int p1]) (rest := []) hB dX10_hooks_30 kv_X10_302 th_95 hq1 rfl rfl (Nat.le_of_ble_eq_true rfl) (fun v M' hv => f_X4_hooksAndSlabs_met hB.2 (by omega) hv) (fun u30 M30 => ?_)
            refine x_goto (tgt := 44) hC dX10_hooks_33 (by decide) ?_
            exact r_retI hR dX10_hooks_44 (fun h => h)
          · refine x_aload_n hC dX10_hooks_36 rfl 0 rfl ?_
            refine r_getR hB dX10_hooks_37 kf_X10_79 rfl th_0 rf_0_12 ?_
            refine x_iload_n hC dX10_hooks_40 rfl 1 rfl ?_
            refine r_cV0 (as := [.int p1]) (rest := []) hB dX10_hooks_41 kv_X10_305 th_95 hq1 rfl rfl (Nat.le_of_ble_eq_true rfl) (f_X4_hooksAlone_met hB.2 (by omega)) ?_
            exact r_retI hR dX10_hooks_44 (fun h => h)
        · refine x_iconst (v := (-1 : Int32)) hC dX10_hooks_19 ki_m1 ?_
          exact r_retI hR dX10_hooks_20 (fun h => h)
theorem f_X10_hooks_met {l : Launch} {d : Nat} {g : zG} {w : zW} {M0 : zM} {p1 : Int32} {p2 : Int32} {M : zM} (hw : wS w) (hd : 2 ≤ d) {v : Int32} {M' : zM} (h : f_X10_hooks p1 p2 M = some (v, M')) : zMet l yX10_hooks cX10_hooks 3 (some .int) d g w (zin true) M0 [zr w 0, .int p1, .int p2] M (some (.int v)) M' :=
  met_i (by decide +kernel) (Nat.le_of_ble_eq_true rfl) rfl (fun C hB0 hR => f_X10_hooks_ok (r := (v, M')) ⟨hB0, hw⟩ hd M hR _ h rfl)
/-! WindingSquare.gap(II)I -/
noncomputable def j_X10_gap_27 (v1_27 : Int32) (v2_27 : Int32) (M : zM) : Option (Int32 × zM) :=
  bnd2 (f_X6_tellGap 70 v1_27 v2_27 M) fun u33 M33 =>
  some (u33, M33)
set_option maxRecDepth 100000 in
theorem j_X10_gap_27_ok {C : zC} {d : Nat} {g : zG} {l : Launch} {w : zW} {r : Int32 × zM} {v1_27 : Int32} {v2_27 : Int32} (hB : bOK C cX10_gap 3 RX10 d g l w true) (hd : 2 ≤ d) (M : zM) (hR : RtI C cX10_gap w r.1 r.2) : Sg C w (0, 0) 27 [(0, zr w 0), (1, .int v1_27), (2, .int v2_27)] [] M (j_X10_gap_27 v1_27 v2_27 M) (fun q => q = r) := by
  have hC := hB.1.1
  have hq1 : 1 ≤ d := by omega
  unfold j_X10_gap_27
  refine x_aload_n hC dX10_gap_27 rfl 0 rfl ?_
  refine r_getR hB dX10_gap_28 kf_X10_43 rfl th_0 rf_0_8 ?_
  refine x_iload_n hC dX10_gap_31 rfl 1 rfl ?_
  refine x_iload_n hC dX10_gap_32 rfl 2 rfl ?_
  refine r_cV2 (as := [.int v1_27, .int v2_27]) (rest := []) hB dX10_gap_33 kv_X10_311 th_70 hq1 rfl rfl (Nat.le_of_ble_eq_true rfl) (fun v M' hv => f_X6_tellGap_met hB.2 th_70 (by omega) hv) (fun u33 M33 => ?_)
  exact r_retI hR dX10_gap_36 (fun h => h)
noncomputable def f_X10_gap (p1 : Int32) (p2 : Int32) (M : zM) : Option (Int32 × zM) :=
  if p1 = (-1 : Int32) then (j_X10_gap_27 p1 p2 M)
  else (if p1 < 0 then (some ((-1 : Int32), M))
  else (if (7 : Int32) < p1 then (some ((-1 : Int32), M))
  else (if p2 < 0 then (some ((-1 : Int32), M))
  else (if p2 ≤ (30 : Int32) then (j_X10_gap_27 p1 p2 M)
  else (some ((-1 : Int32), M))))))
set_option maxRecDepth 100000 in
theorem f_X10_gap_ok {C : zC} {d : Nat} {g : zG} {l : Launch} {w : zW} {r : Int32 × zM} {p1 : Int32} {p2 : Int32} (hB : bOK C cX10_gap 3 RX10 d g l w true) (hd : 2 ≤ d) (M : zM) (hR : RtI C cX10_gap w r.1 r.2) : Sg C w (0, 0) 0 [(0, zr w 0), (1, .int p1), (2, .int p2)] [] M (f_X10_gap p1 p2 M) (fun q => q = r) := by
  have hC := hB.1.1
  have hq1 : 1 ≤ d := by omega
  unfold f_X10_gap
  refine x_iload_n hC dX10_gap_0 rfl 1 rfl ?_
  refine x_iconst (v := (-1 : Int32)) hC dX10_gap_1 ki_m1 ?_
  refine x_icmp_eq (tgt := 27) hC dX10_gap_2 (by decide) ?_ ?_
  · exact j_X10_gap_27_ok hB hd M hR
  · refine x_iload_n hC dX10_gap_5 rfl 1 rfl ?_
    refine x_if_lt (tgt := 25) hC dX10_gap_6 (by decide) ?_ ?_
    · refine x_iconst (v := (-1 : Int32)) hC dX10_gap_25 ki_m1 ?_
      exact r_retI hR dX10_gap_26 (fun h => h)
    · refine x_iload_n hC dX10_gap_9 rfl 1 rfl ?_
      refine x_bipush (v := (7 : Int32)) hC dX10_gap_10 kb_7 ?_
      refine x_icmp_gt (tgt := 25) hC dX10_gap_12 (by decide) ?_ ?_
      · refine x_iconst (v := (-1 : Int32)) hC dX10_gap_25 ki_m1 ?_
        exact r_retI hR dX10_gap_26 (fun h => h)
      · refine x_iload_n hC dX10_gap_15 rfl 2 rfl ?_
        refine x_if_lt (tgt := 25) hC dX10_gap_16 (by decide) ?_ ?_
        · refine x_iconst (v := (-1 : Int32)) hC dX10_gap_25 ki_m1 ?_
          exact r_retI hR dX10_gap_26 (fun h => h)
        · refine x_iload_n hC dX10_gap_19 rfl 2 rfl ?_
          refine x_bipush (v := (30 : Int32)) hC dX10_gap_20 kb_30 ?_
          refine x_icmp_le (tgt := 27) hC dX10_gap_22 (by decide) ?_ ?_
          · exact j_X10_gap_27_ok hB hd M hR
          · refine x_iconst (v := (-1 : Int32)) hC dX10_gap_25 ki_m1 ?_
            exact r_retI hR dX10_gap_26 (fun h => h)
theorem f_X10_gap_met {l : Launch} {d : Nat} {g : zG} {w : zW} {M0 : zM} {p1 : Int32} {p2 : Int32} {M : zM} (hw : wS w) (hd : 2 ≤ d) {v : Int32} {M' : zM} (h : f_X10_gap p1 p2 M = some (v, M')) : zMet l yX10_gap cX10_gap 3 (some .int) d g w (zin true) M0 [zr w 0, .int p1, .int p2] M (some (.int v)) M' :=
  met_i (by decide +kernel) (Nat.le_of_ble_eq_true rfl) rfl (fun C hB0 hR => f_X10_gap_ok (r := (v, M')) ⟨hB0, hw⟩ hd M hR _ h rfl)
/-! WindingSquare.look(I)I -/
noncomputable def f_X10_look (p1 : Int32) (M : zM) : Option (Int32) :=
  if p1 = (0 : Int32) then (some (M 1 2))
  else (if p1 = (1 : Int32) then ((f_X7_insideSet 1 M).bind fun u76 =>
  some u76)
  else (if p1 = (2 : Int32) then (some (M 1 3))
  else (if p1 = (3 : Int32) then (some (M 1 4))
  else (if p1 = (4 : Int32) then ((f_X7_stones 1 M).bind fun u100 =>
  some u100)
  else (if p1 = (5 : Int32) then (some (M 1 6))
  else (if p1 = (6 : Int32) then (some (M 1 5))
  else (if p1 = (7 : Int32) then (some (M 47 (ix (0 : Int32))))
  else (if p1 = (8 : Int32) then (some (M 47 (ix (1 : Int32))))
  else (if p1 = (9 : Int32) then (some (M 47 (ix (2 : Int32))))
  else (if p1 = (10 : Int32) then (some (M 47 (ix (3 : Int32))))
  else (if p1 = (11 : Int32) then (some (M 0 4))
  else (some (-1 : Int32)))))))))))))
set_option maxRecDepth 100000 in
theorem f_X10_look_ok {C : zC} {d : Nat} {g : zG} {l : Launch} {w : zW} {r : Int32} {p1 : Int32} (hB : bOK C cX10_look 2 RX10 d g l w true) (hd : 2 ≤ d) (M : zM) (hR : RtI C cX10_look w r M) : Sg C w (0, 0) 0 [(0, zr w 0), (1, .int p1)] [] M (f_X10_look p1 M) (fun q => q = r) := by
  have hC := hB.1.1
  have hq1 : 1 ≤ d := by omega
  unfold f_X10_look
  refine x_iload_n hC dX10_look_0 rfl 1 rfl ?_
  refine x_ite (fun hs => ?_) (fun hs0 => ?_)
  · refine x_tsI (tgt := 64) (off := 63) hC dX10_look_1 (by rw [hs]; decide +kernel) (by rw [hs]; decide +kernel) (by rw [hs]; decide +kernel) (by decide) ?_
    refine x_aload_n hC dX10_look_64 rfl 0 rfl ?_
    refine r_getR hB dX10_look_65 kf_X10_10 rfl th_0 rf_0_0 ?_
    refine r_getI hB dX10_look_68 kf_X10_102 rfl th_1 ?_
    exact r_retI hR dX10_look_71 (fun h => congrArg (fun q => (q, M)) h)
  · skip
    refine x_ite (fun hs => ?_) (fun hs1 => ?_)
    · refine x_tsI (tgt := 72) (off := 71) hC dX10_look_1 (by rw [hs]; decide +kernel) (by rw [hs]; decide +kernel) (by rw [hs]; decide +kernel) (by decide) ?_
      refine x_aload_n hC dX10_look_72 rfl 0 rfl ?_
      refine r_getR hB dX10_look_73 kf_X10_10 rfl th_0 rf_0_0 ?_
      refine r_cV1 (as := []) (rest := []) hB dX10_look_76 kv_X10_355 th_1 hq1 rfl rfl (Nat.le_of_ble_eq_true rfl) (fun v hv => f_X7_insideSet_met hB.2 th_1 (by omega) hv) (fun u76 => ?_)
      exact r_retI hR dX10_look_79 (fun h => congrArg (fun q => (q, M)) h)
    · skip
      refine x_ite (fun hs => ?_) (fun hs2 => ?_)
      · refine x_tsI (tgt := 80) (off := 79) hC dX10_look_1 (by rw [hs]; decide +kernel) (by rw [hs]; decide +kernel) (by rw [hs]; decide +kernel) (by decide) ?_
        refine x_aload_n hC dX10_look_80 rfl 0 rfl ?_
        refine r_getR hB dX10_look_81 kf_X10_10 rfl th_0 rf_0_0 ?_
        refine r_getI hB dX10_look_84 kf_X10_151 rfl th_1 ?_
        exact r_retI hR dX10_look_87 (fun h => congrArg (fun q => (q, M)) h)
      · skip
        refine x_ite (fun hs => ?_) (fun hs3 => ?_)
        · refine x_tsI (tgt := 88) (off := 87) hC dX10_look_1 (by rw [hs]; decide +kernel) (by rw [hs]; decide +kernel) (by rw [hs]; decide +kernel) (by decide) ?_
          refine x_aload_n hC dX10_look_88 rfl 0 rfl ?_
          refine r_getR hB dX10_look_89 kf_X10_10 rfl th_0 rf_0_0 ?_
          refine r_getI hB dX10_look_92 kf_X10_358 rfl th_1 ?_
          exact r_retI hR dX10_look_95 (fun h => congrArg (fun q => (q, M)) h)
        · skip
          refine x_ite (fun hs => ?_) (fun hs4 => ?_)
          · refine x_tsI (tgt := 96) (off := 95) hC dX10_look_1 (by rw [hs]; decide +kernel) (by rw [hs]; decide +kernel) (by rw [hs]; decide +kernel) (by decide) ?_
            refine x_aload_n hC dX10_look_96 rfl 0 rfl ?_
            refine r_getR hB dX10_look_97 kf_X10_10 rfl th_0 rf_0_0 ?_
            refine r_cV1 (as := []) (rest := []) hB dX10_look_100 kv_X10_361 th_1 hq1 rfl rfl (Nat.le_of_ble_eq_true rfl) (fun v hv => f_X7_stones_met hB.2 th_1 (by omega) hv) (fun u100 => ?_)
            exact r_retI hR dX10_look_103 (fun h => congrArg (fun q => (q, M)) h)
          · skip
            refine x_ite (fun hs => ?_) (fun hs5 => ?_)
            · refine x_tsI (tgt := 104) (off := 103) hC dX10_look_1 (by rw [hs]; decide +kernel) (by rw [hs]; decide +kernel) (by rw [hs]; decide +kernel) (by decide) ?_
              refine x_aload_n hC dX10_look_104 rfl 0 rfl ?_
              refine r_getR hB dX10_look_105 kf_X10_10 rfl th_0 rf_0_0 ?_
              refine r_getI hB dX10_look_108 kf_X10_218 rfl th_1 ?_
              exact r_retI hR dX10_look_111 (fun h => congrArg (fun q => (q, M)) h)
            · skip
              refine x_ite (fun hs => ?_) (fun hs6 => ?_)
              · refine x_tsI (tgt := 112) (off := 111) hC dX10_look_1 (by rw [hs]; decide +kernel) (by rw [hs]; decide +kernel) (by rw [hs]; decide +kernel) (by decide) ?_
                refine x_aload_n hC dX10_look_112 rfl 0 rfl ?_
                refine r_getR hB dX10_look_113 kf_X10_10 rfl th_0 rf_0_0 ?_
                refine r_getI hB dX10_look_116 kf_X10_95 rfl th_1 ?_
                exact r_retI hR dX10_look_119 (fun h => congrArg (fun q => (q, M)) h)
              · skip
                refine x_ite (fun hs => ?_) (fun hs7 => ?_)
                · refine x_tsI (tgt := 120) (off := 119) hC dX10_look_1 (by rw [hs]; decide +kernel) (by rw [hs]; decide +kernel) (by rw [hs]; decide +kernel) (by decide) ?_
                  refine x_aload_n hC dX10_look_120 rfl 0 rfl ?_
                  refine r_getR hB dX10_look_121 kf_X10_26 rfl th_0 rf_0_5 ?_
                  refine r_getR hB dX10_look_124 kf_X10_364 rfl th_40 rf_40_1 ?_
                  refine x_iconst (v := (0 : Int32)) hC dX10_look_127 ki_0 ?_
                  refine r_iald0 hB dX10_look_128 th_47 ib_0_4 ?_
                  exact r_retI hR dX10_look_129 (fun h => congrArg (fun q => (q, M)) h)
                · skip
                  refine x_ite (fun hs => ?_) (fun hs8 => ?_)
                  · refine x_tsI (tgt := 130) (off := 129) hC dX10_look_1 (by rw [hs]; decide +kernel) (by rw [hs]; decide +kernel) (by rw [hs]; decide +kernel) (by decide) ?_
                    refine x_aload_n hC dX10_look_130 rfl 0 rfl ?_
                    refine r_getR hB dX10_look_131 kf_X10_26 rfl th_0 rf_0_5 ?_
                    refine r_getR hB dX10_look_134 kf_X10_364 rfl th_40 rf_40_1 ?_
                    refine x_iconst (v := (1 : Int32)) hC dX10_look_137 ki_1 ?_
                    refine r_iald0 hB dX10_look_138 th_47 ib_1_4 ?_
                    exact r_retI hR dX10_look_139 (fun h => congrArg (fun q => (q, M)) h)
                  · skip
                    refine x_ite (fun hs => ?_) (fun hs9 => ?_)
                    · refine x_tsI (tgt := 140) (off := 139) hC dX10_look_1 (by rw [hs]; decide +kernel) (by rw [hs]; decide +kernel) (by rw [hs]; decide +kernel) (by decide) ?_
                      refine x_aload_n hC dX10_look_140 rfl 0 rfl ?_
                      refine r_getR hB dX10_look_141 kf_X10_26 rfl th_0 rf_0_5 ?_
                      refine r_getR hB dX10_look_144 kf_X10_364 rfl th_40 rf_40_1 ?_
                      refine x_iconst (v := (2 : Int32)) hC dX10_look_147 ki_2 ?_
                      refine r_iald0 hB dX10_look_148 th_47 ib_2_4 ?_
                      exact r_retI hR dX10_look_149 (fun h => congrArg (fun q => (q, M)) h)
                    · skip
                      refine x_ite (fun hs => ?_) (fun hs10 => ?_)
                      · refine x_tsI (tgt := 150) (off := 149) hC dX10_look_1 (by rw [hs]; decide +kernel) (by rw [hs]; decide +kernel) (by rw [hs]; decide +kernel) (by decide) ?_
                        refine x_aload_n hC dX10_look_150 rfl 0 rfl ?_
                        refine r_getR hB dX10_look_151 kf_X10_26 rfl th_0 rf_0_5 ?_
                        refine r_getR hB dX10_look_154 kf_X10_364 rfl th_40 rf_40_1 ?_
                        refine x_iconst (v := (3 : Int32)) hC dX10_look_157 ki_3 ?_
                        refine r_iald0 hB dX10_look_158 th_47 ib_3_4 ?_
                        exact r_retI hR dX10_look_159 (fun h => congrArg (fun q => (q, M)) h)
                      · skip
                        refine x_ite (fun hs => ?_) (fun hs11 => ?_)
                        · refine x_tsI (tgt := 160) (off := 159) hC dX10_look_1 (by rw [hs]; decide +kernel) (by rw [hs]; decide +kernel) (by rw [hs]; decide +kernel) (by decide) ?_
                          refine x_aload_n hC dX10_look_160 rfl 0 rfl ?_
                          refine r_getI hB dX10_look_161 kf_X10_333 rfl th_0 ?_
                          exact r_retI hR dX10_look_164 (fun h => congrArg (fun q => (q, M)) h)
                        · skip
                          refine x_tsO (tgt := 165) hC dX10_look_1 (by have q0 := x_ne (k := 0) hs0 (by decide); have q1 := x_ne (k := 1) hs1 (by decide); have q2 := x_ne (k := 2) hs2 (by decide); have q3 := x_ne (k := 3) hs3 (by decide); have q4 := x_ne (k := 4) hs4 (by decide); have q5 := x_ne (k := 5) hs5 (by decide); have q6 := x_ne (k := 6) hs6 (by decide); have q7 := x_ne (k := 7) hs7 (by decide); have q8 := x_ne (k := 8) hs8 (by decide); have q9 := x_ne (k := 9) hs9 (by decide); have q10 := x_ne (k := 10) hs10 (by decide); have q11 := x_ne (k := 11) hs11 (by decide); omega) (by decide) ?_
                          refine x_iconst (v := (-1 : Int32)) hC dX10_look_165 ki_m1 ?_
                          exact r_retI hR dX10_look_166 (fun h => congrArg (fun q => (q, M)) h)
theorem f_X10_look_met {l : Launch} {d : Nat} {g : zG} {w : zW} {M0 : zM} {p1 : Int32} {M : zM} (hw : wS w) (hd : 2 ≤ d) {v : Int32} (h : f_X10_look p1 M = some v) : zMet l yX10_look cX10_look 2 (some .int) d g w (zin true) M0 [zr w 0, .int p1] M (some (.int v)) M :=
  met_i (by decide +kernel) (Nat.le_of_ble_eq_true rfl) rfl (fun C hB0 hR => f_X10_look_ok ⟨hB0, hw⟩ hd M hR _ h rfl)
