/-! WindingSquareModel.take()V -/
noncomputable def f_X11_take (M : zM) : Option (zM) :=
  (f_X11_copies 258 259 (2425 : Int32) M).bind fun M11 =>
  nm (mset M11 257 6 (1 : Int32)) fun M16 =>
  some M16
set_option maxRecDepth 100000 in
theorem f_X11_take_ok {C : zC} {d : Nat} {g : zG} {l : Launch} {w : zW} {r : zM} (hB : bOK C cX11_take 1 RX11 d g l w false) (hd : 2 ≤ d) (M : zM) (hR : RtV C cX11_take w r) : Sg C w (0, 0) 0 [(0, zr w 257)] [] M (f_X11_take M) (fun q => q = r) := by
  have hC := hB.1.1
  have hq1 : 1 ≤ d := by omega
  unfold f_X11_take
  refine x_aload_n hC dX11_take_0 rfl 0 rfl ?_
  refine r_getR hB dX11_take_1 kf_X11_9 rfl th_257 rf_257_0 ?_
  refine x_aload_n hC dX11_take_4 rfl 0 rfl ?_
  refine r_getR hB dX11_take_5 kf_X11_13 rfl th_257 rf_257_1 ?_
  refine x_sipush (v := (2425 : Int32)) hC dX11_take_8 kh_2425 ?_
  refine r_cSv (as := [zr w 258, zr w 259, .int (2425 : Int32)]) (rest := []) hB dX11_take_11 ks_X11_86 hq1 rfl rfl (Nat.le_of_ble_eq_true rfl) (fun M' hv => f_X11_copies_met hB.2 (tA.toI th_258) (tA.toI th_259) (by omega) hv) (fun M11 => ?_)
  refine x_aload_n hC dX11_take_14 rfl 0 rfl ?_
  refine x_iconst (v := (1 : Int32)) hC dX11_take_15 ki_1 ?_
  refine r_putZ hB dX11_take_16 kf_X11_90 rfl th_257 (Or.inr rfl) ?_
  refine x_mem (fun M16 => ?_)
  exact r_retV hR dX11_take_19 (fun h => h)
theorem f_X11_take_met {l : Launch} {d : Nat} {g : zG} {w : zW} {M0 : zM} {M : zM} (hw : wS w) (hd : 2 ≤ d) {M' : zM} (h : f_X11_take M = some M') : zMet l yX11_take cX11_take 1 none d g w (zin false) M0 [zr w 257] M none M' :=
  met_v (by decide +kernel) (Nat.le_of_ble_eq_true rfl) (fun C hB0 hR => f_X11_take_ok ⟨hB0, hw⟩ hd M hR _ h rfl)
/-! WindingSquareModel.begins()V -/
noncomputable def f_X11_begins (M : zM) : Option (zM) :=
  (f_X11_copies 258 259 (2425 : Int32) M).bind fun M11 =>
  nm (mset M11 257 6 (0 : Int32)) fun M16 =>
  some M16
set_option maxRecDepth 100000 in
theorem f_X11_begins_ok {C : zC} {d : Nat} {g : zG} {l : Launch} {w : zW} {r : zM} (hB : bOK C cX11_begins 1 RX11 d g l w false) (hd : 2 ≤ d) (M : zM) (hR : RtV C cX11_begins w r) : Sg C w (0, 0) 0 [(0, zr w 257)] [] M (f_X11_begins M) (fun q => q = r) := by
  have hC := hB.1.1
  have hq1 : 1 ≤ d := by omega
  unfold f_X11_begins
  refine x_aload_n hC dX11_begins_0 rfl 0 rfl ?_
  refine r_getR hB dX11_begins_1 kf_X11_9 rfl th_257 rf_257_0 ?_
  refine x_aload_n hC dX11_begins_4 rfl 0 rfl ?_
  refine r_getR hB dX11_begins_5 kf_X11_13 rfl th_257 rf_257_1 ?_
  refine x_sipush (v := (2425 : Int32)) hC dX11_begins_8 kh_2425 ?_
  refine r_cSv (as := [zr w 258, zr w 259, .int (2425 : Int32)]) (rest := []) hB dX11_begins_11 ks_X11_86 hq1 rfl rfl (Nat.le_of_ble_eq_true rfl) (fun M' hv => f_X11_copies_met hB.2 (tA.toI th_258) (tA.toI th_259) (by omega) hv) (fun M11 => ?_)
  refine x_aload_n hC dX11_begins_14 rfl 0 rfl ?_
  refine x_iconst (v := (0 : Int32)) hC dX11_begins_15 ki_0 ?_
  refine r_putZ hB dX11_begins_16 kf_X11_90 rfl th_257 (Or.inl rfl) ?_
  refine x_mem (fun M16 => ?_)
  exact r_retV hR dX11_begins_19 (fun h => h)
theorem f_X11_begins_met {l : Launch} {d : Nat} {g : zG} {w : zW} {M0 : zM} {M : zM} (hw : wS w) (hd : 2 ≤ d) {M' : zM} (h : f_X11_begins M = some M') : zMet l yX11_begins cX11_begins 1 none d g w (zin false) M0 [zr w 257] M none M' :=
  met_v (by decide +kernel) (Nat.le_of_ble_eq_true rfl) (fun C hB0 hR => f_X11_begins_ok ⟨hB0, hw⟩ hd M hR _ h rfl)
/-! WindingSquareModel.ends()V -/
noncomputable def f_X11_ends (M : zM) : Option (zM) :=
  (f_X11_keepsPast M).bind fun M1 =>
  (f_X11_copies 259 258 (2425 : Int32) M1).bind fun M15 =>
  some M15
set_option maxRecDepth 100000 in
theorem f_X11_ends_ok {C : zC} {d : Nat} {g : zG} {l : Launch} {w : zW} {r : zM} (hB : bOK C cX11_ends 1 RX11 d g l w false) (hd : 2 ≤ d) (M : zM) (hR : RtV C cX11_ends w r) : Sg C w (0, 0) 0 [(0, zr w 257)] [] M (f_X11_ends M) (fun q => q = r) := by
  have hC := hB.1.1
  have hq1 : 1 ≤ d := by omega
  unfold f_X11_ends
  refine x_aload_n hC dX11_ends_0 rfl 0 rfl ?_
  refine r_cVv (as := []) (rest := []) hB dX11_ends_1 kv_X11_97 th_257 hq1 rfl rfl (Nat.le_of_ble_eq_true rfl) (fun M' hv => f_X11_keepsPast_met hB.2 (by omega) hv) (fun M1 => ?_)
  refine x_aload_n hC dX11_ends_4 rfl 0 rfl ?_
  refine r_getR hB dX11_ends_5 kf_X11_13 rfl th_257 rf_257_1 ?_
  refine x_aload_n hC dX11_ends_8 rfl 0 rfl ?_
  refine r_getR hB dX11_ends_9 kf_X11_9 rfl th_257 rf_257_0 ?_
  refine x_sipush (v := (2425 : Int32)) hC dX11_ends_12 kh_2425 ?_
  refine r_cSv (as := [zr w 259, zr w 258, .int (2425 : Int32)]) (rest := []) hB dX11_ends_15 ks_X11_86 hq1 rfl rfl (Nat.le_of_ble_eq_true rfl) (fun M' hv => f_X11_copies_met hB.2 (tA.toI th_259) (tA.toI th_258) (by omega) hv) (fun M15 => ?_)
  exact r_retV hR dX11_ends_18 (fun h => h)
theorem f_X11_ends_met {l : Launch} {d : Nat} {g : zG} {w : zW} {M0 : zM} {M : zM} (hw : wS w) (hd : 2 ≤ d) {M' : zM} (h : f_X11_ends M = some M') : zMet l yX11_ends cX11_ends 1 none d g w (zin false) M0 [zr w 257] M none M' :=
  met_v (by decide +kernel) (Nat.le_of_ble_eq_true rfl) (fun C hB0 hR => f_X11_ends_ok ⟨hB0, hw⟩ hd M hR _ h rfl)
/-! WindingSquareModel.isIn(II)Z -/
def f_X11_isIn (p0 : Int32) (p1 : Int32) : Int32 :=
  if (f_X11_within p0 (0 : Int32) (11 : Int32)) = 0 then ((0 : Int32))
  else (if (f_X11_within p1 (0 : Int32) (11 : Int32)) = 0 then ((0 : Int32))
  else ((1 : Int32)))
set_option maxRecDepth 100000 in
theorem f_X11_isIn_ok {C : zC} {d : Nat} {g : zG} {l : Launch} {w : zW} {r : Int32} {p0 : Int32} {p1 : Int32} (hB : bOK C cX11_isIn 2 RX11 d g l w false) (hd : 2 ≤ d) (M : zM) (hR : RtZ C cX11_isIn w r M) : Sg C w (0, 0) 0 [(0, .int p0), (1, .int p1)] [] M (some (f_X11_isIn p0 p1)) (fun q => q = r) := by
  have hC := hB.1.1
  have hq1 : 1 ≤ d := by omega
  unfold f_X11_isIn
  refine x_iload_n hC dX11_isIn_0 rfl 0 rfl ?_
  refine x_iconst (v := (0 : Int32)) hC dX11_isIn_1 ki_0 ?_
  refine x_bipush (v := (11 : Int32)) hC dX11_isIn_2 kb_11 ?_
  refine r_cS0 (as := [.int p0, .int (0 : Int32), .int (11 : Int32)]) (rest := []) hB dX11_isIn_4 ks_X11_100 hq1 rfl rfl (Nat.le_of_ble_eq_true rfl) (f_X11_within_met hB.2 (by omega)) ?_
  refine x_si ?_
  refine x_if_eq (tgt := 24) hC dX11_isIn_7 (by decide) ?_ ?_
  · refine x_iconst (v := (0 : Int32)) hC dX11_isIn_24 ki_0 ?_
    exact r_retZ hR dX11_isIn_25 (Or.inl rfl) (fun h => congrArg (fun q => (q, M)) h)
  · refine x_iload_n hC dX11_isIn_10 rfl 1 rfl ?_
    refine x_iconst (v := (0 : Int32)) hC dX11_isIn_11 ki_0 ?_
    refine x_bipush (v := (11 : Int32)) hC dX11_isIn_12 kb_11 ?_
    refine r_cS0 (as := [.int p1, .int (0 : Int32), .int (11 : Int32)]) (rest := []) hB dX11_isIn_14 ks_X11_100 hq1 rfl rfl (Nat.le_of_ble_eq_true rfl) (f_X11_within_met hB.2 (by omega)) ?_
    refine x_si ?_
    refine x_if_eq (tgt := 24) hC dX11_isIn_17 (by decide) ?_ ?_
    · refine x_iconst (v := (0 : Int32)) hC dX11_isIn_24 ki_0 ?_
      exact r_retZ hR dX11_isIn_25 (Or.inl rfl) (fun h => congrArg (fun q => (q, M)) h)
    · refine x_iconst (v := (1 : Int32)) hC dX11_isIn_20 ki_1 ?_
      refine x_goto (tgt := 25) hC dX11_isIn_21 (by decide) ?_
      exact r_retZ hR dX11_isIn_25 (Or.inr rfl) (fun h => congrArg (fun q => (q, M)) h)
theorem f_X11_isIn_met {l : Launch} {d : Nat} {g : zG} {w : zW} {M0 : zM} {p0 : Int32} {p1 : Int32} {M : zM} (hw : wS w) (hd : 2 ≤ d) : zMet l yX11_isIn cX11_isIn 2 (some .boolean) d g w (zin false) M0 [.int p0, .int p1] M (some (.int (f_X11_isIn p0 p1))) M :=
  met_z (by decide +kernel) (Nat.le_of_ble_eq_true rfl) (fun C hB0 hR => f_X11_isIn_ok ⟨hB0, hw⟩ hd M hR _ rfl rfl)
/-! WindingSquareModel.standsAt(I)I -/
noncomputable def f_X11_standsAt (p1 : Int32) (M : zM) : Option (Int32) :=
  (f_X11_has p1 (2 : Int32) M).bind fun u3 =>
  (f_X11_has p1 (3 : Int32) M).bind fun u9 =>
  some (f_X11_place u3 u9)
set_option maxRecDepth 100000 in
theorem f_X11_standsAt_ok {C : zC} {d : Nat} {g : zG} {l : Launch} {w : zW} {r : Int32} {p1 : Int32} (hB : bOK C cX11_standsAt 2 RX11 d g l w false) (hd : 2 ≤ d) (M : zM) (hR : RtI C cX11_standsAt w r M) : Sg C w (0, 0) 0 [(0, zr w 257), (1, .int p1)] [] M (f_X11_standsAt p1 M) (fun q => q = r) := by
  have hC := hB.1.1
  have hq1 : 1 ≤ d := by omega
  unfold f_X11_standsAt
  refine x_aload_n hC dX11_standsAt_0 rfl 0 rfl ?_
  refine x_iload_n hC dX11_standsAt_1 rfl 1 rfl ?_
  refine x_iconst (v := (2 : Int32)) hC dX11_standsAt_2 ki_2 ?_
  refine r_cV1 (as := [.int p1, .int (2 : Int32)]) (rest := []) hB dX11_standsAt_3 kv_X11_104 th_257 hq1 rfl rfl (Nat.le_of_ble_eq_true rfl) (fun v hv => f_X11_has_met hB.2 (by omega) hv) (fun u3 => ?_)
  refine x_aload_n hC dX11_standsAt_6 rfl 0 rfl ?_
  refine x_iload_n hC dX11_standsAt_7 rfl 1 rfl ?_
  refine x_iconst (v := (3 : Int32)) hC dX11_standsAt_8 ki_3 ?_
  refine r_cV1 (as := [.int p1, .int (3 : Int32)]) (rest := [.int u3]) hB dX11_standsAt_9 kv_X11_104 th_257 hq1 rfl rfl (Nat.le_of_ble_eq_true rfl) (fun v hv => f_X11_has_met hB.2 (by omega) hv) (fun u9 => ?_)
  refine r_cS0 (as := [.int u3, .int u9]) (rest := []) hB dX11_standsAt_12 ks_X11_108 hq1 rfl rfl (Nat.le_of_ble_eq_true rfl) (f_X11_place_met hB.2 (by omega)) ?_
  exact r_retI hR dX11_standsAt_15 (fun h => congrArg (fun q => (q, M)) h)
theorem f_X11_standsAt_met {l : Launch} {d : Nat} {g : zG} {w : zW} {M0 : zM} {p1 : Int32} {M : zM} (hw : wS w) (hd : 2 ≤ d) {v : Int32} (h : f_X11_standsAt p1 M = some v) : zMet l yX11_standsAt cX11_standsAt 2 (some .int) d g w (zin false) M0 [zr w 257, .int p1] M (some (.int v)) M :=
  met_i (by decide +kernel) (Nat.le_of_ble_eq_true rfl) rfl (fun C hB0 hR => f_X11_standsAt_ok ⟨hB0, hw⟩ hd M hR _ h rfl)
/-! WindingSquareModel.falls(I)Z -/
noncomputable def f_X11_falls (p1 : Int32) (M : zM) : Option (Int32 × zM) :=
  if p1 ≤ 0 then (some ((0 : Int32), M))
  else (if (M 257 6) = 0 then (bnd2 (f_X11_draws (1000 : Int32) M) fun u25 M25 =>
  if p1 ≤ u25 then (some ((0 : Int32), M25))
  else (some ((1 : Int32), M25)))
  else (if p1 < (500 : Int32) then (some ((0 : Int32), M))
  else (some ((1 : Int32), M))))
set_option maxRecDepth 100000 in
theorem f_X11_falls_ok {C : zC} {d : Nat} {g : zG} {l : Launch} {w : zW} {r : Int32 × zM} {p1 : Int32} (hB : bOK C cX11_falls 2 RX11 d g l w false) (hd : 2 ≤ d) (M : zM) (hR : RtZ C cX11_falls w r.1 r.2) : Sg C w (0, 0) 0 [(0, zr w 257), (1, .int p1)] [] M (f_X11_falls p1 M) (fun q => q = r) := by
  have hC := hB.1.1
  have hq1 : 1 ≤ d := by omega
  unfold f_X11_falls
  refine x_iload_n hC dX11_falls_0 rfl 1 rfl ?_
  refine x_if_le (tgt := 36) hC dX11_falls_1 (by decide) ?_ ?_
  · refine x_iconst (v := (0 : Int32)) hC dX11_falls_36 ki_0 ?_
    exact r_retZ hR dX11_falls_37 (Or.inl rfl) (fun h => h)
  · refine x_aload_n hC dX11_falls_4 rfl 0 rfl ?_
    refine r_getI hB dX11_falls_5 kf_X11_90 rfl th_257 ?_
    refine x_if_eq (tgt := 21) hC dX11_falls_8 (by decide) ?_ ?_
    · refine x_aload_n hC dX11_falls_21 rfl 0 rfl ?_
      refine x_sipush (v := (1000 : Int32)) hC dX11_falls_22 kh_1000 ?_
      refine r_cV2 (as := [.int (1000 : Int32)]) (rest := []) hB dX11_falls_25 kv_X11_120 th_257 hq1 rfl rfl (Nat.le_of_ble_eq_true rfl) (fun v M' hv => f_X11_draws_met hB.2 (by omega) hv) (fun u25 M25 => ?_)
      refine x_iload_n hC dX11_falls_28 rfl 1 rfl ?_
      refine x_icmp_ge (tgt := 36) hC dX11_falls_29 (by decide) ?_ ?_
      · refine x_iconst (v := (0 : Int32)) hC dX11_falls_36 ki_0 ?_
        exact r_retZ hR dX11_falls_37 (Or.inl rfl) (fun h => h)
      · refine x_iconst (v := (1 : Int32)) hC dX11_falls_32 ki_1 ?_
        refine x_goto (tgt := 37) hC dX11_falls_33 (by decide) ?_
        exact r_retZ hR dX11_falls_37 (Or.inr rfl) (fun h => h)
    · refine x_iload_n hC dX11_falls_11 rfl 1 rfl ?_
      refine x_sipush (v := (500 : Int32)) hC dX11_falls_12 kh_500 ?_
      refine x_icmp_lt (tgt := 36) hC dX11_falls_15 (by decide) ?_ ?_
      · refine x_iconst (v := (0 : Int32)) hC dX11_falls_36 ki_0 ?_
        exact r_retZ hR dX11_falls_37 (Or.inl rfl) (fun h => h)
      · refine x_goto (tgt := 32) hC dX11_falls_18 (by decide) ?_
        refine x_iconst (v := (1 : Int32)) hC dX11_falls_32 ki_1 ?_
        refine x_goto (tgt := 37) hC dX11_falls_33 (by decide) ?_
        exact r_retZ hR dX11_falls_37 (Or.inr rfl) (fun h => h)
theorem f_X11_falls_met {l : Launch} {d : Nat} {g : zG} {w : zW} {M0 : zM} {p1 : Int32} {M : zM} (hw : wS w) (hd : 2 ≤ d) {v : Int32} {M' : zM} (h : f_X11_falls p1 M = some (v, M')) : zMet l yX11_falls cX11_falls 2 (some .boolean) d g w (zin false) M0 [zr w 257, .int p1] M (some (.int v)) M' :=
  met_z (by decide +kernel) (Nat.le_of_ble_eq_true rfl) (fun C hB0 hR => f_X11_falls_ok (r := (v, M')) ⟨hB0, hw⟩ hd M hR _ h rfl)
/-! WindingSquareModel.end(I)Z -/
noncomputable def f_X11_end (p1 : Int32) (M : zM) : Option (Int32 × zM) :=
  if (f_X11_within p1 (0 : Int32) (M 257 7)) = 0 then (some ((0 : Int32), M))
  else (nm (mset M 257 7 p1) fun M16 =>
  some ((1 : Int32), M16))
set_option maxRecDepth 100000 in
theorem f_X11_end_ok {C : zC} {d : Nat} {g : zG} {l : Launch} {w : zW} {r : Int32 × zM} {p1 : Int32} (hB : bOK C cX11_end 2 RX11 d g l w false) (hd : 2 ≤ d) (M : zM) (hR : RtZ C cX11_end w r.1 r.2) : Sg C w (0, 0) 0 [(0, zr w 257), (1, .int p1)] [] M (f_X11_end p1 M) (fun q => q = r) := by
  have hC := hB.1.1
  have hq1 : 1 ≤ d := by omega
  unfold f_X11_end
  refine x_iload_n hC dX11_end_0 rfl 1 rfl ?_
  refine x_iconst (v := (0 : Int32)) hC dX11_end_1 ki_0 ?_
  refine x_aload_n hC dX11_end_2 rfl 0 rfl ?_
  refine r_getI hB dX11_end_3 kf_X11_123 rfl th_257 ?_
  refine r_cS0 (as := [.int p1, .int (0 : Int32), .int (M 257 7)]) (rest := []) hB dX11_end_6 ks_X11_100 hq1 rfl rfl (Nat.le_of_ble_eq_true rfl) (f_X11_within_met hB.2 (by omega)) ?_
  refine x_if_ne (tgt := 14) hC dX11_end_9 (by decide) ?_ ?_
  · refine x_iconst (v := (0 : Int32)) hC dX11_end_12 ki_0 ?_
    exact r_retZ hR dX11_end_13 (Or.inl rfl) (fun h => h)
  · refine x_aload_n hC dX11_end_14 rfl 0 rfl ?_
    refine x_iload_n hC dX11_end_15 rfl 1 rfl ?_
    refine r_putI hB dX11_end_16 kf_X11_123 rfl th_257 ?_
    refine x_mem (fun M16 => ?_)
    refine x_iconst (v := (1 : Int32)) hC dX11_end_19 ki_1 ?_
    exact r_retZ hR dX11_end_20 (Or.inr rfl) (fun h => h)
theorem f_X11_end_met {l : Launch} {d : Nat} {g : zG} {w : zW} {M0 : zM} {p1 : Int32} {M : zM} (hw : wS w) (hd : 2 ≤ d) {v : Int32} {M' : zM} (h : f_X11_end p1 M = some (v, M')) : zMet l yX11_end cX11_end 2 (some .boolean) d g w (zin false) M0 [zr w 257, .int p1] M (some (.int v)) M' :=
  met_z (by decide +kernel) (Nat.le_of_ble_eq_true rfl) (fun C hB0 hR => f_X11_end_ok (r := (v, M')) ⟨hB0, hw⟩ hd M hR _ h rfl)
/-! WindingSquareModel.word()I -/
noncomputable def j_X11_word_86_17 (v2_86_17 : Int32) (v3_86_17 : Int32) (v4_86_17 : Int32) (s0_86_17 : Int32) (M : zM) : Option ((Int32 × Int32 × Int32 × Int32) ⊕ (Int32 × Int32)) :=
  some (.inl (s0_86_17, v2_86_17, (v3_86_17 + (1 : Int32)), (v4_86_17 + (1 : Int32))))
set_option maxRecDepth 100000 in
theorem j_X11_word_86_17_ok {C : zC} {d : Nat} {g : zG} {l : Launch} {w : zW} {r : Int32 × zM} {v2_86_17 : Int32} {v3_86_17 : Int32} {v4_86_17 : Int32} {s0_86_17 : Int32} (hB : bOK C cX11_word 5 RX11 d g l w false) (hd : 2 ≤ d) (M : zM) (hR : RtI C cX11_word w r.1 r.2) : Sg C w (0, 0) 86 [(0, zr w 257), (2, .int v2_86_17), (3, .int v3_86_17), (4, .int v4_86_17)] [.int s0_86_17] M (j_X11_word_86_17 v2_86_17 v3_86_17 v4_86_17 s0_86_17 M) (fun o => Sum.elim (fun (s : (Int32 × Int32 × Int32 × Int32)) => Zs C w (0, 0) 17 [(0, zr w 257), (1, .int s.1), (2, .int s.2.1), (3, .int s.2.2.1), (4, .int s.2.2.2)] [] M) (fun (s : (Int32 × Int32)) => Zs C w (0, 0) 96 [(1, .int s.1), (2, .int s.2)] [] M) o) := by
  have hC := hB.1.1
  have hq1 : 1 ≤ d := by omega
  unfold j_X11_word_86_17
  refine x_istore_n hC dX11_word_86 rfl [(1, .int s0_86_17), (0, zr w 257), (2, .int v2_86_17), (3, .int v3_86_17), (4, .int v4_86_17)] (by decide) rfl ?_
  refine x_iinc hC dX11_word_87 ki_1 [(3, .int (v3_86_17 + (1 : Int32))), (1, .int s0_86_17), (0, zr w 257), (2, .int v2_86_17), (4, .int v4_86_17)] 3 rfl (by decide) rfl ?_
  refine x_iinc hC dX11_word_90 ki_1 [(4, .int (v4_86_17 + (1 : Int32))), (3, .int (v3_86_17 + (1 : Int32))), (1, .int s0_86_17), (0, zr w 257), (2, .int v2_86_17)] 4 rfl (by decide) rfl ?_
  refine x_goto (tgt := 17) hC dX11_word_93 (by decide) ?_
  refine x_sub [3, 2, 4, 1, 0] rfl ?_
  exact x_done (fun h => h)
noncomputable def j_X11_word_66_17 (v1_66_17 : Int32) (v3_66_17 : Int32) (v4_66_17 : Int32) (s0_66_17 : Int32) (M : zM) : Option ((Int32 × Int32 × Int32 × Int32) ⊕ (Int32 × Int32)) :=
  if s0_66_17 = 0 then (j_X11_word_86_17 s0_66_17 v3_66_17 v4_66_17 (0 : Int32) M)
  else (grd (inb v4_66_17 400) (
  j_X11_word_86_17 s0_66_17 v3_66_17 v4_66_17 (f_X11_packed v1_66_17 (M 262 (ix v4_66_17))) M))
set_option maxRecDepth 100000 in
theorem j_X11_word_66_17_ok {C : zC} {d : Nat} {g : zG} {l : Launch} {w : zW} {r : Int32 × zM} {v1_66_17 : Int32} {v3_66_17 : Int32} {v4_66_17 : Int32} {s0_66_17 : Int32} (hB : bOK C cX11_word 5 RX11 d g l w false) (hd : 2 ≤ d) (M : zM) (hR : RtI C cX11_word w r.1 r.2) : Sg C w (0, 0) 66 [(0, zr w 257), (1, .int v1_66_17), (3, .int v3_66_17), (4, .int v4_66_17)] [.int s0_66_17] M (j_X11_word_66_17 v1_66_17 v3_66_17 v4_66_17 s0_66_17 M) (fun o => Sum.elim (fun (s : (Int32 × Int32 × Int32 × Int32)) => Zs C w (0, 0) 17 [(0, zr w 257), (1, .int s.1), (2, .int s.2.1), (3, .int s.2.2.1), (4, .int s.2.2.2)] [] M) (fun (s : (Int32 × Int32)) => Zs C w (0, 0) 96 [(1, .int s.1), (2, .int s.2)] [] M) o) := by
  have hC := hB.1.1
  have hq1 : 1 ≤ d := by omega
  unfold j_X11_word_66_17
  refine x_istore_n hC dX11_word_66 rfl [(2, .int s0_66_17), (0, zr w 257), (1, .int v1_66_17), (3, .int v3_66_17), (4, .int v4_66_17)] (by decide) rfl ?_
  refine x_iload_n hC dX11_word_67 rfl 0 rfl ?_
  refine x_if_eq (tgt := 85) hC dX11_word_68 (by decide) ?_ ?_
  · refine x_iconst (v := (0 : Int32)) hC dX11_word_85 ki_0 ?_
    refine x_sub [1, 0, 3, 4] rfl ?_
    exact j_X11_word_86_17_ok hB hd M hR
  · refine x_iload_n hC dX11_word_71 rfl 2 rfl ?_
    refine x_aload_n hC dX11_word_72 rfl 1 rfl ?_
    refine r_getR hB dX11_word_73 kf_X11_26 rfl th_257 rf_257_15 ?_
    refine x_iload hC dX11_word_76 4 rfl ?_
    refine r_iald hB dX11_word_78 th_262 ?_
    refine r_cS0 (as := [.int v1_66_17, .int (M 262 (ix v4_66_17))]) (rest := []) hB dX11_word_79 ks_X11_146 hq1 rfl rfl (Nat.le_of_ble_eq_true rfl) (f_X11_packed_met hB.2 (by omega)) ?_
    refine x_goto (tgt := 86) hC dX11_word_82 (by decide) ?_
    refine x_sub [1, 0, 3, 4] rfl ?_
    exact j_X11_word_86_17_ok hB hd M hR
noncomputable def j_X11_word_65_17 (v1_65_17 : Int32) (v3_65_17 : Int32) (v4_65_17 : Int32) (M : zM) : Option ((Int32 × Int32 × Int32 × Int32) ⊕ (Int32 × Int32)) :=
  j_X11_word_66_17 v1_65_17 v3_65_17 v4_65_17 (0 : Int32) M
set_option maxRecDepth 100000 in
theorem j_X11_word_65_17_ok {C : zC} {d : Nat} {g : zG} {l : Launch} {w : zW} {r : Int32 × zM} {v1_65_17 : Int32} {v3_65_17 : Int32} {v4_65_17 : Int32} (hB : bOK C cX11_word 5 RX11 d g l w false) (hd : 2 ≤ d) (M : zM) (hR : RtI C cX11_word w r.1 r.2) : Sg C w (0, 0) 65 [(0, zr w 257), (1, .int v1_65_17), (3, .int v3_65_17), (4, .int v4_65_17)] [] M (j_X11_word_65_17 v1_65_17 v3_65_17 v4_65_17 M) (fun o => Sum.elim (fun (s : (Int32 × Int32 × Int32 × Int32)) => Zs C w (0, 0) 17 [(0, zr w 257), (1, .int s.1), (2, .int s.2.1), (3, .int s.2.2.1), (4, .int s.2.2.2)] [] M) (fun (s : (Int32 × Int32)) => Zs C w (0, 0) 96 [(1, .int s.1), (2, .int s.2)] [] M) o) := by
  have hC := hB.1.1
  have hq1 : 1 ≤ d := by omega
  unfold j_X11_word_65_17
  refine x_iconst (v := (0 : Int32)) hC dX11_word_65 ki_0 ?_
  exact j_X11_word_66_17_ok hB hd M hR
noncomputable def b_X11_word_17 (v1_17 : Int32) (v2_17 : Int32) (v3_17 : Int32) (v4_17 : Int32) (M : zM) : Option ((Int32 × Int32 × Int32 × Int32) ⊕ (Int32 × Int32)) :=
  if (M 257 8) ≤ v4_17 then (some (.inr (v1_17, v2_17)))
  else (grd (inb v4_17 400) (
  if (f_X11_isLetter (M 262 (ix v4_17))) = 0 then (some (.inr (v1_17, v2_17)))
  else (if v2_17 = 0 then (j_X11_word_65_17 v1_17 v3_17 v4_17 M)
  else (grd (inb v4_17 400) (
  if (M 262 (ix v4_17)) < (97 : Int32) then (j_X11_word_65_17 v1_17 v3_17 v4_17 M)
  else (if (6 : Int32) ≤ v3_17 then (j_X11_word_65_17 v1_17 v3_17 v4_17 M)
  else (j_X11_word_66_17 v1_17 v3_17 v4_17 (1 : Int32) M)))))))
set_option maxRecDepth 100000 in
theorem b_X11_word_17_ok {C : zC} {d : Nat} {g : zG} {l : Launch} {w : zW} {r : Int32 × zM} {v1_17 : Int32} {v2_17 : Int32} {v3_17 : Int32} {v4_17 : Int32} (hB : bOK C cX11_word 5 RX11 d g l w false) (hd : 2 ≤ d) (M : zM) (hR : RtI C cX11_word w r.1 r.2) : Sg C w (0, 0) 17 [(0, zr w 257), (1, .int v1_17), (2, .int v2_17), (3, .int v3_17), (4, .int v4_17)] [] M (b_X11_word_17 v1_17 v2_17 v3_17 v4_17 M) (fun o => Sum.elim (fun (s : (Int32 × Int32 × Int32 × Int32)) => Zs C w (0, 0) 17 [(0, zr w 257), (1, .int s.1), (2, .int s.2.1), (3, .int s.2.2.1), (4, .int s.2.2.2)] [] M) (fun (s : (Int32 × Int32)) => Zs C w (0, 0) 96 [(1, .int s.1), (2, .int s.2)] [] M) o) := by
  have hC := hB.1.1
  have hq1 : 1 ≤ d := by omega
  unfold b_X11_word_17
  refine x_iload hC dX11_word_17 4 rfl ?_
  refine x_aload_n hC dX11_word_19 rfl 0 rfl ?_
  refine r_getI hB dX11_word_20 kf_X11_135 rfl th_257 ?_
  refine x_icmp_ge (tgt := 96) hC dX11_word_23 (by decide) ?_ ?_
  · refine x_sub [1, 2] rfl ?_
    exact x_done (fun h => h)
  · refine x_aload_n hC dX11_word_26 rfl 0 rfl ?_
    refine r_getR hB dX11_word_27 kf_X11_26 rfl th_257 rf_257_15 ?_
    refine x_iload hC dX11_word_30 4 rfl ?_
    refine r_iald hB dX11_word_32 th_262 ?_
    refine r_cS0 (as := [.int (M 262 (ix v4_17))]) (rest := []) hB dX11_word_33 ks_X11_142 hq1 rfl rfl (Nat.le_of_ble_eq_true rfl) (f_X11_isLetter_met hB.2 (by omega)) ?_
    refine x_if_eq (tgt := 96) hC dX11_word_36 (by decide) ?_ ?_
    · refine x_sub [1, 2] rfl ?_
      exact x_done (fun h => h)
    · refine x_iload_n hC dX11_word_39 rfl 2 rfl ?_
      refine x_if_eq (tgt := 65) hC dX11_word_40 (by decide) ?_ ?_
      · refine x_sub [0, 1, 3, 4] rfl ?_
        exact j_X11_word_65_17_ok hB hd M hR
      · refine x_aload_n hC dX11_word_43 rfl 0 rfl ?_
        refine r_getR hB dX11_word_44 kf_X11_26 rfl th_257 rf_257_15 ?_
        refine x_iload hC dX11_word_47 4 rfl ?_
        refine r_iald hB dX11_word_49 th_262 ?_
        refine x_bipush (v := (97 : Int32)) hC dX11_word_50 kb_97 ?_
        refine x_icmp_lt (tgt := 65) hC dX11_word_52 (by decide) ?_ ?_
        · refine x_sub [0, 1, 3, 4] rfl ?_
          exact j_X11_word_65_17_ok hB hd M hR
        · refine x_iload_n hC dX11_word_55 rfl 3 rfl ?_
          refine x_bipush (v := (6 : Int32)) hC dX11_word_56 kb_6 ?_
          refine x_icmp_ge (tgt := 65) hC dX11_word_58 (by decide) ?_ ?_
          · refine x_sub [0, 1, 3, 4] rfl ?_
            exact j_X11_word_65_17_ok hB hd M hR
          · refine x_iconst (v := (1 : Int32)) hC dX11_word_61 ki_1 ?_
            refine x_goto (tgt := 66) hC dX11_word_62 (by decide) ?_
            refine x_sub [0, 1, 3, 4] rfl ?_
            exact j_X11_word_66_17_ok hB hd M hR
noncomputable def j_X11_word_96 (v1_96 : Int32) (v2_96 : Int32) (M : zM) : Option (Int32 × zM) :=
  if v2_96 = 0 then (some ((0 : Int32), M))
  else (some (v1_96, M))
set_option maxRecDepth 100000 in
theorem j_X11_word_96_ok {C : zC} {d : Nat} {g : zG} {l : Launch} {w : zW} {r : Int32 × zM} {v1_96 : Int32} {v2_96 : Int32} (hB : bOK C cX11_word 5 RX11 d g l w false) (hd : 2 ≤ d) (M : zM) (hR : RtI C cX11_word w r.1 r.2) : Sg C w (0, 0) 96 [(1, .int v1_96), (2, .int v2_96)] [] M (j_X11_word_96 v1_96 v2_96 M) (fun q => q = r) := by
  have hC := hB.1.1
  have hq1 : 1 ≤ d := by omega
  unfold j_X11_word_96
  refine x_iload_n hC dX11_word_96 rfl 1 rfl ?_
  refine x_if_eq (tgt := 104) hC dX11_word_97 (by decide) ?_ ?_
  · refine x_iconst (v := (0 : Int32)) hC dX11_word_104 ki_0 ?_
    exact r_retI hR dX11_word_105 (fun h => h)
  · refine x_iload_n hC dX11_word_100 rfl 0 rfl ?_
    refine x_goto (tgt := 105) hC dX11_word_101 (by decide) ?_
    exact r_retI hR dX11_word_105 (fun h => h)
noncomputable def f_X11_word (M : zM) : Option (Int32 × zM) :=
  bnd2 (f_X11_here M) fun u1 M1 =>
  nm (M1 257 9) fun v4_15 =>
  (loopW (fun s => b_X11_word_17 s.1 s.2.1 s.2.2.1 s.2.2.2 M1) ((0 : Int32), (1 : Int32), (0 : Int32), v4_15)).bind (fun r => j_X11_word_96 r.1 r.2 M1)
set_option maxRecDepth 100000 in
theorem f_X11_word_ok {C : zC} {d : Nat} {g : zG} {l : Launch} {w : zW} {r : Int32 × zM} (hB : bOK C cX11_word 5 RX11 d g l w false) (hd : 2 ≤ d) (M : zM) (hR : RtI C cX11_word w r.1 r.2) : Sg C w (0, 0) 0 [(0, zr w 257)] [] M (f_X11_word M) (fun q => q = r) := by
  have hC := hB.1.1
  have hq1 : 1 ≤ d := by omega
  unfold f_X11_word
  refine x_aload_n hC dX11_word_0 rfl 0 rfl ?_
  refine r_cV2 (as := []) (rest := []) hB dX11_word_1 kv_X11_138 th_257 hq1 rfl rfl (Nat.le_of_ble_eq_true rfl) (fun v M' hv => f_X11_here_met hB.2 (by omega) hv) (fun u1 M1 => ?_)
  refine x_pop hC dX11_word_4 rfl ?_
  refine x_iconst (v := (0 : Int32)) hC dX11_word_5 ki_0 ?_
  refine x_istore_n hC dX11_word_6 rfl [(1, .int (0 : Int32)), (0, zr w 257)] (by decide) rfl ?_
  refine x_iconst (v := (1 : Int32)) hC dX11_word_7 ki_1 ?_
  refine x_istore_n hC dX11_word_8 rfl [(2, .int (1 : Int32)), (1, .int (0 : Int32)), (0, zr w 257)] (by decide) rfl ?_
  refine x_iconst (v := (0 : Int32)) hC dX11_word_9 ki_0 ?_
  refine x_istore_n hC dX11_word_10 rfl [(3, .int (0 : Int32)), (2, .int (1 : Int32)), (1, .int (0 : Int32)), (0, zr w 257)] (by decide) rfl ?_
  refine x_aload_n hC dX11_word_11 rfl 3 rfl ?_
  refine r_getI hB dX11_word_12 kf_X11_132 rfl th_257 ?_
  refine x_top (fun v4_15 => ?_)
  refine x_istore (f := 0) hC dX11_word_15 [(4, .int v4_15), (3, .int (0 : Int32)), (2, .int (1 : Int32)), (1, .int (0 : Int32)), (0, zr w 257)] (by decide) rfl ?_
  refine x_sub [4, 3, 2, 1, 0] rfl ?_
  refine x_loopB (pc2 := 96) (fun (s : (Int32 × Int32 × Int32 × Int32)) => [(0, zr w 257), (1, .int s.1), (2, .int s.2.1), (3, .int s.2.2.1), (4, .int s.2.2.2)]) (fun (s : (Int32 × Int32 × Int32 × Int32)) => M1) (fun (s : (Int32 × Int32)) => [(1, .int s.1), (2, .int s.2)]) (fun (s : (Int32 × Int32)) => M1) ((0 : Int32), (1 : Int32), (0 : Int32), v4_15) ?_ ?_
  · exact fun s => b_X11_word_17_ok hB hd M1 hR
  · intro r9
    exact j_X11_word_96_ok hB hd M1 hR
theorem f_X11_word_met {l : Launch} {d : Nat} {g : zG} {w : zW} {M0 : zM} {M : zM} (hw : wS w) (hd : 2 ≤ d) {v : Int32} {M' : zM} (h : f_X11_word M = some (v, M')) : zMet l yX11_word cX11_word 5 (some .int) d g w (zin false) M0 [zr w 257] M (some (.int v)) M' :=
  met_i (by decide +kernel) (Nat.le_of_ble_eq_true rfl) rfl (fun C hB0 hR => f_X11_word_ok (r := (v, M')) ⟨hB0, hw⟩ hd M hR _ h rfl)
/-! WindingSquareModel.spelt(IIIIII)I -/
def j_X11_spelt_75 (v5_75 : Int32) (s0_75 : Int32) : Int32 :=
  if v5_75 = 0 then (s0_75)
  else ((f_X11_packed s0_75 v5_75))
set_option maxRecDepth 100000 in
theorem j_X11_spelt_75_ok {C : zC} {d : Nat} {g : zG} {l : Launch} {w : zW} {r : Int32} {v5_75 : Int32} {s0_75 : Int32} (hB : bOK C cX11_spelt 7 RX11 d g l w false) (hd : 2 ≤ d) (M : zM) (hR : RtI C cX11_spelt w r M) : Sg C w (0, 0) 75 [(5, .int v5_75)] [.int s0_75] M (some (j_X11_spelt_75 v5_75 s0_75)) (fun q => q = r) := by
  have hC := hB.1.1
  have hq1 : 1 ≤ d := by omega
  unfold j_X11_spelt_75
  refine x_istore (f := 0) hC dX11_spelt_75 [(6, .int s0_75), (5, .int v5_75)] (by decide) rfl ?_
  refine x_iload hC dX11_spelt_77 1 rfl ?_
  refine x_si ?_
  refine x_if_ne (tgt := 87) hC dX11_spelt_79 (by decide) ?_ ?_
  · refine x_iload hC dX11_spelt_82 0 rfl ?_
    refine x_goto (tgt := 94) hC dX11_spelt_84 (by decide) ?_
    exact r_retI hR dX11_spelt_94 (fun h => congrArg (fun q => (q, M)) h)
  · refine x_iload hC dX11_spelt_87 0 rfl ?_
    refine x_iload hC dX11_spelt_89 1 rfl ?_
    refine r_cS0 (as := [.int s0_75, .int v5_75]) (rest := []) hB dX11_spelt_91 ks_X11_146 hq1 rfl rfl (Nat.le_of_ble_eq_true rfl) (f_X11_packed_met hB.2 (by omega)) ?_
    exact r_retI hR dX11_spelt_94 (fun h => congrArg (fun q => (q, M)) h)
def j_X11_spelt_56 (v4_56 : Int32) (v5_56 : Int32) (s0_56 : Int32) : Int32 :=
  if v4_56 = 0 then (j_X11_spelt_75 v5_56 s0_56)
  else (j_X11_spelt_75 v5_56 (f_X11_packed s0_56 v4_56))
set_option maxRecDepth 100000 in
theorem j_X11_spelt_56_ok {C : zC} {d : Nat} {g : zG} {l : Launch} {w : zW} {r : Int32} {v4_56 : Int32} {v5_56 : Int32} {s0_56 : Int32} (hB : bOK C cX11_spelt 7 RX11 d g l w false) (hd : 2 ≤ d) (M : zM) (hR : RtI C cX11_spelt w r M) : Sg C w (0, 0) 56 [(4, .int v4_56), (5, .int v5_56)] [.int s0_56] M (some (j_X11_spelt_56 v4_56 v5_56 s0_56)) (fun q => q = r) := by
  have hC := hB.1.1
  have hq1 : 1 ≤ d := by omega
  unfold j_X11_spelt_56
  refine x_istore (f := 0) hC dX11_spelt_56 [(6, .int s0_56), (4, .int v4_56), (5, .int v5_56)] (by decide) rfl ?_
  refine x_iload hC dX11_spelt_58 1 rfl ?_
  refine x_si ?_
  refine x_if_ne (tgt := 68) hC dX11_spelt_60 (by decide) ?_ ?_
  · refine x_iload hC dX11_spelt_63 0 rfl ?_
    refine x_goto (tgt := 75) hC dX11_spelt_65 (by decide) ?_
    refine x_sub [2] rfl ?_
    exact j_X11_spelt_75_ok hB hd M hR
  · refine x_iload hC dX11_spelt_68 0 rfl ?_
    refine x_iload hC dX11_spelt_70 1 rfl ?_
    refine r_cS0 (as := [.int s0_56, .int v4_56]) (rest := []) hB dX11_spelt_72 ks_X11_146 hq1 rfl rfl (Nat.le_of_ble_eq_true rfl) (f_X11_packed_met hB.2 (by omega)) ?_
    refine x_sub [2] rfl ?_
    exact j_X11_spelt_75_ok hB hd M hR
def j_X11_spelt_39 (v3_39 : Int32) (v4_39 : Int32) (v5_39 : Int32) (s0_39 : Int32) : Int32 :=
  if v3_39 = 0 then (j_X11_spelt_56 v4_39 v5_39 s0_39)
  else (j_X11_spelt_56 v4_39 v5_39 (f_X11_packed s0_39 v3_39))
set_option maxRecDepth 100000 in
theorem j_X11_spelt_39_ok {C : zC} {d : Nat} {g : zG} {l : Launch} {w : zW} {r : Int32} {v3_39 : Int32} {v4_39 : Int32} {v5_39 : Int32} {s0_39 : Int32} (hB : bOK C cX11_spelt 7 RX11 d g l w false) (hd : 2 ≤ d) (M : zM) (hR : RtI C cX11_spelt w r M) : Sg C w (0, 0) 39 [(3, .int v3_39), (4, .int v4_39), (5, .int v5_39)] [.int s0_39] M (some (j_X11_spelt_39 v3_39 v4_39 v5_39 s0_39)) (fun q => q = r) := by
  have hC := hB.1.1
  have hq1 : 1 ≤ d := by omega
  unfold j_X11_spelt_39
  refine x_istore (f := 0) hC dX11_spelt_39 [(6, .int s0_39), (3, .int v3_39), (4, .int v4_39), (5, .int v5_39)] (by decide) rfl ?_
  refine x_iload_n hC dX11_spelt_41 rfl 1 rfl ?_
  refine x_si ?_
  refine x_if_ne (tgt := 50) hC dX11_spelt_42 (by decide) ?_ ?_
  · refine x_iload hC dX11_spelt_45 0 rfl ?_
    refine x_goto (tgt := 56) hC dX11_spelt_47 (by decide) ?_
    refine x_sub [2, 3] rfl ?_
    exact j_X11_spelt_56_ok hB hd M hR
  · refine x_iload hC dX11_spelt_50 0 rfl ?_
    refine x_iload_n hC dX11_spelt_52 rfl 1 rfl ?_
    refine r_cS0 (as := [.int s0_39, .int v3_39]) (rest := []) hB dX11_spelt_53 ks_X11_146 hq1 rfl rfl (Nat.le_of_ble_eq_true rfl) (f_X11_packed_met hB.2 (by omega)) ?_
    refine x_sub [2, 3] rfl ?_
    exact j_X11_spelt_56_ok hB hd M hR
def j_X11_spelt_22 (v2_22 : Int32) (v3_22 : Int32) (v4_22 : Int32) (v5_22 : Int32) (s0_22 : Int32) : Int32 :=
  if v2_22 = 0 then (j_X11_spelt_39 v3_22 v4_22 v5_22 s0_22)
  else (j_X11_spelt_39 v3_22 v4_22 v5_22 (f_X11_packed s0_22 v2_22))
set_option maxRecDepth 100000 in
theorem j_X11_spelt_22_ok {C : zC} {d : Nat} {g : zG} {l : Launch} {w : zW} {r : Int32} {v2_22 : Int32} {v3_22 : Int32} {v4_22 : Int32} {v5_22 : Int32} {s0_22 : Int32} (hB : bOK C cX11_spelt 7 RX11 d g l w false) (hd : 2 ≤ d) (M : zM) (hR : RtI C cX11_spelt w r M) : Sg C w (0, 0) 22 [(2, .int v2_22), (3, .int v3_22), (4, .int v4_22), (5, .int v5_22)] [.int s0_22] M (some (j_X11_spelt_22 v2_22 v3_22 v4_22 v5_22 s0_22)) (fun q => q = r) := by
  have hC := hB.1.1
  have hq1 : 1 ≤ d := by omega
  unfold j_X11_spelt_22
  refine x_istore (f := 0) hC dX11_spelt_22 [(6, .int s0_22), (2, .int v2_22), (3, .int v3_22), (4, .int v4_22), (5, .int v5_22)] (by decide) rfl ?_
  refine x_iload_n hC dX11_spelt_24 rfl 1 rfl ?_
  refine x_si ?_
  refine x_if_ne (tgt := 33) hC dX11_spelt_25 (by decide) ?_ ?_
  · refine x_iload hC dX11_spelt_28 0 rfl ?_
    refine x_goto (tgt := 39) hC dX11_spelt_30 (by decide) ?_
    refine x_sub [2, 3, 4] rfl ?_
    exact j_X11_spelt_39_ok hB hd M hR
  · refine x_iload hC dX11_spelt_33 0 rfl ?_
    refine x_iload_n hC dX11_spelt_35 rfl 1 rfl ?_
    refine r_cS0 (as := [.int s0_22, .int v2_22]) (rest := []) hB dX11_spelt_36 ks_X11_146 hq1 rfl rfl (Nat.le_of_ble_eq_true rfl) (f_X11_packed_met hB.2 (by omega)) ?_
    refine x_sub [2, 3, 4] rfl ?_
    exact j_X11_spelt_39_ok hB hd M hR
def f_X11_spelt (p0 : Int32) (p1 : Int32) (p2 : Int32) (p3 : Int32) (p4 : Int32) (p5 : Int32) : Int32 :=
  nm (f_X11_packed (0 : Int32) p0) fun v6_5 =>
  if p1 = 0 then (j_X11_spelt_22 p2 p3 p4 p5 v6_5)
  else (j_X11_spelt_22 p2 p3 p4 p5 (f_X11_packed v6_5 p1))
set_option maxRecDepth 100000 in
theorem f_X11_spelt_ok {C : zC} {d : Nat} {g : zG} {l : Launch} {w : zW} {r : Int32} {p0 : Int32} {p1 : Int32} {p2 : Int32} {p3 : Int32} {p4 : Int32} {p5 : Int32} (hB : bOK C cX11_spelt 7 RX11 d g l w false) (hd : 2 ≤ d) (M : zM) (hR : RtI C cX11_spelt w r M) : Sg C w (0, 0) 0 [(0, .int p0), (1, .int p1), (2, .int p2), (3, .int p3), (4, .int p4), (5, .int p5)] [] M (some (f_X11_spelt p0 p1 p2 p3 p4 p5)) (fun q => q = r) := by
  have hC := hB.1.1
  have hq1 : 1 ≤ d := by omega
  unfold f_X11_spelt
  refine x_iconst (v := (0 : Int32)) hC dX11_spelt_0 ki_0 ?_
  refine x_iload_n hC dX11_spelt_1 rfl 0 rfl ?_
  refine r_cS0 (as := [.int (0 : Int32), .int p0]) (rest := []) hB dX11_spelt_2 ks_X11_146 hq1 rfl rfl (Nat.le_of_ble_eq_true rfl) (f_X11_packed_met hB.2 (by omega)) ?_
  refine x_sn ?_
  refine x_top (fun v6_5 => ?_)
  refine x_istore (f := 0) hC dX11_spelt_5 [(6, .int v6_5), (0, .int p0), (1, .int p1), (2, .int p2), (3, .int p3), (4, .int p4), (5, .int p5)] (by decide) rfl ?_
  refine x_iload_n hC dX11_spelt_7 rfl 2 rfl ?_
  refine x_si ?_
  refine x_if_ne (tgt := 16) hC dX11_spelt_8 (by decide) ?_ ?_
  · refine x_iload hC dX11_spelt_11 0 rfl ?_
    refine x_goto (tgt := 22) hC dX11_spelt_13 (by decide) ?_
    refine x_sub [3, 4, 5, 6] rfl ?_
    exact j_X11_spelt_22_ok hB hd M hR
  · refine x_iload hC dX11_spelt_16 0 rfl ?_
    refine x_iload_n hC dX11_spelt_18 rfl 2 rfl ?_
    refine r_cS0 (as := [.int v6_5, .int p1]) (rest := []) hB dX11_spelt_19 ks_X11_146 hq1 rfl rfl (Nat.le_of_ble_eq_true rfl) (f_X11_packed_met hB.2 (by omega)) ?_
    refine x_sub [3, 4, 5, 6] rfl ?_
    exact j_X11_spelt_22_ok hB hd M hR
theorem f_X11_spelt_met {l : Launch} {d : Nat} {g : zG} {w : zW} {M0 : zM} {p0 : Int32} {p1 : Int32} {p2 : Int32} {p3 : Int32} {p4 : Int32} {p5 : Int32} {M : zM} (hw : wS w) (hd : 2 ≤ d) : zMet l yX11_spelt cX11_spelt 7 (some .int) d g w (zin false) M0 [.int p0, .int p1, .int p2, .int p3, .int p4, .int p5] M (some (.int (f_X11_spelt p0 p1 p2 p3 p4 p5))) M :=
  met_i (by decide +kernel) (Nat.le_of_ble_eq_true rfl) rfl (fun C hB0 hR => f_X11_spelt_ok ⟨hB0, hw⟩ hd M hR _ rfl rfl)
/-! WindingSquareModel.pass()V -/
noncomputable def b_X11_pass_0 (M : zM) : Option ((zM) ⊕ (zM)) :=
  if (M 257 8) ≤ (M 257 9) then (some (.inr M))
  else (grd (inb (M 257 9) 400) (
  if (f_X11_isLetter (M 262 (ix (M 257 9)))) = 0 then (some (.inr M))
  else (nm (mset M 257 9 ((M 257 9) + (1 : Int32))) fun M33_0 =>
  some (.inl M33_0))))
set_option maxRecDepth 100000 in
theorem b_X11_pass_0_ok {C : zC} {d : Nat} {g : zG} {l : Launch} {w : zW} {r : zM} (hB : bOK C cX11_pass 1 RX11 d g l w false) (hd : 2 ≤ d) (M : zM) (hR : RtV C cX11_pass w r) : Sg C w (0, 0) 0 [(0, zr w 257)] [] M (b_X11_pass_0 M) (fun o => Sum.elim (fun (s : (zM)) => Zs C w (0, 0) 0 [(0, zr w 257)] [] s) (fun (s : (zM)) => Zs C w (0, 0) 39 [] [] s) o) := by
  have hC := hB.1.1
  have hq1 : 1 ≤ d := by omega
  unfold b_X11_pass_0
  refine x_aload_n hC dX11_pass_0 rfl 0 rfl ?_
  refine r_getI hB dX11_pass_1 kf_X11_132 rfl th_257 ?_
  refine x_aload_n hC dX11_pass_4 rfl 0 rfl ?_
  refine r_getI hB dX11_pass_5 kf_X11_135 rfl th_257 ?_
  refine x_icmp_ge (tgt := 39) hC dX11_pass_8 (by decide) ?_ ?_
  · refine x_sub [] rfl ?_
    exact x_done (fun h => h)
  · refine x_aload_n hC dX11_pass_11 rfl 0 rfl ?_
    refine r_getR hB dX11_pass_12 kf_X11_26 rfl th_257 rf_257_15 ?_
    refine x_aload_n hC dX11_pass_15 rfl 0 rfl ?_
    refine r_getI hB dX11_pass_16 kf_X11_132 rfl th_257 ?_
    refine r_iald hB dX11_pass_19 th_262 ?_
    refine r_cS0 (as := [.int (M 262 (ix (M 257 9)))]) (rest := []) hB dX11_pass_20 ks_X11_142 hq1 rfl rfl (Nat.le_of_ble_eq_true rfl) (f_X11_isLetter_met hB.2 (by omega)) ?_
    refine x_if_eq (tgt := 39) hC dX11_pass_23 (by decide) ?_ ?_
    · refine x_sub [] rfl ?_
      exact x_done (fun h => h)
    · refine x_aload_n hC dX11_pass_26 rfl 0 rfl ?_
      refine x_dup hC dX11_pass_27 rfl ?_
      refine r_getI hB dX11_pass_28 kf_X11_132 rfl th_257 ?_
      refine x_iconst (v := (1 : Int32)) hC dX11_pass_31 ki_1 ?_
      refine x_iadd hC dX11_pass_32 ?_
      refine r_putI hB dX11_pass_33 kf_X11_132 rfl th_257 ?_
      refine x_mem (fun M33_0 => ?_)
      refine x_goto (tgt := 0) hC dX11_pass_36 (by decide) ?_
      exact x_done (fun h => h)
noncomputable def j_X11_pass_39 (M : zM) : Option (zM) :=
  some M
set_option maxRecDepth 100000 in
theorem j_X11_pass_39_ok {C : zC} {d : Nat} {g : zG} {l : Launch} {w : zW} {r : zM} (hB : bOK C cX11_pass 1 RX11 d g l w false) (hd : 2 ≤ d) (M : zM) (hR : RtV C cX11_pass w r) : Sg C w (0, 0) 39 [] [] M (j_X11_pass_39 M) (fun q => q = r) := by
  have hC := hB.1.1
  have hq1 : 1 ≤ d := by omega
  unfold j_X11_pass_39
  exact r_retV hR dX11_pass_39 (fun h => h)
noncomputable def f_X11_pass (M : zM) : Option (zM) :=
  (loopW (fun s => b_X11_pass_0 s) M).bind (fun r => j_X11_pass_39 r)
set_option maxRecDepth 100000 in
theorem f_X11_pass_ok {C : zC} {d : Nat} {g : zG} {l : Launch} {w : zW} {r : zM} (hB : bOK C cX11_pass 1 RX11 d g l w false) (hd : 2 ≤ d) (M : zM) (hR : RtV C cX11_pass w r) : Sg C w (0, 0) 0 [(0, zr w 257)] [] M (f_X11_pass M) (fun q => q = r) := by
  have hC := hB.1.1
  have hq1 : 1 ≤ d := by omega
  unfold f_X11_pass
  refine x_loopB (pc2 := 39) (fun (s : (zM)) => [(0, zr w 257)]) (fun (s : (zM)) => s) (fun (s : (zM)) => []) (fun (s : (zM)) => s) M ?_ ?_
  · exact fun s => b_X11_pass_0_ok hB hd s hR
  · intro r9
    exact j_X11_pass_39_ok hB hd r9 hR
theorem f_X11_pass_met {l : Launch} {d : Nat} {g : zG} {w : zW} {M0 : zM} {M : zM} (hw : wS w) (hd : 2 ≤ d) {M' : zM} (h : f_X11_pass M = some M') : zMet l yX11_pass cX11_pass 1 none d g w (zin false) M0 [zr w 257] M none M' :=
  met_v (by decide +kernel) (Nat.le_of_ble_eq_true rfl) (fun C hB0 hR => f_X11_pass_ok ⟨hB0, hw⟩ hd M hR _ h rfl)
/-! WindingSquareModel.number(II)I -/
noncomputable def j_X11_number_80_25 (v1_25 : Int32) (v2_25 : Int32) (v3_25 : Int32) (v5_80_25 : Int32) (s0_80_25 : Int32) (M : zM) : Option ((Int32 × Int32 × zM) ⊕ (Int32 × Int32 × zM)) :=
  nm (mset M 257 9 ((M 257 9) + (1 : Int32))) fun M92_25 =>
  some (.inl (s0_80_25, (v5_80_25 + (1 : Int32)), M92_25))
set_option maxRecDepth 100000 in
theorem j_X11_number_80_25_ok {C : zC} {d : Nat} {g : zG} {l : Launch} {w : zW} {r : Int32 × zM} {v1_25 : Int32} {v2_25 : Int32} {v3_25 : Int32} {v5_80_25 : Int32} {s0_80_25 : Int32} (hB : bOK C cX11_number 6 RX11 d g l w false) (hd : 2 ≤ d) (M : zM) (hR : RtI C cX11_number w r.1 r.2) : Sg C w (0, 0) 80 [(0, zr w 257), (1, .int v1_25), (2, .int v2_25), (3, .int v3_25), (5, .int v5_80_25)] [.int s0_80_25] M (j_X11_number_80_25 v1_25 v2_25 v3_25 v5_80_25 s0_80_25 M) (fun o => Sum.elim (fun (s : (Int32 × Int32 × zM)) => Zs C w (0, 0) 25 [(0, zr w 257), (1, .int v1_25), (2, .int v2_25), (3, .int v3_25), (4, .int s.1), (5, .int s.2.1)] [] s.2.2) (fun (s : (Int32 × Int32 × zM)) => Zs C w (0, 0) 98 [(0, zr w 257), (1, .int v1_25), (2, .int v2_25), (3, .int v3_25), (4, .int s.1), (5, .int s.2.1)] [] s.2.2) o) := by
  have hC := hB.1.1
  have hq1 : 1 ≤ d := by omega
  unfold j_X11_number_80_25
  refine x_istore (f := 0) hC dX11_number_80 [(4, .int s0_80_25), (0, zr w 257), (1, .int v1_25), (2, .int v2_25), (3, .int v3_25), (5, .int v5_80_25)] (by decide) rfl ?_
  refine x_iinc hC dX11_number_82 ki_1 [(5, .int (v5_80_25 + (1 : Int32))), (4, .int s0_80_25), (0, zr w 257), (1, .int v1_25), (2, .int v2_25), (3, .int v3_25)] 5 rfl (by decide) rfl ?_
  refine x_aload_n hC dX11_number_85 rfl 2 rfl ?_
  refine x_dup hC dX11_number_86 rfl ?_
  refine r_getI hB dX11_number_87 kf_X11_132 rfl th_257 ?_
  refine x_iconst (v := (1 : Int32)) hC dX11_number_90 ki_1 ?_
  refine x_iadd hC dX11_number_91 ?_
  refine r_putI hB dX11_number_92 kf_X11_132 rfl th_257 ?_
  refine x_mem (fun M92_25 => ?_)
  refine x_goto (tgt := 25) hC dX11_number_95 (by decide) ?_
  refine x_sub [2, 3, 4, 5, 1, 0] rfl ?_
  exact x_done (fun h => h)
noncomputable def b_X11_number_25 (v1_25 : Int32) (v2_25 : Int32) (v3_25 : Int32) (v4_25 : Int32) (v5_25 : Int32) (M : zM) : Option ((Int32 × Int32 × zM) ⊕ (Int32 × Int32 × zM)) :=
  if (M 257 8) ≤ (M 257 9) then (some (.inr (v4_25, v5_25, M)))
  else (grd (inb (M 257 9) 400) (
  if (f_X11_isDigit (M 262 (ix (M 257 9)))) = 0 then (some (.inr (v4_25, v5_25, M)))
  else (if (4 : Int32) ≤ v5_25 then (j_X11_number_80_25 v1_25 v2_25 v3_25 v5_25 v4_25 M)
  else (grd (inb (M 257 9) 400) (
  j_X11_number_80_25 v1_25 v2_25 v3_25 v5_25 ((((10 : Int32) * v4_25) + (M 262 (ix (M 257 9)))) - (48 : Int32)) M)))))
set_option maxRecDepth 100000 in
theorem b_X11_number_25_ok {C : zC} {d : Nat} {g : zG} {l : Launch} {w : zW} {r : Int32 × zM} {v1_25 : Int32} {v2_25 : Int32} {v3_25 : Int32} {v4_25 : Int32} {v5_25 : Int32} (hB : bOK C cX11_number 6 RX11 d g l w false) (hd : 2 ≤ d) (M : zM) (hR : RtI C cX11_number w r.1 r.2) : Sg C w (0, 0) 25 [(0, zr w 257), (1, .int v1_25), (2, .int v2_25), (3, .int v3_25), (4, .int v4_25), (5, .int v5_25)] [] M (b_X11_number_25 v1_25 v2_25 v3_25 v4_25 v5_25 M) (fun o => Sum.elim (fun (s : (Int32 × Int32 × zM)) => Zs C w (0, 0) 25 [(0, zr w 257), (1, .int v1_25), (2, .int v2_25), (3, .int v3_25), (4, .int s.1), (5, .int s.2.1)] [] s.2.2) (fun (s : (Int32 × Int32 × zM)) => Zs C w (0, 0) 98 [(0, zr w 257), (1, .int v1_25), (2, .int v2_25), (3, .int v3_25), (4, .int s.1), (5, .int s.2.1)] [] s.2.2) o) := by
  have hC := hB.1.1
  have hq1 : 1 ≤ d := by omega
  unfold b_X11_number_25
  refine x_aload_n hC dX11_number_25 rfl 0 rfl ?_
  refine r_getI hB dX11_number_26 kf_X11_132 rfl th_257 ?_
  refine x_aload_n hC dX11_number_29 rfl 0 rfl ?_
  refine r_getI hB dX11_number_30 kf_X11_135 rfl th_257 ?_
  refine x_icmp_ge (tgt := 98) hC dX11_number_33 (by decide) ?_ ?_
  · exact x_done (fun h => h)
  · refine x_aload_n hC dX11_number_36 rfl 0 rfl ?_
    refine r_getR hB dX11_number_37 kf_X11_26 rfl th_257 rf_257_15 ?_
    refine x_aload_n hC dX11_number_40 rfl 0 rfl ?_
    refine r_getI hB dX11_number_41 kf_X11_132 rfl th_257 ?_
    refine r_iald hB dX11_number_44 th_262 ?_
    refine r_cS0 (as := [.int (M 262 (ix (M 257 9)))]) (rest := []) hB dX11_number_45 ks_X11_153 hq1 rfl rfl (Nat.le_of_ble_eq_true rfl) (f_X11_isDigit_met hB.2 (by omega)) ?_
    refine x_if_eq (tgt := 98) hC dX11_number_48 (by decide) ?_ ?_
    · exact x_done (fun h => h)
    · refine x_iload hC dX11_number_51 5 rfl ?_
      refine x_iconst (v := (4 : Int32)) hC dX11_number_53 ki_4 ?_
      refine x_icmp_ge (tgt := 78) hC dX11_number_54 (by decide) ?_ ?_
      · refine x_iload hC dX11_number_78 4 rfl ?_
        refine x_sub [0, 1, 2, 3, 5] rfl ?_
        exact j_X11_number_80_25_ok hB hd M hR
      · refine x_bipush (v := (10 : Int32)) hC dX11_number_57 kb_10 ?_
        refine x_iload hC dX11_number_59 4 rfl ?_
        refine x_imul hC dX11_number_61 ?_
        refine x_aload_n hC dX11_number_62 rfl 0 rfl ?_
        refine r_getR hB dX11_number_63 kf_X11_26 rfl th_257 rf_257_15 ?_
        refine x_aload_n hC dX11_number_66 rfl 0 rfl ?_
        refine r_getI hB dX11_number_67 kf_X11_132 rfl th_257 ?_
        refine r_iald hB dX11_number_70 th_262 ?_
        refine x_iadd hC dX11_number_71 ?_
        refine x_bipush (v := (48 : Int32)) hC dX11_number_72 kb_48 ?_
        refine x_isub hC dX11_number_74 ?_
        refine x_goto (tgt := 80) hC dX11_number_75 (by decide) ?_
        refine x_sub [0, 1, 2, 3, 5] rfl ?_
        exact j_X11_number_80_25_ok hB hd M hR
noncomputable def j_X11_number_133 (v4_133 : Int32) (M : zM) : Option (Int32 × zM) :=
  if (f_X11_fine M) = 0 then (some ((0 : Int32), M))
  else (some (v4_133, M))
set_option maxRecDepth 100000 in
theorem j_X11_number_133_ok {C : zC} {d : Nat} {g : zG} {l : Launch} {w : zW} {r : Int32 × zM} {v4_133 : Int32} (hB : bOK C cX11_number 6 RX11 d g l w false) (hd : 2 ≤ d) (M : zM) (hR : RtI C cX11_number w r.1 r.2) : Sg C w (0, 0) 133 [(0, zr w 257), (4, .int v4_133)] [] M (j_X11_number_133 v4_133 M) (fun q => q = r) := by
  have hC := hB.1.1
  have hq1 : 1 ≤ d := by omega
  unfold j_X11_number_133
  refine x_aload_n hC dX11_number_133 rfl 0 rfl ?_
  refine r_cV0 (as := []) (rest := []) hB dX11_number_134 kv_X11_149 th_257 hq1 rfl rfl (Nat.le_of_ble_eq_true rfl) (f_X11_fine_met hB.2 (by omega)) ?_
  refine x_if_eq (tgt := 145) hC dX11_number_137 (by decide) ?_ ?_
  · refine x_iconst (v := (0 : Int32)) hC dX11_number_145 ki_0 ?_
    exact r_retI hR dX11_number_146 (fun h => h)
  · refine x_iload hC dX11_number_140 1 rfl ?_
    refine x_goto (tgt := 146) hC dX11_number_142 (by decide) ?_
    exact r_retI hR dX11_number_146 (fun h => h)
noncomputable def j_X11_number_98 (v1_98 : Int32) (v2_98 : Int32) (v3_98 : Int32) (v4_98 : Int32) (v5_98 : Int32) (M : zM) : Option (Int32 × zM) :=
  if (f_X11_within v5_98 (1 : Int32) (4 : Int32)) = 0 then ((f_X11_wrong (1 : Int32) v3_98 M).bind fun M111 =>
  j_X11_number_133 v4_98 M111)
  else (if (f_X11_within v4_98 v1_98 v2_98) = 0 then ((f_X11_wrong (2 : Int32) v3_98 M).bind fun M130 =>
  j_X11_number_133 v4_98 M130)
  else (j_X11_number_133 v4_98 M))
set_option maxRecDepth 100000 in
theorem j_X11_number_98_ok {C : zC} {d : Nat} {g : zG} {l : Launch} {w : zW} {r : Int32 × zM} {v1_98 : Int32} {v2_98 : Int32} {v3_98 : Int32} {v4_98 : Int32} {v5_98 : Int32} (hB : bOK C cX11_number 6 RX11 d g l w false) (hd : 2 ≤ d) (M : zM) (hR : RtI C cX11_number w r.1 r.2) : Sg C w (0, 0) 98 [(0, zr w 257), (1, .int v1_98), (2, .int v2_98), (3, .int v3_98), (4, .int v4_98), (5, .int v5_98)] [] M (j_X11_number_98 v1_98 v2_98 v3_98 v4_98 v5_98 M) (fun q => q = r) := by
  have hC := hB.1.1
  have hq1 : 1 ≤ d := by omega
  unfold j_X11_number_98
  refine x_iload hC dX11_number_98 5 rfl ?_
  refine x_iconst (v := (1 : Int32)) hC dX11_number_100 ki_1 ?_
  refine x_iconst (v := (4 : Int32)) hC dX11_number_101 ki_4 ?_
  refine r_cS0 (as := [.int v5_98, .int (1 : Int32), .int (4 : Int32)]) (rest := []) hB dX11_number_102 ks_X11_100 hq1 rfl rfl (Nat.le_of_ble_eq_true rfl) (f_X11_within_met hB.2 (by omega)) ?_
  refine x_if_ne (tgt := 117) hC dX11_number_105 (by decide) ?_ ?_
  · refine x_aload_n hC dX11_number_108 rfl 0 rfl ?_
    refine x_iconst (v := (1 : Int32)) hC dX11_number_109 ki_1 ?_
    refine x_iload_n hC dX11_number_110 rfl 3 rfl ?_
    refine r_cVv (as := [.int (1 : Int32), .int v3_98]) (rest := []) hB dX11_number_111 kv_X11_156 th_257 hq1 rfl rfl (Nat.le_of_ble_eq_true rfl) (fun M' hv => f_X11_wrong_met hB.2 (by omega) hv) (fun M111 => ?_)
    refine x_goto (tgt := 133) hC dX11_number_114 (by decide) ?_
    refine x_sub [0, 4] rfl ?_
    exact j_X11_number_133_ok hB hd M111 hR
  · refine x_iload hC dX11_number_117 4 rfl ?_
    refine x_iload_n hC dX11_number_119 rfl 1 rfl ?_
    refine x_iload_n hC dX11_number_120 rfl 2 rfl ?_
    refine r_cS0 (as := [.int v4_98, .int v1_98, .int v2_98]) (rest := []) hB dX11_number_121 ks_X11_100 hq1 rfl rfl (Nat.le_of_ble_eq_true rfl) (f_X11_within_met hB.2 (by omega)) ?_
    refine x_if_ne (tgt := 133) hC dX11_number_124 (by decide) ?_ ?_
    · refine x_aload_n hC dX11_number_127 rfl 0 rfl ?_
      refine x_iconst (v := (2 : Int32)) hC dX11_number_128 ki_2 ?_
      refine x_iload_n hC dX11_number_129 rfl 3 rfl ?_
      refine r_cVv (as := [.int (2 : Int32), .int v3_98]) (rest := []) hB dX11_number_130 kv_X11_156 th_257 hq1 rfl rfl (Nat.le_of_ble_eq_true rfl) (fun M' hv => f_X11_wrong_met hB.2 (by omega) hv) (fun M130 => ?_)
      refine x_sub [0, 4] rfl ?_
      exact j_X11_number_133_ok hB hd M130 hR
    · refine x_sub [0, 4] rfl ?_
      exact j_X11_number_133_ok hB hd M hR
noncomputable def f_X11_number (p1 : Int32) (p2 : Int32) (M : zM) : Option (Int32 × zM) :=
  if (f_X11_fine M) = 0 then (some ((0 : Int32), M))
  else (bnd2 (f_X11_here M) fun u10 M10 =>
  nm (M10 257 9) fun v3_18 =>
  (loopW (fun s => b_X11_number_25 p1 p2 v3_18 s.1 s.2.1 s.2.2) ((0 : Int32), (0 : Int32), M10)).bind (fun r => j_X11_number_98 p1 p2 v3_18 r.1 r.2.1 r.2.2))
set_option maxRecDepth 100000 in
theorem f_X11_number_ok {C : zC} {d : Nat} {g : zG} {l : Launch} {w : zW} {r : Int32 × zM} {p1 : Int32} {p2 : Int32} (hB : bOK C cX11_number 6 RX11 d g l w false) (hd : 2 ≤ d) (M : zM) (hR : RtI C cX11_number w r.1 r.2) : Sg C w (0, 0) 0 [(0, zr w 257), (1, .int p1), (2, .int p2)] [] M (f_X11_number p1 p2 M) (fun q => q = r) := by
  have hC := hB.1.1
  have hq1 : 1 ≤ d := by omega
  unfold f_X11_number
  refine x_aload_n hC dX11_number_0 rfl 0 rfl ?_
  refine r_cV0 (as := []) (rest := []) hB dX11_number_1 kv_X11_149 th_257 hq1 rfl rfl (Nat.le_of_ble_eq_true rfl) (f_X11_fine_met hB.2 (by omega)) ?_
  refine x_if_ne (tgt := 9) hC dX11_number_4 (by decide) ?_ ?_
  · refine x_iconst (v := (0 : Int32)) hC dX11_number_7 ki_0 ?_
    exact r_retI hR dX11_number_8 (fun h => h)
  · refine x_aload_n hC dX11_number_9 rfl 0 rfl ?_
    refine r_cV2 (as := []) (rest := []) hB dX11_number_10 kv_X11_138 th_257 hq1 rfl rfl (Nat.le_of_ble_eq_true rfl) (fun v M' hv => f_X11_here_met hB.2 (by omega) hv) (fun u10 M10 => ?_)
    refine x_pop hC dX11_number_13 rfl ?_
    refine x_aload_n hC dX11_number_14 rfl 0 rfl ?_
    refine r_getI hB dX11_number_15 kf_X11_132 rfl th_257 ?_
    refine x_top (fun v3_18 => ?_)
    refine x_istore_n hC dX11_number_18 rfl [(3, .int v3_18), (0, zr w 257), (1, .int p1), (2, .int p2)] (by decide) rfl ?_
    refine x_iconst (v := (0 : Int32)) hC dX11_number_19 ki_0 ?_
    refine x_istore (f := 0) hC dX11_number_20 [(4, .int (0 : Int32)), (3, .int v3_18), (0, zr w 257), (1, .int p1), (2, .int p2)] (by decide) rfl ?_
    refine x_iconst (v := (0 : Int32)) hC dX11_number_22 ki_0 ?_
    refine x_istore (f := 0) hC dX11_number_23 [(5, .int (0 : Int32)), (4, .int (0 : Int32)), (3, .int v3_18), (0, zr w 257), (1, .int p1), (2, .int p2)] (by decide) rfl ?_
    refine x_sub [3, 4, 5, 2, 1, 0] rfl ?_
    refine x_loopB (pc2 := 98) (fun (s : (Int32 × Int32 × zM)) => [(0, zr w 257), (1, .int p1), (2, .int p2), (3, .int v3_18), (4, .int s.1), (5, .int s.2.1)]) (fun (s : (Int32 × Int32 × zM)) => s.2.2) (fun (s : (Int32 × Int32 × zM)) => [(0, zr w 257), (1, .int p1), (2, .int p2), (3, .int v3_18), (4, .int s.1), (5, .int s.2.1)]) (fun (s : (Int32 × Int32 × zM)) => s.2.2) ((0 : Int32), (0 : Int32), M10) ?_ ?_
    · exact fun s => b_X11_number_25_ok hB hd s.2.2 hR
    · intro r9
      exact j_X11_number_98_ok hB hd r9.2.2 hR
theorem f_X11_number_met {l : Launch} {d : Nat} {g : zG} {w : zW} {M0 : zM} {p1 : Int32} {p2 : Int32} {M : zM} (hw : wS w) (hd : 2 ≤ d) {v : Int32} {M' : zM} (h : f_X11_number p1 p2 M = some (v, M')) : zMet l yX11_number cX11_number 6 (some .int) d g w (zin false) M0 [zr w 257, .int p1, .int p2] M (some (.int v)) M' :=
  met_i (by decide +kernel) (Nat.le_of_ble_eq_true rfl) rfl (fun C hB0 hR => f_X11_number_ok (r := (v, M')) ⟨hB0, hw⟩ hd M hR _ h rfl)
/-! WindingSquareModel.sign(I)V -/
noncomputable def j_X11_sign_24 (M : zM) : Option (zM) :=
  if (f_X11_fine M) = 0 then (some M)
  else (nm (mset M 257 9 ((M 257 9) + (1 : Int32))) fun M38 =>
  some M38)
set_option maxRecDepth 100000 in
theorem j_X11_sign_24_ok {C : zC} {d : Nat} {g : zG} {l : Launch} {w : zW} {r : zM} (hB : bOK C cX11_sign 2 RX11 d g l w false) (hd : 2 ≤ d) (M : zM) (hR : RtV C cX11_sign w r) : Sg C w (0, 0) 24 [(0, zr w 257)] [] M (j_X11_sign_24 M) (fun q => q = r) := by
  have hC := hB.1.1
  have hq1 : 1 ≤ d := by omega
  unfold j_X11_sign_24
  refine x_aload_n hC dX11_sign_24 rfl 0 rfl ?_
  refine r_cV0 (as := []) (rest := []) hB dX11_sign_25 kv_X11_149 th_257 hq1 rfl rfl (Nat.le_of_ble_eq_true rfl) (f_X11_fine_met hB.2 (by omega)) ?_
  refine x_if_eq (tgt := 41) hC dX11_sign_28 (by decide) ?_ ?_
  · exact r_retV hR dX11_sign_41 (fun h => h)
  · refine x_aload_n hC dX11_sign_31 rfl 0 rfl ?_
    refine x_dup hC dX11_sign_32 rfl ?_
    refine r_getI hB dX11_sign_33 kf_X11_132 rfl th_257 ?_
    refine x_iconst (v := (1 : Int32)) hC dX11_sign_36 ki_1 ?_
    refine x_iadd hC dX11_sign_37 ?_
    refine r_putI hB dX11_sign_38 kf_X11_132 rfl th_257 ?_
    refine x_mem (fun M38 => ?_)
    exact r_retV hR dX11_sign_41 (fun h => h)
noncomputable def f_X11_sign (p1 : Int32) (M : zM) : Option (zM) :=
  if (f_X11_fine M) = 0 then (j_X11_sign_24 M)
  else (bnd2 (f_X11_here M) fun u8 M8 =>
  if u8 = p1 then (j_X11_sign_24 M8)
  else ((f_X11_wrong (1 : Int32) (M8 257 9) M8).bind fun M21 =>
  j_X11_sign_24 M21))
set_option maxRecDepth 100000 in
theorem f_X11_sign_ok {C : zC} {d : Nat} {g : zG} {l : Launch} {w : zW} {r : zM} {p1 : Int32} (hB : bOK C cX11_sign 2 RX11 d g l w false) (hd : 2 ≤ d) (M : zM) (hR : RtV C cX11_sign w r) : Sg C w (0, 0) 0 [(0, zr w 257), (1, .int p1)] [] M (f_X11_sign p1 M) (fun q => q = r) := by
  have hC := hB.1.1
  have hq1 : 1 ≤ d := by omega
  unfold f_X11_sign
  refine x_aload_n hC dX11_sign_0 rfl 0 rfl ?_
  refine r_cV0 (as := []) (rest := []) hB dX11_sign_1 kv_X11_149 th_257 hq1 rfl rfl (Nat.le_of_ble_eq_true rfl) (f_X11_fine_met hB.2 (by omega)) ?_
  refine x_if_eq (tgt := 24) hC dX11_sign_4 (by decide) ?_ ?_
  · refine x_sub [0] rfl ?_
    exact j_X11_sign_24_ok hB hd M hR
  · refine x_aload_n hC dX11_sign_7 rfl 0 rfl ?_
    refine r_cV2 (as := []) (rest := []) hB dX11_sign_8 kv_X11_138 th_257 hq1 rfl rfl (Nat.le_of_ble_eq_true rfl) (fun v M' hv => f_X11_here_met hB.2 (by omega) hv) (fun u8 M8 => ?_)
    refine x_iload_n hC dX11_sign_11 rfl 1 rfl ?_
    refine x_icmp_eq (tgt := 24) hC dX11_sign_12 (by decide) ?_ ?_
    · refine x_sub [0] rfl ?_
      exact j_X11_sign_24_ok hB hd M8 hR
    · refine x_aload_n hC dX11_sign_15 rfl 0 rfl ?_
      refine x_iconst (v := (1 : Int32)) hC dX11_sign_16 ki_1 ?_
      refine x_aload_n hC dX11_sign_17 rfl 0 rfl ?_
      refine r_getI hB dX11_sign_18 kf_X11_132 rfl th_257 ?_
      refine r_cVv (as := [.int (1 : Int32), .int (M8 257 9)]) (rest := []) hB dX11_sign_21 kv_X11_156 th_257 hq1 rfl rfl (Nat.le_of_ble_eq_true rfl) (fun M' hv => f_X11_wrong_met hB.2 (by omega) hv) (fun M21 => ?_)
      refine x_sub [0] rfl ?_
      exact j_X11_sign_24_ok hB hd M21 hR
theorem f_X11_sign_met {l : Launch} {d : Nat} {g : zG} {w : zW} {M0 : zM} {p1 : Int32} {M : zM} (hw : wS w) (hd : 2 ≤ d) {M' : zM} (h : f_X11_sign p1 M = some M') : zMet l yX11_sign cX11_sign 2 none d g w (zin false) M0 [zr w 257, .int p1] M none M' :=
  met_v (by decide +kernel) (Nat.le_of_ble_eq_true rfl) (fun C hB0 hR => f_X11_sign_ok ⟨hB0, hw⟩ hd M hR _ h rfl)
/-! WindingSquareModel.drivesOut()V -/
noncomputable def j_X11_drivesOut_72_2 (v1_72_2 : Int32) (M : zM) : Option ((Int32 × zM) ⊕ (zM)) :=
  some (.inl ((v1_72_2 + (1 : Int32)), M))
set_option maxRecDepth 100000 in
theorem j_X11_drivesOut_72_2_ok {C : zC} {d : Nat} {g : zG} {l : Launch} {w : zW} {r : zM} {v1_72_2 : Int32} (hB : bOK C cX11_drivesOut 3 RX11 d g l w false) (hd : 2 ≤ d) (M : zM) (hR : RtV C cX11_drivesOut w r) : Sg C w (0, 0) 72 [(0, zr w 257), (1, .int v1_72_2)] [] M (j_X11_drivesOut_72_2 v1_72_2 M) (fun o => Sum.elim (fun (s : (Int32 × zM)) => Zs C w (0, 0) 2 [(0, zr w 257), (1, .int s.1)] [] s.2) (fun (s : (zM)) => Zs C w (0, 0) 78 [] [] s) o) := by
  have hC := hB.1.1
  have hq1 : 1 ≤ d := by omega
  unfold j_X11_drivesOut_72_2
  refine x_iinc hC dX11_drivesOut_72 ki_1 [(1, .int (v1_72_2 + (1 : Int32))), (0, zr w 257)] 1 rfl (by decide) rfl ?_
  refine x_goto (tgt := 2) hC dX11_drivesOut_75 (by decide) ?_
  refine x_sub [1, 0] rfl ?_
  exact x_done (fun h => h)
noncomputable def b_X11_drivesOut_2 (v1_2 : Int32) (M : zM) : Option ((Int32 × zM) ⊕ (zM)) :=
  if (M 258 (ix (940 : Int32))) ≤ v1_2 then (some (.inr M))
  else (nm ((144 : Int32) + ((12 : Int32) * v1_2)) fun v2_22_2 =>
  grd (inb (v2_22_2 + (1 : Int32)) 2425) (
  if (M 258 (ix (v2_22_2 + (1 : Int32)))) = (1 : Int32) then (grd (inb (v2_22_2 + (2 : Int32)) 2425) (
  grd (inb (v2_22_2 + (3 : Int32)) 2425) (
  grd (inb (f_X11_place (M 258 (ix (v2_22_2 + (2 : Int32)))) (M 258 (ix (v2_22_2 + (3 : Int32))))) 2425) (
  if (M 258 (ix (f_X11_place (M 258 (ix (v2_22_2 + (2 : Int32)))) (M 258 (ix (v2_22_2 + (3 : Int32))))))) = (1 : Int32) then (grd (inb (v2_22_2 + (1 : Int32)) 2425) (
  nm (mset M 258 (ix (v2_22_2 + (1 : Int32))) (0 : Int32)) fun M71_2 =>
  j_X11_drivesOut_72_2 v1_2 M71_2))
  else (j_X11_drivesOut_72_2 v1_2 M)))))
  else (j_X11_drivesOut_72_2 v1_2 M)))
set_option maxRecDepth 100000 in
theorem b_X11_drivesOut_2_ok {C : zC} {d : Nat} {g : zG} {l : Launch} {w : zW} {r : zM} {v1_2 : Int32} (hB : bOK C cX11_drivesOut 3 RX11 d g l w false) (hd : 2 ≤ d) (M : zM) (hR : RtV C cX11_drivesOut w r) : Sg C w (0, 0) 2 [(0, zr w 257), (1, .int v1_2)] [] M (b_X11_drivesOut_2 v1_2 M) (fun o => Sum.elim (fun (s : (Int32 × zM)) => Zs C w (0, 0) 2 [(0, zr w 257), (1, .int s.1)] [] s.2) (fun (s : (zM)) => Zs C w (0, 0) 78 [] [] s) o) := by
  have hC := hB.1.1
  have hq1 : 1 ≤ d := by omega
  unfold b_X11_drivesOut_2
  refine x_iload_n hC dX11_drivesOut_2 rfl 1 rfl ?_
  refine x_aload_n hC dX11_drivesOut_3 rfl 0 rfl ?_
  refine r_getR hB dX11_drivesOut_4 kf_X11_9 rfl th_257 rf_257_0 ?_
  refine x_sipush (v := (940 : Int32)) hC dX11_drivesOut_7 kh_940 ?_
  refine r_iald0 hB dX11_drivesOut_10 th_258 ib_940_2425 ?_
  refine x_icmp_ge (tgt := 78) hC dX11_drivesOut_11 (by decide) ?_ ?_
  · refine x_sub [] rfl ?_
    exact x_done (fun h => h)
  · refine x_sipush (v := (144 : Int32)) hC dX11_drivesOut_14 kh_144 ?_
    refine x_bipush (v := (12 : Int32)) hC dX11_drivesOut_17 kb_12 ?_
    refine x_iload_n hC dX11_drivesOut_19 rfl 1 rfl ?_
    refine x_imul hC dX11_drivesOut_20 ?_
    refine x_iadd hC dX11_drivesOut_21 ?_
    refine x_top (fun v2_22_2 => ?_)
    refine x_istore_n hC dX11_drivesOut_22 rfl [(2, .int v2_22_2), (0, zr w 257), (1, .int v1_2)] (by decide) rfl ?_
    refine x_aload_n hC dX11_drivesOut_23 rfl 1 rfl ?_
    refine r_getR hB dX11_drivesOut_24 kf_X11_9 rfl th_257 rf_257_0 ?_
    refine x_iload_n hC dX11_drivesOut_27 rfl 0 rfl ?_
    refine x_iconst (v := (1 : Int32)) hC dX11_drivesOut_28 ki_1 ?_
    refine x_iadd hC dX11_drivesOut_29 ?_
    refine r_iald hB dX11_drivesOut_30 th_258 ?_
    refine x_iconst (v := (1 : Int32)) hC dX11_drivesOut_31 ki_1 ?_
    refine x_icmp_ne (tgt := 72) hC dX11_drivesOut_32 (by decide) ?_ ?_
    · refine x_aload_n hC dX11_drivesOut_35 rfl 1 rfl ?_
      refine r_getR hB dX11_drivesOut_36 kf_X11_9 rfl th_257 rf_257_0 ?_
      refine x_aload_n hC dX11_drivesOut_39 rfl 1 rfl ?_
      refine r_getR hB dX11_drivesOut_40 kf_X11_9 rfl th_257 rf_257_0 ?_
      refine x_iload_n hC dX11_drivesOut_43 rfl 0 rfl ?_
      refine x_iconst (v := (2 : Int32)) hC dX11_drivesOut_44 ki_2 ?_
      refine x_iadd hC dX11_drivesOut_45 ?_
      refine r_iald hB dX11_drivesOut_46 th_258 ?_
      refine x_aload_n hC dX11_drivesOut_47 rfl 1 rfl ?_
      refine r_getR hB dX11_drivesOut_48 kf_X11_9 rfl th_257 rf_257_0 ?_
      refine x_iload_n hC dX11_drivesOut_51 rfl 0 rfl ?_
      refine x_iconst (v := (3 : Int32)) hC dX11_drivesOut_52 ki_3 ?_
      refine x_iadd hC dX11_drivesOut_53 ?_
      refine r_iald hB dX11_drivesOut_54 th_258 ?_
      refine r_cS0 (as := [.int (M 258 (ix (v2_22_2 + (2 : Int32)))), .int (M 258 (ix (v2_22_2 + (3 : Int32))))]) (rest := [zr w 258]) hB dX11_drivesOut_55 ks_X11_108 hq1 rfl rfl (Nat.le_of_ble_eq_true rfl) (f_X11_place_met hB.2 (by omega)) ?_
      refine r_iald hB dX11_drivesOut_58 th_258 ?_
      refine x_iconst (v := (1 : Int32)) hC dX11_drivesOut_59 ki_1 ?_
      refine x_icmp_ne (tgt := 72) hC dX11_drivesOut_60 (by decide) ?_ ?_
      · refine x_aload_n hC dX11_drivesOut_63 rfl 1 rfl ?_
        refine r_getR hB dX11_drivesOut_64 kf_X11_9 rfl th_257 rf_257_0 ?_
        refine x_iload_n hC dX11_drivesOut_67 rfl 0 rfl ?_
        refine x_iconst (v := (1 : Int32)) hC dX11_drivesOut_68 ki_1 ?_
        refine x_iadd hC dX11_drivesOut_69 ?_
        refine x_iconst (v := (0 : Int32)) hC dX11_drivesOut_70 ki_0 ?_
        refine r_iast hB dX11_drivesOut_71 th_258 ?_
        refine x_mem (fun M71_2 => ?_)
        refine x_sub [1, 2] rfl ?_
        exact j_X11_drivesOut_72_2_ok hB hd M71_2 hR
      · refine x_sub [1, 2] rfl ?_
        exact j_X11_drivesOut_72_2_ok hB hd M hR
    · refine x_sub [1, 2] rfl ?_
      exact j_X11_drivesOut_72_2_ok hB hd M hR
noncomputable def j_X11_drivesOut_78 (M : zM) : Option (zM) :=
  some M
set_option maxRecDepth 100000 in
theorem j_X11_drivesOut_78_ok {C : zC} {d : Nat} {g : zG} {l : Launch} {w : zW} {r : zM} (hB : bOK C cX11_drivesOut 3 RX11 d g l w false) (hd : 2 ≤ d) (M : zM) (hR : RtV C cX11_drivesOut w r) : Sg C w (0, 0) 78 [] [] M (j_X11_drivesOut_78 M) (fun q => q = r) := by
  have hC := hB.1.1
  have hq1 : 1 ≤ d := by omega
  unfold j_X11_drivesOut_78
  exact r_retV hR dX11_drivesOut_78 (fun h => h)
noncomputable def f_X11_drivesOut (M : zM) : Option (zM) :=
  (loopW (fun s => b_X11_drivesOut_2 s.1 s.2) ((0 : Int32), M)).bind (fun r => j_X11_drivesOut_78 r)
set_option maxRecDepth 100000 in
theorem f_X11_drivesOut_ok {C : zC} {d : Nat} {g : zG} {l : Launch} {w : zW} {r : zM} (hB : bOK C cX11_drivesOut 3 RX11 d g l w false) (hd : 2 ≤ d) (M : zM) (hR : RtV C cX11_drivesOut w r) : Sg C w (0, 0) 0 [(0, zr w 257)] [] M (f_X11_drivesOut M) (fun q => q = r) := by
  have hC := hB.1.1
  have hq1 : 1 ≤ d := by omega
  unfold f_X11_drivesOut
  refine x_iconst (v := (0 : Int32)) hC dX11_drivesOut_0 ki_0 ?_
  refine x_istore_n hC dX11_drivesOut_1 rfl [(1, .int (0 : Int32)), (0, zr w 257)] (by decide) rfl ?_
  refine x_sub [1, 0] rfl ?_
  refine x_loopB (pc2 := 78) (fun (s : (Int32 × zM)) => [(0, zr w 257), (1, .int s.1)]) (fun (s : (Int32 × zM)) => s.2) (fun (s : (zM)) => []) (fun (s : (zM)) => s) ((0 : Int32), M) ?_ ?_
  · exact fun s => b_X11_drivesOut_2_ok hB hd s.2 hR
  · intro r9
    exact j_X11_drivesOut_78_ok hB hd r9 hR
theorem f_X11_drivesOut_met {l : Launch} {d : Nat} {g : zG} {w : zW} {M0 : zM} {M : zM} (hw : wS w) (hd : 2 ≤ d) {M' : zM} (h : f_X11_drivesOut M = some M') : zMet l yX11_drivesOut cX11_drivesOut 3 none d g w (zin false) M0 [zr w 257] M none M' :=
  met_v (by decide +kernel) (Nat.le_of_ble_eq_true rfl) (fun C hB0 hR => f_X11_drivesOut_ok ⟨hB0, hw⟩ hd M hR _ h rfl)
/-! WindingSquareModel.codes(II)V -/
noncomputable def f_X11_codes (p1 : Int32) (p2 : Int32) (M : zM) : Option (zM) :=
  if (f_X11_fine M) = 0 then (some M)
  else (grd (inb ((1025 : Int32) + ((2 : Int32) * (M 257 17))) 2425) (
  nm (mset M 263 (ix ((1025 : Int32) + ((2 : Int32) * (M 257 17)))) p1) fun M23 =>
  grd (inb (((1025 : Int32) + ((2 : Int32) * (M23 257 17))) + (1 : Int32)) 2425) (
  nm (mset M23 263 (ix (((1025 : Int32) + ((2 : Int32) * (M23 257 17))) + (1 : Int32))) p2) fun M41 =>
  nm (mset M41 257 17 ((M41 257 17) + (1 : Int32))) fun M49 =>
  some M49)))
set_option maxRecDepth 100000 in
theorem f_X11_codes_ok {C : zC} {d : Nat} {g : zG} {l : Launch} {w : zW} {r : zM} {p1 : Int32} {p2 : Int32} (hB : bOK C cX11_codes 3 RX11 d g l w false) (hd : 2 ≤ d) (M : zM) (hR : RtV C cX11_codes w r) : Sg C w (0, 0) 0 [(0, zr w 257), (1, .int p1), (2, .int p2)] [] M (f_X11_codes p1 p2 M) (fun q => q = r) := by
  have hC := hB.1.1
  have hq1 : 1 ≤ d := by omega
  unfold f_X11_codes
  refine x_aload_n hC dX11_codes_0 rfl 0 rfl ?_
  refine r_cV0 (as := []) (rest := []) hB dX11_codes_1 kv_X11_149 th_257 hq1 rfl rfl (Nat.le_of_ble_eq_true rfl) (f_X11_fine_met hB.2 (by omega)) ?_
  refine x_if_ne (tgt := 8) hC dX11_codes_4 (by decide) ?_ ?_
  · exact r_retV hR dX11_codes_7 (fun h => h)
  · refine x_aload_n hC dX11_codes_8 rfl 0 rfl ?_
    refine r_getR hB dX11_codes_9 kf_X11_29 rfl th_257 rf_257_16 ?_
    refine x_sipush (v := (1025 : Int32)) hC dX11_codes_12 kh_1025 ?_
    refine x_iconst (v := (2 : Int32)) hC dX11_codes_15 ki_2 ?_
    refine x_aload_n hC dX11_codes_16 rfl 0 rfl ?_
    refine r_getI hB dX11_codes_17 kf_X11_172 rfl th_257 ?_
    refine x_imul hC dX11_codes_20 ?_
    refine x_iadd hC dX11_codes_21 ?_
    refine x_iload_n hC dX11_codes_22 rfl 1 rfl ?_
    refine r_iast hB dX11_codes_23 th_263 ?_
    refine x_mem (fun M23 => ?_)
    refine x_aload_n hC dX11_codes_24 rfl 0 rfl ?_
    refine r_getR hB dX11_codes_25 kf_X11_29 rfl th_257 rf_257_16 ?_
    refine x_sipush (v := (1025 : Int32)) hC dX11_codes_28 kh_1025 ?_
    refine x_iconst (v := (2 : Int32)) hC dX11_codes_31 ki_2 ?_
    refine x_aload_n hC dX11_codes_32 rfl 0 rfl ?_
    refine r_getI hB dX11_codes_33 kf_X11_172 rfl th_257 ?_
    refine x_imul hC dX11_codes_36 ?_
    refine x_iadd hC dX11_codes_37 ?_
    refine x_iconst (v := (1 : Int32)) hC dX11_codes_38 ki_1 ?_
    refine x_iadd hC dX11_codes_39 ?_
    refine x_iload_n hC dX11_codes_40 rfl 2 rfl ?_
    refine r_iast hB dX11_codes_41 th_263 ?_
    refine x_mem (fun M41 => ?_)
    refine x_aload_n hC dX11_codes_42 rfl 0 rfl ?_
    refine x_dup hC dX11_codes_43 rfl ?_
    refine r_getI hB dX11_codes_44 kf_X11_172 rfl th_257 ?_
    refine x_iconst (v := (1 : Int32)) hC dX11_codes_47 ki_1 ?_
    refine x_iadd hC dX11_codes_48 ?_
    refine r_putI hB dX11_codes_49 kf_X11_172 rfl th_257 ?_
    refine x_mem (fun M49 => ?_)
    exact r_retV hR dX11_codes_52 (fun h => h)
theorem f_X11_codes_met {l : Launch} {d : Nat} {g : zG} {w : zW} {M0 : zM} {p1 : Int32} {p2 : Int32} {M : zM} (hw : wS w) (hd : 2 ≤ d) {M' : zM} (h : f_X11_codes p1 p2 M = some M') : zMet l yX11_codes cX11_codes 3 none d g w (zin false) M0 [zr w 257, .int p1, .int p2] M none M' :=
  met_v (by decide +kernel) (Nat.le_of_ble_eq_true rfl) (fun C hB0 hR => f_X11_codes_ok ⟨hB0, hw⟩ hd M hR _ h rfl)
/-! WindingSquareModel.opensOne(I)V -/
noncomputable def j_X11_opensOne_18 (v1_18 : Int32) (M : zM) : Option (zM) :=
  nm (mset M 257 12 ((M 257 12) + (1 : Int32))) fun M25 =>
  grd (inb (M25 257 19) 420) (
  nm (mset M25 264 (ix (M25 257 19)) v1_18) fun M37 =>
  nm (mset M37 257 19 ((M37 257 19) + (1 : Int32))) fun M45 =>
  some M45)
set_option maxRecDepth 100000 in
theorem j_X11_opensOne_18_ok {C : zC} {d : Nat} {g : zG} {l : Launch} {w : zW} {r : zM} {v1_18 : Int32} (hB : bOK C cX11_opensOne 2 RX11 d g l w false) (hd : 2 ≤ d) (M : zM) (hR : RtV C cX11_opensOne w r) : Sg C w (0, 0) 18 [(0, zr w 257), (1, .int v1_18)] [] M (j_X11_opensOne_18 v1_18 M) (fun q => q = r) := by
  have hC := hB.1.1
  have hq1 : 1 ≤ d := by omega
  unfold j_X11_opensOne_18
  refine x_aload_n hC dX11_opensOne_18 rfl 0 rfl ?_
  refine x_dup hC dX11_opensOne_19 rfl ?_
  refine r_getI hB dX11_opensOne_20 kf_X11_166 rfl th_257 ?_
  refine x_iconst (v := (1 : Int32)) hC dX11_opensOne_23 ki_1 ?_
  refine x_iadd hC dX11_opensOne_24 ?_
  refine r_putI hB dX11_opensOne_25 kf_X11_166 rfl th_257 ?_
  refine x_mem (fun M25 => ?_)
  refine x_aload_n hC dX11_opensOne_28 rfl 0 rfl ?_
  refine r_getR hB dX11_opensOne_29 kf_X11_32 rfl th_257 rf_257_18 ?_
  refine x_aload_n hC dX11_opensOne_32 rfl 0 rfl ?_
  refine r_getI hB dX11_opensOne_33 kf_X11_214 rfl th_257 ?_
  refine x_iload_n hC dX11_opensOne_36 rfl 1 rfl ?_
  refine r_iast hB dX11_opensOne_37 th_264 ?_
  refine x_mem (fun M37 => ?_)
  refine x_aload_n hC dX11_opensOne_38 rfl 0 rfl ?_
  refine x_dup hC dX11_opensOne_39 rfl ?_
  refine r_getI hB dX11_opensOne_40 kf_X11_214 rfl th_257 ?_
  refine x_iconst (v := (1 : Int32)) hC dX11_opensOne_43 ki_1 ?_
  refine x_iadd hC dX11_opensOne_44 ?_
  refine r_putI hB dX11_opensOne_45 kf_X11_214 rfl th_257 ?_
  refine x_mem (fun M45 => ?_)
  exact r_retV hR dX11_opensOne_48 (fun h => h)
noncomputable def f_X11_opensOne (p1 : Int32) (M : zM) : Option (zM) :=
  if (M 257 12) = (8 : Int32) then ((f_X11_wrong (3 : Int32) (M 257 9) M).bind fun M15 =>
  j_X11_opensOne_18 p1 M15)
  else (j_X11_opensOne_18 p1 M)
set_option maxRecDepth 100000 in
theorem f_X11_opensOne_ok {C : zC} {d : Nat} {g : zG} {l : Launch} {w : zW} {r : zM} {p1 : Int32} (hB : bOK C cX11_opensOne 2 RX11 d g l w false) (hd : 2 ≤ d) (M : zM) (hR : RtV C cX11_opensOne w r) : Sg C w (0, 0) 0 [(0, zr w 257), (1, .int p1)] [] M (f_X11_opensOne p1 M) (fun q => q = r) := by
  have hC := hB.1.1
  have hq1 : 1 ≤ d := by omega
  unfold f_X11_opensOne
  refine x_aload_n hC dX11_opensOne_0 rfl 0 rfl ?_
  refine r_getI hB dX11_opensOne_1 kf_X11_166 rfl th_257 ?_
  refine x_bipush (v := (8 : Int32)) hC dX11_opensOne_4 kb_8 ?_
  refine x_icmp_ne (tgt := 18) hC dX11_opensOne_6 (by decide) ?_ ?_
  · refine x_aload_n hC dX11_opensOne_9 rfl 0 rfl ?_
    refine x_iconst (v := (3 : Int32)) hC dX11_opensOne_10 ki_3 ?_
    refine x_aload_n hC dX11_opensOne_11 rfl 0 rfl ?_
    refine r_getI hB dX11_opensOne_12 kf_X11_132 rfl th_257 ?_
    refine r_cVv (as := [.int (3 : Int32), .int (M 257 9)]) (rest := []) hB dX11_opensOne_15 kv_X11_156 th_257 hq1 rfl rfl (Nat.le_of_ble_eq_true rfl) (fun M' hv => f_X11_wrong_met hB.2 (by omega) hv) (fun M15 => ?_)
    exact j_X11_opensOne_18_ok hB hd M15 hR
  · exact j_X11_opensOne_18_ok hB hd M hR
theorem f_X11_opensOne_met {l : Launch} {d : Nat} {g : zG} {w : zW} {M0 : zM} {p1 : Int32} {M : zM} (hw : wS w) (hd : 2 ≤ d) {M' : zM} (h : f_X11_opensOne p1 M = some M') : zMet l yX11_opensOne cX11_opensOne 2 none d g w (zin false) M0 [zr w 257, .int p1] M none M' :=
  met_v (by decide +kernel) (Nat.le_of_ble_eq_true rfl) (fun C hB0 hR => f_X11_opensOne_ok ⟨hB0, hw⟩ hd M hR _ h rfl)
/-! WindingSquareModel.inside()I -/
noncomputable def b_X11_inside_4 (v1_4 : Int32) (v2_4 : Int32) (M : zM) : Option ((Int32 × Int32) ⊕ (Int32)) :=
  if (M 259 (ix (940 : Int32))) ≤ v2_4 then (some (.inr v1_4))
  else ((f_X11_has v2_4 (1 : Int32) M).bind fun u20_4 =>
  nm (v1_4 + u20_4) fun v1_24_4 =>
  some (.inl (v1_24_4, (v2_4 + (1 : Int32)))))
set_option maxRecDepth 100000 in
theorem b_X11_inside_4_ok {C : zC} {d : Nat} {g : zG} {l : Launch} {w : zW} {r : Int32} {v1_4 : Int32} {v2_4 : Int32} (hB : bOK C cX11_inside 3 RX11 d g l w false) (hd : 2 ≤ d) (M : zM) (hR : RtI C cX11_inside w r M) : Sg C w (0, 0) 4 [(0, zr w 257), (1, .int v1_4), (2, .int v2_4)] [] M (b_X11_inside_4 v1_4 v2_4 M) (fun o => Sum.elim (fun (s : (Int32 × Int32)) => Zs C w (0, 0) 4 [(0, zr w 257), (1, .int s.1), (2, .int s.2)] [] M) (fun (s : (Int32)) => Zs C w (0, 0) 31 [(1, .int s)] [] M) o) := by
  have hC := hB.1.1
  have hq1 : 1 ≤ d := by omega
  unfold b_X11_inside_4
  refine x_iload_n hC dX11_inside_4 rfl 2 rfl ?_
  refine x_aload_n hC dX11_inside_5 rfl 0 rfl ?_
  refine r_getR hB dX11_inside_6 kf_X11_13 rfl th_257 rf_257_1 ?_
  refine x_sipush (v := (940 : Int32)) hC dX11_inside_9 kh_940 ?_
  refine r_iald0 hB dX11_inside_12 th_259 ib_940_2425 ?_
  refine x_icmp_ge (tgt := 31) hC dX11_inside_13 (by decide) ?_ ?_
  · refine x_sub [1] rfl ?_
    exact x_done (fun h => h)
  · refine x_iload_n hC dX11_inside_16 rfl 1 rfl ?_
    refine x_aload_n hC dX11_inside_17 rfl 0 rfl ?_
    refine x_iload_n hC dX11_inside_18 rfl 2 rfl ?_
    refine x_iconst (v := (1 : Int32)) hC dX11_inside_19 ki_1 ?_
    refine r_cV1 (as := [.int v2_4, .int (1 : Int32)]) (rest := [.int v1_4]) hB dX11_inside_20 kv_X11_104 th_257 hq1 rfl rfl (Nat.le_of_ble_eq_true rfl) (fun v hv => f_X11_has_met hB.2 (by omega) hv) (fun u20_4 => ?_)
    refine x_iadd hC dX11_inside_23 ?_
    refine x_top (fun v1_24_4 => ?_)
    refine x_istore_n hC dX11_inside_24 rfl [(1, .int v1_24_4), (0, zr w 257), (2, .int v2_4)] (by decide) rfl ?_
    refine x_iinc hC dX11_inside_25 ki_1 [(2, .int (v2_4 + (1 : Int32))), (1, .int v1_24_4), (0, zr w 257)] 2 rfl (by decide) rfl ?_
    refine x_goto (tgt := 4) hC dX11_inside_28 (by decide) ?_
    refine x_sub [2, 1, 0] rfl ?_
    exact x_done (fun h => h)
noncomputable def j_X11_inside_31 (v1_31 : Int32) (M : zM) : Option (Int32) :=
  some v1_31
set_option maxRecDepth 100000 in
theorem j_X11_inside_31_ok {C : zC} {d : Nat} {g : zG} {l : Launch} {w : zW} {r : Int32} {v1_31 : Int32} (hB : bOK C cX11_inside 3 RX11 d g l w false) (hd : 2 ≤ d) (M : zM) (hR : RtI C cX11_inside w r M) : Sg C w (0, 0) 31 [(1, .int v1_31)] [] M (j_X11_inside_31 v1_31 M) (fun q => q = r) := by
  have hC := hB.1.1
  have hq1 : 1 ≤ d := by omega
  unfold j_X11_inside_31
  refine x_iload_n hC dX11_inside_31 rfl 0 rfl ?_
  exact r_retI hR dX11_inside_32 (fun h => congrArg (fun q => (q, M)) h)
noncomputable def f_X11_inside (M : zM) : Option (Int32) :=
  (loopW (fun s => b_X11_inside_4 s.1 s.2 M) ((0 : Int32), (0 : Int32))).bind (fun r => j_X11_inside_31 r M)
set_option maxRecDepth 100000 in
theorem f_X11_inside_ok {C : zC} {d : Nat} {g : zG} {l : Launch} {w : zW} {r : Int32} (hB : bOK C cX11_inside 3 RX11 d g l w false) (hd : 2 ≤ d) (M : zM) (hR : RtI C cX11_inside w r M) : Sg C w (0, 0) 0 [(0, zr w 257)] [] M (f_X11_inside M) (fun q => q = r) := by
  have hC := hB.1.1
  have hq1 : 1 ≤ d := by omega
  unfold f_X11_inside
  refine x_iconst (v := (0 : Int32)) hC dX11_inside_0 ki_0 ?_
  refine x_istore_n hC dX11_inside_1 rfl [(1, .int (0 : Int32)), (0, zr w 257)] (by decide) rfl ?_
  refine x_iconst (v := (0 : Int32)) hC dX11_inside_2 ki_0 ?_
  refine x_istore_n hC dX11_inside_3 rfl [(2, .int (0 : Int32)), (1, .int (0 : Int32)), (0, zr w 257)] (by decide) rfl ?_
  refine x_sub [2, 1, 0] rfl ?_
  refine x_loopB (pc2 := 31) (fun (s : (Int32 × Int32)) => [(0, zr w 257), (1, .int s.1), (2, .int s.2)]) (fun (s : (Int32 × Int32)) => M) (fun (s : (Int32)) => [(1, .int s)]) (fun (s : (Int32)) => M) ((0 : Int32), (0 : Int32)) ?_ ?_
  · exact fun s => b_X11_inside_4_ok hB hd M hR
  · intro r9
    exact j_X11_inside_31_ok hB hd M hR
theorem f_X11_inside_met {l : Launch} {d : Nat} {g : zG} {w : zW} {M0 : zM} {M : zM} (hw : wS w) (hd : 2 ≤ d) {v : Int32} (h : f_X11_inside M = some v) : zMet l yX11_inside cX11_inside 3 (some .int) d g w (zin false) M0 [zr w 257] M (some (.int v)) M :=
  met_i (by decide +kernel) (Nat.le_of_ble_eq_true rfl) rfl (fun C hB0 hR => f_X11_inside_ok ⟨hB0, hw⟩ hd M hR _ h rfl)
/-! WindingSquareModel.both(III)I -/
def j_X11_both_122 (s0_122 : Int32) : Int32 :=
  (f_X11_asInt s0_122)
set_option maxRecDepth 100000 in
theorem j_X11_both_122_ok {C : zC} {d : Nat} {g : zG} {l : Launch} {w : zW} {r : Int32} {s0_122 : Int32} (hB : bOK C cX11_both 3 RX11 d g l w false) (hd : 2 ≤ d) (M : zM) (hR : RtI C cX11_both w r M) : Sg C w (0, 0) 122 [] [.int s0_122] M (some (j_X11_both_122 s0_122)) (fun q => q = r) := by
  have hC := hB.1.1
  have hq1 : 1 ≤ d := by omega
  unfold j_X11_both_122
  refine r_cS0 (as := [.int s0_122]) (rest := []) hB dX11_both_122 ks_X11_249 hq1 rfl rfl (Nat.le_of_ble_eq_true rfl) (f_X11_asInt_met hB.2 (by omega)) ?_
  exact r_retI hR dX11_both_125 (fun h => congrArg (fun q => (q, M)) h)
def j_X11_both_86 (s0_86 : Int32) : Int32 :=
  (f_X11_asInt s0_86)
set_option maxRecDepth 100000 in
theorem j_X11_both_86_ok {C : zC} {d : Nat} {g : zG} {l : Launch} {w : zW} {r : Int32} {s0_86 : Int32} (hB : bOK C cX11_both 3 RX11 d g l w false) (hd : 2 ≤ d) (M : zM) (hR : RtI C cX11_both w r M) : Sg C w (0, 0) 86 [] [.int s0_86] M (some (j_X11_both_86 s0_86)) (fun q => q = r) := by
  have hC := hB.1.1
  have hq1 : 1 ≤ d := by omega
  unfold j_X11_both_86
  refine r_cS0 (as := [.int s0_86]) (rest := []) hB dX11_both_86 ks_X11_249 hq1 rfl rfl (Nat.le_of_ble_eq_true rfl) (f_X11_asInt_met hB.2 (by omega)) ?_
  exact r_retI hR dX11_both_89 (fun h => congrArg (fun q => (q, M)) h)
def f_X11_both (p0 : Int32) (p1 : Int32) (p2 : Int32) : Int32 :=
  if (6 : Int32) ≤ p0 then (if (9 : Int32) ≤ p0 then (if p0 = (10 : Int32) then (if (p1 + p2) = (2 : Int32) then (j_X11_both_122 (1 : Int32))
  else (j_X11_both_122 (0 : Int32)))
  else (if (p1 + p2) ≤ 0 then (j_X11_both_122 (0 : Int32))
  else (j_X11_both_122 (1 : Int32))))
  else (if p0 = (6 : Int32) then (if p2 ≤ p1 then (j_X11_both_86 (0 : Int32))
  else (j_X11_both_86 (1 : Int32)))
  else (if p0 = (7 : Int32) then (if p1 = p2 then (j_X11_both_86 (1 : Int32))
  else (j_X11_both_86 (0 : Int32)))
  else (if p1 ≤ p2 then (j_X11_both_86 (0 : Int32))
  else (j_X11_both_86 (1 : Int32))))))
  else (if p0 = (2 : Int32) then ((p1 + p2))
  else (if p0 = (3 : Int32) then ((p1 - p2))
  else ((p1 * p2))))
set_option maxRecDepth 100000 in
theorem f_X11_both_ok {C : zC} {d : Nat} {g : zG} {l : Launch} {w : zW} {r : Int32} {p0 : Int32} {p1 : Int32} {p2 : Int32} (hB : bOK C cX11_both 3 RX11 d g l w false) (hd : 2 ≤ d) (M : zM) (hR : RtI C cX11_both w r M) : Sg C w (0, 0) 0 [(0, .int p0), (1, .int p1), (2, .int p2)] [] M (some (f_X11_both p0 p1 p2)) (fun q => q = r) := by
  have hC := hB.1.1
  have hq1 : 1 ≤ d := by omega
  unfold f_X11_both
  refine x_iload_n hC dX11_both_0 rfl 0 rfl ?_
  refine x_bipush (v := (6 : Int32)) hC dX11_both_1 kb_6 ?_
  refine x_si ?_
  refine x_icmp_ge (tgt := 32) hC dX11_both_3 (by decide) ?_ ?_
  · refine x_iload_n hC dX11_both_32 rfl 0 rfl ?_
    refine x_bipush (v := (9 : Int32)) hC dX11_both_33 kb_9 ?_
    refine x_si ?_
    refine x_icmp_ge (tgt := 90) hC dX11_both_35 (by decide) ?_ ?_
    · refine x_iload_n hC dX11_both_90 rfl 0 rfl ?_
      refine x_bipush (v := (10 : Int32)) hC dX11_both_91 kb_10 ?_
      refine x_si ?_
      refine x_icmp_ne (tgt := 111) hC dX11_both_93 (by decide) ?_ ?_
      · refine x_iload_n hC dX11_both_96 rfl 1 rfl ?_
        refine x_iload_n hC dX11_both_97 rfl 2 rfl ?_
        refine x_iadd hC dX11_both_98 ?_
        refine x_iconst (v := (2 : Int32)) hC dX11_both_99 ki_2 ?_
        refine x_si ?_
        refine x_icmp_ne (tgt := 107) hC dX11_both_100 (by decide) ?_ ?_
        · refine x_iconst (v := (1 : Int32)) hC dX11_both_103 ki_1 ?_
          refine x_goto (tgt := 122) hC dX11_both_104 (by decide) ?_
          refine x_sub [] rfl ?_
          exact j_X11_both_122_ok hB hd M hR
        · refine x_iconst (v := (0 : Int32)) hC dX11_both_107 ki_0 ?_
          refine x_goto (tgt := 122) hC dX11_both_108 (by decide) ?_
          refine x_sub [] rfl ?_
          exact j_X11_both_122_ok hB hd M hR
      · refine x_iload_n hC dX11_both_111 rfl 1 rfl ?_
        refine x_iload_n hC dX11_both_112 rfl 2 rfl ?_
        refine x_iadd hC dX11_both_113 ?_
        refine x_si ?_
        refine x_if_le (tgt := 121) hC dX11_both_114 (by decide) ?_ ?_
        · refine x_iconst (v := (0 : Int32)) hC dX11_both_121 ki_0 ?_
          refine x_sub [] rfl ?_
          exact j_X11_both_122_ok hB hd M hR
        · refine x_iconst (v := (1 : Int32)) hC dX11_both_117 ki_1 ?_
          refine x_goto (tgt := 122) hC dX11_both_118 (by decide) ?_
          refine x_sub [] rfl ?_
          exact j_X11_both_122_ok hB hd M hR
    · refine x_iload_n hC dX11_both_38 rfl 0 rfl ?_
      refine x_bipush (v := (6 : Int32)) hC dX11_both_39 kb_6 ?_
      refine x_si ?_
      refine x_icmp_ne (tgt := 57) hC dX11_both_41 (by decide) ?_ ?_
      · refine x_iload_n hC dX11_both_44 rfl 1 rfl ?_
        refine x_iload_n hC dX11_both_45 rfl 2 rfl ?_
        refine x_si ?_
        refine x_icmp_ge (tgt := 53) hC dX11_both_46 (by decide) ?_ ?_
        · refine x_iconst (v := (0 : Int32)) hC dX11_both_53 ki_0 ?_
          refine x_goto (tgt := 86) hC dX11_both_54 (by decide) ?_
          refine x_sub [] rfl ?_
          exact j_X11_both_86_ok hB hd M hR
        · refine x_iconst (v := (1 : Int32)) hC dX11_both_49 ki_1 ?_
          refine x_goto (tgt := 86) hC dX11_both_50 (by decide) ?_
          refine x_sub [] rfl ?_
          exact j_X11_both_86_ok hB hd M hR
      · refine x_iload_n hC dX11_both_57 rfl 0 rfl ?_
        refine x_bipush (v := (7 : Int32)) hC dX11_both_58 kb_7 ?_
        refine x_si ?_
        refine x_icmp_ne (tgt := 76) hC dX11_both_60 (by decide) ?_ ?_
        · refine x_iload_n hC dX11_both_63 rfl 1 rfl ?_
          refine x_iload_n hC dX11_both_64 rfl 2 rfl ?_
          refine x_si ?_
          refine x_icmp_ne (tgt := 72) hC dX11_both_65 (by decide) ?_ ?_
          · refine x_iconst (v := (1 : Int32)) hC dX11_both_68 ki_1 ?_
            refine x_goto (tgt := 86) hC dX11_both_69 (by decide) ?_
            refine x_sub [] rfl ?_
            exact j_X11_both_86_ok hB hd M hR
          · refine x_iconst (v := (0 : Int32)) hC dX11_both_72 ki_0 ?_
            refine x_goto (tgt := 86) hC dX11_both_73 (by decide) ?_
            refine x_sub [] rfl ?_
            exact j_X11_both_86_ok hB hd M hR
        · refine x_iload_n hC dX11_both_76 rfl 1 rfl ?_
          refine x_iload_n hC dX11_both_77 rfl 2 rfl ?_
          refine x_si ?_
          refine x_icmp_le (tgt := 85) hC dX11_both_78 (by decide) ?_ ?_
          · refine x_iconst (v := (0 : Int32)) hC dX11_both_85 ki_0 ?_
            refine x_sub [] rfl ?_
            exact j_X11_both_86_ok hB hd M hR
          · refine x_iconst (v := (1 : Int32)) hC dX11_both_81 ki_1 ?_
            refine x_goto (tgt := 86) hC dX11_both_82 (by decide) ?_
            refine x_sub [] rfl ?_
            exact j_X11_both_86_ok hB hd M hR
  · refine x_iload_n hC dX11_both_6 rfl 0 rfl ?_
    refine x_iconst (v := (2 : Int32)) hC dX11_both_7 ki_2 ?_
    refine x_si ?_
    refine x_icmp_ne (tgt := 17) hC dX11_both_8 (by decide) ?_ ?_
    · refine x_iload_n hC dX11_both_11 rfl 1 rfl ?_
      refine x_iload_n hC dX11_both_12 rfl 2 rfl ?_
      refine x_iadd hC dX11_both_13 ?_
      refine x_goto (tgt := 31) hC dX11_both_14 (by decide) ?_
      exact r_retI hR dX11_both_31 (fun h => congrArg (fun q => (q, M)) h)
    · refine x_iload_n hC dX11_both_17 rfl 0 rfl ?_
      refine x_iconst (v := (3 : Int32)) hC dX11_both_18 ki_3 ?_
      refine x_si ?_
      refine x_icmp_ne (tgt := 28) hC dX11_both_19 (by decide) ?_ ?_
      · refine x_iload_n hC dX11_both_22 rfl 1 rfl ?_
        refine x_iload_n hC dX11_both_23 rfl 2 rfl ?_
        refine x_isub hC dX11_both_24 ?_
        refine x_goto (tgt := 31) hC dX11_both_25 (by decide) ?_
        exact r_retI hR dX11_both_31 (fun h => congrArg (fun q => (q, M)) h)
      · refine x_iload_n hC dX11_both_28 rfl 1 rfl ?_
        refine x_iload_n hC dX11_both_29 rfl 2 rfl ?_
        refine x_imul hC dX11_both_30 ?_
        exact r_retI hR dX11_both_31 (fun h => congrArg (fun q => (q, M)) h)
theorem f_X11_both_met {l : Launch} {d : Nat} {g : zG} {w : zW} {M0 : zM} {p0 : Int32} {p1 : Int32} {p2 : Int32} {M : zM} (hw : wS w) (hd : 2 ≤ d) : zMet l yX11_both cX11_both 3 (some .int) d g w (zin false) M0 [.int p0, .int p1, .int p2] M (some (.int (f_X11_both p0 p1 p2))) M :=
  met_i (by decide +kernel) (Nat.le_of_ble_eq_true rfl) rfl (fun C hB0 hR => f_X11_both_ok ⟨hB0, hw⟩ hd M hR _ rfl rfl)
/-! WindingSquareModel.nextWord(I)I -/
noncomputable def b_X11_nextWord_20 (v2_20 : Int32) (v3_20 : Int32) (v4_20 : Int32) (M : zM) : Option ((Int32 × Int32) ⊕ (Unit ⊕ (Int32))) :=
  grd (inb v2_20 2425) (
  if (M 259 (ix v2_20)) ≤ v4_20 then (some (.inr (.inl ())))
  else (grd (inb ((v2_20 + (2 : Int32)) + ((2 : Int32) * v4_20)) 2425) (
  if (M 259 (ix ((v2_20 + (2 : Int32)) + ((2 : Int32) * v4_20)))) ≤ v3_20 then (grd (inb ((v2_20 + (2 : Int32)) + ((2 : Int32) * v4_20)) 2425) (
  nm (v3_20 - (M 259 (ix ((v2_20 + (2 : Int32)) + ((2 : Int32) * v4_20))))) fun v3_77_20 =>
  some (.inl (v3_77_20, (v4_20 + (1 : Int32))))))
  else (grd (inb ((v2_20 + (1 : Int32)) + ((2 : Int32) * v4_20)) 2425) (
  some (.inr (.inr (M 259 (ix ((v2_20 + (1 : Int32)) + ((2 : Int32) * v4_20)))))))))))
set_option maxRecDepth 100000 in
theorem b_X11_nextWord_20_ok {C : zC} {d : Nat} {g : zG} {l : Launch} {w : zW} {r : Int32} {v2_20 : Int32} {v3_20 : Int32} {v4_20 : Int32} (hB : bOK C cX11_nextWord 5 RX11 d g l w false) (hd : 2 ≤ d) (M : zM) (hR : RtI C cX11_nextWord w r M) : Sg C w (0, 0) 20 [(0, zr w 257), (2, .int v2_20), (3, .int v3_20), (4, .int v4_20)] [] M (b_X11_nextWord_20 v2_20 v3_20 v4_20 M) (fun o => Sum.elim (fun (s : (Int32 × Int32)) => Zs C w (0, 0) 20 [(0, zr w 257), (2, .int v2_20), (3, .int s.1), (4, .int s.2)] [] M) (fun q => Sum.elim (fun (s : Unit) => Zs C w (0, 0) 84 [] [] M) (fun q => q = r) q) o) := by
  have hC := hB.1.1
  have hq1 : 1 ≤ d := by omega
  unfold b_X11_nextWord_20
  refine x_iload hC dX11_nextWord_20 3 rfl ?_
  refine x_aload_n hC dX11_nextWord_22 rfl 0 rfl ?_
  refine r_getR hB dX11_nextWord_23 kf_X11_13 rfl th_257 rf_257_1 ?_
  refine x_iload_n hC dX11_nextWord_26 rfl 1 rfl ?_
  refine r_iald hB dX11_nextWord_27 th_259 ?_
  refine x_icmp_ge (tgt := 84) hC dX11_nextWord_28 (by decide) ?_ ?_
  · refine x_sub [] rfl ?_
    exact x_done (fun h => h)
  · refine x_iload_n hC dX11_nextWord_31 rfl 2 rfl ?_
    refine x_aload_n hC dX11_nextWord_32 rfl 0 rfl ?_
    refine r_getR hB dX11_nextWord_33 kf_X11_13 rfl th_257 rf_257_1 ?_
    refine x_iload_n hC dX11_nextWord_36 rfl 1 rfl ?_
    refine x_iconst (v := (2 : Int32)) hC dX11_nextWord_37 ki_2 ?_
    refine x_iadd hC dX11_nextWord_38 ?_
    refine x_iconst (v := (2 : Int32)) hC dX11_nextWord_39 ki_2 ?_
    refine x_iload hC dX11_nextWord_40 3 rfl ?_
    refine x_imul hC dX11_nextWord_42 ?_
    refine x_iadd hC dX11_nextWord_43 ?_
    refine r_iald hB dX11_nextWord_44 th_259 ?_
    refine x_icmp_ge (tgt := 62) hC dX11_nextWord_45 (by decide) ?_ ?_
    · refine x_iload_n hC dX11_nextWord_62 rfl 2 rfl ?_
      refine x_aload_n hC dX11_nextWord_63 rfl 0 rfl ?_
      refine r_getR hB dX11_nextWord_64 kf_X11_13 rfl th_257 rf_257_1 ?_
      refine x_iload_n hC dX11_nextWord_67 rfl 1 rfl ?_
      refine x_iconst (v := (2 : Int32)) hC dX11_nextWord_68 ki_2 ?_
      refine x_iadd hC dX11_nextWord_69 ?_
      refine x_iconst (v := (2 : Int32)) hC dX11_nextWord_70 ki_2 ?_
      refine x_iload hC dX11_nextWord_71 3 rfl ?_
      refine x_imul hC dX11_nextWord_73 ?_
      refine x_iadd hC dX11_nextWord_74 ?_
      refine r_iald hB dX11_nextWord_75 th_259 ?_
      refine x_isub hC dX11_nextWord_76 ?_
      refine x_top (fun v3_77_20 => ?_)
      refine x_istore_n hC dX11_nextWord_77 rfl [(3, .int v3_77_20), (0, zr w 257), (2, .int v2_20), (4, .int v4_20)] (by decide) rfl ?_
      refine x_iinc hC dX11_nextWord_78 ki_1 [(4, .int (v4_20 + (1 : Int32))), (3, .int v3_77_20), (0, zr w 257), (2, .int v2_20)] 3 rfl (by decide) rfl ?_
      refine x_goto (tgt := 20) hC dX11_nextWord_81 (by decide) ?_
      refine x_sub [2, 3, 1, 0] rfl ?_
      exact x_done (fun h => h)
    · refine x_aload_n hC dX11_nextWord_48 rfl 0 rfl ?_
      refine r_getR hB dX11_nextWord_49 kf_X11_13 rfl th_257 rf_257_1 ?_
      refine x_iload_n hC dX11_nextWord_52 rfl 1 rfl ?_
      refine x_iconst (v := (1 : Int32)) hC dX11_nextWord_53 ki_1 ?_
      refine x_iadd hC dX11_nextWord_54 ?_
      refine x_iconst (v := (2 : Int32)) hC dX11_nextWord_55 ki_2 ?_
      refine x_iload hC dX11_nextWord_56 3 rfl ?_
      refine x_imul hC dX11_nextWord_58 ?_
      refine x_iadd hC dX11_nextWord_59 ?_
      refine r_iald hB dX11_nextWord_60 th_259 ?_
      exact r_retI hR dX11_nextWord_61 (fun h => congrArg (fun q => (q, M)) h)
noncomputable def j_X11_nextWord_84 (M : zM) : Option (Int32) :=
  some (3 : Int32)
set_option maxRecDepth 100000 in
theorem j_X11_nextWord_84_ok {C : zC} {d : Nat} {g : zG} {l : Launch} {w : zW} {r : Int32} (hB : bOK C cX11_nextWord 5 RX11 d g l w false) (hd : 2 ≤ d) (M : zM) (hR : RtI C cX11_nextWord w r M) : Sg C w (0, 0) 84 [] [] M (j_X11_nextWord_84 M) (fun q => q = r) := by
  have hC := hB.1.1
  have hq1 : 1 ≤ d := by omega
  unfold j_X11_nextWord_84
  refine x_iconst (v := (3 : Int32)) hC dX11_nextWord_84 ki_3 ?_
  exact r_retI hR dX11_nextWord_85 (fun h => congrArg (fun q => (q, M)) h)
noncomputable def f_X11_nextWord (p1 : Int32) (M : zM) : Option (Int32) :=
  nm ((1925 : Int32) + ((25 : Int32) * p1)) fun v2_8 =>
  (f_X11_has p1 (8 : Int32) M).bind fun u13 =>
  (loopW (fun s => b_X11_nextWord_20 v2_8 s.1 s.2 M) (u13, (0 : Int32))).bind (fun q => Sum.elim (fun r => j_X11_nextWord_84 M) some q)
set_option maxRecDepth 100000 in
theorem f_X11_nextWord_ok {C : zC} {d : Nat} {g : zG} {l : Launch} {w : zW} {r : Int32} {p1 : Int32} (hB : bOK C cX11_nextWord 5 RX11 d g l w false) (hd : 2 ≤ d) (M : zM) (hR : RtI C cX11_nextWord w r M) : Sg C w (0, 0) 0 [(0, zr w 257), (1, .int p1)] [] M (f_X11_nextWord p1 M) (fun q => q = r) := by
  have hC := hB.1.1
  have hq1 : 1 ≤ d := by omega
  unfold f_X11_nextWord
  refine x_sipush (v := (1925 : Int32)) hC dX11_nextWord_0 kh_1925 ?_
  refine x_bipush (v := (25 : Int32)) hC dX11_nextWord_3 kb_25 ?_
  refine x_iload_n hC dX11_nextWord_5 rfl 1 rfl ?_
  refine x_imul hC dX11_nextWord_6 ?_
  refine x_iadd hC dX11_nextWord_7 ?_
  refine x_top (fun v2_8 => ?_)
  refine x_istore_n hC dX11_nextWord_8 rfl [(2, .int v2_8), (0, zr w 257), (1, .int p1)] (by decide) rfl ?_
  refine x_aload_n hC dX11_nextWord_9 rfl 1 rfl ?_
  refine x_iload_n hC dX11_nextWord_10 rfl 2 rfl ?_
  refine x_bipush (v := (8 : Int32)) hC dX11_nextWord_11 kb_8 ?_
  refine r_cV1 (as := [.int p1, .int (8 : Int32)]) (rest := []) hB dX11_nextWord_13 kv_X11_104 th_257 hq1 rfl rfl (Nat.le_of_ble_eq_true rfl) (fun v hv => f_X11_has_met hB.2 (by omega) hv) (fun u13 => ?_)
  refine x_istore_n hC dX11_nextWord_16 rfl [(3, .int u13), (2, .int v2_8), (0, zr w 257), (1, .int p1)] (by decide) rfl ?_
  refine x_iconst (v := (0 : Int32)) hC dX11_nextWord_17 ki_0 ?_
  refine x_istore (f := 0) hC dX11_nextWord_18 [(4, .int (0 : Int32)), (3, .int u13), (2, .int v2_8), (0, zr w 257), (1, .int p1)] (by decide) rfl ?_
  refine x_sub [3, 2, 1, 0] rfl ?_
  refine x_loopR (pc2 := 84) (fun (s : (Int32 × Int32)) => [(0, zr w 257), (2, .int v2_8), (3, .int s.1), (4, .int s.2)]) (fun (s : (Int32 × Int32)) => M) (fun (s : Unit) => []) (fun (s : Unit) => M) (u13, (0 : Int32)) ?_ ?_
  · exact fun s => b_X11_nextWord_20_ok hB hd M hR
  · intro r9
    exact j_X11_nextWord_84_ok hB hd M hR
theorem f_X11_nextWord_met {l : Launch} {d : Nat} {g : zG} {w : zW} {M0 : zM} {p1 : Int32} {M : zM} (hw : wS w) (hd : 2 ≤ d) {v : Int32} (h : f_X11_nextWord p1 M = some v) : zMet l yX11_nextWord cX11_nextWord 5 (some .int) d g w (zin false) M0 [zr w 257, .int p1] M (some (.int v)) M :=
  met_i (by decide +kernel) (Nat.le_of_ble_eq_true rfl) rfl (fun C hB0 hR => f_X11_nextWord_ok ⟨hB0, hw⟩ hd M hR _ h rfl)
/-! WindingSquareModel.sumOf(I)I -/
noncomputable def b_X11_sumOf_4 (v1_4 : Int32) (v2_4 : Int32) (v3_4 : Int32) (M : zM) : Option ((Int32 × Int32) ⊕ (Int32)) :=
  if (M 259 (ix (940 : Int32))) ≤ v3_4 then (some (.inr v2_4))
  else ((f_X11_has v3_4 v1_4 M).bind fun u20_4 =>
  nm (v2_4 + u20_4) fun v2_24_4 =>
  some (.inl (v2_24_4, (v3_4 + (1 : Int32)))))
set_option maxRecDepth 100000 in
theorem b_X11_sumOf_4_ok {C : zC} {d : Nat} {g : zG} {l : Launch} {w : zW} {r : Int32} {v1_4 : Int32} {v2_4 : Int32} {v3_4 : Int32} (hB : bOK C cX11_sumOf 4 RX11 d g l w false) (hd : 2 ≤ d) (M : zM) (hR : RtI C cX11_sumOf w r M) : Sg C w (0, 0) 4 [(0, zr w 257), (1, .int v1_4), (2, .int v2_4), (3, .int v3_4)] [] M (b_X11_sumOf_4 v1_4 v2_4 v3_4 M) (fun o => Sum.elim (fun (s : (Int32 × Int32)) => Zs C w (0, 0) 4 [(0, zr w 257), (1, .int v1_4), (2, .int s.1), (3, .int s.2)] [] M) (fun (s : (Int32)) => Zs C w (0, 0) 31 [(2, .int s)] [] M) o) := by
  have hC := hB.1.1
  have hq1 : 1 ≤ d := by omega
  unfold b_X11_sumOf_4
  refine x_iload_n hC dX11_sumOf_4 rfl 3 rfl ?_
  refine x_aload_n hC dX11_sumOf_5 rfl 0 rfl ?_
  refine r_getR hB dX11_sumOf_6 kf_X11_13 rfl th_257 rf_257_1 ?_
  refine x_sipush (v := (940 : Int32)) hC dX11_sumOf_9 kh_940 ?_
  refine r_iald0 hB dX11_sumOf_12 th_259 ib_940_2425 ?_
  refine x_icmp_ge (tgt := 31) hC dX11_sumOf_13 (by decide) ?_ ?_
  · refine x_sub [2] rfl ?_
    exact x_done (fun h => h)
  · refine x_iload_n hC dX11_sumOf_16 rfl 2 rfl ?_
    refine x_aload_n hC dX11_sumOf_17 rfl 0 rfl ?_
    refine x_iload_n hC dX11_sumOf_18 rfl 3 rfl ?_
    refine x_iload_n hC dX11_sumOf_19 rfl 1 rfl ?_
    refine r_cV1 (as := [.int v3_4, .int v1_4]) (rest := [.int v2_4]) hB dX11_sumOf_20 kv_X11_104 th_257 hq1 rfl rfl (Nat.le_of_ble_eq_true rfl) (fun v hv => f_X11_has_met hB.2 (by omega) hv) (fun u20_4 => ?_)
    refine x_iadd hC dX11_sumOf_23 ?_
    refine x_top (fun v2_24_4 => ?_)
    refine x_istore_n hC dX11_sumOf_24 rfl [(2, .int v2_24_4), (0, zr w 257), (1, .int v1_4), (3, .int v3_4)] (by decide) rfl ?_
    refine x_iinc hC dX11_sumOf_25 ki_1 [(3, .int (v3_4 + (1 : Int32))), (2, .int v2_24_4), (0, zr w 257), (1, .int v1_4)] 3 rfl (by decide) rfl ?_
    refine x_goto (tgt := 4) hC dX11_sumOf_28 (by decide) ?_
    refine x_sub [2, 3, 1, 0] rfl ?_
    exact x_done (fun h => h)
noncomputable def j_X11_sumOf_31 (v2_31 : Int32) (M : zM) : Option (Int32) :=
  some v2_31
set_option maxRecDepth 100000 in
theorem j_X11_sumOf_31_ok {C : zC} {d : Nat} {g : zG} {l : Launch} {w : zW} {r : Int32} {v2_31 : Int32} (hB : bOK C cX11_sumOf 4 RX11 d g l w false) (hd : 2 ≤ d) (M : zM) (hR : RtI C cX11_sumOf w r M) : Sg C w (0, 0) 31 [(2, .int v2_31)] [] M (j_X11_sumOf_31 v2_31 M) (fun q => q = r) := by
  have hC := hB.1.1
  have hq1 : 1 ≤ d := by omega
  unfold j_X11_sumOf_31
  refine x_iload_n hC dX11_sumOf_31 rfl 0 rfl ?_
  exact r_retI hR dX11_sumOf_32 (fun h => congrArg (fun q => (q, M)) h)
noncomputable def f_X11_sumOf (p1 : Int32) (M : zM) : Option (Int32) :=
  (loopW (fun s => b_X11_sumOf_4 p1 s.1 s.2 M) ((0 : Int32), (0 : Int32))).bind (fun r => j_X11_sumOf_31 r M)
set_option maxRecDepth 100000 in
theorem f_X11_sumOf_ok {C : zC} {d : Nat} {g : zG} {l : Launch} {w : zW} {r : Int32} {p1 : Int32} (hB : bOK C cX11_sumOf 4 RX11 d g l w false) (hd : 2 ≤ d) (M : zM) (hR : RtI C cX11_sumOf w r M) : Sg C w (0, 0) 0 [(0, zr w 257), (1, .int p1)] [] M (f_X11_sumOf p1 M) (fun q => q = r) := by
  have hC := hB.1.1
  have hq1 : 1 ≤ d := by omega
  unfold f_X11_sumOf
  refine x_iconst (v := (0 : Int32)) hC dX11_sumOf_0 ki_0 ?_
  refine x_istore_n hC dX11_sumOf_1 rfl [(2, .int (0 : Int32)), (0, zr w 257), (1, .int p1)] (by decide) rfl ?_
  refine x_iconst (v := (0 : Int32)) hC dX11_sumOf_2 ki_0 ?_
  refine x_istore_n hC dX11_sumOf_3 rfl [(3, .int (0 : Int32)), (2, .int (0 : Int32)), (0, zr w 257), (1, .int p1)] (by decide) rfl ?_
  refine x_sub [2, 3, 1, 0] rfl ?_
  refine x_loopB (pc2 := 31) (fun (s : (Int32 × Int32)) => [(0, zr w 257), (1, .int p1), (2, .int s.1), (3, .int s.2)]) (fun (s : (Int32 × Int32)) => M) (fun (s : (Int32)) => [(2, .int s)]) (fun (s : (Int32)) => M) ((0 : Int32), (0 : Int32)) ?_ ?_
  · exact fun s => b_X11_sumOf_4_ok hB hd M hR
  · intro r9
    exact j_X11_sumOf_31_ok hB hd M hR
theorem f_X11_sumOf_met {l : Launch} {d : Nat} {g : zG} {w : zW} {M0 : zM} {p1 : Int32} {M : zM} (hw : wS w) (hd : 2 ≤ d) {v : Int32} (h : f_X11_sumOf p1 M = some v) : zMet l yX11_sumOf cX11_sumOf 4 (some .int) d g w (zin false) M0 [zr w 257, .int p1] M (some (.int v)) M :=
  met_i (by decide +kernel) (Nat.le_of_ble_eq_true rfl) rfl (fun C hB0 hR => f_X11_sumOf_ok ⟨hB0, hw⟩ hd M hR _ h rfl)
/-! WindingSquareModel.walker(I)I -/
noncomputable def f_X11_walker (p1 : Int32) (M : zM) : Option (Int32 × zM) :=
  if (f_X11_within p1 (0 : Int32) (9 : Int32)) = 0 then (some ((-1 : Int32), M))
  else (if (M 258 (ix (940 : Int32))) = (16 : Int32) then (some ((-1 : Int32), M))
  else (grd (inb (((144 : Int32) + ((12 : Int32) * (M 258 (ix (940 : Int32))))) + (0 : Int32)) 2425) (
  nm (mset M 258 (ix (((144 : Int32) + ((12 : Int32) * (M 258 (ix (940 : Int32))))) + (0 : Int32))) p1) fun M47 =>
  nm (mset M47 258 (ix (940 : Int32)) ((M47 258 (ix (940 : Int32))) + (1 : Int32))) fun M59 =>
  nm (mset M59 257 4 (0 : Int32)) fun M62 =>
  some (((M62 258 (ix (940 : Int32))) - (1 : Int32)), M62))))
set_option maxRecDepth 100000 in
theorem f_X11_walker_ok {C : zC} {d : Nat} {g : zG} {l : Launch} {w : zW} {r : Int32 × zM} {p1 : Int32} (hB : bOK C cX11_walker 2 RX11 d g l w false) (hd : 2 ≤ d) (M : zM) (hR : RtI C cX11_walker w r.1 r.2) : Sg C w (0, 0) 0 [(0, zr w 257), (1, .int p1)] [] M (f_X11_walker p1 M) (fun q => q = r) := by
  have hC := hB.1.1
  have hq1 : 1 ≤ d := by omega
  unfold f_X11_walker
  refine x_iload_n hC dX11_walker_0 rfl 1 rfl ?_
  refine x_iconst (v := (0 : Int32)) hC dX11_walker_1 ki_0 ?_
  refine x_bipush (v := (9 : Int32)) hC dX11_walker_2 kb_9 ?_
  refine r_cS0 (as := [.int p1, .int (0 : Int32), .int (9 : Int32)]) (rest := []) hB dX11_walker_4 ks_X11_100 hq1 rfl rfl (Nat.le_of_ble_eq_true rfl) (f_X11_within_met hB.2 (by omega)) ?_
  refine x_if_eq (tgt := 23) hC dX11_walker_7 (by decide) ?_ ?_
  · refine x_iconst (v := (-1 : Int32)) hC dX11_walker_23 ki_m1 ?_
    exact r_retI hR dX11_walker_24 (fun h => h)
  · refine x_aload_n hC dX11_walker_10 rfl 0 rfl ?_
    refine r_getR hB dX11_walker_11 kf_X11_9 rfl th_257 rf_257_0 ?_
    refine x_sipush (v := (940 : Int32)) hC dX11_walker_14 kh_940 ?_
    refine r_iald0 hB dX11_walker_17 th_258 ib_940_2425 ?_
    refine x_bipush (v := (16 : Int32)) hC dX11_walker_18 kb_16 ?_
    refine x_icmp_ne (tgt := 25) hC dX11_walker_20 (by decide) ?_ ?_
    · refine x_iconst (v := (-1 : Int32)) hC dX11_walker_23 ki_m1 ?_
      exact r_retI hR dX11_walker_24 (fun h => h)
    · refine x_aload_n hC dX11_walker_25 rfl 0 rfl ?_
      refine r_getR hB dX11_walker_26 kf_X11_9 rfl th_257 rf_257_0 ?_
      refine x_sipush (v := (144 : Int32)) hC dX11_walker_29 kh_144 ?_
      refine x_bipush (v := (12 : Int32)) hC dX11_walker_32 kb_12 ?_
      refine x_aload_n hC dX11_walker_34 rfl 0 rfl ?_
      refine r_getR hB dX11_walker_35 kf_X11_9 rfl th_257 rf_257_0 ?_
      refine x_sipush (v := (940 : Int32)) hC dX11_walker_38 kh_940 ?_
      refine r_iald0 hB dX11_walker_41 th_258 ib_940_2425 ?_
      refine x_imul hC dX11_walker_42 ?_
      refine x_iadd hC dX11_walker_43 ?_
      refine x_iconst (v := (0 : Int32)) hC dX11_walker_44 ki_0 ?_
      refine x_iadd hC dX11_walker_45 ?_
      refine x_iload_n hC dX11_walker_46 rfl 1 rfl ?_
      refine r_iast hB dX11_walker_47 th_258 ?_
      refine x_mem (fun M47 => ?_)
      refine x_aload_n hC dX11_walker_48 rfl 0 rfl ?_
      refine r_getR hB dX11_walker_49 kf_X11_9 rfl th_257 rf_257_0 ?_
      refine x_sipush (v := (940 : Int32)) hC dX11_walker_52 kh_940 ?_
      refine x_dup2 hC dX11_walker_55 rfl rfl ?_
      refine r_iald0 hB dX11_walker_56 th_258 ib_940_2425 ?_
      refine x_iconst (v := (1 : Int32)) hC dX11_walker_57 ki_1 ?_
      refine x_iadd hC dX11_walker_58 ?_
      refine r_iast0 hB dX11_walker_59 th_258 ib_940_2425 ?_
      refine x_mem (fun M59 => ?_)
      refine x_aload_n hC dX11_walker_60 rfl 0 rfl ?_
      refine x_iconst (v := (0 : Int32)) hC dX11_walker_61 ki_0 ?_
      refine r_putI hB dX11_walker_62 kf_X11_94 rfl th_257 ?_
      refine x_mem (fun M62 => ?_)
      refine x_aload_n hC dX11_walker_65 rfl 0 rfl ?_
      refine r_getR hB dX11_walker_66 kf_X11_9 rfl th_257 rf_257_0 ?_
      refine x_sipush (v := (940 : Int32)) hC dX11_walker_69 kh_940 ?_
      refine r_iald0 hB dX11_walker_72 th_258 ib_940_2425 ?_
      refine x_iconst (v := (1 : Int32)) hC dX11_walker_73 ki_1 ?_
      refine x_isub hC dX11_walker_74 ?_
      exact r_retI hR dX11_walker_75 (fun h => h)
theorem f_X11_walker_met {l : Launch} {d : Nat} {g : zG} {w : zW} {M0 : zM} {p1 : Int32} {M : zM} (hw : wS w) (hd : 2 ≤ d) {v : Int32} {M' : zM} (h : f_X11_walker p1 M = some (v, M')) : zMet l yX11_walker cX11_walker 2 (some .int) d g w (zin false) M0 [zr w 257, .int p1] M (some (.int v)) M' :=
  met_i (by decide +kernel) (Nat.le_of_ble_eq_true rfl) rfl (fun C hB0 hR => f_X11_walker_ok (r := (v, M')) ⟨hB0, hw⟩ hd M hR _ h rfl)
/-! WindingSquareModel.isWalker(I)Z -/
noncomputable def f_X11_isWalker (p1 : Int32) (M : zM) : Option (Int32) :=
  grd (isB (f_X11_within p1 (0 : Int32) ((M 258 (ix (940 : Int32))) - (1 : Int32)))) (some (f_X11_within p1 (0 : Int32) ((M 258 (ix (940 : Int32))) - (1 : Int32))))
set_option maxRecDepth 100000 in
theorem f_X11_isWalker_ok {C : zC} {d : Nat} {g : zG} {l : Launch} {w : zW} {r : Int32} {p1 : Int32} (hB : bOK C cX11_isWalker 2 RX11 d g l w false) (hd : 2 ≤ d) (M : zM) (hR : RtZ C cX11_isWalker w r M) : Sg C w (0, 0) 0 [(0, zr w 257), (1, .int p1)] [] M (f_X11_isWalker p1 M) (fun q => q = r) := by
  have hC := hB.1.1
  have hq1 : 1 ≤ d := by omega
  unfold f_X11_isWalker
  refine x_iload_n hC dX11_isWalker_0 rfl 1 rfl ?_
  refine x_iconst (v := (0 : Int32)) hC dX11_isWalker_1 ki_0 ?_
  refine x_aload_n hC dX11_isWalker_2 rfl 0 rfl ?_
  refine r_getR hB dX11_isWalker_3 kf_X11_9 rfl th_257 rf_257_0 ?_
  refine x_sipush (v := (940 : Int32)) hC dX11_isWalker_6 kh_940 ?_
  refine r_iald0 hB dX11_isWalker_9 th_258 ib_940_2425 ?_
  refine x_iconst (v := (1 : Int32)) hC dX11_isWalker_10 ki_1 ?_
  refine x_isub hC dX11_isWalker_11 ?_
  refine r_cS0 (as := [.int p1, .int (0 : Int32), .int ((M 258 (ix (940 : Int32))) - (1 : Int32))]) (rest := []) hB dX11_isWalker_12 ks_X11_100 hq1 rfl rfl (Nat.le_of_ble_eq_true rfl) (f_X11_within_met hB.2 (by omega)) ?_
  refine x_grd (fun hb => ?_)
  exact r_retZ hR dX11_isWalker_15 hb (fun h => congrArg (fun q => (q, M)) h)
theorem f_X11_isWalker_met {l : Launch} {d : Nat} {g : zG} {w : zW} {M0 : zM} {p1 : Int32} {M : zM} (hw : wS w) (hd : 2 ≤ d) {v : Int32} (h : f_X11_isWalker p1 M = some v) : zMet l yX11_isWalker cX11_isWalker 2 (some .boolean) d g w (zin false) M0 [zr w 257, .int p1] M (some (.int v)) M :=
  met_z (by decide +kernel) (Nat.le_of_ble_eq_true rfl) (fun C hB0 hR => f_X11_isWalker_ok ⟨hB0, hw⟩ hd M hR _ h rfl)
/-! WindingSquareModel.image(Z)Z -/
noncomputable def f_X11_image (p1 : Int32) (M : zM) : Option (Int32 × zM) :=
  if p1 = 0 then (if (M 257 5) = 0 then (grd (isB (M 257 5)) (some ((M 257 5), M)))
  else ((f_X11_copies 260 258 (2425 : Int32) M).bind fun M44 =>
  nm (mset M44 257 4 (0 : Int32)) fun M49 =>
  grd (isB (M49 257 5)) (some ((M49 257 5), M49))))
  else ((f_X11_copies 258 260 (2425 : Int32) M).bind fun M15 =>
  nm (mset M15 257 5 (1 : Int32)) fun M20 =>
  grd (isB (M20 257 5)) (some ((M20 257 5), M20)))
set_option maxRecDepth 100000 in
theorem f_X11_image_ok {C : zC} {d : Nat} {g : zG} {l : Launch} {w : zW} {r : Int32 × zM} {p1 : Int32} (hB : bOK C cX11_image 2 RX11 d g l w false) (hd : 2 ≤ d) (M : zM) (hR : RtZ C cX11_image w r.1 r.2) : Sg C w (0, 0) 0 [(0, zr w 257), (1, .int p1)] [] M (f_X11_image p1 M) (fun q => q = r) := by
  have hC := hB.1.1
  have hq1 : 1 ≤ d := by omega
  unfold f_X11_image
  refine x_iload_n hC dX11_image_0 rfl 1 rfl ?_
  refine x_if_eq (tgt := 26) hC dX11_image_1 (by decide) ?_ ?_
  · refine x_aload_n hC dX11_image_26 rfl 0 rfl ?_
    refine r_getI hB dX11_image_27 kf_X11_325 rfl th_257 ?_
    refine x_if_eq (tgt := 52) hC dX11_image_30 (by decide) ?_ ?_
    · refine x_aload_n hC dX11_image_52 rfl 0 rfl ?_
      refine r_getI hB dX11_image_53 kf_X11_325 rfl th_257 ?_
      refine x_grd (fun hb => ?_)
      exact r_retZ hR dX11_image_56 hb (fun h => h)
    · refine x_aload_n hC dX11_image_33 rfl 0 rfl ?_
      refine r_getR hB dX11_image_34 kf_X11_16 rfl th_257 rf_257_2 ?_
      refine x_aload_n hC dX11_image_37 rfl 0 rfl ?_
      refine r_getR hB dX11_image_38 kf_X11_9 rfl th_257 rf_257_0 ?_
      refine x_sipush (v := (2425 : Int32)) hC dX11_image_41 kh_2425 ?_
      refine r_cSv (as := [zr w 260, zr w 258, .int (2425 : Int32)]) (rest := []) hB dX11_image_44 ks_X11_86 hq1 rfl rfl (Nat.le_of_ble_eq_true rfl) (fun M' hv => f_X11_copies_met hB.2 (tA.toI th_260) (tA.toI th_258) (by omega) hv) (fun M44 => ?_)
      refine x_aload_n hC dX11_image_47 rfl 0 rfl ?_
      refine x_iconst (v := (0 : Int32)) hC dX11_image_48 ki_0 ?_
      refine r_putI hB dX11_image_49 kf_X11_94 rfl th_257 ?_
      refine x_mem (fun M49 => ?_)
      refine x_aload_n hC dX11_image_52 rfl 0 rfl ?_
      refine r_getI hB dX11_image_53 kf_X11_325 rfl th_257 ?_
      refine x_grd (fun hb => ?_)
      exact r_retZ hR dX11_image_56 hb (fun h => h)
  · refine x_aload_n hC dX11_image_4 rfl 0 rfl ?_
    refine r_getR hB dX11_image_5 kf_X11_9 rfl th_257 rf_257_0 ?_
    refine x_aload_n hC dX11_image_8 rfl 0 rfl ?_
    refine r_getR hB dX11_image_9 kf_X11_16 rfl th_257 rf_257_2 ?_
    refine x_sipush (v := (2425 : Int32)) hC dX11_image_12 kh_2425 ?_
    refine r_cSv (as := [zr w 258, zr w 260, .int (2425 : Int32)]) (rest := []) hB dX11_image_15 ks_X11_86 hq1 rfl rfl (Nat.le_of_ble_eq_true rfl) (fun M' hv => f_X11_copies_met hB.2 (tA.toI th_258) (tA.toI th_260) (by omega) hv) (fun M15 => ?_)
    refine x_aload_n hC dX11_image_18 rfl 0 rfl ?_
    refine x_iconst (v := (1 : Int32)) hC dX11_image_19 ki_1 ?_
    refine r_putZ hB dX11_image_20 kf_X11_325 rfl th_257 (Or.inr rfl) ?_
    refine x_mem (fun M20 => ?_)
    refine x_goto (tgt := 52) hC dX11_image_23 (by decide) ?_
    refine x_aload_n hC dX11_image_52 rfl 0 rfl ?_
    refine r_getI hB dX11_image_53 kf_X11_325 rfl th_257 ?_
    refine x_grd (fun hb => ?_)
    exact r_retZ hR dX11_image_56 hb (fun h => h)
theorem f_X11_image_met {l : Launch} {d : Nat} {g : zG} {w : zW} {M0 : zM} {p1 : Int32} {M : zM} (hw : wS w) (hd : 2 ≤ d) {v : Int32} {M' : zM} (h : f_X11_image p1 M = some (v, M')) : zMet l yX11_image cX11_image 2 (some .boolean) d g w (zin false) M0 [zr w 257, .int p1] M (some (.int v)) M' :=
  met_z (by decide +kernel) (Nat.le_of_ble_eq_true rfl) (fun C hB0 hR => f_X11_image_ok (r := (v, M')) ⟨hB0, hw⟩ hd M hR _ h rfl)
/-! WindingSquareModel.book(II)I -/
noncomputable def f_X11_book (p1 : Int32) (p2 : Int32) (M : zM) : Option (Int32) :=
  if (f_X11_within p1 (0 : Int32) ((M 258 (ix (939 : Int32))) - (1 : Int32))) = 0 then (some (-1 : Int32))
  else (if (f_X11_within p2 (0 : Int32) (3 : Int32)) = 0 then (some (-1 : Int32))
  else (grd (inb (((336 : Int32) + ((4 : Int32) * p1)) + p2) 2425) (
  some (M 258 (ix (((336 : Int32) + ((4 : Int32) * p1)) + p2))))))
set_option maxRecDepth 100000 in
theorem f_X11_book_ok {C : zC} {d : Nat} {g : zG} {l : Launch} {w : zW} {r : Int32} {p1 : Int32} {p2 : Int32} (hB : bOK C cX11_book 3 RX11 d g l w false) (hd : 2 ≤ d) (M : zM) (hR : RtI C cX11_book w r M) : Sg C w (0, 0) 0 [(0, zr w 257), (1, .int p1), (2, .int p2)] [] M (f_X11_book p1 p2 M) (fun q => q = r) := by
  have hC := hB.1.1
  have hq1 : 1 ≤ d := by omega
  unfold f_X11_book
  refine x_iload_n hC dX11_book_0 rfl 1 rfl ?_
  refine x_iconst (v := (0 : Int32)) hC dX11_book_1 ki_0 ?_
  refine x_aload_n hC dX11_book_2 rfl 0 rfl ?_
  refine r_getR hB dX11_book_3 kf_X11_9 rfl th_257 rf_257_0 ?_
  refine x_sipush (v := (939 : Int32)) hC dX11_book_6 kh_939 ?_
  refine r_iald0 hB dX11_book_9 th_258 ib_939_2425 ?_
  refine x_iconst (v := (1 : Int32)) hC dX11_book_10 ki_1 ?_
  refine x_isub hC dX11_book_11 ?_
  refine r_cS0 (as := [.int p1, .int (0 : Int32), .int ((M 258 (ix (939 : Int32))) - (1 : Int32))]) (rest := []) hB dX11_book_12 ks_X11_100 hq1 rfl rfl (Nat.le_of_ble_eq_true rfl) (f_X11_within_met hB.2 (by omega)) ?_
  refine x_if_eq (tgt := 44) hC dX11_book_15 (by decide) ?_ ?_
  · refine x_iconst (v := (-1 : Int32)) hC dX11_book_44 ki_m1 ?_
    exact r_retI hR dX11_book_45 (fun h => congrArg (fun q => (q, M)) h)
  · refine x_iload_n hC dX11_book_18 rfl 2 rfl ?_
    refine x_iconst (v := (0 : Int32)) hC dX11_book_19 ki_0 ?_
    refine x_iconst (v := (3 : Int32)) hC dX11_book_20 ki_3 ?_
    refine r_cS0 (as := [.int p2, .int (0 : Int32), .int (3 : Int32)]) (rest := []) hB dX11_book_21 ks_X11_100 hq1 rfl rfl (Nat.le_of_ble_eq_true rfl) (f_X11_within_met hB.2 (by omega)) ?_
    refine x_if_eq (tgt := 44) hC dX11_book_24 (by decide) ?_ ?_
    · refine x_iconst (v := (-1 : Int32)) hC dX11_book_44 ki_m1 ?_
      exact r_retI hR dX11_book_45 (fun h => congrArg (fun q => (q, M)) h)
    · refine x_aload_n hC dX11_book_27 rfl 0 rfl ?_
      refine r_getR hB dX11_book_28 kf_X11_9 rfl th_257 rf_257_0 ?_
      refine x_sipush (v := (336 : Int32)) hC dX11_book_31 kh_336 ?_
      refine x_iconst (v := (4 : Int32)) hC dX11_book_34 ki_4 ?_
      refine x_iload_n hC dX11_book_35 rfl 1 rfl ?_
      refine x_imul hC dX11_book_36 ?_
      refine x_iadd hC dX11_book_37 ?_
      refine x_iload_n hC dX11_book_38 rfl 2 rfl ?_
      refine x_iadd hC dX11_book_39 ?_
      refine r_iald hB dX11_book_40 th_258 ?_
      refine x_goto (tgt := 45) hC dX11_book_41 (by decide) ?_
      exact r_retI hR dX11_book_45 (fun h => congrArg (fun q => (q, M)) h)
theorem f_X11_book_met {l : Launch} {d : Nat} {g : zG} {w : zW} {M0 : zM} {p1 : Int32} {p2 : Int32} {M : zM} (hw : wS w) (hd : 2 ≤ d) {v : Int32} (h : f_X11_book p1 p2 M = some v) : zMet l yX11_book cX11_book 3 (some .int) d g w (zin false) M0 [zr w 257, .int p1, .int p2] M (some (.int v)) M :=
  met_i (by decide +kernel) (Nat.le_of_ble_eq_true rfl) rfl (fun C hB0 hR => f_X11_book_ok ⟨hB0, hw⟩ hd M hR _ h rfl)
/-! WindingSquareModel.isGround(I)Z -/
noncomputable def f_X11_isGround (p1 : Int32) (M : zM) : Option (Int32) :=
  if (f_X11_within p1 (0 : Int32) (143 : Int32)) = 0 then (some (0 : Int32))
  else (grd (inb p1 2425) (
  if (M 258 (ix p1)) = (1 : Int32) then (some (0 : Int32))
  else (some (1 : Int32))))
set_option maxRecDepth 100000 in
theorem f_X11_isGround_ok {C : zC} {d : Nat} {g : zG} {l : Launch} {w : zW} {r : Int32} {p1 : Int32} (hB : bOK C cX11_isGround 2 RX11 d g l w false) (hd : 2 ≤ d) (M : zM) (hR : RtZ C cX11_isGround w r M) : Sg C w (0, 0) 0 [(0, zr w 257), (1, .int p1)] [] M (f_X11_isGround p1 M) (fun q => q = r) := by
  have hC := hB.1.1
  have hq1 : 1 ≤ d := by omega
  unfold f_X11_isGround
  refine x_iload_n hC dX11_isGround_0 rfl 1 rfl ?_
  refine x_iconst (v := (0 : Int32)) hC dX11_isGround_1 ki_0 ?_
  refine x_sipush (v := (143 : Int32)) hC dX11_isGround_2 kh_143 ?_
  refine r_cS0 (as := [.int p1, .int (0 : Int32), .int (143 : Int32)]) (rest := []) hB dX11_isGround_5 ks_X11_100 hq1 rfl rfl (Nat.le_of_ble_eq_true rfl) (f_X11_within_met hB.2 (by omega)) ?_
  refine x_if_eq (tgt := 25) hC dX11_isGround_8 (by decide) ?_ ?_
  · refine x_iconst (v := (0 : Int32)) hC dX11_isGround_25 ki_0 ?_
    exact r_retZ hR dX11_isGround_26 (Or.inl rfl) (fun h => congrArg (fun q => (q, M)) h)
  · refine x_aload_n hC dX11_isGround_11 rfl 0 rfl ?_
    refine r_getR hB dX11_isGround_12 kf_X11_9 rfl th_257 rf_257_0 ?_
    refine x_iload_n hC dX11_isGround_15 rfl 1 rfl ?_
    refine r_iald hB dX11_isGround_16 th_258 ?_
    refine x_iconst (v := (1 : Int32)) hC dX11_isGround_17 ki_1 ?_
    refine x_icmp_eq (tgt := 25) hC dX11_isGround_18 (by decide) ?_ ?_
    · refine x_iconst (v := (0 : Int32)) hC dX11_isGround_25 ki_0 ?_
      exact r_retZ hR dX11_isGround_26 (Or.inl rfl) (fun h => congrArg (fun q => (q, M)) h)
    · refine x_iconst (v := (1 : Int32)) hC dX11_isGround_21 ki_1 ?_
      refine x_goto (tgt := 26) hC dX11_isGround_22 (by decide) ?_
      exact r_retZ hR dX11_isGround_26 (Or.inr rfl) (fun h => congrArg (fun q => (q, M)) h)
theorem f_X11_isGround_met {l : Launch} {d : Nat} {g : zG} {w : zW} {M0 : zM} {p1 : Int32} {M : zM} (hw : wS w) (hd : 2 ≤ d) {v : Int32} (h : f_X11_isGround p1 M = some v) : zMet l yX11_isGround cX11_isGround 2 (some .boolean) d g w (zin false) M0 [zr w 257, .int p1] M (some (.int v)) M :=
  met_z (by decide +kernel) (Nat.le_of_ble_eq_true rfl) (fun C hB0 hR => f_X11_isGround_ok ⟨hB0, hw⟩ hd M hR _ h rfl)
/-! WindingSquareModel.turnRows(I)V -/
noncomputable def b_X11_turnRows_19_2_9 (v1_2 : Int32) (v2_9_2 : Int32) (v3_19_2_9 : Int32) (v4_19_2_9 : Int32) (M : zM) : Option ((Int32 × zM) ⊕ (zM)) :=
  if (2 : Int32) ≤ v4_19_2_9 then (some (.inr M))
  else (nm (((v3_19_2_9 / (4 : Int32)) * (4 : Int32)) + (f_X11_turned (irem v3_19_2_9 (4 : Int32)) ((1 : Int32) - v4_19_2_9))) fun v5_41_2_9_19 =>
  nm (((v2_9_2 - (1 : Int32)) * (1728 : Int32)) + ((3 : Int32) * v5_41_2_9_19)) fun v6_55_2_9_19 =>
  grd (inb v6_55_2_9_19 12096) (
  grd (inb ((v6_55_2_9_19 + (1 : Int32)) + v4_19_2_9) 12096) (
  grd (inb ((((v2_9_2 * (1728 : Int32)) + ((3 : Int32) * v3_19_2_9)) + (1 : Int32)) + v4_19_2_9) 12096) (
  nm (mset M 269 (ix ((((v2_9_2 * (1728 : Int32)) + ((3 : Int32) * v3_19_2_9)) + (1 : Int32)) + v4_19_2_9)) (f_X11_plus (M 269 (ix v6_55_2_9_19)) (M 269 (ix ((v6_55_2_9_19 + (1 : Int32)) + v4_19_2_9))))) fun M97_2_9_19 =>
  some (.inl ((v4_19_2_9 + (1 : Int32)), M97_2_9_19))))))
set_option maxRecDepth 100000 in
theorem b_X11_turnRows_19_2_9_ok {C : zC} {d : Nat} {g : zG} {l : Launch} {w : zW} {r : zM} {v1_2 : Int32} {v2_9_2 : Int32} {v3_19_2_9 : Int32} {v4_19_2_9 : Int32} (hB : bOK C cX11_turnRows 7 RX11 d g l w false) (hd : 2 ≤ d) (M : zM) (hR : RtV C cX11_turnRows w r) : Sg C w (0, 0) 19 [(0, zr w 257), (1, .int v1_2), (2, .int v2_9_2), (3, .int v3_19_2_9), (4, .int v4_19_2_9)] [] M (b_X11_turnRows_19_2_9 v1_2 v2_9_2 v3_19_2_9 v4_19_2_9 M) (fun o => Sum.elim (fun (s : (Int32 × zM)) => Zs C w (0, 0) 19 [(0, zr w 257), (1, .int v1_2), (2, .int v2_9_2), (3, .int v3_19_2_9), (4, .int s.1)] [] s.2) (fun (s : (zM)) => Zs C w (0, 0) 104 [(0, zr w 257), (1, .int v1_2), (2, .int v2_9_2), (3, .int v3_19_2_9)] [] s) o) := by
  have hC := hB.1.1
  have hq1 : 1 ≤ d := by omega
  unfold b_X11_turnRows_19_2_9
  refine x_iload hC dX11_turnRows_19 4 rfl ?_
  refine x_iconst (v := (2 : Int32)) hC dX11_turnRows_21 ki_2 ?_
  refine x_icmp_ge (tgt := 104) hC dX11_turnRows_22 (by decide) ?_ ?_
  · refine x_sub [0, 1, 2, 3] rfl ?_
    exact x_done (fun h => h)
  · refine x_iload_n hC dX11_turnRows_25 rfl 3 rfl ?_
    refine x_iconst (v := (4 : Int32)) hC dX11_turnRows_26 ki_4 ?_
    refine x_idiv0 hC dX11_turnRows_27 nz_4 ?_
    refine x_iconst (v := (4 : Int32)) hC dX11_turnRows_28 ki_4 ?_
    refine x_imul hC dX11_turnRows_29 ?_
    refine x_iload_n hC dX11_turnRows_30 rfl 3 rfl ?_
    refine x_iconst (v := (4 : Int32)) hC dX11_turnRows_31 ki_4 ?_
    refine x_irem0 hC dX11_turnRows_32 nz_4 ?_
    refine x_iconst (v := (1 : Int32)) hC dX11_turnRows_33 ki_1 ?_
    refine x_iload hC dX11_turnRows_34 4 rfl ?_
    refine x_isub hC dX11_turnRows_36 ?_
    refine r_cS0 (as := [.int (irem v3_19_2_9 (4 : Int32)), .int ((1 : Int32) - v4_19_2_9)]) (rest := [.int ((v3_19_2_9 / (4 : Int32)) * (4 : Int32))]) hB dX11_turnRows_37 ks_X11_263 hq1 rfl rfl (Nat.le_of_ble_eq_true rfl) (f_X11_turned_met hB.2 (by omega)) ?_
    refine x_iadd hC dX11_turnRows_40 ?_
    refine x_top (fun v5_41_2_9_19 => ?_)
    refine x_istore (f := 0) hC dX11_turnRows_41 [(5, .int v5_41_2_9_19), (0, zr w 257), (1, .int v1_2), (2, .int v2_9_2), (3, .int v3_19_2_9), (4, .int v4_19_2_9)] (by decide) rfl ?_
    refine x_iload_n hC dX11_turnRows_43 rfl 3 rfl ?_
    refine x_iconst (v := (1 : Int32)) hC dX11_turnRows_44 ki_1 ?_
    refine x_isub hC dX11_turnRows_45 ?_
    refine x_sipush (v := (1728 : Int32)) hC dX11_turnRows_46 kh_1728 ?_
    refine x_imul hC dX11_turnRows_49 ?_
    refine x_iconst (v := (3 : Int32)) hC dX11_turnRows_50 ki_3 ?_
    refine x_iload hC dX11_turnRows_51 0 rfl ?_
    refine x_imul hC dX11_turnRows_53 ?_
    refine x_iadd hC dX11_turnRows_54 ?_
    refine x_top (fun v6_55_2_9_19 => ?_)
    refine x_istore (f := 0) hC dX11_turnRows_55 [(6, .int v6_55_2_9_19), (5, .int v5_41_2_9_19), (0, zr w 257), (1, .int v1_2), (2, .int v2_9_2), (3, .int v3_19_2_9), (4, .int v4_19_2_9)] (by decide) rfl ?_
    refine x_aload_n hC dX11_turnRows_57 rfl 2 rfl ?_
    refine r_getR hB dX11_turnRows_58 kf_X11_47 rfl th_257 rf_257_24 ?_
    refine x_iload_n hC dX11_turnRows_61 rfl 4 rfl ?_
    refine x_sipush (v := (1728 : Int32)) hC dX11_turnRows_62 kh_1728 ?_
    refine x_imul hC dX11_turnRows_65 ?_
    refine x_iconst (v := (3 : Int32)) hC dX11_turnRows_66 ki_3 ?_
    refine x_iload_n hC dX11_turnRows_67 rfl 5 rfl ?_
    refine x_imul hC dX11_turnRows_68 ?_
    refine x_iadd hC dX11_turnRows_69 ?_
    refine x_iconst (v := (1 : Int32)) hC dX11_turnRows_70 ki_1 ?_
    refine x_iadd hC dX11_turnRows_71 ?_
    refine x_iload hC dX11_turnRows_72 6 rfl ?_
    refine x_iadd hC dX11_turnRows_74 ?_
    refine x_aload_n hC dX11_turnRows_75 rfl 2 rfl ?_
    refine r_getR hB dX11_turnRows_76 kf_X11_47 rfl th_257 rf_257_24 ?_
    refine x_iload hC dX11_turnRows_79 0 rfl ?_
    refine r_iald hB dX11_turnRows_81 th_269 ?_
    refine x_aload_n hC dX11_turnRows_82 rfl 2 rfl ?_
    refine r_getR hB dX11_turnRows_83 kf_X11_47 rfl th_257 rf_257_24 ?_
    refine x_iload hC dX11_turnRows_86 0 rfl ?_
    refine x_iconst (v := (1 : Int32)) hC dX11_turnRows_88 ki_1 ?_
    refine x_iadd hC dX11_turnRows_89 ?_
    refine x_iload hC dX11_turnRows_90 6 rfl ?_
    refine x_iadd hC dX11_turnRows_92 ?_
    refine r_iald hB dX11_turnRows_93 th_269 ?_
    refine r_cS0 (as := [.int (M 269 (ix v6_55_2_9_19)), .int (M 269 (ix ((v6_55_2_9_19 + (1 : Int32)) + v4_19_2_9)))]) (rest := [.int ((((v2_9_2 * (1728 : Int32)) + ((3 : Int32) * v3_19_2_9)) + (1 : Int32)) + v4_19_2_9), zr w 269]) hB dX11_turnRows_94 ks_X11_350 hq1 rfl rfl (Nat.le_of_ble_eq_true rfl) (f_X11_plus_met hB.2 (by omega)) ?_
    refine r_iast hB dX11_turnRows_97 th_269 ?_
    refine x_mem (fun M97_2_9_19 => ?_)
    refine x_iinc hC dX11_turnRows_98 ki_1 [(4, .int (v4_19_2_9 + (1 : Int32))), (6, .int v6_55_2_9_19), (5, .int v5_41_2_9_19), (0, zr w 257), (1, .int v1_2), (2, .int v2_9_2), (3, .int v3_19_2_9)] 6 rfl (by decide) rfl ?_
    refine x_goto (tgt := 19) hC dX11_turnRows_101 (by decide) ?_
    refine x_sub [3, 4, 5, 6, 0] rfl ?_
    exact x_done (fun h => h)
noncomputable def j_X11_turnRows_104_2_9 (v1_2 : Int32) (v2_9_2 : Int32) (v3_104_2_9 : Int32) (M : zM) : Option ((Int32 × zM) ⊕ (zM)) :=
  some (.inl ((v3_104_2_9 + (1 : Int32)), M))
set_option maxRecDepth 100000 in
theorem j_X11_turnRows_104_2_9_ok {C : zC} {d : Nat} {g : zG} {l : Launch} {w : zW} {r : zM} {v1_2 : Int32} {v2_9_2 : Int32} {v3_104_2_9 : Int32} (hB : bOK C cX11_turnRows 7 RX11 d g l w false) (hd : 2 ≤ d) (M : zM) (hR : RtV C cX11_turnRows w r) : Sg C w (0, 0) 104 [(0, zr w 257), (1, .int v1_2), (2, .int v2_9_2), (3, .int v3_104_2_9)] [] M (j_X11_turnRows_104_2_9 v1_2 v2_9_2 v3_104_2_9 M) (fun o => Sum.elim (fun (s : (Int32 × zM)) => Zs C w (0, 0) 9 [(0, zr w 257), (1, .int v1_2), (2, .int v2_9_2), (3, .int s.1)] [] s.2) (fun (s : (zM)) => Zs C w (0, 0) 110 [(0, zr w 257), (1, .int v1_2), (2, .int v2_9_2)] [] s) o) := by
  have hC := hB.1.1
  have hq1 : 1 ≤ d := by omega
  unfold j_X11_turnRows_104_2_9
  refine x_iinc hC dX11_turnRows_104 ki_1 [(3, .int (v3_104_2_9 + (1 : Int32))), (0, zr w 257), (1, .int v1_2), (2, .int v2_9_2)] 3 rfl (by decide) rfl ?_
  refine x_goto (tgt := 9) hC dX11_turnRows_107 (by decide) ?_
  refine x_sub [1, 2, 3, 0] rfl ?_
  exact x_done (fun h => h)
noncomputable def b_X11_turnRows_9_2 (v1_2 : Int32) (v2_9_2 : Int32) (v3_9_2 : Int32) (M : zM) : Option ((Int32 × zM) ⊕ (zM)) :=
  if (576 : Int32) ≤ v3_9_2 then (some (.inr M))
  else ((loopW (fun s => b_X11_turnRows_19_2_9 v1_2 v2_9_2 v3_9_2 s.1 s.2) ((0 : Int32), M)).bind (fun r => j_X11_turnRows_104_2_9 v1_2 v2_9_2 v3_9_2 r))
set_option maxRecDepth 100000 in
theorem b_X11_turnRows_9_2_ok {C : zC} {d : Nat} {g : zG} {l : Launch} {w : zW} {r : zM} {v1_2 : Int32} {v2_9_2 : Int32} {v3_9_2 : Int32} (hB : bOK C cX11_turnRows 7 RX11 d g l w false) (hd : 2 ≤ d) (M : zM) (hR : RtV C cX11_turnRows w r) : Sg C w (0, 0) 9 [(0, zr w 257), (1, .int v1_2), (2, .int v2_9_2), (3, .int v3_9_2)] [] M (b_X11_turnRows_9_2 v1_2 v2_9_2 v3_9_2 M) (fun o => Sum.elim (fun (s : (Int32 × zM)) => Zs C w (0, 0) 9 [(0, zr w 257), (1, .int v1_2), (2, .int v2_9_2), (3, .int s.1)] [] s.2) (fun (s : (zM)) => Zs C w (0, 0) 110 [(0, zr w 257), (1, .int v1_2), (2, .int v2_9_2)] [] s) o) := by
  have hC := hB.1.1
  have hq1 : 1 ≤ d := by omega
  unfold b_X11_turnRows_9_2
  refine x_iload_n hC dX11_turnRows_9 rfl 3 rfl ?_
  refine x_sipush (v := (576 : Int32)) hC dX11_turnRows_10 kh_576 ?_
  refine x_icmp_ge (tgt := 110) hC dX11_turnRows_13 (by decide) ?_ ?_
  · refine x_sub [0, 1, 2] rfl ?_
    exact x_done (fun h => h)
  · refine x_iconst (v := (0 : Int32)) hC dX11_turnRows_16 ki_0 ?_
    refine x_istore (f := 0) hC dX11_turnRows_17 [(4, .int (0 : Int32)), (0, zr w 257), (1, .int v1_2), (2, .int v2_9_2), (3, .int v3_9_2)] (by decide) rfl ?_
    refine x_sub [1, 2, 3, 4, 0] rfl ?_
    refine x_loopB (pc2 := 104) (fun (s : (Int32 × zM)) => [(0, zr w 257), (1, .int v1_2), (2, .int v2_9_2), (3, .int v3_9_2), (4, .int s.1)]) (fun (s : (Int32 × zM)) => s.2) (fun (s : (zM)) => [(0, zr w 257), (1, .int v1_2), (2, .int v2_9_2), (3, .int v3_9_2)]) (fun (s : (zM)) => s) ((0 : Int32), M) ?_ ?_
    · exact fun s => b_X11_turnRows_19_2_9_ok hB hd s.2 hR
    · intro r9
      exact j_X11_turnRows_104_2_9_ok hB hd r9 hR
noncomputable def j_X11_turnRows_110_2 (v1_2 : Int32) (v2_110_2 : Int32) (M : zM) : Option ((Int32 × zM) ⊕ (zM)) :=
  some (.inl ((v2_110_2 + (1 : Int32)), M))
set_option maxRecDepth 100000 in
theorem j_X11_turnRows_110_2_ok {C : zC} {d : Nat} {g : zG} {l : Launch} {w : zW} {r : zM} {v1_2 : Int32} {v2_110_2 : Int32} (hB : bOK C cX11_turnRows 7 RX11 d g l w false) (hd : 2 ≤ d) (M : zM) (hR : RtV C cX11_turnRows w r) : Sg C w (0, 0) 110 [(0, zr w 257), (1, .int v1_2), (2, .int v2_110_2)] [] M (j_X11_turnRows_110_2 v1_2 v2_110_2 M) (fun o => Sum.elim (fun (s : (Int32 × zM)) => Zs C w (0, 0) 2 [(0, zr w 257), (1, .int v1_2), (2, .int s.1)] [] s.2) (fun (s : (zM)) => Zs C w (0, 0) 116 [] [] s) o) := by
  have hC := hB.1.1
  have hq1 : 1 ≤ d := by omega
  unfold j_X11_turnRows_110_2
  refine x_iinc hC dX11_turnRows_110 ki_1 [(2, .int (v2_110_2 + (1 : Int32))), (0, zr w 257), (1, .int v1_2)] 2 rfl (by decide) rfl ?_
  refine x_goto (tgt := 2) hC dX11_turnRows_113 (by decide) ?_
  refine x_sub [1, 2, 0] rfl ?_
  exact x_done (fun h => h)
noncomputable def b_X11_turnRows_2 (v1_2 : Int32) (v2_2 : Int32) (M : zM) : Option ((Int32 × zM) ⊕ (zM)) :=
  if v1_2 < v2_2 then (some (.inr M))
  else ((loopW (fun s => b_X11_turnRows_9_2 v1_2 v2_2 s.1 s.2) ((0 : Int32), M)).bind (fun r => j_X11_turnRows_110_2 v1_2 v2_2 r))
set_option maxRecDepth 100000 in
theorem b_X11_turnRows_2_ok {C : zC} {d : Nat} {g : zG} {l : Launch} {w : zW} {r : zM} {v1_2 : Int32} {v2_2 : Int32} (hB : bOK C cX11_turnRows 7 RX11 d g l w false) (hd : 2 ≤ d) (M : zM) (hR : RtV C cX11_turnRows w r) : Sg C w (0, 0) 2 [(0, zr w 257), (1, .int v1_2), (2, .int v2_2)] [] M (b_X11_turnRows_2 v1_2 v2_2 M) (fun o => Sum.elim (fun (s : (Int32 × zM)) => Zs C w (0, 0) 2 [(0, zr w 257), (1, .int v1_2), (2, .int s.1)] [] s.2) (fun (s : (zM)) => Zs C w (0, 0) 116 [] [] s) o) := by
  have hC := hB.1.1
  have hq1 : 1 ≤ d := by omega
  unfold b_X11_turnRows_2
  refine x_iload_n hC dX11_turnRows_2 rfl 2 rfl ?_
  refine x_iload_n hC dX11_turnRows_3 rfl 1 rfl ?_
  refine x_icmp_gt (tgt := 116) hC dX11_turnRows_4 (by decide) ?_ ?_
  · refine x_sub [] rfl ?_
    exact x_done (fun h => h)
  · refine x_iconst (v := (0 : Int32)) hC dX11_turnRows_7 ki_0 ?_
    refine x_istore_n hC dX11_turnRows_8 rfl [(3, .int (0 : Int32)), (0, zr w 257), (1, .int v1_2), (2, .int v2_2)] (by decide) rfl ?_
    refine x_sub [1, 2, 3, 0] rfl ?_
    refine x_loopB (pc2 := 110) (fun (s : (Int32 × zM)) => [(0, zr w 257), (1, .int v1_2), (2, .int v2_2), (3, .int s.1)]) (fun (s : (Int32 × zM)) => s.2) (fun (s : (zM)) => [(0, zr w 257), (1, .int v1_2), (2, .int v2_2)]) (fun (s : (zM)) => s) ((0 : Int32), M) ?_ ?_
    · exact fun s => b_X11_turnRows_9_2_ok hB hd s.2 hR
    · intro r9
      exact j_X11_turnRows_110_2_ok hB hd r9 hR
noncomputable def j_X11_turnRows_116 (M : zM) : Option (zM) :=
  some M
set_option maxRecDepth 100000 in
theorem j_X11_turnRows_116_ok {C : zC} {d : Nat} {g : zG} {l : Launch} {w : zW} {r : zM} (hB : bOK C cX11_turnRows 7 RX11 d g l w false) (hd : 2 ≤ d) (M : zM) (hR : RtV C cX11_turnRows w r) : Sg C w (0, 0) 116 [] [] M (j_X11_turnRows_116 M) (fun q => q = r) := by
  have hC := hB.1.1
  have hq1 : 1 ≤ d := by omega
  unfold j_X11_turnRows_116
  exact r_retV hR dX11_turnRows_116 (fun h => h)
noncomputable def f_X11_turnRows (p1 : Int32) (M : zM) : Option (zM) :=
  (loopW (fun s => b_X11_turnRows_2 p1 s.1 s.2) ((1 : Int32), M)).bind (fun r => j_X11_turnRows_116 r)
set_option maxRecDepth 100000 in
theorem f_X11_turnRows_ok {C : zC} {d : Nat} {g : zG} {l : Launch} {w : zW} {r : zM} {p1 : Int32} (hB : bOK C cX11_turnRows 7 RX11 d g l w false) (hd : 2 ≤ d) (M : zM) (hR : RtV C cX11_turnRows w r) : Sg C w (0, 0) 0 [(0, zr w 257), (1, .int p1)] [] M (f_X11_turnRows p1 M) (fun q => q = r) := by
  have hC := hB.1.1
  have hq1 : 1 ≤ d := by omega
  unfold f_X11_turnRows
  refine x_iconst (v := (1 : Int32)) hC dX11_turnRows_0 ki_1 ?_
  refine x_istore_n hC dX11_turnRows_1 rfl [(2, .int (1 : Int32)), (0, zr w 257), (1, .int p1)] (by decide) rfl ?_
  refine x_sub [1, 2, 0] rfl ?_
  refine x_loopB (pc2 := 116) (fun (s : (Int32 × zM)) => [(0, zr w 257), (1, .int p1), (2, .int s.1)]) (fun (s : (Int32 × zM)) => s.2) (fun (s : (zM)) => []) (fun (s : (zM)) => s) ((1 : Int32), M) ?_ ?_
  · exact fun s => b_X11_turnRows_2_ok hB hd s.2 hR
  · intro r9
    exact j_X11_turnRows_116_ok hB hd r9 hR
theorem f_X11_turnRows_met {l : Launch} {d : Nat} {g : zG} {w : zW} {M0 : zM} {p1 : Int32} {M : zM} (hw : wS w) (hd : 2 ≤ d) {M' : zM} (h : f_X11_turnRows p1 M = some M') : zMet l yX11_turnRows cX11_turnRows 7 none d g w (zin false) M0 [zr w 257, .int p1] M none M' :=
  met_v (by decide +kernel) (Nat.le_of_ble_eq_true rfl) (fun C hB0 hR => f_X11_turnRows_ok ⟨hB0, hw⟩ hd M hR _ h rfl)
/-! WindingSquareModel.sees(II)Z -/
noncomputable def j_X11_sees_164_59 (v3_59 : Int32) (v4_59 : Int32) (v5_59 : Int32) (v6_59 : Int32) (v7_59 : Int32) (v8_164_59 : Int32) (v9_164_59 : Int32) (s0_164_59 : Int32) (M : zM) : Option ((Int32) ⊕ (Unit ⊕ (Int32))) :=
  grd (inb (f_X11_place v9_164_59 s0_164_59) 2425) (
  if (M 258 (ix (f_X11_place v9_164_59 s0_164_59))) = (1 : Int32) then (some (.inr (.inr (0 : Int32))))
  else (some (.inl (v8_164_59 + (1 : Int32)))))
set_option maxRecDepth 100000 in
theorem j_X11_sees_164_59_ok {C : zC} {d : Nat} {g : zG} {l : Launch} {w : zW} {r : Int32} {v3_59 : Int32} {v4_59 : Int32} {v5_59 : Int32} {v6_59 : Int32} {v7_59 : Int32} {v8_164_59 : Int32} {v9_164_59 : Int32} {s0_164_59 : Int32} (hB : bOK C cX11_sees 11 RX11 d g l w false) (hd : 2 ≤ d) (M : zM) (hR : RtZ C cX11_sees w r M) : Sg C w (0, 0) 164 [(0, zr w 257), (3, .int v3_59), (4, .int v4_59), (5, .int v5_59), (6, .int v6_59), (7, .int v7_59), (8, .int v8_164_59), (9, .int v9_164_59)] [.int s0_164_59] M (j_X11_sees_164_59 v3_59 v4_59 v5_59 v6_59 v7_59 v8_164_59 v9_164_59 s0_164_59 M) (fun o => Sum.elim (fun (s : (Int32)) => Zs C w (0, 0) 59 [(0, zr w 257), (3, .int v3_59), (4, .int v4_59), (5, .int v5_59), (6, .int v6_59), (7, .int v7_59), (8, .int s)] [] M) (fun q => Sum.elim (fun (s : Unit) => Zs C w (0, 0) 190 [] [] M) (fun q => q = r) q) o) := by
  have hC := hB.1.1
  have hq1 : 1 ≤ d := by omega
  unfold j_X11_sees_164_59
  refine x_istore (f := 0) hC dX11_sees_164 [(10, .int s0_164_59), (0, zr w 257), (3, .int v3_59), (4, .int v4_59), (5, .int v5_59), (6, .int v6_59), (7, .int v7_59), (8, .int v8_164_59), (9, .int v9_164_59)] (by decide) rfl ?_
  refine x_aload_n hC dX11_sees_166 rfl 1 rfl ?_
  refine r_getR hB dX11_sees_167 kf_X11_9 rfl th_257 rf_257_0 ?_
  refine x_iload hC dX11_sees_170 8 rfl ?_
  refine x_iload hC dX11_sees_172 0 rfl ?_
  refine r_cS0 (as := [.int v9_164_59, .int s0_164_59]) (rest := [zr w 258]) hB dX11_sees_174 ks_X11_108 hq1 rfl rfl (Nat.le_of_ble_eq_true rfl) (f_X11_place_met hB.2 (by omega)) ?_
  refine r_iald hB dX11_sees_177 th_258 ?_
  refine x_iconst (v := (1 : Int32)) hC dX11_sees_178 ki_1 ?_
  refine x_icmp_ne (tgt := 184) hC dX11_sees_179 (by decide) ?_ ?_
  · refine x_iconst (v := (0 : Int32)) hC dX11_sees_182 ki_0 ?_
    exact r_retZ hR dX11_sees_183 (Or.inl rfl) (fun h => congrArg (fun q => (q, M)) h)
  · refine x_iinc hC dX11_sees_184 ki_1 [(8, .int (v8_164_59 + (1 : Int32))), (10, .int s0_164_59), (0, zr w 257), (3, .int v3_59), (4, .int v4_59), (5, .int v5_59), (6, .int v6_59), (7, .int v7_59), (9, .int v9_164_59)] 7 rfl (by decide) rfl ?_
    refine x_goto (tgt := 59) hC dX11_sees_187 (by decide) ?_
    refine x_sub [2, 3, 4, 5, 6, 7, 0] rfl ?_
    exact x_done (fun h => h)
noncomputable def j_X11_sees_163_59 (v3_59 : Int32) (v4_59 : Int32) (v5_59 : Int32) (v6_59 : Int32) (v7_59 : Int32) (v8_163_59 : Int32) (v9_163_59 : Int32) (s0_163_59 : Int32) (s1_163_59 : Int32) (M : zM) : Option ((Int32) ⊕ (Unit ⊕ (Int32))) :=
  j_X11_sees_164_59 v3_59 v4_59 v5_59 v6_59 v7_59 v8_163_59 v9_163_59 (s0_163_59 + s1_163_59) M
set_option maxRecDepth 100000 in
theorem j_X11_sees_163_59_ok {C : zC} {d : Nat} {g : zG} {l : Launch} {w : zW} {r : Int32} {v3_59 : Int32} {v4_59 : Int32} {v5_59 : Int32} {v6_59 : Int32} {v7_59 : Int32} {v8_163_59 : Int32} {v9_163_59 : Int32} {s0_163_59 : Int32} {s1_163_59 : Int32} (hB : bOK C cX11_sees 11 RX11 d g l w false) (hd : 2 ≤ d) (M : zM) (hR : RtZ C cX11_sees w r M) : Sg C w (0, 0) 163 [(0, zr w 257), (3, .int v3_59), (4, .int v4_59), (5, .int v5_59), (6, .int v6_59), (7, .int v7_59), (8, .int v8_163_59), (9, .int v9_163_59)] [.int s1_163_59, .int s0_163_59] M (j_X11_sees_163_59 v3_59 v4_59 v5_59 v6_59 v7_59 v8_163_59 v9_163_59 s0_163_59 s1_163_59 M) (fun o => Sum.elim (fun (s : (Int32)) => Zs C w (0, 0) 59 [(0, zr w 257), (3, .int v3_59), (4, .int v4_59), (5, .int v5_59), (6, .int v6_59), (7, .int v7_59), (8, .int s)] [] M) (fun q => Sum.elim (fun (s : Unit) => Zs C w (0, 0) 190 [] [] M) (fun q => q = r) q) o) := by
  have hC := hB.1.1
  have hq1 : 1 ≤ d := by omega
  unfold j_X11_sees_163_59
  refine x_iadd hC dX11_sees_163 ?_
  exact j_X11_sees_164_59_ok hB hd M hR
noncomputable def j_X11_sees_113_59 (v3_59 : Int32) (v4_59 : Int32) (v5_59 : Int32) (v6_59 : Int32) (v7_59 : Int32) (v8_113_59 : Int32) (s0_113_59 : Int32) (M : zM) : Option ((Int32) ⊕ (Unit ⊕ (Int32))) :=
  if v7_59 = (f_X11_abs v5_59) then ((f_X11_downBy ((((2 : Int32) * v8_113_59) * v6_59) + v7_59) ((2 : Int32) * v7_59)).bind fun u141_59 =>
  j_X11_sees_164_59 v3_59 v4_59 v5_59 v6_59 v7_59 v8_113_59 s0_113_59 (v4_59 + u141_59) M)
  else (if v6_59 ≤ 0 then (j_X11_sees_163_59 v3_59 v4_59 v5_59 v6_59 v7_59 v8_113_59 s0_113_59 v4_59 (-v8_113_59) M)
  else (j_X11_sees_163_59 v3_59 v4_59 v5_59 v6_59 v7_59 v8_113_59 s0_113_59 v4_59 v8_113_59 M))
set_option maxRecDepth 100000 in
theorem j_X11_sees_113_59_ok {C : zC} {d : Nat} {g : zG} {l : Launch} {w : zW} {r : Int32} {v3_59 : Int32} {v4_59 : Int32} {v5_59 : Int32} {v6_59 : Int32} {v7_59 : Int32} {v8_113_59 : Int32} {s0_113_59 : Int32} (hB : bOK C cX11_sees 11 RX11 d g l w false) (hd : 2 ≤ d) (M : zM) (hR : RtZ C cX11_sees w r M) : Sg C w (0, 0) 113 [(0, zr w 257), (3, .int v3_59), (4, .int v4_59), (5, .int v5_59), (6, .int v6_59), (7, .int v7_59), (8, .int v8_113_59)] [.int s0_113_59] M (j_X11_sees_113_59 v3_59 v4_59 v5_59 v6_59 v7_59 v8_113_59 s0_113_59 M) (fun o => Sum.elim (fun (s : (Int32)) => Zs C w (0, 0) 59 [(0, zr w 257), (3, .int v3_59), (4, .int v4_59), (5, .int v5_59), (6, .int v6_59), (7, .int v7_59), (8, .int s)] [] M) (fun q => Sum.elim (fun (s : Unit) => Zs C w (0, 0) 190 [] [] M) (fun q => q = r) q) o) := by
  have hC := hB.1.1
  have hq1 : 1 ≤ d := by omega
  unfold j_X11_sees_113_59
  refine x_istore (f := 0) hC dX11_sees_113 [(9, .int s0_113_59), (0, zr w 257), (3, .int v3_59), (4, .int v4_59), (5, .int v5_59), (6, .int v6_59), (7, .int v7_59), (8, .int v8_113_59)] (by decide) rfl ?_
  refine x_iload hC dX11_sees_115 6 rfl ?_
  refine x_iload hC dX11_sees_117 4 rfl ?_
  refine r_cS0 (as := [.int v5_59]) (rest := [.int v7_59]) hB dX11_sees_119 ks_X11_359 hq1 rfl rfl (Nat.le_of_ble_eq_true rfl) (f_X11_abs_met hB.2 (by omega)) ?_
  refine x_icmp_ne (tgt := 148) hC dX11_sees_122 (by decide) ?_ ?_
  · refine x_iload hC dX11_sees_125 3 rfl ?_
    refine x_iconst (v := (2 : Int32)) hC dX11_sees_127 ki_2 ?_
    refine x_iload hC dX11_sees_128 7 rfl ?_
    refine x_imul hC dX11_sees_130 ?_
    refine x_iload hC dX11_sees_131 5 rfl ?_
    refine x_imul hC dX11_sees_133 ?_
    refine x_iload hC dX11_sees_134 6 rfl ?_
    refine x_iadd hC dX11_sees_136 ?_
    refine x_iconst (v := (2 : Int32)) hC dX11_sees_137 ki_2 ?_
    refine x_iload hC dX11_sees_138 6 rfl ?_
    refine x_imul hC dX11_sees_140 ?_
    refine r_cS1 (as := [.int ((((2 : Int32) * v8_113_59) * v6_59) + v7_59), .int ((2 : Int32) * v7_59)]) (rest := [.int v4_59]) hB dX11_sees_141 ks_X11_362 hq1 rfl rfl (Nat.le_of_ble_eq_true rfl) (fun v hv => f_X11_downBy_met hB.2 (by omega) hv) (fun u141_59 => ?_)
    refine x_iadd hC dX11_sees_144 ?_
    refine x_goto (tgt := 164) hC dX11_sees_145 (by decide) ?_
    refine x_sub [1, 2, 3, 4, 5, 6, 7, 0] rfl ?_
    exact j_X11_sees_164_59_ok hB hd M hR
  · refine x_iload hC dX11_sees_148 3 rfl ?_
    refine x_iload hC dX11_sees_150 5 rfl ?_
    refine x_if_le (tgt := 160) hC dX11_sees_152 (by decide) ?_ ?_
    · refine x_iload hC dX11_sees_160 7 rfl ?_
      refine x_ineg hC dX11_sees_162 ?_
      refine x_sub [1, 2, 3, 4, 5, 6, 7, 0] rfl ?_
      exact j_X11_sees_163_59_ok hB hd M hR
    · refine x_iload hC dX11_sees_155 7 rfl ?_
      refine x_goto (tgt := 163) hC dX11_sees_157 (by decide) ?_
      refine x_sub [1, 2, 3, 4, 5, 6, 7, 0] rfl ?_
      exact j_X11_sees_163_59_ok hB hd M hR
noncomputable def j_X11_sees_90_59 (v3_59 : Int32) (v4_59 : Int32) (v5_59 : Int32) (v6_59 : Int32) (v7_59 : Int32) (v8_90_59 : Int32) (s0_90_59 : Int32) (s1_90_59 : Int32) (M : zM) : Option ((Int32) ⊕ (Unit ⊕ (Int32))) :=
  j_X11_sees_113_59 v3_59 v4_59 v5_59 v6_59 v7_59 v8_90_59 (s0_90_59 + s1_90_59) M
set_option maxRecDepth 100000 in
theorem j_X11_sees_90_59_ok {C : zC} {d : Nat} {g : zG} {l : Launch} {w : zW} {r : Int32} {v3_59 : Int32} {v4_59 : Int32} {v5_59 : Int32} {v6_59 : Int32} {v7_59 : Int32} {v8_90_59 : Int32} {s0_90_59 : Int32} {s1_90_59 : Int32} (hB : bOK C cX11_sees 11 RX11 d g l w false) (hd : 2 ≤ d) (M : zM) (hR : RtZ C cX11_sees w r M) : Sg C w (0, 0) 90 [(0, zr w 257), (3, .int v3_59), (4, .int v4_59), (5, .int v5_59), (6, .int v6_59), (7, .int v7_59), (8, .int v8_90_59)] [.int s1_90_59, .int s0_90_59] M (j_X11_sees_90_59 v3_59 v4_59 v5_59 v6_59 v7_59 v8_90_59 s0_90_59 s1_90_59 M) (fun o => Sum.elim (fun (s : (Int32)) => Zs C w (0, 0) 59 [(0, zr w 257), (3, .int v3_59), (4, .int v4_59), (5, .int v5_59), (6, .int v6_59), (7, .int v7_59), (8, .int s)] [] M) (fun q => Sum.elim (fun (s : Unit) => Zs C w (0, 0) 190 [] [] M) (fun q => q = r) q) o) := by
  have hC := hB.1.1
  have hq1 : 1 ≤ d := by omega
  unfold j_X11_sees_90_59
  refine x_iadd hC dX11_sees_90 ?_
  refine x_goto (tgt := 113) hC dX11_sees_91 (by decide) ?_
  exact j_X11_sees_113_59_ok hB hd M hR
noncomputable def b_X11_sees_59 (v3_59 : Int32) (v4_59 : Int32) (v5_59 : Int32) (v6_59 : Int32) (v7_59 : Int32) (v8_59 : Int32) (M : zM) : Option ((Int32) ⊕ (Unit ⊕ (Int32))) :=
  if v7_59 ≤ v8_59 then (some (.inr (.inl ())))
  else (if v7_59 = (f_X11_abs v5_59) then (if v5_59 ≤ 0 then (j_X11_sees_90_59 v3_59 v4_59 v5_59 v6_59 v7_59 v8_59 v3_59 (-v8_59) M)
  else (j_X11_sees_90_59 v3_59 v4_59 v5_59 v6_59 v7_59 v8_59 v3_59 v8_59 M))
  else ((f_X11_downBy ((((2 : Int32) * v8_59) * v5_59) + v7_59) ((2 : Int32) * v7_59)).bind fun u109_59 =>
  j_X11_sees_113_59 v3_59 v4_59 v5_59 v6_59 v7_59 v8_59 (v3_59 + u109_59) M))
set_option maxRecDepth 100000 in
theorem b_X11_sees_59_ok {C : zC} {d : Nat} {g : zG} {l : Launch} {w : zW} {r : Int32} {v3_59 : Int32} {v4_59 : Int32} {v5_59 : Int32} {v6_59 : Int32} {v7_59 : Int32} {v8_59 : Int32} (hB : bOK C cX11_sees 11 RX11 d g l w false) (hd : 2 ≤ d) (M : zM) (hR : RtZ C cX11_sees w r M) : Sg C w (0, 0) 59 [(0, zr w 257), (3, .int v3_59), (4, .int v4_59), (5, .int v5_59), (6, .int v6_59), (7, .int v7_59), (8, .int v8_59)] [] M (b_X11_sees_59 v3_59 v4_59 v5_59 v6_59 v7_59 v8_59 M) (fun o => Sum.elim (fun (s : (Int32)) => Zs C w (0, 0) 59 [(0, zr w 257), (3, .int v3_59), (4, .int v4_59), (5, .int v5_59), (6, .int v6_59), (7, .int v7_59), (8, .int s)] [] M) (fun q => Sum.elim (fun (s : Unit) => Zs C w (0, 0) 190 [] [] M) (fun q => q = r) q) o) := by
  have hC := hB.1.1
  have hq1 : 1 ≤ d := by omega
  unfold b_X11_sees_59
  refine x_iload hC dX11_sees_59 6 rfl ?_
  refine x_iload hC dX11_sees_61 5 rfl ?_
  refine x_icmp_ge (tgt := 190) hC dX11_sees_63 (by decide) ?_ ?_
  · refine x_sub [] rfl ?_
    exact x_done (fun h => h)
  · refine x_iload hC dX11_sees_66 5 rfl ?_
    refine x_iload hC dX11_sees_68 3 rfl ?_
    refine r_cS0 (as := [.int v5_59]) (rest := [.int v7_59]) hB dX11_sees_70 ks_X11_359 hq1 rfl rfl (Nat.le_of_ble_eq_true rfl) (f_X11_abs_met hB.2 (by omega)) ?_
    refine x_icmp_ne (tgt := 94) hC dX11_sees_73 (by decide) ?_ ?_
    · refine x_iload_n hC dX11_sees_76 rfl 1 rfl ?_
      refine x_iload hC dX11_sees_77 3 rfl ?_
      refine x_if_le (tgt := 87) hC dX11_sees_79 (by decide) ?_ ?_
      · refine x_iload hC dX11_sees_87 6 rfl ?_
        refine x_ineg hC dX11_sees_89 ?_
        exact j_X11_sees_90_59_ok hB hd M hR
      · refine x_iload hC dX11_sees_82 6 rfl ?_
        refine x_goto (tgt := 90) hC dX11_sees_84 (by decide) ?_
        exact j_X11_sees_90_59_ok hB hd M hR
    · refine x_iload_n hC dX11_sees_94 rfl 1 rfl ?_
      refine x_iconst (v := (2 : Int32)) hC dX11_sees_95 ki_2 ?_
      refine x_iload hC dX11_sees_96 6 rfl ?_
      refine x_imul hC dX11_sees_98 ?_
      refine x_iload hC dX11_sees_99 3 rfl ?_
      refine x_imul hC dX11_sees_101 ?_
      refine x_iload hC dX11_sees_102 5 rfl ?_
      refine x_iadd hC dX11_sees_104 ?_
      refine x_iconst (v := (2 : Int32)) hC dX11_sees_105 ki_2 ?_
      refine x_iload hC dX11_sees_106 5 rfl ?_
      refine x_imul hC dX11_sees_108 ?_
      refine r_cS1 (as := [.int ((((2 : Int32) * v8_59) * v5_59) + v7_59), .int ((2 : Int32) * v7_59)]) (rest := [.int v3_59]) hB dX11_sees_109 ks_X11_362 hq1 rfl rfl (Nat.le_of_ble_eq_true rfl) (fun v hv => f_X11_downBy_met hB.2 (by omega) hv) (fun u109_59 => ?_)
      refine x_iadd hC dX11_sees_112 ?_
      exact j_X11_sees_113_59_ok hB hd M hR
noncomputable def j_X11_sees_190 (M : zM) : Option (Int32) :=
  some (1 : Int32)
set_option maxRecDepth 100000 in
theorem j_X11_sees_190_ok {C : zC} {d : Nat} {g : zG} {l : Launch} {w : zW} {r : Int32} (hB : bOK C cX11_sees 11 RX11 d g l w false) (hd : 2 ≤ d) (M : zM) (hR : RtZ C cX11_sees w r M) : Sg C w (0, 0) 190 [] [] M (j_X11_sees_190 M) (fun q => q = r) := by
  have hC := hB.1.1
  have hq1 : 1 ≤ d := by omega
  unfold j_X11_sees_190
  refine x_iconst (v := (1 : Int32)) hC dX11_sees_190 ki_1 ?_
  exact r_retZ hR dX11_sees_191 (Or.inr rfl) (fun h => congrArg (fun q => (q, M)) h)
noncomputable def j_X11_sees_54 (v3_54 : Int32) (v4_54 : Int32) (v5_54 : Int32) (v6_54 : Int32) (s0_54 : Int32) (M : zM) : Option (Int32) :=
  (loopW (fun s => b_X11_sees_59 v3_54 v4_54 v5_54 v6_54 s0_54 s M) (1 : Int32)).bind (fun q => Sum.elim (fun r => j_X11_sees_190 M) some q)
set_option maxRecDepth 100000 in
theorem j_X11_sees_54_ok {C : zC} {d : Nat} {g : zG} {l : Launch} {w : zW} {r : Int32} {v3_54 : Int32} {v4_54 : Int32} {v5_54 : Int32} {v6_54 : Int32} {s0_54 : Int32} (hB : bOK C cX11_sees 11 RX11 d g l w false) (hd : 2 ≤ d) (M : zM) (hR : RtZ C cX11_sees w r M) : Sg C w (0, 0) 54 [(0, zr w 257), (3, .int v3_54), (4, .int v4_54), (5, .int v5_54), (6, .int v6_54)] [.int s0_54] M (j_X11_sees_54 v3_54 v4_54 v5_54 v6_54 s0_54 M) (fun q => q = r) := by
  have hC := hB.1.1
  have hq1 : 1 ≤ d := by omega
  unfold j_X11_sees_54
  refine x_istore (f := 0) hC dX11_sees_54 [(7, .int s0_54), (0, zr w 257), (3, .int v3_54), (4, .int v4_54), (5, .int v5_54), (6, .int v6_54)] (by decide) rfl ?_
  refine x_iconst (v := (1 : Int32)) hC dX11_sees_56 ki_1 ?_
  refine x_istore (f := 0) hC dX11_sees_57 [(8, .int (1 : Int32)), (7, .int s0_54), (0, zr w 257), (3, .int v3_54), (4, .int v4_54), (5, .int v5_54), (6, .int v6_54)] (by decide) rfl ?_
  refine x_sub [2, 3, 4, 5, 6, 1, 0] rfl ?_
  refine x_loopR (pc2 := 190) (fun (s : (Int32)) => [(0, zr w 257), (3, .int v3_54), (4, .int v4_54), (5, .int v5_54), (6, .int v6_54), (7, .int s0_54), (8, .int s)]) (fun (s : (Int32)) => M) (fun (s : Unit) => []) (fun (s : Unit) => M) (1 : Int32) ?_ ?_
  · exact fun s => b_X11_sees_59_ok hB hd M hR
  · intro r9
    exact j_X11_sees_190_ok hB hd M hR
noncomputable def f_X11_sees (p1 : Int32) (p2 : Int32) (M : zM) : Option (Int32) :=
  nm (irem p1 (12 : Int32)) fun v3_4 =>
  nm (p1 / (12 : Int32)) fun v4_9 =>
  nm ((irem p2 (12 : Int32)) - v3_4) fun v5_17 =>
  nm ((p2 / (12 : Int32)) - v4_9) fun v6_26 =>
  if (f_X11_abs v5_17) < (f_X11_abs v6_26) then (j_X11_sees_54 v3_4 v4_9 v5_17 v6_26 (f_X11_abs v6_26) M)
  else (j_X11_sees_54 v3_4 v4_9 v5_17 v6_26 (f_X11_abs v5_17) M)
set_option maxRecDepth 100000 in
theorem f_X11_sees_ok {C : zC} {d : Nat} {g : zG} {l : Launch} {w : zW} {r : Int32} {p1 : Int32} {p2 : Int32} (hB : bOK C cX11_sees 11 RX11 d g l w false) (hd : 2 ≤ d) (M : zM) (hR : RtZ C cX11_sees w r M) : Sg C w (0, 0) 0 [(0, zr w 257), (1, .int p1), (2, .int p2)] [] M (f_X11_sees p1 p2 M) (fun q => q = r) := by
  have hC := hB.1.1
  have hq1 : 1 ≤ d := by omega
  unfold f_X11_sees
  refine x_iload_n hC dX11_sees_0 rfl 1 rfl ?_
  refine x_bipush (v := (12 : Int32)) hC dX11_sees_1 kb_12 ?_
  refine x_irem0 hC dX11_sees_3 nz_12 ?_
  refine x_top (fun v3_4 => ?_)
  refine x_istore_n hC dX11_sees_4 rfl [(3, .int v3_4), (0, zr w 257), (1, .int p1), (2, .int p2)] (by decide) rfl ?_
  refine x_iload_n hC dX11_sees_5 rfl 2 rfl ?_
  refine x_bipush (v := (12 : Int32)) hC dX11_sees_6 kb_12 ?_
  refine x_idiv0 hC dX11_sees_8 nz_12 ?_
  refine x_top (fun v4_9 => ?_)
  refine x_istore (f := 0) hC dX11_sees_9 [(4, .int v4_9), (3, .int v3_4), (0, zr w 257), (1, .int p1), (2, .int p2)] (by decide) rfl ?_
  refine x_iload_n hC dX11_sees_11 rfl 4 rfl ?_
  refine x_bipush (v := (12 : Int32)) hC dX11_sees_12 kb_12 ?_
  refine x_irem0 hC dX11_sees_14 nz_12 ?_
  refine x_iload_n hC dX11_sees_15 rfl 1 rfl ?_
  refine x_isub hC dX11_sees_16 ?_
  refine x_top (fun v5_17 => ?_)
  refine x_istore (f := 0) hC dX11_sees_17 [(5, .int v5_17), (4, .int v4_9), (3, .int v3_4), (0, zr w 257), (1, .int p1), (2, .int p2)] (by decide) rfl ?_
  refine x_iload_n hC dX11_sees_19 rfl 5 rfl ?_
  refine x_bipush (v := (12 : Int32)) hC dX11_sees_20 kb_12 ?_
  refine x_idiv0 hC dX11_sees_22 nz_12 ?_
  refine x_iload hC dX11_sees_23 1 rfl ?_
  refine x_isub hC dX11_sees_25 ?_
  refine x_top (fun v6_26 => ?_)
  refine x_istore (f := 0) hC dX11_sees_26 [(6, .int v6_26), (5, .int v5_17), (4, .int v4_9), (3, .int v3_4), (0, zr w 257), (1, .int p1), (2, .int p2)] (by decide) rfl ?_
  refine x_iload hC dX11_sees_28 1 rfl ?_
  refine r_cS0 (as := [.int v5_17]) (rest := []) hB dX11_sees_30 ks_X11_359 hq1 rfl rfl (Nat.le_of_ble_eq_true rfl) (f_X11_abs_met hB.2 (by omega)) ?_
  refine x_iload hC dX11_sees_33 0 rfl ?_
  refine r_cS0 (as := [.int v6_26]) (rest := [.int (f_X11_abs v5_17)]) hB dX11_sees_35 ks_X11_359 hq1 rfl rfl (Nat.le_of_ble_eq_true rfl) (f_X11_abs_met hB.2 (by omega)) ?_
  refine x_icmp_lt (tgt := 49) hC dX11_sees_38 (by decide) ?_ ?_
  · refine x_iload hC dX11_sees_49 0 rfl ?_
    refine r_cS0 (as := [.int v6_26]) (rest := []) hB dX11_sees_51 ks_X11_359 hq1 rfl rfl (Nat.le_of_ble_eq_true rfl) (f_X11_abs_met hB.2 (by omega)) ?_
    refine x_sub [4, 3, 2, 1, 0] rfl ?_
    exact j_X11_sees_54_ok hB hd M hR
  · refine x_iload hC dX11_sees_41 1 rfl ?_
    refine r_cS0 (as := [.int v5_17]) (rest := []) hB dX11_sees_43 ks_X11_359 hq1 rfl rfl (Nat.le_of_ble_eq_true rfl) (f_X11_abs_met hB.2 (by omega)) ?_
    refine x_goto (tgt := 54) hC dX11_sees_46 (by decide) ?_
    refine x_sub [4, 3, 2, 1, 0] rfl ?_
    exact j_X11_sees_54_ok hB hd M hR
theorem f_X11_sees_met {l : Launch} {d : Nat} {g : zG} {w : zW} {M0 : zM} {p1 : Int32} {p2 : Int32} {M : zM} (hw : wS w) (hd : 2 ≤ d) {v : Int32} (h : f_X11_sees p1 p2 M = some v) : zMet l yX11_sees cX11_sees 11 (some .boolean) d g w (zin false) M0 [zr w 257, .int p1, .int p2] M (some (.int v)) M :=
  met_z (by decide +kernel) (Nat.le_of_ble_eq_true rfl) (fun C hB0 hR => f_X11_sees_ok ⟨hB0, hw⟩ hd M hR _ h rfl)
/-! WindingSquareModel.known(II)I -/
noncomputable def f_X11_known (p1 : Int32) (p2 : Int32) (M : zM) : Option (Int32 × zM) :=
  if (f_X11_within p1 (0 : Int32) (1 : Int32)) = 0 then (some ((-1 : Int32), M))
  else (if (f_X11_within p2 (-1 : Int32) (2 : Int32)) = 0 then (some ((-1 : Int32), M))
  else (nm ((2357 : Int32) + ((13 : Int32) * p1)) fun v3_28 =>
  if p2 = (-1 : Int32) then (grd (inb v3_28 2425) (
  nm (mset M 258 (ix v3_28) (0 : Int32)) fun M40 =>
  some ((0 : Int32), M40)))
  else (grd (inb v3_28 2425) (
  if (M 258 (ix v3_28)) = (12 : Int32) then (some ((-1 : Int32), M))
  else (grd (inb v3_28 2425) (
  grd (inb v3_28 2425) (
  nm (mset M 258 (ix v3_28) ((M 258 (ix v3_28)) + (1 : Int32))) fun M65 =>
  grd (inb v3_28 2425) (
  grd (inb (v3_28 + (M65 258 (ix v3_28))) 2425) (
  nm (mset M65 258 (ix (v3_28 + (M65 258 (ix v3_28)))) p2) fun M79 =>
  grd (inb v3_28 2425) (
  some ((M79 258 (ix v3_28)), M79)))))))))))
set_option maxRecDepth 100000 in
theorem f_X11_known_ok {C : zC} {d : Nat} {g : zG} {l : Launch} {w : zW} {r : Int32 × zM} {p1 : Int32} {p2 : Int32} (hB : bOK C cX11_known 4 RX11 d g l w false) (hd : 2 ≤ d) (M : zM) (hR : RtI C cX11_known w r.1 r.2) : Sg C w (0, 0) 0 [(0, zr w 257), (1, .int p1), (2, .int p2)] [] M (f_X11_known p1 p2 M) (fun q => q = r) := by
  have hC := hB.1.1
  have hq1 : 1 ≤ d := by omega
  unfold f_X11_known
  refine x_iload_n hC dX11_known_0 rfl 1 rfl ?_
  refine x_iconst (v := (0 : Int32)) hC dX11_known_1 ki_0 ?_
  refine x_iconst (v := (1 : Int32)) hC dX11_known_2 ki_1 ?_
  refine r_cS0 (as := [.int p1, .int (0 : Int32), .int (1 : Int32)]) (rest := []) hB dX11_known_3 ks_X11_100 hq1 rfl rfl (Nat.le_of_ble_eq_true rfl) (f_X11_within_met hB.2 (by omega)) ?_
  refine x_if_eq (tgt := 18) hC dX11_known_6 (by decide) ?_ ?_
  · refine x_iconst (v := (-1 : Int32)) hC dX11_known_18 ki_m1 ?_
    exact r_retI hR dX11_known_19 (fun h => h)
  · refine x_iload_n hC dX11_known_9 rfl 2 rfl ?_
    refine x_iconst (v := (-1 : Int32)) hC dX11_known_10 ki_m1 ?_
    refine x_iconst (v := (2 : Int32)) hC dX11_known_11 ki_2 ?_
    refine r_cS0 (as := [.int p2, .int (-1 : Int32), .int (2 : Int32)]) (rest := []) hB dX11_known_12 ks_X11_100 hq1 rfl rfl (Nat.le_of_ble_eq_true rfl) (f_X11_within_met hB.2 (by omega)) ?_
    refine x_if_ne (tgt := 20) hC dX11_known_15 (by decide) ?_ ?_
    · refine x_iconst (v := (-1 : Int32)) hC dX11_known_18 ki_m1 ?_
      exact r_retI hR dX11_known_19 (fun h => h)
    · refine x_sipush (v := (2357 : Int32)) hC dX11_known_20 kh_2357 ?_
      refine x_bipush (v := (13 : Int32)) hC dX11_known_23 kb_13 ?_
      refine x_iload_n hC dX11_known_25 rfl 1 rfl ?_
      refine x_imul hC dX11_known_26 ?_
      refine x_iadd hC dX11_known_27 ?_
      refine x_top (fun v3_28 => ?_)
      refine x_istore_n hC dX11_known_28 rfl [(3, .int v3_28), (0, zr w 257), (1, .int p1), (2, .int p2)] (by decide) rfl ?_
      refine x_iload_n hC dX11_known_29 rfl 3 rfl ?_
      refine x_iconst (v := (-1 : Int32)) hC dX11_known_30 ki_m1 ?_
      refine x_icmp_ne (tgt := 43) hC dX11_known_31 (by decide) ?_ ?_
      · refine x_aload_n hC dX11_known_34 rfl 1 rfl ?_
        refine r_getR hB dX11_known_35 kf_X11_9 rfl th_257 rf_257_0 ?_
        refine x_iload_n hC dX11_known_38 rfl 0 rfl ?_
        refine x_iconst (v := (0 : Int32)) hC dX11_known_39 ki_0 ?_
        refine r_iast hB dX11_known_40 th_258 ?_
        refine x_mem (fun M40 => ?_)
        refine x_iconst (v := (0 : Int32)) hC dX11_known_41 ki_0 ?_
        exact r_retI hR dX11_known_42 (fun h => h)
      · refine x_aload_n hC dX11_known_43 rfl 1 rfl ?_
        refine r_getR hB dX11_known_44 kf_X11_9 rfl th_257 rf_257_0 ?_
        refine x_iload_n hC dX11_known_47 rfl 0 rfl ?_
        refine r_iald hB dX11_known_48 th_258 ?_
        refine x_bipush (v := (12 : Int32)) hC dX11_known_49 kb_12 ?_
        refine x_icmp_ne (tgt := 56) hC dX11_known_51 (by decide) ?_ ?_
        · refine x_iconst (v := (-1 : Int32)) hC dX11_known_54 ki_m1 ?_
          exact r_retI hR dX11_known_55 (fun h => h)
        · refine x_aload_n hC dX11_known_56 rfl 1 rfl ?_
          refine r_getR hB dX11_known_57 kf_X11_9 rfl th_257 rf_257_0 ?_
          refine x_iload_n hC dX11_known_60 rfl 0 rfl ?_
          refine x_dup2 hC dX11_known_61 rfl rfl ?_
          refine r_iald hB dX11_known_62 th_258 ?_
          refine x_iconst (v := (1 : Int32)) hC dX11_known_63 ki_1 ?_
          refine x_iadd hC dX11_known_64 ?_
          refine r_iast hB dX11_known_65 th_258 ?_
          refine x_mem (fun M65 => ?_)
          refine x_aload_n hC dX11_known_66 rfl 1 rfl ?_
          refine r_getR hB dX11_known_67 kf_X11_9 rfl th_257 rf_257_0 ?_
          refine x_iload_n hC dX11_known_70 rfl 0 rfl ?_
          refine x_aload_n hC dX11_known_71 rfl 1 rfl ?_
          refine r_getR hB dX11_known_72 kf_X11_9 rfl th_257 rf_257_0 ?_
          refine x_iload_n hC dX11_known_75 rfl 0 rfl ?_
          refine r_iald hB dX11_known_76 th_258 ?_
          refine x_iadd hC dX11_known_77 ?_
          refine x_iload_n hC dX11_known_78 rfl 3 rfl ?_
          refine r_iast hB dX11_known_79 th_258 ?_
          refine x_mem (fun M79 => ?_)
          refine x_aload_n hC dX11_known_80 rfl 1 rfl ?_
          refine r_getR hB dX11_known_81 kf_X11_9 rfl th_257 rf_257_0 ?_
          refine x_iload_n hC dX11_known_84 rfl 0 rfl ?_
          refine r_iald hB dX11_known_85 th_258 ?_
          exact r_retI hR dX11_known_86 (fun h => h)
theorem f_X11_known_met {l : Launch} {d : Nat} {g : zG} {w : zW} {M0 : zM} {p1 : Int32} {p2 : Int32} {M : zM} (hw : wS w) (hd : 2 ≤ d) {v : Int32} {M' : zM} (h : f_X11_known p1 p2 M = some (v, M')) : zMet l yX11_known cX11_known 4 (some .int) d g w (zin false) M0 [zr w 257, .int p1, .int p2] M (some (.int v)) M' :=
  met_i (by decide +kernel) (Nat.le_of_ble_eq_true rfl) rfl (fun C hB0 hR => f_X11_known_ok (r := (v, M')) ⟨hB0, hw⟩ hd M hR _ h rfl)
/-! WindingSquareModel.areAlike(II)Z -/
noncomputable def j_X11_areAlike_44_2 (v1_2 : Int32) (v2_2 : Int32) (v3_44_2 : Int32) (s0_44_2 : Int32) (s1_44_2 : Int32) (M : zM) : Option ((Int32) ⊕ (Unit ⊕ (Int32))) :=
  if s0_44_2 = s1_44_2 then (some (.inl (v3_44_2 + (1 : Int32))))
  else (some (.inr (.inr (0 : Int32))))
set_option maxRecDepth 100000 in
theorem j_X11_areAlike_44_2_ok {C : zC} {d : Nat} {g : zG} {l : Launch} {w : zW} {r : Int32} {v1_2 : Int32} {v2_2 : Int32} {v3_44_2 : Int32} {s0_44_2 : Int32} {s1_44_2 : Int32} (hB : bOK C cX11_areAlike 4 RX11 d g l w false) (hd : 2 ≤ d) (M : zM) (hR : RtZ C cX11_areAlike w r M) : Sg C w (0, 0) 44 [(0, zr w 257), (1, .int v1_2), (2, .int v2_2), (3, .int v3_44_2)] [.int s1_44_2, .int s0_44_2] M (j_X11_areAlike_44_2 v1_2 v2_2 v3_44_2 s0_44_2 s1_44_2 M) (fun o => Sum.elim (fun (s : (Int32)) => Zs C w (0, 0) 2 [(0, zr w 257), (1, .int v1_2), (2, .int v2_2), (3, .int s)] [] M) (fun q => Sum.elim (fun (s : Unit) => Zs C w (0, 0) 55 [] [] M) (fun q => q = r) q) o) := by
  have hC := hB.1.1
  have hq1 : 1 ≤ d := by omega
  unfold j_X11_areAlike_44_2
  refine x_icmp_eq (tgt := 49) hC dX11_areAlike_44 (by decide) ?_ ?_
  · refine x_iinc hC dX11_areAlike_49 ki_1 [(3, .int (v3_44_2 + (1 : Int32))), (0, zr w 257), (1, .int v1_2), (2, .int v2_2)] 3 rfl (by decide) rfl ?_
    refine x_goto (tgt := 2) hC dX11_areAlike_52 (by decide) ?_
    refine x_sub [1, 2, 3, 0] rfl ?_
    exact x_done (fun h => h)
  · refine x_iconst (v := (0 : Int32)) hC dX11_areAlike_47 ki_0 ?_
    exact r_retZ hR dX11_areAlike_48 (Or.inl rfl) (fun h => congrArg (fun q => (q, M)) h)
noncomputable def b_X11_areAlike_2 (v1_2 : Int32) (v2_2 : Int32) (v3_2 : Int32) (M : zM) : Option ((Int32) ⊕ (Unit ⊕ (Int32))) :=
  if (M 258 (ix (2357 : Int32))) ≤ v3_2 then (some (.inr (.inl ())))
  else ((f_X11_otherwise v1_2 v3_2 M).bind fun u17_2 =>
  if v2_2 = (-1 : Int32) then (grd (inb ((2371 : Int32) + v3_2) 2425) (
  j_X11_areAlike_44_2 v1_2 v2_2 v3_2 u17_2 (M 258 (ix ((2371 : Int32) + v3_2))) M))
  else ((f_X11_otherwise v2_2 v3_2 M).bind fun u41_2 =>
  j_X11_areAlike_44_2 v1_2 v2_2 v3_2 u17_2 u41_2 M))
set_option maxRecDepth 100000 in
theorem b_X11_areAlike_2_ok {C : zC} {d : Nat} {g : zG} {l : Launch} {w : zW} {r : Int32} {v1_2 : Int32} {v2_2 : Int32} {v3_2 : Int32} (hB : bOK C cX11_areAlike 4 RX11 d g l w false) (hd : 2 ≤ d) (M : zM) (hR : RtZ C cX11_areAlike w r M) : Sg C w (0, 0) 2 [(0, zr w 257), (1, .int v1_2), (2, .int v2_2), (3, .int v3_2)] [] M (b_X11_areAlike_2 v1_2 v2_2 v3_2 M) (fun o => Sum.elim (fun (s : (Int32)) => Zs C w (0, 0) 2 [(0, zr w 257), (1, .int v1_2), (2, .int v2_2), (3, .int s)] [] M) (fun q => Sum.elim (fun (s : Unit) => Zs C w (0, 0) 55 [] [] M) (fun q => q = r) q) o) := by
  have hC := hB.1.1
  have hq1 : 1 ≤ d := by omega
  unfold b_X11_areAlike_2
  refine x_iload_n hC dX11_areAlike_2 rfl 3 rfl ?_
  refine x_aload_n hC dX11_areAlike_3 rfl 0 rfl ?_
  refine r_getR hB dX11_areAlike_4 kf_X11_9 rfl th_257 rf_257_0 ?_
  refine x_sipush (v := (2357 : Int32)) hC dX11_areAlike_7 kh_2357 ?_
  refine r_iald0 hB dX11_areAlike_10 th_258 ib_2357_2425 ?_
  refine x_icmp_ge (tgt := 55) hC dX11_areAlike_11 (by decide) ?_ ?_
  · refine x_sub [] rfl ?_
    exact x_done (fun h => h)
  · refine x_aload_n hC dX11_areAlike_14 rfl 0 rfl ?_
    refine x_iload_n hC dX11_areAlike_15 rfl 1 rfl ?_
    refine x_iload_n hC dX11_areAlike_16 rfl 3 rfl ?_
    refine r_cV1 (as := [.int v1_2, .int v3_2]) (rest := []) hB dX11_areAlike_17 kv_X11_368 th_257 hq1 rfl rfl (Nat.le_of_ble_eq_true rfl) (fun v hv => f_X11_otherwise_met hB.2 (by omega) hv) (fun u17_2 => ?_)
    refine x_iload_n hC dX11_areAlike_20 rfl 2 rfl ?_
    refine x_iconst (v := (-1 : Int32)) hC dX11_areAlike_21 ki_m1 ?_
    refine x_icmp_ne (tgt := 38) hC dX11_areAlike_22 (by decide) ?_ ?_
    · refine x_aload_n hC dX11_areAlike_25 rfl 0 rfl ?_
      refine r_getR hB dX11_areAlike_26 kf_X11_9 rfl th_257 rf_257_0 ?_
      refine x_sipush (v := (2371 : Int32)) hC dX11_areAlike_29 kh_2371 ?_
      refine x_iload_n hC dX11_areAlike_32 rfl 3 rfl ?_
      refine x_iadd hC dX11_areAlike_33 ?_
      refine r_iald hB dX11_areAlike_34 th_258 ?_
      refine x_goto (tgt := 44) hC dX11_areAlike_35 (by decide) ?_
      exact j_X11_areAlike_44_2_ok hB hd M hR
    · refine x_aload_n hC dX11_areAlike_38 rfl 0 rfl ?_
      refine x_iload_n hC dX11_areAlike_39 rfl 2 rfl ?_
      refine x_iload_n hC dX11_areAlike_40 rfl 3 rfl ?_
      refine r_cV1 (as := [.int v2_2, .int v3_2]) (rest := [.int u17_2]) hB dX11_areAlike_41 kv_X11_368 th_257 hq1 rfl rfl (Nat.le_of_ble_eq_true rfl) (fun v hv => f_X11_otherwise_met hB.2 (by omega) hv) (fun u41_2 => ?_)
      exact j_X11_areAlike_44_2_ok hB hd M hR
noncomputable def j_X11_areAlike_55 (M : zM) : Option (Int32) :=
  some (1 : Int32)
set_option maxRecDepth 100000 in
theorem j_X11_areAlike_55_ok {C : zC} {d : Nat} {g : zG} {l : Launch} {w : zW} {r : Int32} (hB : bOK C cX11_areAlike 4 RX11 d g l w false) (hd : 2 ≤ d) (M : zM) (hR : RtZ C cX11_areAlike w r M) : Sg C w (0, 0) 55 [] [] M (j_X11_areAlike_55 M) (fun q => q = r) := by
  have hC := hB.1.1
  have hq1 : 1 ≤ d := by omega
  unfold j_X11_areAlike_55
  refine x_iconst (v := (1 : Int32)) hC dX11_areAlike_55 ki_1 ?_
  exact r_retZ hR dX11_areAlike_56 (Or.inr rfl) (fun h => congrArg (fun q => (q, M)) h)
noncomputable def f_X11_areAlike (p1 : Int32) (p2 : Int32) (M : zM) : Option (Int32) :=
  (loopW (fun s => b_X11_areAlike_2 p1 p2 s M) (0 : Int32)).bind (fun q => Sum.elim (fun r => j_X11_areAlike_55 M) some q)
set_option maxRecDepth 100000 in
theorem f_X11_areAlike_ok {C : zC} {d : Nat} {g : zG} {l : Launch} {w : zW} {r : Int32} {p1 : Int32} {p2 : Int32} (hB : bOK C cX11_areAlike 4 RX11 d g l w false) (hd : 2 ≤ d) (M : zM) (hR : RtZ C cX11_areAlike w r M) : Sg C w (0, 0) 0 [(0, zr w 257), (1, .int p1), (2, .int p2)] [] M (f_X11_areAlike p1 p2 M) (fun q => q = r) := by
  have hC := hB.1.1
  have hq1 : 1 ≤ d := by omega
  unfold f_X11_areAlike
  refine x_iconst (v := (0 : Int32)) hC dX11_areAlike_0 ki_0 ?_
  refine x_istore_n hC dX11_areAlike_1 rfl [(3, .int (0 : Int32)), (0, zr w 257), (1, .int p1), (2, .int p2)] (by decide) rfl ?_
  refine x_sub [1, 2, 3, 0] rfl ?_
  refine x_loopR (pc2 := 55) (fun (s : (Int32)) => [(0, zr w 257), (1, .int p1), (2, .int p2), (3, .int s)]) (fun (s : (Int32)) => M) (fun (s : Unit) => []) (fun (s : Unit) => M) (0 : Int32) ?_ ?_
  · exact fun s => b_X11_areAlike_2_ok hB hd M hR
  · intro r9
    exact j_X11_areAlike_55_ok hB hd M hR
theorem f_X11_areAlike_met {l : Launch} {d : Nat} {g : zG} {w : zW} {M0 : zM} {p1 : Int32} {p2 : Int32} {M : zM} (hw : wS w) (hd : 2 ≤ d) {v : Int32} (h : f_X11_areAlike p1 p2 M = some v) : zMet l yX11_areAlike cX11_areAlike 4 (some .boolean) d g w (zin false) M0 [zr w 257, .int p1, .int p2] M (some (.int v)) M :=
  met_z (by decide +kernel) (Nat.le_of_ble_eq_true rfl) (fun C hB0 hR => f_X11_areAlike_ok ⟨hB0, hw⟩ hd M hR _ h rfl)
/-! WindingSquareModel.move(I)I -/
noncomputable def j_X11_move_80 (s1_80 : Int32) (s2_80 : Int32) (s3_80 : Int32) (M : zM) : Option (Int32 × zM) :=
  grd (inb s1_80 2425) (
  nm (mset M 258 (ix s1_80) (s2_80 + s3_80)) fun M81 =>
  some ((M81 258 (ix (2383 : Int32))), M81))
set_option maxRecDepth 100000 in
theorem j_X11_move_80_ok {C : zC} {d : Nat} {g : zG} {l : Launch} {w : zW} {r : Int32 × zM} {s1_80 : Int32} {s2_80 : Int32} {s3_80 : Int32} (hB : bOK C cX11_move 2 RX11 d g l w false) (hd : 2 ≤ d) (M : zM) (hR : RtI C cX11_move w r.1 r.2) : Sg C w (0, 0) 80 [(0, zr w 257)] [.int s3_80, .int s2_80, .int s1_80, zr w 258] M (j_X11_move_80 s1_80 s2_80 s3_80 M) (fun q => q = r) := by
  have hC := hB.1.1
  have hq1 : 1 ≤ d := by omega
  unfold j_X11_move_80
  refine x_iadd hC dX11_move_80 ?_
  refine r_iast hB dX11_move_81 th_258 ?_
  refine x_mem (fun M81 => ?_)
  refine x_aload_n hC dX11_move_82 rfl 0 rfl ?_
  refine r_getR hB dX11_move_83 kf_X11_9 rfl th_257 rf_257_0 ?_
  refine x_sipush (v := (2383 : Int32)) hC dX11_move_86 kh_2383 ?_
  refine r_iald0 hB dX11_move_89 th_258 ib_2383_2425 ?_
  exact r_retI hR dX11_move_90 (fun h => h)
noncomputable def j_X11_move_61 (v1_61 : Int32) (M : zM) : Option (Int32 × zM) :=
  if v1_61 = (-1 : Int32) then (j_X11_move_80 (2383 : Int32) (M 258 (ix (2383 : Int32))) (0 : Int32) M)
  else (j_X11_move_80 (2383 : Int32) (M 258 (ix (2383 : Int32))) (1 : Int32) M)
set_option maxRecDepth 100000 in
theorem j_X11_move_61_ok {C : zC} {d : Nat} {g : zG} {l : Launch} {w : zW} {r : Int32 × zM} {v1_61 : Int32} (hB : bOK C cX11_move 2 RX11 d g l w false) (hd : 2 ≤ d) (M : zM) (hR : RtI C cX11_move w r.1 r.2) : Sg C w (0, 0) 61 [(0, zr w 257), (1, .int v1_61)] [] M (j_X11_move_61 v1_61 M) (fun q => q = r) := by
  have hC := hB.1.1
  have hq1 : 1 ≤ d := by omega
  unfold j_X11_move_61
  refine x_aload_n hC dX11_move_61 rfl 0 rfl ?_
  refine r_getR hB dX11_move_62 kf_X11_9 rfl th_257 rf_257_0 ?_
  refine x_sipush (v := (2383 : Int32)) hC dX11_move_65 kh_2383 ?_
  refine x_dup2 hC dX11_move_68 rfl rfl ?_
  refine r_iald0 hB dX11_move_69 th_258 ib_2383_2425 ?_
  refine x_iload_n hC dX11_move_70 rfl 1 rfl ?_
  refine x_iconst (v := (-1 : Int32)) hC dX11_move_71 ki_m1 ?_
  refine x_icmp_ne (tgt := 79) hC dX11_move_72 (by decide) ?_ ?_
  · refine x_iconst (v := (0 : Int32)) hC dX11_move_75 ki_0 ?_
    refine x_goto (tgt := 80) hC dX11_move_76 (by decide) ?_
    refine x_sub [0] rfl ?_
    exact j_X11_move_80_ok hB hd M hR
  · refine x_iconst (v := (1 : Int32)) hC dX11_move_79 ki_1 ?_
    refine x_sub [0] rfl ?_
    exact j_X11_move_80_ok hB hd M hR
noncomputable def f_X11_move (p1 : Int32) (M : zM) : Option (Int32 × zM) :=
  if (f_X11_within p1 (-1 : Int32) (2 : Int32)) = 0 then (some ((-1 : Int32), M))
  else (if p1 = (-1 : Int32) then (nm (mset M 258 (ix (2383 : Int32)) (0 : Int32)) fun M24 =>
  j_X11_move_61 p1 M24)
  else (if (M 258 (ix (2383 : Int32))) = (24 : Int32) then (some ((-1 : Int32), M))
  else (grd (inb ((2384 : Int32) + (M 258 (ix (2383 : Int32)))) 2425) (
  nm (mset M 258 (ix ((2384 : Int32) + (M 258 (ix (2383 : Int32))))) p1) fun M60 =>
  j_X11_move_61 p1 M60))))
set_option maxRecDepth 100000 in
theorem f_X11_move_ok {C : zC} {d : Nat} {g : zG} {l : Launch} {w : zW} {r : Int32 × zM} {p1 : Int32} (hB : bOK C cX11_move 2 RX11 d g l w false) (hd : 2 ≤ d) (M : zM) (hR : RtI C cX11_move w r.1 r.2) : Sg C w (0, 0) 0 [(0, zr w 257), (1, .int p1)] [] M (f_X11_move p1 M) (fun q => q = r) := by
  have hC := hB.1.1
  have hq1 : 1 ≤ d := by omega
  unfold f_X11_move
  refine x_iload_n hC dX11_move_0 rfl 1 rfl ?_
  refine x_iconst (v := (-1 : Int32)) hC dX11_move_1 ki_m1 ?_
  refine x_iconst (v := (2 : Int32)) hC dX11_move_2 ki_2 ?_
  refine r_cS0 (as := [.int p1, .int (-1 : Int32), .int (2 : Int32)]) (rest := []) hB dX11_move_3 ks_X11_100 hq1 rfl rfl (Nat.le_of_ble_eq_true rfl) (f_X11_within_met hB.2 (by omega)) ?_
  refine x_if_ne (tgt := 11) hC dX11_move_6 (by decide) ?_ ?_
  · refine x_iconst (v := (-1 : Int32)) hC dX11_move_9 ki_m1 ?_
    exact r_retI hR dX11_move_10 (fun h => h)
  · refine x_iload_n hC dX11_move_11 rfl 1 rfl ?_
    refine x_iconst (v := (-1 : Int32)) hC dX11_move_12 ki_m1 ?_
    refine x_icmp_ne (tgt := 28) hC dX11_move_13 (by decide) ?_ ?_
    · refine x_aload_n hC dX11_move_16 rfl 0 rfl ?_
      refine r_getR hB dX11_move_17 kf_X11_9 rfl th_257 rf_257_0 ?_
      refine x_sipush (v := (2383 : Int32)) hC dX11_move_20 kh_2383 ?_
      refine x_iconst (v := (0 : Int32)) hC dX11_move_23 ki_0 ?_
      refine r_iast0 hB dX11_move_24 th_258 ib_2383_2425 ?_
      refine x_mem (fun M24 => ?_)
      refine x_goto (tgt := 61) hC dX11_move_25 (by decide) ?_
      exact j_X11_move_61_ok hB hd M24 hR
    · refine x_aload_n hC dX11_move_28 rfl 0 rfl ?_
      refine r_getR hB dX11_move_29 kf_X11_9 rfl th_257 rf_257_0 ?_
      refine x_sipush (v := (2383 : Int32)) hC dX11_move_32 kh_2383 ?_
      refine r_iald0 hB dX11_move_35 th_258 ib_2383_2425 ?_
      refine x_bipush (v := (24 : Int32)) hC dX11_move_36 kb_24 ?_
      refine x_icmp_ne (tgt := 43) hC dX11_move_38 (by decide) ?_ ?_
      · refine x_iconst (v := (-1 : Int32)) hC dX11_move_41 ki_m1 ?_
        exact r_retI hR dX11_move_42 (fun h => h)
      · refine x_aload_n hC dX11_move_43 rfl 0 rfl ?_
        refine r_getR hB dX11_move_44 kf_X11_9 rfl th_257 rf_257_0 ?_
        refine x_sipush (v := (2384 : Int32)) hC dX11_move_47 kh_2384 ?_
        refine x_aload_n hC dX11_move_50 rfl 0 rfl ?_
        refine r_getR hB dX11_move_51 kf_X11_9 rfl th_257 rf_257_0 ?_
        refine x_sipush (v := (2383 : Int32)) hC dX11_move_54 kh_2383 ?_
        refine r_iald0 hB dX11_move_57 th_258 ib_2383_2425 ?_
        refine x_iadd hC dX11_move_58 ?_
        refine x_iload_n hC dX11_move_59 rfl 1 rfl ?_
        refine r_iast hB dX11_move_60 th_258 ?_
        refine x_mem (fun M60 => ?_)
        exact j_X11_move_61_ok hB hd M60 hR
theorem f_X11_move_met {l : Launch} {d : Nat} {g : zG} {w : zW} {M0 : zM} {p1 : Int32} {M : zM} (hw : wS w) (hd : 2 ≤ d) {v : Int32} {M' : zM} (h : f_X11_move p1 M = some (v, M')) : zMet l yX11_move cX11_move 2 (some .int) d g w (zin false) M0 [zr w 257, .int p1] M (some (.int v)) M' :=
  met_i (by decide +kernel) (Nat.le_of_ble_eq_true rfl) rfl (fun C hB0 hR => f_X11_move_ok (r := (v, M')) ⟨hB0, hw⟩ hd M hR _ h rfl)
/-! WindingSquareModel.goesRound()V -/
noncomputable def j_X11_goesRound_211_31 (v1_211_31 : Int32) (M : zM) : Option ((Int32 × zM) ⊕ (zM)) :=
  some (.inl ((v1_211_31 + (1 : Int32)), M))
set_option maxRecDepth 100000 in
theorem j_X11_goesRound_211_31_ok {C : zC} {d : Nat} {g : zG} {l : Launch} {w : zW} {r : zM} {v1_211_31 : Int32} (hB : bOK C cX11_goesRound 4 RX11 d g l w false) (hd : 2 ≤ d) (M : zM) (hR : RtV C cX11_goesRound w r) : Sg C w (0, 0) 211 [(0, zr w 257), (1, .int v1_211_31)] [] M (j_X11_goesRound_211_31 v1_211_31 M) (fun o => Sum.elim (fun (s : (Int32 × zM)) => Zs C w (0, 0) 31 [(0, zr w 257), (1, .int s.1)] [] s.2) (fun (s : (zM)) => Zs C w (0, 0) 217 [] [] s) o) := by
  have hC := hB.1.1
  have hq1 : 1 ≤ d := by omega
  unfold j_X11_goesRound_211_31
  refine x_iinc hC dX11_goesRound_211 ki_1 [(1, .int (v1_211_31 + (1 : Int32))), (0, zr w 257)] 1 rfl (by decide) rfl ?_
  refine x_goto (tgt := 31) hC dX11_goesRound_214 (by decide) ?_
  refine x_sub [1, 0] rfl ?_
  exact x_done (fun h => h)
noncomputable def j_X11_goesRound_78_31 (v1_78_31 : Int32) (v2_78_31 : Int32) (s1_78_31 : Int32) (s2_78_31 : Int32) (M : zM) : Option ((Int32 × zM) ⊕ (zM)) :=
  nm (mset M 257 29 (s1_78_31 + s2_78_31)) fun M79_31 =>
  if v2_78_31 = 0 then (nm (irem ((M79_31 257 29) + (24 : Int32)) (4 : Int32)) fun v3_98_31 =>
  grd (inb ((M79_31 257 28) - (1 : Int32)) 25) (
  grd (inb (M79_31 257 28) 25) (
  nm (mset M79_31 271 (ix (M79_31 257 28)) ((M79_31 271 (ix ((M79_31 257 28) - (1 : Int32)))) + (f_X11_goesX v3_98_31))) fun M123_31 =>
  grd (inb ((M123_31 257 28) - (1 : Int32)) 25) (
  grd (inb (M123_31 257 28) 25) (
  nm (mset M123_31 272 (ix (M123_31 257 28)) ((M123_31 272 (ix ((M123_31 257 28) - (1 : Int32)))) + (f_X11_goesY v3_98_31))) fun M148_31 =>
  grd (inb ((M148_31 257 28) - (1 : Int32)) 25) (
  grd (inb (M148_31 257 28) 25) (
  grd (inb (M148_31 257 28) 25) (
  grd (inb ((M148_31 257 28) - (1 : Int32)) 25) (
  nm (mset M148_31 257 30 ((M148_31 257 30) + (((M148_31 271 (ix ((M148_31 257 28) - (1 : Int32)))) * (M148_31 272 (ix (M148_31 257 28)))) - ((M148_31 271 (ix (M148_31 257 28))) * (M148_31 272 (ix ((M148_31 257 28) - (1 : Int32)))))))) fun M198_31 =>
  nm (mset M198_31 257 28 ((M198_31 257 28) + (1 : Int32))) fun M208_31 =>
  j_X11_goesRound_211_31 v1_78_31 M208_31)))))))))
  else (j_X11_goesRound_211_31 v1_78_31 M79_31)
set_option maxRecDepth 100000 in
theorem j_X11_goesRound_78_31_ok {C : zC} {d : Nat} {g : zG} {l : Launch} {w : zW} {r : zM} {v1_78_31 : Int32} {v2_78_31 : Int32} {s1_78_31 : Int32} {s2_78_31 : Int32} (hB : bOK C cX11_goesRound 4 RX11 d g l w false) (hd : 2 ≤ d) (M : zM) (hR : RtV C cX11_goesRound w r) : Sg C w (0, 0) 78 [(0, zr w 257), (1, .int v1_78_31), (2, .int v2_78_31)] [.int s2_78_31, .int s1_78_31, zr w 257] M (j_X11_goesRound_78_31 v1_78_31 v2_78_31 s1_78_31 s2_78_31 M) (fun o => Sum.elim (fun (s : (Int32 × zM)) => Zs C w (0, 0) 31 [(0, zr w 257), (1, .int s.1)] [] s.2) (fun (s : (zM)) => Zs C w (0, 0) 217 [] [] s) o) := by
  have hC := hB.1.1
  have hq1 : 1 ≤ d := by omega
  unfold j_X11_goesRound_78_31
  refine x_iadd hC dX11_goesRound_78 ?_
  refine r_putI hB dX11_goesRound_79 kf_X11_377 rfl th_257 ?_
  refine x_mem (fun M79_31 => ?_)
  refine x_iload_n hC dX11_goesRound_82 rfl 2 rfl ?_
  refine x_if_eq (tgt := 89) hC dX11_goesRound_83 (by decide) ?_ ?_
  · refine x_aload_n hC dX11_goesRound_89 rfl 0 rfl ?_
    refine r_getI hB dX11_goesRound_90 kf_X11_377 rfl th_257 ?_
    refine x_bipush (v := (24 : Int32)) hC dX11_goesRound_93 kb_24 ?_
    refine x_iadd hC dX11_goesRound_95 ?_
    refine x_iconst (v := (4 : Int32)) hC dX11_goesRound_96 ki_4 ?_
    refine x_irem0 hC dX11_goesRound_97 nz_4 ?_
    refine x_top (fun v3_98_31 => ?_)
    refine x_istore_n hC dX11_goesRound_98 rfl [(3, .int v3_98_31), (0, zr w 257), (1, .int v1_78_31), (2, .int v2_78_31)] (by decide) rfl ?_
    refine x_aload_n hC dX11_goesRound_99 rfl 1 rfl ?_
    refine r_getR hB dX11_goesRound_100 kf_X11_53 rfl th_257 rf_257_26 ?_
    refine x_aload_n hC dX11_goesRound_103 rfl 1 rfl ?_
    refine r_getI hB dX11_goesRound_104 kf_X11_374 rfl th_257 ?_
    refine x_aload_n hC dX11_goesRound_107 rfl 1 rfl ?_
    refine r_getR hB dX11_goesRound_108 kf_X11_53 rfl th_257 rf_257_26 ?_
    refine x_aload_n hC dX11_goesRound_111 rfl 1 rfl ?_
    refine r_getI hB dX11_goesRound_112 kf_X11_374 rfl th_257 ?_
    refine x_iconst (v := (1 : Int32)) hC dX11_goesRound_115 ki_1 ?_
    refine x_isub hC dX11_goesRound_116 ?_
    refine r_iald hB dX11_goesRound_117 th_271 ?_
    refine x_iload_n hC dX11_goesRound_118 rfl 0 rfl ?_
    refine r_cS0 (as := [.int v3_98_31]) (rest := [.int (M79_31 271 (ix ((M79_31 257 28) - (1 : Int32)))), .int (M79_31 257 28), zr w 271]) hB dX11_goesRound_119 ks_X11_285 hq1 rfl rfl (Nat.le_of_ble_eq_true rfl) (f_X11_goesX_met hB.2 (by omega)) ?_
    refine x_iadd hC dX11_goesRound_122 ?_
    refine r_iast hB dX11_goesRound_123 th_271 ?_
    refine x_mem (fun M123_31 => ?_)
    refine x_aload_n hC dX11_goesRound_124 rfl 1 rfl ?_
    refine r_getR hB dX11_goesRound_125 kf_X11_56 rfl th_257 rf_257_27 ?_
    refine x_aload_n hC dX11_goesRound_128 rfl 1 rfl ?_
    refine r_getI hB dX11_goesRound_129 kf_X11_374 rfl th_257 ?_
    refine x_aload_n hC dX11_goesRound_132 rfl 1 rfl ?_
    refine r_getR hB dX11_goesRound_133 kf_X11_56 rfl th_257 rf_257_27 ?_
    refine x_aload_n hC dX11_goesRound_136 rfl 1 rfl ?_
    refine r_getI hB dX11_goesRound_137 kf_X11_374 rfl th_257 ?_
    refine x_iconst (v := (1 : Int32)) hC dX11_goesRound_140 ki_1 ?_
    refine x_isub hC dX11_goesRound_141 ?_
    refine r_iald hB dX11_goesRound_142 th_272 ?_
    refine x_iload_n hC dX11_goesRound_143 rfl 0 rfl ?_
    refine r_cS0 (as := [.int v3_98_31]) (rest := [.int (M123_31 272 (ix ((M123_31 257 28) - (1 : Int32)))), .int (M123_31 257 28), zr w 272]) hB dX11_goesRound_144 ks_X11_288 hq1 rfl rfl (Nat.le_of_ble_eq_true rfl) (f_X11_goesY_met hB.2 (by omega)) ?_
    refine x_iadd hC dX11_goesRound_147 ?_
    refine r_iast hB dX11_goesRound_148 th_272 ?_
    refine x_mem (fun M148_31 => ?_)
    refine x_aload_n hC dX11_goesRound_149 rfl 1 rfl ?_
    refine x_dup hC dX11_goesRound_150 rfl ?_
    refine r_getI hB dX11_goesRound_151 kf_X11_380 rfl th_257 ?_
    refine x_aload_n hC dX11_goesRound_154 rfl 1 rfl ?_
    refine r_getR hB dX11_goesRound_155 kf_X11_53 rfl th_257 rf_257_26 ?_
    refine x_aload_n hC dX11_goesRound_158 rfl 1 rfl ?_
    refine r_getI hB dX11_goesRound_159 kf_X11_374 rfl th_257 ?_
    refine x_iconst (v := (1 : Int32)) hC dX11_goesRound_162 ki_1 ?_
    refine x_isub hC dX11_goesRound_163 ?_
    refine r_iald hB dX11_goesRound_164 th_271 ?_
    refine x_aload_n hC dX11_goesRound_165 rfl 1 rfl ?_
    refine r_getR hB dX11_goesRound_166 kf_X11_56 rfl th_257 rf_257_27 ?_
    refine x_aload_n hC dX11_goesRound_169 rfl 1 rfl ?_
    refine r_getI hB dX11_goesRound_170 kf_X11_374 rfl th_257 ?_
    refine r_iald hB dX11_goesRound_173 th_272 ?_
    refine x_imul hC dX11_goesRound_174 ?_
    refine x_aload_n hC dX11_goesRound_175 rfl 1 rfl ?_
    refine r_getR hB dX11_goesRound_176 kf_X11_53 rfl th_257 rf_257_26 ?_
    refine x_aload_n hC dX11_goesRound_179 rfl 1 rfl ?_
    refine r_getI hB dX11_goesRound_180 kf_X11_374 rfl th_257 ?_
    refine r_iald hB dX11_goesRound_183 th_271 ?_
    refine x_aload_n hC dX11_goesRound_184 rfl 1 rfl ?_
    refine r_getR hB dX11_goesRound_185 kf_X11_56 rfl th_257 rf_257_27 ?_
    refine x_aload_n hC dX11_goesRound_188 rfl 1 rfl ?_
    refine r_getI hB dX11_goesRound_189 kf_X11_374 rfl th_257 ?_
    refine x_iconst (v := (1 : Int32)) hC dX11_goesRound_192 ki_1 ?_
    refine x_isub hC dX11_goesRound_193 ?_
    refine r_iald hB dX11_goesRound_194 th_272 ?_
    refine x_imul hC dX11_goesRound_195 ?_
    refine x_isub hC dX11_goesRound_196 ?_
    refine x_iadd hC dX11_goesRound_197 ?_
    refine r_putI hB dX11_goesRound_198 kf_X11_380 rfl th_257 ?_
    refine x_mem (fun M198_31 => ?_)
    refine x_aload_n hC dX11_goesRound_201 rfl 1 rfl ?_
    refine x_dup hC dX11_goesRound_202 rfl ?_
    refine r_getI hB dX11_goesRound_203 kf_X11_374 rfl th_257 ?_
    refine x_iconst (v := (1 : Int32)) hC dX11_goesRound_206 ki_1 ?_
    refine x_iadd hC dX11_goesRound_207 ?_
    refine r_putI hB dX11_goesRound_208 kf_X11_374 rfl th_257 ?_
    refine x_mem (fun M208_31 => ?_)
    refine x_sub [1, 2] rfl ?_
    exact j_X11_goesRound_211_31_ok hB hd M208_31 hR
  · refine x_goto (tgt := 211) hC dX11_goesRound_86 (by decide) ?_
    refine x_sub [0, 1] rfl ?_
    exact j_X11_goesRound_211_31_ok hB hd M79_31 hR
noncomputable def b_X11_goesRound_31 (v1_31 : Int32) (M : zM) : Option ((Int32 × zM) ⊕ (zM)) :=
  if (M 258 (ix (2383 : Int32))) ≤ v1_31 then (some (.inr M))
  else (grd (inb ((2384 : Int32) + v1_31) 2425) (
  nm (M 258 (ix ((2384 : Int32) + v1_31))) fun v2_53_31 =>
  if v2_53_31 = (2 : Int32) then (j_X11_goesRound_78_31 v1_31 v2_53_31 (M 257 29) (1 : Int32) M)
  else (if v2_53_31 = (1 : Int32) then (j_X11_goesRound_78_31 v1_31 v2_53_31 (M 257 29) (-1 : Int32) M)
  else (j_X11_goesRound_78_31 v1_31 v2_53_31 (M 257 29) (0 : Int32) M))))
set_option maxRecDepth 100000 in
theorem b_X11_goesRound_31_ok {C : zC} {d : Nat} {g : zG} {l : Launch} {w : zW} {r : zM} {v1_31 : Int32} (hB : bOK C cX11_goesRound 4 RX11 d g l w false) (hd : 2 ≤ d) (M : zM) (hR : RtV C cX11_goesRound w r) : Sg C w (0, 0) 31 [(0, zr w 257), (1, .int v1_31)] [] M (b_X11_goesRound_31 v1_31 M) (fun o => Sum.elim (fun (s : (Int32 × zM)) => Zs C w (0, 0) 31 [(0, zr w 257), (1, .int s.1)] [] s.2) (fun (s : (zM)) => Zs C w (0, 0) 217 [] [] s) o) := by
  have hC := hB.1.1
  have hq1 : 1 ≤ d := by omega
  unfold b_X11_goesRound_31
  refine x_iload_n hC dX11_goesRound_31 rfl 1 rfl ?_
  refine x_aload_n hC dX11_goesRound_32 rfl 0 rfl ?_
  refine r_getR hB dX11_goesRound_33 kf_X11_9 rfl th_257 rf_257_0 ?_
  refine x_sipush (v := (2383 : Int32)) hC dX11_goesRound_36 kh_2383 ?_
  refine r_iald0 hB dX11_goesRound_39 th_258 ib_2383_2425 ?_
  refine x_icmp_ge (tgt := 217) hC dX11_goesRound_40 (by decide) ?_ ?_
  · refine x_sub [] rfl ?_
    exact x_done (fun h => h)
  · refine x_aload_n hC dX11_goesRound_43 rfl 0 rfl ?_
    refine r_getR hB dX11_goesRound_44 kf_X11_9 rfl th_257 rf_257_0 ?_
    refine x_sipush (v := (2384 : Int32)) hC dX11_goesRound_47 kh_2384 ?_
    refine x_iload_n hC dX11_goesRound_50 rfl 1 rfl ?_
    refine x_iadd hC dX11_goesRound_51 ?_
    refine r_iald hB dX11_goesRound_52 th_258 ?_
    refine x_top (fun v2_53_31 => ?_)
    refine x_istore_n hC dX11_goesRound_53 rfl [(2, .int v2_53_31), (0, zr w 257), (1, .int v1_31)] (by decide) rfl ?_
    refine x_aload_n hC dX11_goesRound_54 rfl 1 rfl ?_
    refine x_dup hC dX11_goesRound_55 rfl ?_
    refine r_getI hB dX11_goesRound_56 kf_X11_377 rfl th_257 ?_
    refine x_iload_n hC dX11_goesRound_59 rfl 0 rfl ?_
    refine x_iconst (v := (2 : Int32)) hC dX11_goesRound_60 ki_2 ?_
    refine x_icmp_ne (tgt := 68) hC dX11_goesRound_61 (by decide) ?_ ?_
    · refine x_iconst (v := (1 : Int32)) hC dX11_goesRound_64 ki_1 ?_
      refine x_goto (tgt := 78) hC dX11_goesRound_65 (by decide) ?_
      refine x_sub [1, 2, 0] rfl ?_
      exact j_X11_goesRound_78_31_ok hB hd M hR
    · refine x_iload_n hC dX11_goesRound_68 rfl 0 rfl ?_
      refine x_iconst (v := (1 : Int32)) hC dX11_goesRound_69 ki_1 ?_
      refine x_icmp_ne (tgt := 77) hC dX11_goesRound_70 (by decide) ?_ ?_
      · refine x_iconst (v := (-1 : Int32)) hC dX11_goesRound_73 ki_m1 ?_
        refine x_goto (tgt := 78) hC dX11_goesRound_74 (by decide) ?_
        refine x_sub [1, 2, 0] rfl ?_
        exact j_X11_goesRound_78_31_ok hB hd M hR
      · refine x_iconst (v := (0 : Int32)) hC dX11_goesRound_77 ki_0 ?_
        refine x_sub [1, 2, 0] rfl ?_
        exact j_X11_goesRound_78_31_ok hB hd M hR
noncomputable def j_X11_goesRound_217 (M : zM) : Option (zM) :=
  some M
set_option maxRecDepth 100000 in
theorem j_X11_goesRound_217_ok {C : zC} {d : Nat} {g : zG} {l : Launch} {w : zW} {r : zM} (hB : bOK C cX11_goesRound 4 RX11 d g l w false) (hd : 2 ≤ d) (M : zM) (hR : RtV C cX11_goesRound w r) : Sg C w (0, 0) 217 [] [] M (j_X11_goesRound_217 M) (fun q => q = r) := by
  have hC := hB.1.1
  have hq1 : 1 ≤ d := by omega
  unfold j_X11_goesRound_217
  exact r_retV hR dX11_goesRound_217 (fun h => h)
noncomputable def f_X11_goesRound (M : zM) : Option (zM) :=
  nm (mset M 257 28 (1 : Int32)) fun M2 =>
  nm (mset M2 271 (ix (0 : Int32)) (0 : Int32)) fun M11 =>
  nm (mset M11 272 (ix (0 : Int32)) (0 : Int32)) fun M18 =>
  nm (mset M18 257 29 (0 : Int32)) fun M21 =>
  nm (mset M21 257 30 (0 : Int32)) fun M26 =>
  (loopW (fun s => b_X11_goesRound_31 s.1 s.2) ((0 : Int32), M26)).bind (fun r => j_X11_goesRound_217 r)
set_option maxRecDepth 100000 in
theorem f_X11_goesRound_ok {C : zC} {d : Nat} {g : zG} {l : Launch} {w : zW} {r : zM} (hB : bOK C cX11_goesRound 4 RX11 d g l w false) (hd : 2 ≤ d) (M : zM) (hR : RtV C cX11_goesRound w r) : Sg C w (0, 0) 0 [(0, zr w 257)] [] M (f_X11_goesRound M) (fun q => q = r) := by
  have hC := hB.1.1
  have hq1 : 1 ≤ d := by omega
  unfold f_X11_goesRound
  refine x_aload_n hC dX11_goesRound_0 rfl 0 rfl ?_
  refine x_iconst (v := (1 : Int32)) hC dX11_goesRound_1 ki_1 ?_
  refine r_putI hB dX11_goesRound_2 kf_X11_374 rfl th_257 ?_
  refine x_mem (fun M2 => ?_)
  refine x_aload_n hC dX11_goesRound_5 rfl 0 rfl ?_
  refine r_getR hB dX11_goesRound_6 kf_X11_53 rfl th_257 rf_257_26 ?_
  refine x_iconst (v := (0 : Int32)) hC dX11_goesRound_9 ki_0 ?_
  refine x_iconst (v := (0 : Int32)) hC dX11_goesRound_10 ki_0 ?_
  refine r_iast0 hB dX11_goesRound_11 th_271 ib_0_25 ?_
  refine x_mem (fun M11 => ?_)
  refine x_aload_n hC dX11_goesRound_12 rfl 0 rfl ?_
  refine r_getR hB dX11_goesRound_13 kf_X11_56 rfl th_257 rf_257_27 ?_
  refine x_iconst (v := (0 : Int32)) hC dX11_goesRound_16 ki_0 ?_
  refine x_iconst (v := (0 : Int32)) hC dX11_goesRound_17 ki_0 ?_
  refine r_iast0 hB dX11_goesRound_18 th_272 ib_0_25 ?_
  refine x_mem (fun M18 => ?_)
  refine x_aload_n hC dX11_goesRound_19 rfl 0 rfl ?_
  refine x_iconst (v := (0 : Int32)) hC dX11_goesRound_20 ki_0 ?_
  refine r_putI hB dX11_goesRound_21 kf_X11_377 rfl th_257 ?_
  refine x_mem (fun M21 => ?_)
  refine x_aload_n hC dX11_goesRound_24 rfl 0 rfl ?_
  refine x_iconst (v := (0 : Int32)) hC dX11_goesRound_25 ki_0 ?_
  refine r_putI hB dX11_goesRound_26 kf_X11_380 rfl th_257 ?_
  refine x_mem (fun M26 => ?_)
  refine x_iconst (v := (0 : Int32)) hC dX11_goesRound_29 ki_0 ?_
  refine x_istore_n hC dX11_goesRound_30 rfl [(1, .int (0 : Int32)), (0, zr w 257)] (by decide) rfl ?_
  refine x_sub [1, 0] rfl ?_
  refine x_loopB (pc2 := 217) (fun (s : (Int32 × zM)) => [(0, zr w 257), (1, .int s.1)]) (fun (s : (Int32 × zM)) => s.2) (fun (s : (zM)) => []) (fun (s : (zM)) => s) ((0 : Int32), M26) ?_ ?_
  · exact fun s => b_X11_goesRound_31_ok hB hd s.2 hR
  · intro r9
    exact j_X11_goesRound_217_ok hB hd r9 hR
theorem f_X11_goesRound_met {l : Launch} {d : Nat} {g : zG} {w : zW} {M0 : zM} {M : zM} (hw : wS w) (hd : 2 ≤ d) {M' : zM} (h : f_X11_goesRound M = some M') : zMet l yX11_goesRound cX11_goesRound 4 none d g w (zin false) M0 [zr w 257] M none M' :=
  met_v (by decide +kernel) (Nat.le_of_ble_eq_true rfl) (fun C hB0 hR => f_X11_goesRound_ok ⟨hB0, hw⟩ hd M hR _ h rfl)
/-! WindingSquareModel.gap(II)I -/
noncomputable def f_X11_gap (p1 : Int32) (p2 : Int32) (M : zM) : Option (Int32 × zM) :=
  if p1 = (-1 : Int32) then (nm (mset M 258 (ix (2408 : Int32)) (0 : Int32)) fun M13 =>
  some ((0 : Int32), M13))
  else (if (f_X11_within p1 (0 : Int32) (7 : Int32)) = 0 then (some ((-1 : Int32), M))
  else (if (f_X11_within p2 (0 : Int32) (30 : Int32)) = 0 then (some ((-1 : Int32), M))
  else (if (M 258 (ix (2408 : Int32))) = (8 : Int32) then (some ((-1 : Int32), M))
  else (grd (inb ((2409 : Int32) + ((2 : Int32) * (M 258 (ix (2408 : Int32))))) 2425) (
  nm (mset M 258 (ix ((2409 : Int32) + ((2 : Int32) * (M 258 (ix (2408 : Int32)))))) p1) fun M70 =>
  grd (inb ((2410 : Int32) + ((2 : Int32) * (M70 258 (ix (2408 : Int32))))) 2425) (
  nm (mset M70 258 (ix ((2410 : Int32) + ((2 : Int32) * (M70 258 (ix (2408 : Int32)))))) p2) fun M90 =>
  nm (mset M90 258 (ix (2408 : Int32)) ((M90 258 (ix (2408 : Int32))) + (1 : Int32))) fun M102 =>
  some ((M102 258 (ix (2408 : Int32))), M102)))))))
set_option maxRecDepth 100000 in
theorem f_X11_gap_ok {C : zC} {d : Nat} {g : zG} {l : Launch} {w : zW} {r : Int32 × zM} {p1 : Int32} {p2 : Int32} (hB : bOK C cX11_gap 3 RX11 d g l w false) (hd : 2 ≤ d) (M : zM) (hR : RtI C cX11_gap w r.1 r.2) : Sg C w (0, 0) 0 [(0, zr w 257), (1, .int p1), (2, .int p2)] [] M (f_X11_gap p1 p2 M) (fun q => q = r) := by
  have hC := hB.1.1
  have hq1 : 1 ≤ d := by omega
  unfold f_X11_gap
  refine x_iload_n hC dX11_gap_0 rfl 1 rfl ?_
  refine x_iconst (v := (-1 : Int32)) hC dX11_gap_1 ki_m1 ?_
  refine x_icmp_ne (tgt := 16) hC dX11_gap_2 (by decide) ?_ ?_
  · refine x_aload_n hC dX11_gap_5 rfl 0 rfl ?_
    refine r_getR hB dX11_gap_6 kf_X11_9 rfl th_257 rf_257_0 ?_
    refine x_sipush (v := (2408 : Int32)) hC dX11_gap_9 kh_2408 ?_
    refine x_iconst (v := (0 : Int32)) hC dX11_gap_12 ki_0 ?_
    refine r_iast0 hB dX11_gap_13 th_258 ib_2408_2425 ?_
    refine x_mem (fun M13 => ?_)
    refine x_iconst (v := (0 : Int32)) hC dX11_gap_14 ki_0 ?_
    exact r_retI hR dX11_gap_15 (fun h => h)
  · refine x_iload_n hC dX11_gap_16 rfl 1 rfl ?_
    refine x_iconst (v := (0 : Int32)) hC dX11_gap_17 ki_0 ?_
    refine x_bipush (v := (7 : Int32)) hC dX11_gap_18 kb_7 ?_
    refine r_cS0 (as := [.int p1, .int (0 : Int32), .int (7 : Int32)]) (rest := []) hB dX11_gap_20 ks_X11_100 hq1 rfl rfl (Nat.le_of_ble_eq_true rfl) (f_X11_within_met hB.2 (by omega)) ?_
    refine x_if_eq (tgt := 49) hC dX11_gap_23 (by decide) ?_ ?_
    · refine x_iconst (v := (-1 : Int32)) hC dX11_gap_49 ki_m1 ?_
      exact r_retI hR dX11_gap_50 (fun h => h)
    · refine x_iload_n hC dX11_gap_26 rfl 2 rfl ?_
      refine x_iconst (v := (0 : Int32)) hC dX11_gap_27 ki_0 ?_
      refine x_bipush (v := (30 : Int32)) hC dX11_gap_28 kb_30 ?_
      refine r_cS0 (as := [.int p2, .int (0 : Int32), .int (30 : Int32)]) (rest := []) hB dX11_gap_30 ks_X11_100 hq1 rfl rfl (Nat.le_of_ble_eq_true rfl) (f_X11_within_met hB.2 (by omega)) ?_
      refine x_if_eq (tgt := 49) hC dX11_gap_33 (by decide) ?_ ?_
      · refine x_iconst (v := (-1 : Int32)) hC dX11_gap_49 ki_m1 ?_
        exact r_retI hR dX11_gap_50 (fun h => h)
      · refine x_aload_n hC dX11_gap_36 rfl 0 rfl ?_
        refine r_getR hB dX11_gap_37 kf_X11_9 rfl th_257 rf_257_0 ?_
        refine x_sipush (v := (2408 : Int32)) hC dX11_gap_40 kh_2408 ?_
        refine r_iald0 hB dX11_gap_43 th_258 ib_2408_2425 ?_
        refine x_bipush (v := (8 : Int32)) hC dX11_gap_44 kb_8 ?_
        refine x_icmp_ne (tgt := 51) hC dX11_gap_46 (by decide) ?_ ?_
        · refine x_iconst (v := (-1 : Int32)) hC dX11_gap_49 ki_m1 ?_
          exact r_retI hR dX11_gap_50 (fun h => h)
        · refine x_aload_n hC dX11_gap_51 rfl 0 rfl ?_
          refine r_getR hB dX11_gap_52 kf_X11_9 rfl th_257 rf_257_0 ?_
          refine x_sipush (v := (2409 : Int32)) hC dX11_gap_55 kh_2409 ?_
          refine x_iconst (v := (2 : Int32)) hC dX11_gap_58 ki_2 ?_
          refine x_aload_n hC dX11_gap_59 rfl 0 rfl ?_
          refine r_getR hB dX11_gap_60 kf_X11_9 rfl th_257 rf_257_0 ?_
          refine x_sipush (v := (2408 : Int32)) hC dX11_gap_63 kh_2408 ?_
          refine r_iald0 hB dX11_gap_66 th_258 ib_2408_2425 ?_
          refine x_imul hC dX11_gap_67 ?_
          refine x_iadd hC dX11_gap_68 ?_
          refine x_iload_n hC dX11_gap_69 rfl 1 rfl ?_
          refine r_iast hB dX11_gap_70 th_258 ?_
          refine x_mem (fun M70 => ?_)
          refine x_aload_n hC dX11_gap_71 rfl 0 rfl ?_
          refine r_getR hB dX11_gap_72 kf_X11_9 rfl th_257 rf_257_0 ?_
          refine x_sipush (v := (2410 : Int32)) hC dX11_gap_75 kh_2410 ?_
          refine x_iconst (v := (2 : Int32)) hC dX11_gap_78 ki_2 ?_
          refine x_aload_n hC dX11_gap_79 rfl 0 rfl ?_
          refine r_getR hB dX11_gap_80 kf_X11_9 rfl th_257 rf_257_0 ?_
          refine x_sipush (v := (2408 : Int32)) hC dX11_gap_83 kh_2408 ?_
          refine r_iald0 hB dX11_gap_86 th_258 ib_2408_2425 ?_
          refine x_imul hC dX11_gap_87 ?_
          refine x_iadd hC dX11_gap_88 ?_
          refine x_iload_n hC dX11_gap_89 rfl 2 rfl ?_
          refine r_iast hB dX11_gap_90 th_258 ?_
          refine x_mem (fun M90 => ?_)
          refine x_aload_n hC dX11_gap_91 rfl 0 rfl ?_
          refine r_getR hB dX11_gap_92 kf_X11_9 rfl th_257 rf_257_0 ?_
          refine x_sipush (v := (2408 : Int32)) hC dX11_gap_95 kh_2408 ?_
          refine x_dup2 hC dX11_gap_98 rfl rfl ?_
          refine r_iald0 hB dX11_gap_99 th_258 ib_2408_2425 ?_
          refine x_iconst (v := (1 : Int32)) hC dX11_gap_100 ki_1 ?_
          refine x_iadd hC dX11_gap_101 ?_
          refine r_iast0 hB dX11_gap_102 th_258 ib_2408_2425 ?_
          refine x_mem (fun M102 => ?_)
          refine x_aload_n hC dX11_gap_103 rfl 0 rfl ?_
          refine r_getR hB dX11_gap_104 kf_X11_9 rfl th_257 rf_257_0 ?_
          refine x_sipush (v := (2408 : Int32)) hC dX11_gap_107 kh_2408 ?_
          refine r_iald0 hB dX11_gap_110 th_258 ib_2408_2425 ?_
          exact r_retI hR dX11_gap_111 (fun h => h)
theorem f_X11_gap_met {l : Launch} {d : Nat} {g : zG} {w : zW} {M0 : zM} {p1 : Int32} {p2 : Int32} {M : zM} (hw : wS w) (hd : 2 ≤ d) {v : Int32} {M' : zM} (h : f_X11_gap p1 p2 M = some (v, M')) : zMet l yX11_gap cX11_gap 3 (some .int) d g w (zin false) M0 [zr w 257, .int p1, .int p2] M (some (.int v)) M' :=
  met_i (by decide +kernel) (Nat.le_of_ble_eq_true rfl) rfl (fun C hB0 hR => f_X11_gap_ok (r := (v, M')) ⟨hB0, hw⟩ hd M hR _ h rfl)
/-! WindingSquareModel.hedge()I -/
noncomputable def j_X11_hedge_24_2 (v1_24_2 : Int32) (s1_24_2 : Int32) (s2_24_2 : Int32) (M : zM) : Option ((Int32 × zM) ⊕ (zM)) :=
  grd (inb s1_24_2 31) (
  nm (mset M 273 (ix s1_24_2) s2_24_2) fun M24_2 =>
  some (.inl ((v1_24_2 + (1 : Int32)), M24_2)))
set_option maxRecDepth 100000 in
theorem j_X11_hedge_24_2_ok {C : zC} {d : Nat} {g : zG} {l : Launch} {w : zW} {r : Int32 × zM} {v1_24_2 : Int32} {s1_24_2 : Int32} {s2_24_2 : Int32} (hB : bOK C cX11_hedge 7 RX11 d g l w false) (hd : 2 ≤ d) (M : zM) (hR : RtI C cX11_hedge w r.1 r.2) : Sg C w (0, 0) 24 [(0, zr w 257), (1, .int v1_24_2)] [.int s2_24_2, .int s1_24_2, zr w 273] M (j_X11_hedge_24_2 v1_24_2 s1_24_2 s2_24_2 M) (fun o => Sum.elim (fun (s : (Int32 × zM)) => Zs C w (0, 0) 2 [(0, zr w 257), (1, .int s.1)] [] s.2) (fun (s : (zM)) => Zs C w (0, 0) 31 [(0, zr w 257)] [] s) o) := by
  have hC := hB.1.1
  have hq1 : 1 ≤ d := by omega
  unfold j_X11_hedge_24_2
  refine r_iast hB dX11_hedge_24 th_273 ?_
  refine x_mem (fun M24_2 => ?_)
  refine x_iinc hC dX11_hedge_25 ki_1 [(1, .int (v1_24_2 + (1 : Int32))), (0, zr w 257)] 1 rfl (by decide) rfl ?_
  refine x_goto (tgt := 2) hC dX11_hedge_28 (by decide) ?_
  refine x_sub [1, 0] rfl ?_
  exact x_done (fun h => h)
noncomputable def b_X11_hedge_2 (v1_2 : Int32) (M : zM) : Option ((Int32 × zM) ⊕ (zM)) :=
  if (31 : Int32) ≤ v1_2 then (some (.inr M))
  else (if v1_2 = 0 then (j_X11_hedge_24_2 v1_2 v1_2 (0 : Int32) M)
  else (j_X11_hedge_24_2 v1_2 v1_2 (9999 : Int32) M))
set_option maxRecDepth 100000 in
theorem b_X11_hedge_2_ok {C : zC} {d : Nat} {g : zG} {l : Launch} {w : zW} {r : Int32 × zM} {v1_2 : Int32} (hB : bOK C cX11_hedge 7 RX11 d g l w false) (hd : 2 ≤ d) (M : zM) (hR : RtI C cX11_hedge w r.1 r.2) : Sg C w (0, 0) 2 [(0, zr w 257), (1, .int v1_2)] [] M (b_X11_hedge_2 v1_2 M) (fun o => Sum.elim (fun (s : (Int32 × zM)) => Zs C w (0, 0) 2 [(0, zr w 257), (1, .int s.1)] [] s.2) (fun (s : (zM)) => Zs C w (0, 0) 31 [(0, zr w 257)] [] s) o) := by
  have hC := hB.1.1
  have hq1 : 1 ≤ d := by omega
  unfold b_X11_hedge_2
  refine x_iload_n hC dX11_hedge_2 rfl 1 rfl ?_
  refine x_bipush (v := (31 : Int32)) hC dX11_hedge_3 kb_31 ?_
  refine x_icmp_ge (tgt := 31) hC dX11_hedge_5 (by decide) ?_ ?_
  · refine x_sub [0] rfl ?_
    exact x_done (fun h => h)
  · refine x_aload_n hC dX11_hedge_8 rfl 0 rfl ?_
    refine r_getR hB dX11_hedge_9 kf_X11_59 rfl th_257 rf_257_31 ?_
    refine x_iload_n hC dX11_hedge_12 rfl 1 rfl ?_
    refine x_iload_n hC dX11_hedge_13 rfl 1 rfl ?_
    refine x_if_ne (tgt := 21) hC dX11_hedge_14 (by decide) ?_ ?_
    · refine x_iconst (v := (0 : Int32)) hC dX11_hedge_17 ki_0 ?_
      refine x_goto (tgt := 24) hC dX11_hedge_18 (by decide) ?_
      exact j_X11_hedge_24_2_ok hB hd M hR
    · refine x_sipush (v := (9999 : Int32)) hC dX11_hedge_21 kh_9999 ?_
      exact j_X11_hedge_24_2_ok hB hd M hR
noncomputable def b_X11_hedge_43_33 (v1_43_33 : Int32) (v2_43_33 : Int32) (v3_43_33 : Int32) (M : zM) : Option ((Int32 × zM) ⊕ (zM)) :=
  if (31 : Int32) ≤ v3_43_33 then (some (.inr M))
  else (grd (inb v3_43_33 31) (
  nm (mset M 274 (ix v3_43_33) (9999 : Int32)) fun M57_33_43 =>
  some (.inl ((v3_43_33 + (1 : Int32)), M57_33_43))))
set_option maxRecDepth 100000 in
theorem b_X11_hedge_43_33_ok {C : zC} {d : Nat} {g : zG} {l : Launch} {w : zW} {r : Int32 × zM} {v1_43_33 : Int32} {v2_43_33 : Int32} {v3_43_33 : Int32} (hB : bOK C cX11_hedge 7 RX11 d g l w false) (hd : 2 ≤ d) (M : zM) (hR : RtI C cX11_hedge w r.1 r.2) : Sg C w (0, 0) 43 [(0, zr w 257), (1, .int v1_43_33), (2, .int v2_43_33), (3, .int v3_43_33)] [] M (b_X11_hedge_43_33 v1_43_33 v2_43_33 v3_43_33 M) (fun o => Sum.elim (fun (s : (Int32 × zM)) => Zs C w (0, 0) 43 [(0, zr w 257), (1, .int v1_43_33), (2, .int v2_43_33), (3, .int s.1)] [] s.2) (fun (s : (zM)) => Zs C w (0, 0) 64 [(0, zr w 257), (1, .int v1_43_33), (2, .int v2_43_33)] [] s) o) := by
  have hC := hB.1.1
  have hq1 : 1 ≤ d := by omega
  unfold b_X11_hedge_43_33
  refine x_iload_n hC dX11_hedge_43 rfl 3 rfl ?_
  refine x_bipush (v := (31 : Int32)) hC dX11_hedge_44 kb_31 ?_
  refine x_icmp_ge (tgt := 64) hC dX11_hedge_46 (by decide) ?_ ?_
  · refine x_sub [0, 1, 2] rfl ?_
    exact x_done (fun h => h)
  · refine x_aload_n hC dX11_hedge_49 rfl 0 rfl ?_
    refine r_getR hB dX11_hedge_50 kf_X11_62 rfl th_257 rf_257_32 ?_
    refine x_iload_n hC dX11_hedge_53 rfl 3 rfl ?_
    refine x_sipush (v := (9999 : Int32)) hC dX11_hedge_54 kh_9999 ?_
    refine r_iast hB dX11_hedge_57 th_274 ?_
    refine x_mem (fun M57_33_43 => ?_)
    refine x_iinc hC dX11_hedge_58 ki_1 [(3, .int (v3_43_33 + (1 : Int32))), (0, zr w 257), (1, .int v1_43_33), (2, .int v2_43_33)] 3 rfl (by decide) rfl ?_
    refine x_goto (tgt := 43) hC dX11_hedge_61 (by decide) ?_
    refine x_sub [1, 2, 3, 0] rfl ?_
    exact x_done (fun h => h)
noncomputable def j_X11_hedge_171_33_66_116 (v1_66_33 : Int32) (v2_116_33_66 : Int32) (v3_116_33_66 : Int32) (v4_116_33_66 : Int32) (v5_171_33_66_116 : Int32) (s1_171_33_66_116 : Int32) (s2_171_33_66_116 : Int32) (M : zM) : Option ((Int32 × zM) ⊕ (zM)) :=
  grd (inb s1_171_33_66_116 31) (
  nm (mset M 274 (ix s1_171_33_66_116) s2_171_33_66_116) fun M171_33_66_116 =>
  some (.inl ((v5_171_33_66_116 + (1 : Int32)), M171_33_66_116)))
set_option maxRecDepth 100000 in
theorem j_X11_hedge_171_33_66_116_ok {C : zC} {d : Nat} {g : zG} {l : Launch} {w : zW} {r : Int32 × zM} {v1_66_33 : Int32} {v2_116_33_66 : Int32} {v3_116_33_66 : Int32} {v4_116_33_66 : Int32} {v5_171_33_66_116 : Int32} {s1_171_33_66_116 : Int32} {s2_171_33_66_116 : Int32} (hB : bOK C cX11_hedge 7 RX11 d g l w false) (hd : 2 ≤ d) (M : zM) (hR : RtI C cX11_hedge w r.1 r.2) : Sg C w (0, 0) 171 [(0, zr w 257), (1, .int v1_66_33), (2, .int v2_116_33_66), (3, .int v3_116_33_66), (4, .int v4_116_33_66), (5, .int v5_171_33_66_116)] [.int s2_171_33_66_116, .int s1_171_33_66_116, zr w 274] M (j_X11_hedge_171_33_66_116 v1_66_33 v2_116_33_66 v3_116_33_66 v4_116_33_66 v5_171_33_66_116 s1_171_33_66_116 s2_171_33_66_116 M) (fun o => Sum.elim (fun (s : (Int32 × zM)) => Zs C w (0, 0) 116 [(0, zr w 257), (1, .int v1_66_33), (2, .int v2_116_33_66), (3, .int v3_116_33_66), (4, .int v4_116_33_66), (5, .int s.1)] [] s.2) (fun (s : (zM)) => Zs C w (0, 0) 178 [(0, zr w 257), (1, .int v1_66_33), (2, .int v2_116_33_66), (3, .int v3_116_33_66)] [] s) o) := by
  have hC := hB.1.1
  have hq1 : 1 ≤ d := by omega
  unfold j_X11_hedge_171_33_66_116
  refine r_iast hB dX11_hedge_171 th_274 ?_
  refine x_mem (fun M171_33_66_116 => ?_)
  refine x_iinc hC dX11_hedge_172 ki_1 [(5, .int (v5_171_33_66_116 + (1 : Int32))), (0, zr w 257), (1, .int v1_66_33), (2, .int v2_116_33_66), (3, .int v3_116_33_66), (4, .int v4_116_33_66)] 5 rfl (by decide) rfl ?_
  refine x_goto (tgt := 116) hC dX11_hedge_175 (by decide) ?_
  refine x_sub [1, 2, 3, 4, 5, 0] rfl ?_
  exact x_done (fun h => h)
noncomputable def b_X11_hedge_116_33_66 (v1_66_33 : Int32) (v2_116_33_66 : Int32) (v3_116_33_66 : Int32) (v4_116_33_66 : Int32) (v5_116_33_66 : Int32) (M : zM) : Option ((Int32 × zM) ⊕ (zM)) :=
  if (31 : Int32) ≤ v5_116_33_66 then (some (.inr M))
  else (grd (inb v5_116_33_66 31) (
  nm ((M 273 (ix v5_116_33_66)) + (f_X11_abs (v4_116_33_66 - v5_116_33_66))) fun v6_139_33_66_116 =>
  grd (inb v4_116_33_66 31) (
  if (M 274 (ix v4_116_33_66)) ≤ v6_139_33_66_116 then (grd (inb v4_116_33_66 31) (
  j_X11_hedge_171_33_66_116 v1_66_33 v2_116_33_66 v3_116_33_66 v4_116_33_66 v5_116_33_66 v4_116_33_66 (M 274 (ix v4_116_33_66)) M))
  else (j_X11_hedge_171_33_66_116 v1_66_33 v2_116_33_66 v3_116_33_66 v4_116_33_66 v5_116_33_66 v4_116_33_66 v6_139_33_66_116 M))))
set_option maxRecDepth 100000 in
theorem b_X11_hedge_116_33_66_ok {C : zC} {d : Nat} {g : zG} {l : Launch} {w : zW} {r : Int32 × zM} {v1_66_33 : Int32} {v2_116_33_66 : Int32} {v3_116_33_66 : Int32} {v4_116_33_66 : Int32} {v5_116_33_66 : Int32} (hB : bOK C cX11_hedge 7 RX11 d g l w false) (hd : 2 ≤ d) (M : zM) (hR : RtI C cX11_hedge w r.1 r.2) : Sg C w (0, 0) 116 [(0, zr w 257), (1, .int v1_66_33), (2, .int v2_116_33_66), (3, .int v3_116_33_66), (4, .int v4_116_33_66), (5, .int v5_116_33_66)] [] M (b_X11_hedge_116_33_66 v1_66_33 v2_116_33_66 v3_116_33_66 v4_116_33_66 v5_116_33_66 M) (fun o => Sum.elim (fun (s : (Int32 × zM)) => Zs C w (0, 0) 116 [(0, zr w 257), (1, .int v1_66_33), (2, .int v2_116_33_66), (3, .int v3_116_33_66), (4, .int v4_116_33_66), (5, .int s.1)] [] s.2) (fun (s : (zM)) => Zs C w (0, 0) 178 [(0, zr w 257), (1, .int v1_66_33), (2, .int v2_116_33_66), (3, .int v3_116_33_66)] [] s) o) := by
  have hC := hB.1.1
  have hq1 : 1 ≤ d := by omega
  unfold b_X11_hedge_116_33_66
  refine x_iload hC dX11_hedge_116 5 rfl ?_
  refine x_bipush (v := (31 : Int32)) hC dX11_hedge_118 kb_31 ?_
  refine x_icmp_ge (tgt := 178) hC dX11_hedge_120 (by decide) ?_ ?_
  · refine x_sub [0, 1, 2, 3] rfl ?_
    exact x_done (fun h => h)
  · refine x_aload_n hC dX11_hedge_123 rfl 0 rfl ?_
    refine r_getR hB dX11_hedge_124 kf_X11_59 rfl th_257 rf_257_31 ?_
    refine x_iload hC dX11_hedge_127 5 rfl ?_
    refine r_iald hB dX11_hedge_129 th_273 ?_
    refine x_iload hC dX11_hedge_130 4 rfl ?_
    refine x_iload hC dX11_hedge_132 5 rfl ?_
    refine x_isub hC dX11_hedge_134 ?_
    refine r_cS0 (as := [.int (v4_116_33_66 - v5_116_33_66)]) (rest := [.int (M 273 (ix v5_116_33_66))]) hB dX11_hedge_135 ks_X11_359 hq1 rfl rfl (Nat.le_of_ble_eq_true rfl) (f_X11_abs_met hB.2 (by omega)) ?_
    refine x_iadd hC dX11_hedge_138 ?_
    refine x_top (fun v6_139_33_66_116 => ?_)
    refine x_istore (f := 0) hC dX11_hedge_139 [(6, .int v6_139_33_66_116), (0, zr w 257), (1, .int v1_66_33), (2, .int v2_116_33_66), (3, .int v3_116_33_66), (4, .int v4_116_33_66), (5, .int v5_116_33_66)] (by decide) rfl ?_
    refine x_aload_n hC dX11_hedge_141 rfl 1 rfl ?_
    refine r_getR hB dX11_hedge_142 kf_X11_62 rfl th_257 rf_257_32 ?_
    refine x_iload hC dX11_hedge_145 5 rfl ?_
    refine x_iload hC dX11_hedge_147 0 rfl ?_
    refine x_aload_n hC dX11_hedge_149 rfl 1 rfl ?_
    refine r_getR hB dX11_hedge_150 kf_X11_62 rfl th_257 rf_257_32 ?_
    refine x_iload hC dX11_hedge_153 5 rfl ?_
    refine r_iald hB dX11_hedge_155 th_274 ?_
    refine x_icmp_ge (tgt := 164) hC dX11_hedge_156 (by decide) ?_ ?_
    · refine x_aload_n hC dX11_hedge_164 rfl 1 rfl ?_
      refine r_getR hB dX11_hedge_165 kf_X11_62 rfl th_257 rf_257_32 ?_
      refine x_iload hC dX11_hedge_168 5 rfl ?_
      refine r_iald hB dX11_hedge_170 th_274 ?_
      refine x_sub [1, 2, 3, 4, 5, 6] rfl ?_
      exact j_X11_hedge_171_33_66_116_ok hB hd M hR
    · refine x_iload hC dX11_hedge_159 0 rfl ?_
      refine x_goto (tgt := 171) hC dX11_hedge_161 (by decide) ?_
      refine x_sub [1, 2, 3, 4, 5, 6] rfl ?_
      exact j_X11_hedge_171_33_66_116_ok hB hd M hR
noncomputable def j_X11_hedge_178_33_66 (v1_66_33 : Int32) (v2_178_33_66 : Int32) (v3_178_33_66 : Int32) (M : zM) : Option ((Int32 × Int32 × zM) ⊕ (Int32 × zM)) :=
  some (.inl (v2_178_33_66, (v3_178_33_66 + (1 : Int32)), M))
set_option maxRecDepth 100000 in
theorem j_X11_hedge_178_33_66_ok {C : zC} {d : Nat} {g : zG} {l : Launch} {w : zW} {r : Int32 × zM} {v1_66_33 : Int32} {v2_178_33_66 : Int32} {v3_178_33_66 : Int32} (hB : bOK C cX11_hedge 7 RX11 d g l w false) (hd : 2 ≤ d) (M : zM) (hR : RtI C cX11_hedge w r.1 r.2) : Sg C w (0, 0) 178 [(0, zr w 257), (1, .int v1_66_33), (2, .int v2_178_33_66), (3, .int v3_178_33_66)] [] M (j_X11_hedge_178_33_66 v1_66_33 v2_178_33_66 v3_178_33_66 M) (fun o => Sum.elim (fun (s : (Int32 × Int32 × zM)) => Zs C w (0, 0) 66 [(0, zr w 257), (1, .int v1_66_33), (2, .int s.1), (3, .int s.2.1)] [] s.2.2) (fun (s : (Int32 × zM)) => Zs C w (0, 0) 184 [(0, zr w 257), (1, .int v1_66_33), (2, .int s.1)] [] s.2) o) := by
  have hC := hB.1.1
  have hq1 : 1 ≤ d := by omega
  unfold j_X11_hedge_178_33_66
  refine x_iinc hC dX11_hedge_178 ki_1 [(3, .int (v3_178_33_66 + (1 : Int32))), (0, zr w 257), (1, .int v1_66_33), (2, .int v2_178_33_66)] 3 rfl (by decide) rfl ?_
  refine x_goto (tgt := 66) hC dX11_hedge_181 (by decide) ?_
  refine x_sub [1, 2, 3, 0] rfl ?_
  exact x_done (fun h => h)
noncomputable def b_X11_hedge_66_33 (v1_66_33 : Int32) (v2_66_33 : Int32) (v3_66_33 : Int32) (M : zM) : Option ((Int32 × Int32 × zM) ⊕ (Int32 × zM)) :=
  if (M 258 (ix (2408 : Int32))) ≤ v3_66_33 then (some (.inr (v2_66_33, M)))
  else (grd (inb ((2409 : Int32) + ((2 : Int32) * v3_66_33)) 2425) (
  if (M 258 (ix ((2409 : Int32) + ((2 : Int32) * v3_66_33)))) = v1_66_33 then (grd (inb ((2410 : Int32) + ((2 : Int32) * v3_66_33)) 2425) (
  nm (M 258 (ix ((2410 : Int32) + ((2 : Int32) * v3_66_33)))) fun v4_111_33_66 =>
  (loopW (fun s => b_X11_hedge_116_33_66 v1_66_33 (1 : Int32) v3_66_33 v4_111_33_66 s.1 s.2) ((0 : Int32), M)).bind (fun r => j_X11_hedge_178_33_66 v1_66_33 (1 : Int32) v3_66_33 r)))
  else (j_X11_hedge_178_33_66 v1_66_33 v2_66_33 v3_66_33 M)))
set_option maxRecDepth 100000 in
theorem b_X11_hedge_66_33_ok {C : zC} {d : Nat} {g : zG} {l : Launch} {w : zW} {r : Int32 × zM} {v1_66_33 : Int32} {v2_66_33 : Int32} {v3_66_33 : Int32} (hB : bOK C cX11_hedge 7 RX11 d g l w false) (hd : 2 ≤ d) (M : zM) (hR : RtI C cX11_hedge w r.1 r.2) : Sg C w (0, 0) 66 [(0, zr w 257), (1, .int v1_66_33), (2, .int v2_66_33), (3, .int v3_66_33)] [] M (b_X11_hedge_66_33 v1_66_33 v2_66_33 v3_66_33 M) (fun o => Sum.elim (fun (s : (Int32 × Int32 × zM)) => Zs C w (0, 0) 66 [(0, zr w 257), (1, .int v1_66_33), (2, .int s.1), (3, .int s.2.1)] [] s.2.2) (fun (s : (Int32 × zM)) => Zs C w (0, 0) 184 [(0, zr w 257), (1, .int v1_66_33), (2, .int s.1)] [] s.2) o) := by
  have hC := hB.1.1
  have hq1 : 1 ≤ d := by omega
  unfold b_X11_hedge_66_33
  refine x_iload_n hC dX11_hedge_66 rfl 3 rfl ?_
  refine x_aload_n hC dX11_hedge_67 rfl 0 rfl ?_
  refine r_getR hB dX11_hedge_68 kf_X11_9 rfl th_257 rf_257_0 ?_
  refine x_sipush (v := (2408 : Int32)) hC dX11_hedge_71 kh_2408 ?_
  refine r_iald0 hB dX11_hedge_74 th_258 ib_2408_2425 ?_
  refine x_icmp_ge (tgt := 184) hC dX11_hedge_75 (by decide) ?_ ?_
  · refine x_sub [0, 1, 2] rfl ?_
    exact x_done (fun h => h)
  · refine x_aload_n hC dX11_hedge_78 rfl 0 rfl ?_
    refine r_getR hB dX11_hedge_79 kf_X11_9 rfl th_257 rf_257_0 ?_
    refine x_sipush (v := (2409 : Int32)) hC dX11_hedge_82 kh_2409 ?_
    refine x_iconst (v := (2 : Int32)) hC dX11_hedge_85 ki_2 ?_
    refine x_iload_n hC dX11_hedge_86 rfl 3 rfl ?_
    refine x_imul hC dX11_hedge_87 ?_
    refine x_iadd hC dX11_hedge_88 ?_
    refine r_iald hB dX11_hedge_89 th_258 ?_
    refine x_iload_n hC dX11_hedge_90 rfl 1 rfl ?_
    refine x_icmp_eq (tgt := 97) hC dX11_hedge_91 (by decide) ?_ ?_
    · refine x_iconst (v := (1 : Int32)) hC dX11_hedge_97 ki_1 ?_
      refine x_istore_n hC dX11_hedge_98 rfl [(2, .int (1 : Int32)), (0, zr w 257), (1, .int v1_66_33), (3, .int v3_66_33)] (by decide) rfl ?_
      refine x_aload_n hC dX11_hedge_99 rfl 1 rfl ?_
      refine r_getR hB dX11_hedge_100 kf_X11_9 rfl th_257 rf_257_0 ?_
      refine x_sipush (v := (2410 : Int32)) hC dX11_hedge_103 kh_2410 ?_
      refine x_iconst (v := (2 : Int32)) hC dX11_hedge_106 ki_2 ?_
      refine x_iload_n hC dX11_hedge_107 rfl 3 rfl ?_
      refine x_imul hC dX11_hedge_108 ?_
      refine x_iadd hC dX11_hedge_109 ?_
      refine r_iald hB dX11_hedge_110 th_258 ?_
      refine x_top (fun v4_111_33_66 => ?_)
      refine x_istore (f := 0) hC dX11_hedge_111 [(4, .int v4_111_33_66), (2, .int (1 : Int32)), (0, zr w 257), (1, .int v1_66_33), (3, .int v3_66_33)] (by decide) rfl ?_
      refine x_iconst (v := (0 : Int32)) hC dX11_hedge_113 ki_0 ?_
      refine x_istore (f := 0) hC dX11_hedge_114 [(5, .int (0 : Int32)), (4, .int v4_111_33_66), (2, .int (1 : Int32)), (0, zr w 257), (1, .int v1_66_33), (3, .int v3_66_33)] (by decide) rfl ?_
      refine x_sub [3, 4, 2, 5, 1, 0] rfl ?_
      refine x_loopB (pc2 := 178) (fun (s : (Int32 × zM)) => [(0, zr w 257), (1, .int v1_66_33), (2, .int (1 : Int32)), (3, .int v3_66_33), (4, .int v4_111_33_66), (5, .int s.1)]) (fun (s : (Int32 × zM)) => s.2) (fun (s : (zM)) => [(0, zr w 257), (1, .int v1_66_33), (2, .int (1 : Int32)), (3, .int v3_66_33)]) (fun (s : (zM)) => s) ((0 : Int32), M) ?_ ?_
      · exact fun s => b_X11_hedge_116_33_66_ok hB hd s.2 hR
      · intro r9
        exact j_X11_hedge_178_33_66_ok hB hd r9 hR
    · refine x_goto (tgt := 178) hC dX11_hedge_94 (by decide) ?_
      exact j_X11_hedge_178_33_66_ok hB hd M hR
noncomputable def j_X11_hedge_201_33 (v1_201_33 : Int32) (M : zM) : Option ((Int32 × zM) ⊕ (zM)) :=
  some (.inl ((v1_201_33 + (1 : Int32)), M))
set_option maxRecDepth 100000 in
theorem j_X11_hedge_201_33_ok {C : zC} {d : Nat} {g : zG} {l : Launch} {w : zW} {r : Int32 × zM} {v1_201_33 : Int32} (hB : bOK C cX11_hedge 7 RX11 d g l w false) (hd : 2 ≤ d) (M : zM) (hR : RtI C cX11_hedge w r.1 r.2) : Sg C w (0, 0) 201 [(0, zr w 257), (1, .int v1_201_33)] [] M (j_X11_hedge_201_33 v1_201_33 M) (fun o => Sum.elim (fun (s : (Int32 × zM)) => Zs C w (0, 0) 33 [(0, zr w 257), (1, .int s.1)] [] s.2) (fun (s : (zM)) => Zs C w (0, 0) 207 [(0, zr w 257)] [] s) o) := by
  have hC := hB.1.1
  have hq1 : 1 ≤ d := by omega
  unfold j_X11_hedge_201_33
  refine x_iinc hC dX11_hedge_201 ki_1 [(1, .int (v1_201_33 + (1 : Int32))), (0, zr w 257)] 1 rfl (by decide) rfl ?_
  refine x_goto (tgt := 33) hC dX11_hedge_204 (by decide) ?_
  refine x_sub [1, 0] rfl ?_
  exact x_done (fun h => h)
noncomputable def j_X11_hedge_184_33 (v1_184_33 : Int32) (v2_184_33 : Int32) (M : zM) : Option ((Int32 × zM) ⊕ (zM)) :=
  if v2_184_33 = 0 then (j_X11_hedge_201_33 v1_184_33 M)
  else ((f_X11_copies 274 273 (31 : Int32) M).bind fun M198_33 =>
  j_X11_hedge_201_33 v1_184_33 M198_33)
set_option maxRecDepth 100000 in
theorem j_X11_hedge_184_33_ok {C : zC} {d : Nat} {g : zG} {l : Launch} {w : zW} {r : Int32 × zM} {v1_184_33 : Int32} {v2_184_33 : Int32} (hB : bOK C cX11_hedge 7 RX11 d g l w false) (hd : 2 ≤ d) (M : zM) (hR : RtI C cX11_hedge w r.1 r.2) : Sg C w (0, 0) 184 [(0, zr w 257), (1, .int v1_184_33), (2, .int v2_184_33)] [] M (j_X11_hedge_184_33 v1_184_33 v2_184_33 M) (fun o => Sum.elim (fun (s : (Int32 × zM)) => Zs C w (0, 0) 33 [(0, zr w 257), (1, .int s.1)] [] s.2) (fun (s : (zM)) => Zs C w (0, 0) 207 [(0, zr w 257)] [] s) o) := by
  have hC := hB.1.1
  have hq1 : 1 ≤ d := by omega
  unfold j_X11_hedge_184_33
  refine x_iload_n hC dX11_hedge_184 rfl 2 rfl ?_
  refine x_if_eq (tgt := 201) hC dX11_hedge_185 (by decide) ?_ ?_
  · refine x_sub [0, 1] rfl ?_
    exact j_X11_hedge_201_33_ok hB hd M hR
  · refine x_aload_n hC dX11_hedge_188 rfl 0 rfl ?_
    refine r_getR hB dX11_hedge_189 kf_X11_62 rfl th_257 rf_257_32 ?_
    refine x_aload_n hC dX11_hedge_192 rfl 0 rfl ?_
    refine r_getR hB dX11_hedge_193 kf_X11_59 rfl th_257 rf_257_31 ?_
    refine x_bipush (v := (31 : Int32)) hC dX11_hedge_196 kb_31 ?_
    refine r_cSv (as := [zr w 274, zr w 273, .int (31 : Int32)]) (rest := []) hB dX11_hedge_198 ks_X11_86 hq1 rfl rfl (Nat.le_of_ble_eq_true rfl) (fun M' hv => f_X11_copies_met hB.2 (tA.toI th_274) (tA.toI th_273) (by omega) hv) (fun M198_33 => ?_)
    refine x_sub [0, 1] rfl ?_
    exact j_X11_hedge_201_33_ok hB hd M198_33 hR
noncomputable def j_X11_hedge_64_33 (v1_64_33 : Int32) (v2_64_33 : Int32) (M : zM) : Option ((Int32 × zM) ⊕ (zM)) :=
  (loopW (fun s => b_X11_hedge_66_33 v1_64_33 s.1 s.2.1 s.2.2) (v2_64_33, (0 : Int32), M)).bind (fun r => j_X11_hedge_184_33 v1_64_33 r.1 r.2)
set_option maxRecDepth 100000 in
theorem j_X11_hedge_64_33_ok {C : zC} {d : Nat} {g : zG} {l : Launch} {w : zW} {r : Int32 × zM} {v1_64_33 : Int32} {v2_64_33 : Int32} (hB : bOK C cX11_hedge 7 RX11 d g l w false) (hd : 2 ≤ d) (M : zM) (hR : RtI C cX11_hedge w r.1 r.2) : Sg C w (0, 0) 64 [(0, zr w 257), (1, .int v1_64_33), (2, .int v2_64_33)] [] M (j_X11_hedge_64_33 v1_64_33 v2_64_33 M) (fun o => Sum.elim (fun (s : (Int32 × zM)) => Zs C w (0, 0) 33 [(0, zr w 257), (1, .int s.1)] [] s.2) (fun (s : (zM)) => Zs C w (0, 0) 207 [(0, zr w 257)] [] s) o) := by
  have hC := hB.1.1
  have hq1 : 1 ≤ d := by omega
  unfold j_X11_hedge_64_33
  refine x_iconst (v := (0 : Int32)) hC dX11_hedge_64 ki_0 ?_
  refine x_istore_n hC dX11_hedge_65 rfl [(3, .int (0 : Int32)), (0, zr w 257), (1, .int v1_64_33), (2, .int v2_64_33)] (by decide) rfl ?_
  refine x_sub [1, 2, 3, 0] rfl ?_
  refine x_loopB (pc2 := 184) (fun (s : (Int32 × Int32 × zM)) => [(0, zr w 257), (1, .int v1_64_33), (2, .int s.1), (3, .int s.2.1)]) (fun (s : (Int32 × Int32 × zM)) => s.2.2) (fun (s : (Int32 × zM)) => [(0, zr w 257), (1, .int v1_64_33), (2, .int s.1)]) (fun (s : (Int32 × zM)) => s.2) (v2_64_33, (0 : Int32), M) ?_ ?_
  · exact fun s => b_X11_hedge_66_33_ok hB hd s.2.2 hR
  · intro r9
    exact j_X11_hedge_184_33_ok hB hd r9.2 hR
noncomputable def b_X11_hedge_33 (v1_33 : Int32) (M : zM) : Option ((Int32 × zM) ⊕ (zM)) :=
  if (8 : Int32) ≤ v1_33 then (some (.inr M))
  else ((loopW (fun s => b_X11_hedge_43_33 v1_33 (0 : Int32) s.1 s.2) ((0 : Int32), M)).bind (fun r => j_X11_hedge_64_33 v1_33 (0 : Int32) r))
set_option maxRecDepth 100000 in
theorem b_X11_hedge_33_ok {C : zC} {d : Nat} {g : zG} {l : Launch} {w : zW} {r : Int32 × zM} {v1_33 : Int32} (hB : bOK C cX11_hedge 7 RX11 d g l w false) (hd : 2 ≤ d) (M : zM) (hR : RtI C cX11_hedge w r.1 r.2) : Sg C w (0, 0) 33 [(0, zr w 257), (1, .int v1_33)] [] M (b_X11_hedge_33 v1_33 M) (fun o => Sum.elim (fun (s : (Int32 × zM)) => Zs C w (0, 0) 33 [(0, zr w 257), (1, .int s.1)] [] s.2) (fun (s : (zM)) => Zs C w (0, 0) 207 [(0, zr w 257)] [] s) o) := by
  have hC := hB.1.1
  have hq1 : 1 ≤ d := by omega
  unfold b_X11_hedge_33
  refine x_iload_n hC dX11_hedge_33 rfl 1 rfl ?_
  refine x_bipush (v := (8 : Int32)) hC dX11_hedge_34 kb_8 ?_
  refine x_icmp_ge (tgt := 207) hC dX11_hedge_36 (by decide) ?_ ?_
  · refine x_sub [0] rfl ?_
    exact x_done (fun h => h)
  · refine x_iconst (v := (0 : Int32)) hC dX11_hedge_39 ki_0 ?_
    refine x_istore_n hC dX11_hedge_40 rfl [(2, .int (0 : Int32)), (0, zr w 257), (1, .int v1_33)] (by decide) rfl ?_
    refine x_iconst (v := (0 : Int32)) hC dX11_hedge_41 ki_0 ?_
    refine x_istore_n hC dX11_hedge_42 rfl [(3, .int (0 : Int32)), (2, .int (0 : Int32)), (0, zr w 257), (1, .int v1_33)] (by decide) rfl ?_
    refine x_sub [2, 3, 1, 0] rfl ?_
    refine x_loopB (pc2 := 64) (fun (s : (Int32 × zM)) => [(0, zr w 257), (1, .int v1_33), (2, .int (0 : Int32)), (3, .int s.1)]) (fun (s : (Int32 × zM)) => s.2) (fun (s : (zM)) => [(0, zr w 257), (1, .int v1_33), (2, .int (0 : Int32))]) (fun (s : (zM)) => s) ((0 : Int32), M) ?_ ?_
    · exact fun s => b_X11_hedge_43_33_ok hB hd s.2 hR
    · intro r9
      exact j_X11_hedge_64_33_ok hB hd r9 hR
noncomputable def j_X11_hedge_243_213 (v2_243_213 : Int32) (s0_243_213 : Int32) (M : zM) : Option ((Int32 × Int32) ⊕ (Int32)) :=
  some (.inl (s0_243_213, (v2_243_213 + (1 : Int32))))
set_option maxRecDepth 100000 in
theorem j_X11_hedge_243_213_ok {C : zC} {d : Nat} {g : zG} {l : Launch} {w : zW} {r : Int32 × zM} {v2_243_213 : Int32} {s0_243_213 : Int32} (hB : bOK C cX11_hedge 7 RX11 d g l w false) (hd : 2 ≤ d) (M : zM) (hR : RtI C cX11_hedge w r.1 r.2) : Sg C w (0, 0) 243 [(0, zr w 257), (2, .int v2_243_213)] [.int s0_243_213] M (j_X11_hedge_243_213 v2_243_213 s0_243_213 M) (fun o => Sum.elim (fun (s : (Int32 × Int32)) => Zs C w (0, 0) 213 [(0, zr w 257), (1, .int s.1), (2, .int s.2)] [] M) (fun (s : (Int32)) => Zs C w (0, 0) 250 [(1, .int s)] [] M) o) := by
  have hC := hB.1.1
  have hq1 : 1 ≤ d := by omega
  unfold j_X11_hedge_243_213
  refine x_istore_n hC dX11_hedge_243 rfl [(1, .int s0_243_213), (0, zr w 257), (2, .int v2_243_213)] (by decide) rfl ?_
  refine x_iinc hC dX11_hedge_244 ki_1 [(2, .int (v2_243_213 + (1 : Int32))), (1, .int s0_243_213), (0, zr w 257)] 2 rfl (by decide) rfl ?_
  refine x_goto (tgt := 213) hC dX11_hedge_247 (by decide) ?_
  refine x_sub [2, 1, 0] rfl ?_
  exact x_done (fun h => h)
noncomputable def b_X11_hedge_213 (v1_213 : Int32) (v2_213 : Int32) (M : zM) : Option ((Int32 × Int32) ⊕ (Int32)) :=
  if (31 : Int32) ≤ v2_213 then (some (.inr v1_213))
  else (grd (inb v2_213 31) (
  if v1_213 ≤ ((M 273 (ix v2_213)) + v2_213) then (j_X11_hedge_243_213 v2_213 v1_213 M)
  else (grd (inb v2_213 31) (
  j_X11_hedge_243_213 v2_213 ((M 273 (ix v2_213)) + v2_213) M))))
set_option maxRecDepth 100000 in
theorem b_X11_hedge_213_ok {C : zC} {d : Nat} {g : zG} {l : Launch} {w : zW} {r : Int32 × zM} {v1_213 : Int32} {v2_213 : Int32} (hB : bOK C cX11_hedge 7 RX11 d g l w false) (hd : 2 ≤ d) (M : zM) (hR : RtI C cX11_hedge w r.1 r.2) : Sg C w (0, 0) 213 [(0, zr w 257), (1, .int v1_213), (2, .int v2_213)] [] M (b_X11_hedge_213 v1_213 v2_213 M) (fun o => Sum.elim (fun (s : (Int32 × Int32)) => Zs C w (0, 0) 213 [(0, zr w 257), (1, .int s.1), (2, .int s.2)] [] M) (fun (s : (Int32)) => Zs C w (0, 0) 250 [(1, .int s)] [] M) o) := by
  have hC := hB.1.1
  have hq1 : 1 ≤ d := by omega
  unfold b_X11_hedge_213
  refine x_iload_n hC dX11_hedge_213 rfl 2 rfl ?_
  refine x_bipush (v := (31 : Int32)) hC dX11_hedge_214 kb_31 ?_
  refine x_icmp_ge (tgt := 250) hC dX11_hedge_216 (by decide) ?_ ?_
  · refine x_sub [1] rfl ?_
    exact x_done (fun h => h)
  · refine x_aload_n hC dX11_hedge_219 rfl 0 rfl ?_
    refine r_getR hB dX11_hedge_220 kf_X11_59 rfl th_257 rf_257_31 ?_
    refine x_iload_n hC dX11_hedge_223 rfl 2 rfl ?_
    refine r_iald hB dX11_hedge_224 th_273 ?_
    refine x_iload_n hC dX11_hedge_225 rfl 2 rfl ?_
    refine x_iadd hC dX11_hedge_226 ?_
    refine x_iload_n hC dX11_hedge_227 rfl 1 rfl ?_
    refine x_icmp_ge (tgt := 242) hC dX11_hedge_228 (by decide) ?_ ?_
    · refine x_iload_n hC dX11_hedge_242 rfl 1 rfl ?_
      refine x_sub [0, 2] rfl ?_
      exact j_X11_hedge_243_213_ok hB hd M hR
    · refine x_aload_n hC dX11_hedge_231 rfl 0 rfl ?_
      refine r_getR hB dX11_hedge_232 kf_X11_59 rfl th_257 rf_257_31 ?_
      refine x_iload_n hC dX11_hedge_235 rfl 2 rfl ?_
      refine r_iald hB dX11_hedge_236 th_273 ?_
      refine x_iload_n hC dX11_hedge_237 rfl 2 rfl ?_
      refine x_iadd hC dX11_hedge_238 ?_
      refine x_goto (tgt := 243) hC dX11_hedge_239 (by decide) ?_
      refine x_sub [0, 2] rfl ?_
      exact j_X11_hedge_243_213_ok hB hd M hR
noncomputable def j_X11_hedge_250 (v1_250 : Int32) (M : zM) : Option (Int32 × zM) :=
  some (v1_250, M)
set_option maxRecDepth 100000 in
theorem j_X11_hedge_250_ok {C : zC} {d : Nat} {g : zG} {l : Launch} {w : zW} {r : Int32 × zM} {v1_250 : Int32} (hB : bOK C cX11_hedge 7 RX11 d g l w false) (hd : 2 ≤ d) (M : zM) (hR : RtI C cX11_hedge w r.1 r.2) : Sg C w (0, 0) 250 [(1, .int v1_250)] [] M (j_X11_hedge_250 v1_250 M) (fun q => q = r) := by
  have hC := hB.1.1
  have hq1 : 1 ≤ d := by omega
  unfold j_X11_hedge_250
  refine x_iload_n hC dX11_hedge_250 rfl 0 rfl ?_
  exact r_retI hR dX11_hedge_251 (fun h => h)
noncomputable def j_X11_hedge_207 (M : zM) : Option (Int32 × zM) :=
  (loopW (fun s => b_X11_hedge_213 s.1 s.2 M) ((9999 : Int32), (0 : Int32))).bind (fun r => j_X11_hedge_250 r M)
set_option maxRecDepth 100000 in
theorem j_X11_hedge_207_ok {C : zC} {d : Nat} {g : zG} {l : Launch} {w : zW} {r : Int32 × zM} (hB : bOK C cX11_hedge 7 RX11 d g l w false) (hd : 2 ≤ d) (M : zM) (hR : RtI C cX11_hedge w r.1 r.2) : Sg C w (0, 0) 207 [(0, zr w 257)] [] M (j_X11_hedge_207 M) (fun q => q = r) := by
  have hC := hB.1.1
  have hq1 : 1 ≤ d := by omega
  unfold j_X11_hedge_207
  refine x_sipush (v := (9999 : Int32)) hC dX11_hedge_207 kh_9999 ?_
  refine x_istore_n hC dX11_hedge_210 rfl [(1, .int (9999 : Int32)), (0, zr w 257)] (by decide) rfl ?_
  refine x_iconst (v := (0 : Int32)) hC dX11_hedge_211 ki_0 ?_
  refine x_istore_n hC dX11_hedge_212 rfl [(2, .int (0 : Int32)), (1, .int (9999 : Int32)), (0, zr w 257)] (by decide) rfl ?_
  refine x_sub [2, 1, 0] rfl ?_
  refine x_loopB (pc2 := 250) (fun (s : (Int32 × Int32)) => [(0, zr w 257), (1, .int s.1), (2, .int s.2)]) (fun (s : (Int32 × Int32)) => M) (fun (s : (Int32)) => [(1, .int s)]) (fun (s : (Int32)) => M) ((9999 : Int32), (0 : Int32)) ?_ ?_
  · exact fun s => b_X11_hedge_213_ok hB hd M hR
  · intro r9
    exact j_X11_hedge_250_ok hB hd M hR
noncomputable def j_X11_hedge_31 (M : zM) : Option (Int32 × zM) :=
  (loopW (fun s => b_X11_hedge_33 s.1 s.2) ((0 : Int32), M)).bind (fun r => j_X11_hedge_207 r)
set_option maxRecDepth 100000 in
theorem j_X11_hedge_31_ok {C : zC} {d : Nat} {g : zG} {l : Launch} {w : zW} {r : Int32 × zM} (hB : bOK C cX11_hedge 7 RX11 d g l w false) (hd : 2 ≤ d) (M : zM) (hR : RtI C cX11_hedge w r.1 r.2) : Sg C w (0, 0) 31 [(0, zr w 257)] [] M (j_X11_hedge_31 M) (fun q => q = r) := by
  have hC := hB.1.1
  have hq1 : 1 ≤ d := by omega
  unfold j_X11_hedge_31
  refine x_iconst (v := (0 : Int32)) hC dX11_hedge_31 ki_0 ?_
  refine x_istore_n hC dX11_hedge_32 rfl [(1, .int (0 : Int32)), (0, zr w 257)] (by decide) rfl ?_
  refine x_sub [1, 0] rfl ?_
  refine x_loopB (pc2 := 207) (fun (s : (Int32 × zM)) => [(0, zr w 257), (1, .int s.1)]) (fun (s : (Int32 × zM)) => s.2) (fun (s : (zM)) => [(0, zr w 257)]) (fun (s : (zM)) => s) ((0 : Int32), M) ?_ ?_
  · exact fun s => b_X11_hedge_33_ok hB hd s.2 hR
  · intro r9
    exact j_X11_hedge_207_ok hB hd r9 hR
noncomputable def f_X11_hedge (M : zM) : Option (Int32 × zM) :=
  (loopW (fun s => b_X11_hedge_2 s.1 s.2) ((0 : Int32), M)).bind (fun r => j_X11_hedge_31 r)
set_option maxRecDepth 100000 in
theorem f_X11_hedge_ok {C : zC} {d : Nat} {g : zG} {l : Launch} {w : zW} {r : Int32 × zM} (hB : bOK C cX11_hedge 7 RX11 d g l w false) (hd : 2 ≤ d) (M : zM) (hR : RtI C cX11_hedge w r.1 r.2) : Sg C w (0, 0) 0 [(0, zr w 257)] [] M (f_X11_hedge M) (fun q => q = r) := by
  have hC := hB.1.1
  have hq1 : 1 ≤ d := by omega
  unfold f_X11_hedge
  refine x_iconst (v := (0 : Int32)) hC dX11_hedge_0 ki_0 ?_
  refine x_istore_n hC dX11_hedge_1 rfl [(1, .int (0 : Int32)), (0, zr w 257)] (by decide) rfl ?_
  refine x_sub [1, 0] rfl ?_
  refine x_loopB (pc2 := 31) (fun (s : (Int32 × zM)) => [(0, zr w 257), (1, .int s.1)]) (fun (s : (Int32 × zM)) => s.2) (fun (s : (zM)) => [(0, zr w 257)]) (fun (s : (zM)) => s) ((0 : Int32), M) ?_ ?_
  · exact fun s => b_X11_hedge_2_ok hB hd s.2 hR
  · intro r9
    exact j_X11_hedge_31_ok hB hd r9 hR
theorem f_X11_hedge_met {l : Launch} {d : Nat} {g : zG} {w : zW} {M0 : zM} {M : zM} (hw : wS w) (hd : 2 ≤ d) {v : Int32} {M' : zM} (h : f_X11_hedge M = some (v, M')) : zMet l yX11_hedge cX11_hedge 7 (some .int) d g w (zin false) M0 [zr w 257] M (some (.int v)) M' :=
  met_i (by decide +kernel) (Nat.le_of_ble_eq_true rfl) rfl (fun C hB0 hR => f_X11_hedge_ok (r := (v, M')) ⟨hB0, hw⟩ hd M hR _ h rfl)
/-! WindingSquareModel.folded(III)I -/
noncomputable def b_X11_folded_61 (v1_61 : Int32) (v3_61 : Int32) (v4_61 : Int32) (v5_61 : Int32) (v6_61 : Int32) (v7_61 : Int32) : Option ((Int32 × Int32 × Int32 × Int32) ⊕ (Int32 × Int32)) :=
  if ((1 : Int32) <<< (v1_61 &&& 31)) ≤ v7_61 then (some (.inr (v4_61, v5_61)))
  else ((f_X11_fold v7_61).bind fun u73_61 =>
  nm (f_X11_turned v6_61 u73_61) fun v6_79_61 =>
  nm (v4_61 + (f_X11_goesX v6_79_61)) fun v4_89_61 =>
  nm (v5_61 + (f_X11_goesY v6_79_61)) fun v5_99_61 =>
  some (.inl (v4_89_61, v5_99_61, v6_79_61, (v7_61 + (1 : Int32)))))
set_option maxRecDepth 100000 in
theorem b_X11_folded_61_ok {C : zC} {d : Nat} {g : zG} {l : Launch} {w : zW} {r : Int32} {v1_61 : Int32} {v3_61 : Int32} {v4_61 : Int32} {v5_61 : Int32} {v6_61 : Int32} {v7_61 : Int32} (hB : bOK C cX11_folded 8 RX11 d g l w false) (hd : 2 ≤ d) (M : zM) (hR : RtI C cX11_folded w r M) : Sg C w (0, 0) 61 [(1, .int v1_61), (3, .int v3_61), (4, .int v4_61), (5, .int v5_61), (6, .int v6_61), (7, .int v7_61)] [] M (b_X11_folded_61 v1_61 v3_61 v4_61 v5_61 v6_61 v7_61) (fun o => Sum.elim (fun (s : (Int32 × Int32 × Int32 × Int32)) => Zs C w (0, 0) 61 [(1, .int v1_61), (3, .int v3_61), (4, .int s.1), (5, .int s.2.1), (6, .int s.2.2.1), (7, .int s.2.2.2)] [] M) (fun (s : (Int32 × Int32)) => Zs C w (0, 0) 107 [(3, .int v3_61), (4, .int s.1), (5, .int s.2)] [] M) o) := by
  have hC := hB.1.1
  have hq1 : 1 ≤ d := by omega
  unfold b_X11_folded_61
  refine x_iload hC dX11_folded_61 5 rfl ?_
  refine x_iconst (v := (1 : Int32)) hC dX11_folded_63 ki_1 ?_
  refine x_iload_n hC dX11_folded_64 rfl 0 rfl ?_
  refine x_ishl hC dX11_folded_65 ?_
  refine x_icmp_ge (tgt := 107) hC dX11_folded_66 (by decide) ?_ ?_
  · refine x_sub [1, 2, 3] rfl ?_
    exact x_done (fun h => h)
  · refine x_iload hC dX11_folded_69 4 rfl ?_
    refine x_iload hC dX11_folded_71 5 rfl ?_
    refine r_cS1 (as := [.int v7_61]) (rest := [.int v6_61]) hB dX11_folded_73 ks_X11_389 hq1 rfl rfl (Nat.le_of_ble_eq_true rfl) (fun v hv => f_X11_fold_met hB.2 (by omega) hv) (fun u73_61 => ?_)
    refine r_cS0 (as := [.int v6_61, .int u73_61]) (rest := []) hB dX11_folded_76 ks_X11_263 hq1 rfl rfl (Nat.le_of_ble_eq_true rfl) (f_X11_turned_met hB.2 (by omega)) ?_
    refine x_top (fun v6_79_61 => ?_)
    refine x_istore (f := 0) hC dX11_folded_79 [(6, .int v6_79_61), (1, .int v1_61), (3, .int v3_61), (4, .int v4_61), (5, .int v5_61), (7, .int v7_61)] (by decide) rfl ?_
    refine x_iload hC dX11_folded_81 3 rfl ?_
    refine x_iload hC dX11_folded_83 0 rfl ?_
    refine r_cS0 (as := [.int v6_79_61]) (rest := [.int v4_61]) hB dX11_folded_85 ks_X11_285 hq1 rfl rfl (Nat.le_of_ble_eq_true rfl) (f_X11_goesX_met hB.2 (by omega)) ?_
    refine x_iadd hC dX11_folded_88 ?_
    refine x_top (fun v4_89_61 => ?_)
    refine x_istore (f := 0) hC dX11_folded_89 [(4, .int v4_89_61), (6, .int v6_79_61), (1, .int v1_61), (3, .int v3_61), (5, .int v5_61), (7, .int v7_61)] (by decide) rfl ?_
    refine x_iload hC dX11_folded_91 4 rfl ?_
    refine x_iload hC dX11_folded_93 1 rfl ?_
    refine r_cS0 (as := [.int v6_79_61]) (rest := [.int v5_61]) hB dX11_folded_95 ks_X11_288 hq1 rfl rfl (Nat.le_of_ble_eq_true rfl) (f_X11_goesY_met hB.2 (by omega)) ?_
    refine x_iadd hC dX11_folded_98 ?_
    refine x_top (fun v5_99_61 => ?_)
    refine x_istore (f := 0) hC dX11_folded_99 [(5, .int v5_99_61), (4, .int v4_89_61), (6, .int v6_79_61), (1, .int v1_61), (3, .int v3_61), (7, .int v7_61)] (by decide) rfl ?_
    refine x_iinc hC dX11_folded_101 ki_1 [(7, .int (v7_61 + (1 : Int32))), (5, .int v5_99_61), (4, .int v4_89_61), (6, .int v6_79_61), (1, .int v1_61), (3, .int v3_61)] 5 rfl (by decide) rfl ?_
    refine x_goto (tgt := 61) hC dX11_folded_104 (by decide) ?_
    refine x_sub [4, 5, 2, 1, 3, 0] rfl ?_
    exact x_done (fun h => h)
noncomputable def j_X11_folded_107 (v3_107 : Int32) (v4_107 : Int32) (v5_107 : Int32) : Option (Int32) :=
  if v3_107 = (1 : Int32) then (some v4_107)
  else (some v5_107)
set_option maxRecDepth 100000 in
theorem j_X11_folded_107_ok {C : zC} {d : Nat} {g : zG} {l : Launch} {w : zW} {r : Int32} {v3_107 : Int32} {v4_107 : Int32} {v5_107 : Int32} (hB : bOK C cX11_folded 8 RX11 d g l w false) (hd : 2 ≤ d) (M : zM) (hR : RtI C cX11_folded w r M) : Sg C w (0, 0) 107 [(3, .int v3_107), (4, .int v4_107), (5, .int v5_107)] [] M (j_X11_folded_107 v3_107 v4_107 v5_107) (fun q => q = r) := by
  have hC := hB.1.1
  have hq1 : 1 ≤ d := by omega
  unfold j_X11_folded_107
  refine x_iload_n hC dX11_folded_107 rfl 0 rfl ?_
  refine x_iconst (v := (1 : Int32)) hC dX11_folded_108 ki_1 ?_
  refine x_icmp_ne (tgt := 117) hC dX11_folded_109 (by decide) ?_ ?_
  · refine x_iload hC dX11_folded_112 1 rfl ?_
    refine x_goto (tgt := 119) hC dX11_folded_114 (by decide) ?_
    exact r_retI hR dX11_folded_119 (fun h => congrArg (fun q => (q, M)) h)
  · refine x_iload hC dX11_folded_117 2 rfl ?_
    exact r_retI hR dX11_folded_119 (fun h => congrArg (fun q => (q, M)) h)
noncomputable def j_X11_folded_40 (v1_40 : Int32) (v2_40 : Int32) (v3_40 : Int32) : Option (Int32) :=
  if v3_40 = 0 then ((f_X11_fold v2_40).bind fun u45 =>
  some u45)
  else ((loopW (fun s => b_X11_folded_61 v1_40 v3_40 s.1 s.2.1 s.2.2.1 s.2.2.2) ((0 : Int32), (1 : Int32), (0 : Int32), (1 : Int32))).bind (fun r => j_X11_folded_107 v3_40 r.1 r.2))
set_option maxRecDepth 100000 in
theorem j_X11_folded_40_ok {C : zC} {d : Nat} {g : zG} {l : Launch} {w : zW} {r : Int32} {v1_40 : Int32} {v2_40 : Int32} {v3_40 : Int32} (hB : bOK C cX11_folded 8 RX11 d g l w false) (hd : 2 ≤ d) (M : zM) (hR : RtI C cX11_folded w r M) : Sg C w (0, 0) 40 [(1, .int v1_40), (2, .int v2_40), (3, .int v3_40)] [] M (j_X11_folded_40 v1_40 v2_40 v3_40) (fun q => q = r) := by
  have hC := hB.1.1
  have hq1 : 1 ≤ d := by omega
  unfold j_X11_folded_40
  refine x_iload_n hC dX11_folded_40 rfl 2 rfl ?_
  refine x_if_ne (tgt := 49) hC dX11_folded_41 (by decide) ?_ ?_
  · refine x_iload_n hC dX11_folded_44 rfl 1 rfl ?_
    refine r_cS1 (as := [.int v2_40]) (rest := []) hB dX11_folded_45 ks_X11_389 hq1 rfl rfl (Nat.le_of_ble_eq_true rfl) (fun v hv => f_X11_fold_met hB.2 (by omega) hv) (fun u45 => ?_)
    exact r_retI hR dX11_folded_48 (fun h => congrArg (fun q => (q, M)) h)
  · refine x_iconst (v := (0 : Int32)) hC dX11_folded_49 ki_0 ?_
    refine x_istore (f := 0) hC dX11_folded_50 [(4, .int (0 : Int32)), (1, .int v1_40), (2, .int v2_40), (3, .int v3_40)] (by decide) rfl ?_
    refine x_iconst (v := (1 : Int32)) hC dX11_folded_52 ki_1 ?_
    refine x_istore (f := 0) hC dX11_folded_53 [(5, .int (1 : Int32)), (4, .int (0 : Int32)), (1, .int v1_40), (2, .int v2_40), (3, .int v3_40)] (by decide) rfl ?_
    refine x_iconst (v := (0 : Int32)) hC dX11_folded_55 ki_0 ?_
    refine x_istore (f := 0) hC dX11_folded_56 [(6, .int (0 : Int32)), (5, .int (1 : Int32)), (4, .int (0 : Int32)), (1, .int v1_40), (2, .int v2_40), (3, .int v3_40)] (by decide) rfl ?_
    refine x_iconst (v := (1 : Int32)) hC dX11_folded_58 ki_1 ?_
    refine x_istore (f := 0) hC dX11_folded_59 [(7, .int (1 : Int32)), (6, .int (0 : Int32)), (5, .int (1 : Int32)), (4, .int (0 : Int32)), (1, .int v1_40), (2, .int v2_40), (3, .int v3_40)] (by decide) rfl ?_
    refine x_sub [4, 6, 3, 2, 1, 0] rfl ?_
    refine x_loopB (pc2 := 107) (fun (s : (Int32 × Int32 × Int32 × Int32)) => [(1, .int v1_40), (3, .int v3_40), (4, .int s.1), (5, .int s.2.1), (6, .int s.2.2.1), (7, .int s.2.2.2)]) (fun (s : (Int32 × Int32 × Int32 × Int32)) => M) (fun (s : (Int32 × Int32)) => [(3, .int v3_40), (4, .int s.1), (5, .int s.2)]) (fun (s : (Int32 × Int32)) => M) ((0 : Int32), (1 : Int32), (0 : Int32), (1 : Int32)) ?_ ?_
    · exact fun s => b_X11_folded_61_ok hB hd M hR
    · intro r9
      exact j_X11_folded_107_ok hB hd M hR
noncomputable def f_X11_folded (p1 : Int32) (p2 : Int32) (p3 : Int32) : Option (Int32) :=
  if (f_X11_within p1 (1 : Int32) (15 : Int32)) = 0 then (some (-1000 : Int32))
  else (if (f_X11_within p3 (0 : Int32) (2 : Int32)) = 0 then (some (-1000 : Int32))
  else (if p3 = 0 then (if (f_X11_within p2 (1 : Int32) (((1 : Int32) <<< (p1 &&& 31)) - (1 : Int32))) = 0 then (some (-1000 : Int32))
  else (j_X11_folded_40 p1 p2 p3))
  else (j_X11_folded_40 p1 p2 p3)))
set_option maxRecDepth 100000 in
theorem f_X11_folded_ok {C : zC} {d : Nat} {g : zG} {l : Launch} {w : zW} {r : Int32} {p1 : Int32} {p2 : Int32} {p3 : Int32} (hB : bOK C cX11_folded 8 RX11 d g l w false) (hd : 2 ≤ d) (M : zM) (hR : RtI C cX11_folded w r M) : Sg C w (0, 0) 0 [(0, zr w 257), (1, .int p1), (2, .int p2), (3, .int p3)] [] M (f_X11_folded p1 p2 p3) (fun q => q = r) := by
  have hC := hB.1.1
  have hq1 : 1 ≤ d := by omega
  unfold f_X11_folded
  refine x_iload_n hC dX11_folded_0 rfl 1 rfl ?_
  refine x_iconst (v := (1 : Int32)) hC dX11_folded_1 ki_1 ?_
  refine x_bipush (v := (15 : Int32)) hC dX11_folded_2 kb_15 ?_
  refine r_cS0 (as := [.int p1, .int (1 : Int32), .int (15 : Int32)]) (rest := []) hB dX11_folded_4 ks_X11_100 hq1 rfl rfl (Nat.le_of_ble_eq_true rfl) (f_X11_within_met hB.2 (by omega)) ?_
  refine x_if_eq (tgt := 36) hC dX11_folded_7 (by decide) ?_ ?_
  · refine x_sipush (v := (-1000 : Int32)) hC dX11_folded_36 kh_m1000 ?_
    exact r_retI hR dX11_folded_39 (fun h => congrArg (fun q => (q, M)) h)
  · refine x_iload_n hC dX11_folded_10 rfl 3 rfl ?_
    refine x_iconst (v := (0 : Int32)) hC dX11_folded_11 ki_0 ?_
    refine x_iconst (v := (2 : Int32)) hC dX11_folded_12 ki_2 ?_
    refine r_cS0 (as := [.int p3, .int (0 : Int32), .int (2 : Int32)]) (rest := []) hB dX11_folded_13 ks_X11_100 hq1 rfl rfl (Nat.le_of_ble_eq_true rfl) (f_X11_within_met hB.2 (by omega)) ?_
    refine x_if_eq (tgt := 36) hC dX11_folded_16 (by decide) ?_ ?_
    · refine x_sipush (v := (-1000 : Int32)) hC dX11_folded_36 kh_m1000 ?_
      exact r_retI hR dX11_folded_39 (fun h => congrArg (fun q => (q, M)) h)
    · refine x_iload_n hC dX11_folded_19 rfl 3 rfl ?_
      refine x_if_ne (tgt := 40) hC dX11_folded_20 (by decide) ?_ ?_
      · refine x_iload_n hC dX11_folded_23 rfl 2 rfl ?_
        refine x_iconst (v := (1 : Int32)) hC dX11_folded_24 ki_1 ?_
        refine x_iconst (v := (1 : Int32)) hC dX11_folded_25 ki_1 ?_
        refine x_iload_n hC dX11_folded_26 rfl 1 rfl ?_
        refine x_ishl hC dX11_folded_27 ?_
        refine x_iconst (v := (1 : Int32)) hC dX11_folded_28 ki_1 ?_
        refine x_isub hC dX11_folded_29 ?_
        refine r_cS0 (as := [.int p2, .int (1 : Int32), .int (((1 : Int32) <<< (p1 &&& 31)) - (1 : Int32))]) (rest := []) hB dX11_folded_30 ks_X11_100 hq1 rfl rfl (Nat.le_of_ble_eq_true rfl) (f_X11_within_met hB.2 (by omega)) ?_
        refine x_if_ne (tgt := 40) hC dX11_folded_33 (by decide) ?_ ?_
        · refine x_sipush (v := (-1000 : Int32)) hC dX11_folded_36 kh_m1000 ?_
          exact r_retI hR dX11_folded_39 (fun h => congrArg (fun q => (q, M)) h)
        · refine x_sub [1, 2, 3] rfl ?_
          exact j_X11_folded_40_ok hB hd M hR
      · refine x_sub [1, 2, 3] rfl ?_
        exact j_X11_folded_40_ok hB hd M hR
theorem f_X11_folded_met {l : Launch} {d : Nat} {g : zG} {w : zW} {M0 : zM} {p1 : Int32} {p2 : Int32} {p3 : Int32} {M : zM} (hw : wS w) (hd : 2 ≤ d) {v : Int32} (h : f_X11_folded p1 p2 p3 = some v) : zMet l yX11_folded cX11_folded 8 (some .int) d g w (zin false) M0 [zr w 257, .int p1, .int p2, .int p3] M (some (.int v)) M :=
  met_i (by decide +kernel) (Nat.le_of_ble_eq_true rfl) rfl (fun C hB0 hR => f_X11_folded_ok ⟨hB0, hw⟩ hd M hR _ h rfl)
/-! WindingSquareModel.duel(III)I -/
noncomputable def b_X11_duel_71 (v4_71 : Int32) (v5_71 : Int32) (v6_71 : Int32) (v7_71 : Int32) (M : zM) : Option ((Int32 × zM) ⊕ (zM)) :=
  if (14641 : Int32) ≤ v7_71 then (some (.inr M))
  else (grd (inb v7_71 14641) (
  nm (mset M 275 (ix v7_71) (9999 : Int32)) fun M88_71 =>
  some (.inl ((v7_71 + (1 : Int32)), M88_71))))
set_option maxRecDepth 100000 in
theorem b_X11_duel_71_ok {C : zC} {d : Nat} {g : zG} {l : Launch} {w : zW} {r : Int32 × zM} {v4_71 : Int32} {v5_71 : Int32} {v6_71 : Int32} {v7_71 : Int32} (hB : bOK C cX11_duel 11 RX11 d g l w false) (hd : 2 ≤ d) (M : zM) (hR : RtI C cX11_duel w r.1 r.2) : Sg C w (0, 0) 71 [(0, zr w 257), (4, .int v4_71), (5, .int v5_71), (6, .int v6_71), (7, .int v7_71)] [] M (b_X11_duel_71 v4_71 v5_71 v6_71 v7_71 M) (fun o => Sum.elim (fun (s : (Int32 × zM)) => Zs C w (0, 0) 71 [(0, zr w 257), (4, .int v4_71), (5, .int v5_71), (6, .int v6_71), (7, .int s.1)] [] s.2) (fun (s : (zM)) => Zs C w (0, 0) 95 [(0, zr w 257), (4, .int v4_71), (5, .int v5_71), (6, .int v6_71)] [] s) o) := by
  have hC := hB.1.1
  have hq1 : 1 ≤ d := by omega
  unfold b_X11_duel_71
  refine x_iload hC dX11_duel_71 4 rfl ?_
  refine x_sipush (v := (14641 : Int32)) hC dX11_duel_73 kh_14641 ?_
  refine x_icmp_ge (tgt := 95) hC dX11_duel_76 (by decide) ?_ ?_
  · refine x_sub [0, 1, 2, 3] rfl ?_
    exact x_done (fun h => h)
  · refine x_aload_n hC dX11_duel_79 rfl 0 rfl ?_
    refine r_getR hB dX11_duel_80 kf_X11_65 rfl th_257 rf_257_33 ?_
    refine x_iload hC dX11_duel_83 4 rfl ?_
    refine x_sipush (v := (9999 : Int32)) hC dX11_duel_85 kh_9999 ?_
    refine r_iast hB dX11_duel_88 th_275 ?_
    refine x_mem (fun M88_71 => ?_)
    refine x_iinc hC dX11_duel_89 ki_1 [(7, .int (v7_71 + (1 : Int32))), (0, zr w 257), (4, .int v4_71), (5, .int v5_71), (6, .int v6_71)] 4 rfl (by decide) rfl ?_
    refine x_goto (tgt := 71) hC dX11_duel_92 (by decide) ?_
    refine x_sub [1, 2, 3, 4, 0] rfl ?_
    exact x_done (fun h => h)
noncomputable def j_X11_duel_198_110_137_154 (v4_110 : Int32) (v5_110 : Int32) (v6_110 : Int32) (v7_137_110 : Int32) (v8_137_110 : Int32) (v9_154_110_137 : Int32) (v10_198_110_137_154 : Int32) (M : zM) : Option ((Int32 × zM) ⊕ (zM)) :=
  some (.inl ((v10_198_110_137_154 + (1 : Int32)), M))
set_option maxRecDepth 100000 in
theorem j_X11_duel_198_110_137_154_ok {C : zC} {d : Nat} {g : zG} {l : Launch} {w : zW} {r : Int32 × zM} {v4_110 : Int32} {v5_110 : Int32} {v6_110 : Int32} {v7_137_110 : Int32} {v8_137_110 : Int32} {v9_154_110_137 : Int32} {v10_198_110_137_154 : Int32} (hB : bOK C cX11_duel 11 RX11 d g l w false) (hd : 2 ≤ d) (M : zM) (hR : RtI C cX11_duel w r.1 r.2) : Sg C w (0, 0) 198 [(0, zr w 257), (4, .int v4_110), (5, .int v5_110), (6, .int v6_110), (7, .int v7_137_110), (8, .int v8_137_110), (9, .int v9_154_110_137), (10, .int v10_198_110_137_154)] [] M (j_X11_duel_198_110_137_154 v4_110 v5_110 v6_110 v7_137_110 v8_137_110 v9_154_110_137 v10_198_110_137_154 M) (fun o => Sum.elim (fun (s : (Int32 × zM)) => Zs C w (0, 0) 154 [(0, zr w 257), (4, .int v4_110), (5, .int v5_110), (6, .int v6_110), (7, .int v7_137_110), (8, .int v8_137_110), (9, .int v9_154_110_137), (10, .int s.1)] [] s.2) (fun (s : (zM)) => Zs C w (0, 0) 204 [(0, zr w 257), (4, .int v4_110), (5, .int v5_110), (6, .int v6_110), (7, .int v7_137_110), (8, .int v8_137_110), (9, .int v9_154_110_137)] [] s) o) := by
  have hC := hB.1.1
  have hq1 : 1 ≤ d := by omega
  unfold j_X11_duel_198_110_137_154
  refine x_iinc hC dX11_duel_198 ki_1 [(10, .int (v10_198_110_137_154 + (1 : Int32))), (0, zr w 257), (4, .int v4_110), (5, .int v5_110), (6, .int v6_110), (7, .int v7_137_110), (8, .int v8_137_110), (9, .int v9_154_110_137)] 7 rfl (by decide) rfl ?_
  refine x_goto (tgt := 154) hC dX11_duel_201 (by decide) ?_
  refine x_sub [1, 2, 3, 4, 5, 6, 7, 0] rfl ?_
  exact x_done (fun h => h)
noncomputable def b_X11_duel_154_110_137 (v4_110 : Int32) (v5_110 : Int32) (v6_110 : Int32) (v7_137_110 : Int32) (v8_137_110 : Int32) (v9_154_110_137 : Int32) (v10_154_110_137 : Int32) (M : zM) : Option ((Int32 × zM) ⊕ (zM)) :=
  if ((60 : Int32) + v7_137_110) < v10_154_110_137 then (some (.inr M))
  else (grd (inb (((121 : Int32) * v9_154_110_137) + v10_154_110_137) 14641) (
  if (M 275 (ix (((121 : Int32) * v9_154_110_137) + v10_154_110_137))) = v8_137_110 then ((f_X11_pacesFrom v10_154_110_137 v9_154_110_137 v4_110 v5_110 (v8_137_110 + (1 : Int32)) M).bind fun M195_110_137_154 =>
  j_X11_duel_198_110_137_154 v4_110 v5_110 v6_110 v7_137_110 v8_137_110 v9_154_110_137 v10_154_110_137 M195_110_137_154)
  else (j_X11_duel_198_110_137_154 v4_110 v5_110 v6_110 v7_137_110 v8_137_110 v9_154_110_137 v10_154_110_137 M)))
set_option maxRecDepth 100000 in
theorem b_X11_duel_154_110_137_ok {C : zC} {d : Nat} {g : zG} {l : Launch} {w : zW} {r : Int32 × zM} {v4_110 : Int32} {v5_110 : Int32} {v6_110 : Int32} {v7_137_110 : Int32} {v8_137_110 : Int32} {v9_154_110_137 : Int32} {v10_154_110_137 : Int32} (hB : bOK C cX11_duel 11 RX11 d g l w false) (hd : 2 ≤ d) (M : zM) (hR : RtI C cX11_duel w r.1 r.2) : Sg C w (0, 0) 154 [(0, zr w 257), (4, .int v4_110), (5, .int v5_110), (6, .int v6_110), (7, .int v7_137_110), (8, .int v8_137_110), (9, .int v9_154_110_137), (10, .int v10_154_110_137)] [] M (b_X11_duel_154_110_137 v4_110 v5_110 v6_110 v7_137_110 v8_137_110 v9_154_110_137 v10_154_110_137 M) (fun o => Sum.elim (fun (s : (Int32 × zM)) => Zs C w (0, 0) 154 [(0, zr w 257), (4, .int v4_110), (5, .int v5_110), (6, .int v6_110), (7, .int v7_137_110), (8, .int v8_137_110), (9, .int v9_154_110_137), (10, .int s.1)] [] s.2) (fun (s : (zM)) => Zs C w (0, 0) 204 [(0, zr w 257), (4, .int v4_110), (5, .int v5_110), (6, .int v6_110), (7, .int v7_137_110), (8, .int v8_137_110), (9, .int v9_154_110_137)] [] s) o) := by
  have hC := hB.1.1
  have hq1 : 1 ≤ d := by omega
  unfold b_X11_duel_154_110_137
  refine x_iload hC dX11_duel_154 7 rfl ?_
  refine x_bipush (v := (60 : Int32)) hC dX11_duel_156 kb_60 ?_
  refine x_iload hC dX11_duel_158 4 rfl ?_
  refine x_iadd hC dX11_duel_160 ?_
  refine x_icmp_gt (tgt := 204) hC dX11_duel_161 (by decide) ?_ ?_
  · refine x_sub [0, 1, 2, 3, 4, 5, 6] rfl ?_
    exact x_done (fun h => h)
  · refine x_aload_n hC dX11_duel_164 rfl 0 rfl ?_
    refine r_getR hB dX11_duel_165 kf_X11_65 rfl th_257 rf_257_33 ?_
    refine x_bipush (v := (121 : Int32)) hC dX11_duel_168 kb_121 ?_
    refine x_iload hC dX11_duel_170 6 rfl ?_
    refine x_imul hC dX11_duel_172 ?_
    refine x_iload hC dX11_duel_173 7 rfl ?_
    refine x_iadd hC dX11_duel_175 ?_
    refine r_iald hB dX11_duel_176 th_275 ?_
    refine x_iload hC dX11_duel_177 5 rfl ?_
    refine x_icmp_ne (tgt := 198) hC dX11_duel_179 (by decide) ?_ ?_
    · refine x_aload_n hC dX11_duel_182 rfl 0 rfl ?_
      refine x_iload hC dX11_duel_183 7 rfl ?_
      refine x_iload hC dX11_duel_185 6 rfl ?_
      refine x_iload hC dX11_duel_187 1 rfl ?_
      refine x_iload hC dX11_duel_189 2 rfl ?_
      refine x_iload hC dX11_duel_191 5 rfl ?_
      refine x_iconst (v := (1 : Int32)) hC dX11_duel_193 ki_1 ?_
      refine x_iadd hC dX11_duel_194 ?_
      refine r_cVv (as := [.int v10_154_110_137, .int v9_154_110_137, .int v4_110, .int v5_110, .int (v8_137_110 + (1 : Int32))]) (rest := []) hB dX11_duel_195 kv_X11_392 th_257 hq1 rfl rfl (Nat.le_of_ble_eq_true rfl) (fun M' hv => f_X11_pacesFrom_met hB.2 (by omega) hv) (fun M195_110_137_154 => ?_)
      exact j_X11_duel_198_110_137_154_ok hB hd M195_110_137_154 hR
    · exact j_X11_duel_198_110_137_154_ok hB hd M hR
noncomputable def j_X11_duel_204_110_137 (v4_110 : Int32) (v5_110 : Int32) (v6_110 : Int32) (v7_137_110 : Int32) (v8_137_110 : Int32) (v9_204_110_137 : Int32) (M : zM) : Option ((Int32 × zM) ⊕ (zM)) :=
  some (.inl ((v9_204_110_137 + (1 : Int32)), M))
set_option maxRecDepth 100000 in
theorem j_X11_duel_204_110_137_ok {C : zC} {d : Nat} {g : zG} {l : Launch} {w : zW} {r : Int32 × zM} {v4_110 : Int32} {v5_110 : Int32} {v6_110 : Int32} {v7_137_110 : Int32} {v8_137_110 : Int32} {v9_204_110_137 : Int32} (hB : bOK C cX11_duel 11 RX11 d g l w false) (hd : 2 ≤ d) (M : zM) (hR : RtI C cX11_duel w r.1 r.2) : Sg C w (0, 0) 204 [(0, zr w 257), (4, .int v4_110), (5, .int v5_110), (6, .int v6_110), (7, .int v7_137_110), (8, .int v8_137_110), (9, .int v9_204_110_137)] [] M (j_X11_duel_204_110_137 v4_110 v5_110 v6_110 v7_137_110 v8_137_110 v9_204_110_137 M) (fun o => Sum.elim (fun (s : (Int32 × zM)) => Zs C w (0, 0) 137 [(0, zr w 257), (4, .int v4_110), (5, .int v5_110), (6, .int v6_110), (7, .int v7_137_110), (8, .int v8_137_110), (9, .int s.1)] [] s.2) (fun (s : (zM)) => Zs C w (0, 0) 210 [(0, zr w 257), (4, .int v4_110), (5, .int v5_110), (6, .int v6_110), (7, .int v7_137_110), (8, .int v8_137_110)] [] s) o) := by
  have hC := hB.1.1
  have hq1 : 1 ≤ d := by omega
  unfold j_X11_duel_204_110_137
  refine x_iinc hC dX11_duel_204 ki_1 [(9, .int (v9_204_110_137 + (1 : Int32))), (0, zr w 257), (4, .int v4_110), (5, .int v5_110), (6, .int v6_110), (7, .int v7_137_110), (8, .int v8_137_110)] 6 rfl (by decide) rfl ?_
  refine x_goto (tgt := 137) hC dX11_duel_207 (by decide) ?_
  refine x_sub [1, 2, 3, 4, 5, 6, 0] rfl ?_
  exact x_done (fun h => h)
noncomputable def b_X11_duel_137_110 (v4_110 : Int32) (v5_110 : Int32) (v6_110 : Int32) (v7_137_110 : Int32) (v8_137_110 : Int32) (v9_137_110 : Int32) (M : zM) : Option ((Int32 × zM) ⊕ (zM)) :=
  if ((60 : Int32) + v7_137_110) < v9_137_110 then (some (.inr M))
  else (nm ((60 : Int32) - v7_137_110) fun v10_152_110_137 =>
  (loopW (fun s => b_X11_duel_154_110_137 v4_110 v5_110 v6_110 v7_137_110 v8_137_110 v9_137_110 s.1 s.2) (v10_152_110_137, M)).bind (fun r => j_X11_duel_204_110_137 v4_110 v5_110 v6_110 v7_137_110 v8_137_110 v9_137_110 r))
set_option maxRecDepth 100000 in
theorem b_X11_duel_137_110_ok {C : zC} {d : Nat} {g : zG} {l : Launch} {w : zW} {r : Int32 × zM} {v4_110 : Int32} {v5_110 : Int32} {v6_110 : Int32} {v7_137_110 : Int32} {v8_137_110 : Int32} {v9_137_110 : Int32} (hB : bOK C cX11_duel 11 RX11 d g l w false) (hd : 2 ≤ d) (M : zM) (hR : RtI C cX11_duel w r.1 r.2) : Sg C w (0, 0) 137 [(0, zr w 257), (4, .int v4_110), (5, .int v5_110), (6, .int v6_110), (7, .int v7_137_110), (8, .int v8_137_110), (9, .int v9_137_110)] [] M (b_X11_duel_137_110 v4_110 v5_110 v6_110 v7_137_110 v8_137_110 v9_137_110 M) (fun o => Sum.elim (fun (s : (Int32 × zM)) => Zs C w (0, 0) 137 [(0, zr w 257), (4, .int v4_110), (5, .int v5_110), (6, .int v6_110), (7, .int v7_137_110), (8, .int v8_137_110), (9, .int s.1)] [] s.2) (fun (s : (zM)) => Zs C w (0, 0) 210 [(0, zr w 257), (4, .int v4_110), (5, .int v5_110), (6, .int v6_110), (7, .int v7_137_110), (8, .int v8_137_110)] [] s) o) := by
  have hC := hB.1.1
  have hq1 : 1 ≤ d := by omega
  unfold b_X11_duel_137_110
  refine x_iload hC dX11_duel_137 6 rfl ?_
  refine x_bipush (v := (60 : Int32)) hC dX11_duel_139 kb_60 ?_
  refine x_iload hC dX11_duel_141 4 rfl ?_
  refine x_iadd hC dX11_duel_143 ?_
  refine x_icmp_gt (tgt := 210) hC dX11_duel_144 (by decide) ?_ ?_
  · refine x_sub [0, 1, 2, 3, 4, 5] rfl ?_
    exact x_done (fun h => h)
  · refine x_bipush (v := (60 : Int32)) hC dX11_duel_147 kb_60 ?_
    refine x_iload hC dX11_duel_149 4 rfl ?_
    refine x_isub hC dX11_duel_151 ?_
    refine x_top (fun v10_152_110_137 => ?_)
    refine x_istore (f := 0) hC dX11_duel_152 [(10, .int v10_152_110_137), (0, zr w 257), (4, .int v4_110), (5, .int v5_110), (6, .int v6_110), (7, .int v7_137_110), (8, .int v8_137_110), (9, .int v9_137_110)] (by decide) rfl ?_
    refine x_sub [1, 2, 3, 4, 5, 6, 7, 0] rfl ?_
    refine x_loopB (pc2 := 204) (fun (s : (Int32 × zM)) => [(0, zr w 257), (4, .int v4_110), (5, .int v5_110), (6, .int v6_110), (7, .int v7_137_110), (8, .int v8_137_110), (9, .int v9_137_110), (10, .int s.1)]) (fun (s : (Int32 × zM)) => s.2) (fun (s : (zM)) => [(0, zr w 257), (4, .int v4_110), (5, .int v5_110), (6, .int v6_110), (7, .int v7_137_110), (8, .int v8_137_110), (9, .int v9_137_110)]) (fun (s : (zM)) => s) (v10_152_110_137, M) ?_ ?_
    · exact fun s => b_X11_duel_154_110_137_ok hB hd s.2 hR
    · intro r9
      exact j_X11_duel_204_110_137_ok hB hd r9 hR
noncomputable def j_X11_duel_226_110 (v4_110 : Int32) (v5_110 : Int32) (v6_110 : Int32) (v8_226_110 : Int32) (s0_226_110 : Int32) (s1_226_110 : Int32) (M : zM) : Option ((Int32 × Int32 × zM) ⊕ (zM)) :=
  nm (s0_226_110 + s1_226_110) fun v7_227_110 =>
  some (.inl (v7_227_110, (v8_226_110 + (1 : Int32)), M))
set_option maxRecDepth 100000 in
theorem j_X11_duel_226_110_ok {C : zC} {d : Nat} {g : zG} {l : Launch} {w : zW} {r : Int32 × zM} {v4_110 : Int32} {v5_110 : Int32} {v6_110 : Int32} {v8_226_110 : Int32} {s0_226_110 : Int32} {s1_226_110 : Int32} (hB : bOK C cX11_duel 11 RX11 d g l w false) (hd : 2 ≤ d) (M : zM) (hR : RtI C cX11_duel w r.1 r.2) : Sg C w (0, 0) 226 [(0, zr w 257), (4, .int v4_110), (5, .int v5_110), (6, .int v6_110), (8, .int v8_226_110)] [.int s1_226_110, .int s0_226_110] M (j_X11_duel_226_110 v4_110 v5_110 v6_110 v8_226_110 s0_226_110 s1_226_110 M) (fun o => Sum.elim (fun (s : (Int32 × Int32 × zM)) => Zs C w (0, 0) 110 [(0, zr w 257), (4, .int v4_110), (5, .int v5_110), (6, .int v6_110), (7, .int s.1), (8, .int s.2.1)] [] s.2.2) (fun (s : (zM)) => Zs C w (0, 0) 235 [(0, zr w 257), (6, .int v6_110)] [] s) o) := by
  have hC := hB.1.1
  have hq1 : 1 ≤ d := by omega
  unfold j_X11_duel_226_110
  refine x_iadd hC dX11_duel_226 ?_
  refine x_top (fun v7_227_110 => ?_)
  refine x_istore (f := 0) hC dX11_duel_227 [(7, .int v7_227_110), (0, zr w 257), (4, .int v4_110), (5, .int v5_110), (6, .int v6_110), (8, .int v8_226_110)] (by decide) rfl ?_
  refine x_iinc hC dX11_duel_229 ki_1 [(8, .int (v8_226_110 + (1 : Int32))), (7, .int v7_227_110), (0, zr w 257), (4, .int v4_110), (5, .int v5_110), (6, .int v6_110)] 5 rfl (by decide) rfl ?_
  refine x_goto (tgt := 110) hC dX11_duel_232 (by decide) ?_
  refine x_sub [2, 3, 4, 5, 1, 0] rfl ?_
  exact x_done (fun h => h)
noncomputable def j_X11_duel_210_110 (v4_110 : Int32) (v5_110 : Int32) (v6_110 : Int32) (v7_210_110 : Int32) (v8_210_110 : Int32) (M : zM) : Option ((Int32 × Int32 × zM) ⊕ (zM)) :=
  if v4_110 ≤ v5_110 then (j_X11_duel_226_110 v4_110 v5_110 v6_110 v8_210_110 v7_210_110 v5_110 M)
  else (j_X11_duel_226_110 v4_110 v5_110 v6_110 v8_210_110 v7_210_110 v4_110 M)
set_option maxRecDepth 100000 in
theorem j_X11_duel_210_110_ok {C : zC} {d : Nat} {g : zG} {l : Launch} {w : zW} {r : Int32 × zM} {v4_110 : Int32} {v5_110 : Int32} {v6_110 : Int32} {v7_210_110 : Int32} {v8_210_110 : Int32} (hB : bOK C cX11_duel 11 RX11 d g l w false) (hd : 2 ≤ d) (M : zM) (hR : RtI C cX11_duel w r.1 r.2) : Sg C w (0, 0) 210 [(0, zr w 257), (4, .int v4_110), (5, .int v5_110), (6, .int v6_110), (7, .int v7_210_110), (8, .int v8_210_110)] [] M (j_X11_duel_210_110 v4_110 v5_110 v6_110 v7_210_110 v8_210_110 M) (fun o => Sum.elim (fun (s : (Int32 × Int32 × zM)) => Zs C w (0, 0) 110 [(0, zr w 257), (4, .int v4_110), (5, .int v5_110), (6, .int v6_110), (7, .int s.1), (8, .int s.2.1)] [] s.2.2) (fun (s : (zM)) => Zs C w (0, 0) 235 [(0, zr w 257), (6, .int v6_110)] [] s) o) := by
  have hC := hB.1.1
  have hq1 : 1 ≤ d := by omega
  unfold j_X11_duel_210_110
  refine x_iload hC dX11_duel_210 4 rfl ?_
  refine x_iload hC dX11_duel_212 1 rfl ?_
  refine x_iload hC dX11_duel_214 2 rfl ?_
  refine x_icmp_le (tgt := 224) hC dX11_duel_216 (by decide) ?_ ?_
  · refine x_iload hC dX11_duel_224 2 rfl ?_
    refine x_sub [0, 1, 2, 3, 5] rfl ?_
    exact j_X11_duel_226_110_ok hB hd M hR
  · refine x_iload hC dX11_duel_219 1 rfl ?_
    refine x_goto (tgt := 226) hC dX11_duel_221 (by decide) ?_
    refine x_sub [0, 1, 2, 3, 5] rfl ?_
    exact j_X11_duel_226_110_ok hB hd M hR
noncomputable def b_X11_duel_110 (v4_110 : Int32) (v5_110 : Int32) (v6_110 : Int32) (v7_110 : Int32) (v8_110 : Int32) (M : zM) : Option ((Int32 × Int32 × zM) ⊕ (zM)) :=
  if (12 : Int32) ≤ v8_110 then (some (.inr M))
  else (grd (inb v6_110 14641) (
  if (M 275 (ix v6_110)) = (9999 : Int32) then (nm ((60 : Int32) - v7_110) fun v9_135_110 =>
  (loopW (fun s => b_X11_duel_137_110 v4_110 v5_110 v6_110 v7_110 v8_110 s.1 s.2) (v9_135_110, M)).bind (fun r => j_X11_duel_210_110 v4_110 v5_110 v6_110 v7_110 v8_110 r))
  else (some (.inr M))))
set_option maxRecDepth 100000 in
theorem b_X11_duel_110_ok {C : zC} {d : Nat} {g : zG} {l : Launch} {w : zW} {r : Int32 × zM} {v4_110 : Int32} {v5_110 : Int32} {v6_110 : Int32} {v7_110 : Int32} {v8_110 : Int32} (hB : bOK C cX11_duel 11 RX11 d g l w false) (hd : 2 ≤ d) (M : zM) (hR : RtI C cX11_duel w r.1 r.2) : Sg C w (0, 0) 110 [(0, zr w 257), (4, .int v4_110), (5, .int v5_110), (6, .int v6_110), (7, .int v7_110), (8, .int v8_110)] [] M (b_X11_duel_110 v4_110 v5_110 v6_110 v7_110 v8_110 M) (fun o => Sum.elim (fun (s : (Int32 × Int32 × zM)) => Zs C w (0, 0) 110 [(0, zr w 257), (4, .int v4_110), (5, .int v5_110), (6, .int v6_110), (7, .int s.1), (8, .int s.2.1)] [] s.2.2) (fun (s : (zM)) => Zs C w (0, 0) 235 [(0, zr w 257), (6, .int v6_110)] [] s) o) := by
  have hC := hB.1.1
  have hq1 : 1 ≤ d := by omega
  unfold b_X11_duel_110
  refine x_iload hC dX11_duel_110 5 rfl ?_
  refine x_bipush (v := (12 : Int32)) hC dX11_duel_112 kb_12 ?_
  refine x_icmp_ge (tgt := 235) hC dX11_duel_114 (by decide) ?_ ?_
  · refine x_sub [0, 3] rfl ?_
    exact x_done (fun h => h)
  · refine x_aload_n hC dX11_duel_117 rfl 0 rfl ?_
    refine r_getR hB dX11_duel_118 kf_X11_65 rfl th_257 rf_257_33 ?_
    refine x_iload hC dX11_duel_121 3 rfl ?_
    refine r_iald hB dX11_duel_123 th_275 ?_
    refine x_sipush (v := (9999 : Int32)) hC dX11_duel_124 kh_9999 ?_
    refine x_icmp_ne (tgt := 235) hC dX11_duel_127 (by decide) ?_ ?_
    · refine x_bipush (v := (60 : Int32)) hC dX11_duel_130 kb_60 ?_
      refine x_iload hC dX11_duel_132 4 rfl ?_
      refine x_isub hC dX11_duel_134 ?_
      refine x_top (fun v9_135_110 => ?_)
      refine x_istore (f := 0) hC dX11_duel_135 [(9, .int v9_135_110), (0, zr w 257), (4, .int v4_110), (5, .int v5_110), (6, .int v6_110), (7, .int v7_110), (8, .int v8_110)] (by decide) rfl ?_
      refine x_sub [1, 2, 3, 4, 5, 6, 0] rfl ?_
      refine x_loopB (pc2 := 210) (fun (s : (Int32 × zM)) => [(0, zr w 257), (4, .int v4_110), (5, .int v5_110), (6, .int v6_110), (7, .int v7_110), (8, .int v8_110), (9, .int s.1)]) (fun (s : (Int32 × zM)) => s.2) (fun (s : (zM)) => [(0, zr w 257), (4, .int v4_110), (5, .int v5_110), (6, .int v6_110), (7, .int v7_110), (8, .int v8_110)]) (fun (s : (zM)) => s) (v9_135_110, M) ?_ ?_
      · exact fun s => b_X11_duel_137_110_ok hB hd s.2 hR
      · intro r9
        exact j_X11_duel_210_110_ok hB hd r9 hR
    · refine x_sub [0, 3] rfl ?_
      exact x_done (fun h => h)
noncomputable def j_X11_duel_235 (v6_235 : Int32) (M : zM) : Option (Int32 × zM) :=
  grd (inb v6_235 14641) (
  if (M 275 (ix v6_235)) = (9999 : Int32) then (some ((-1 : Int32), M))
  else (grd (inb v6_235 14641) (
  some ((M 275 (ix v6_235)), M))))
set_option maxRecDepth 100000 in
theorem j_X11_duel_235_ok {C : zC} {d : Nat} {g : zG} {l : Launch} {w : zW} {r : Int32 × zM} {v6_235 : Int32} (hB : bOK C cX11_duel 11 RX11 d g l w false) (hd : 2 ≤ d) (M : zM) (hR : RtI C cX11_duel w r.1 r.2) : Sg C w (0, 0) 235 [(0, zr w 257), (6, .int v6_235)] [] M (j_X11_duel_235 v6_235 M) (fun q => q = r) := by
  have hC := hB.1.1
  have hq1 : 1 ≤ d := by omega
  unfold j_X11_duel_235
  refine x_aload_n hC dX11_duel_235 rfl 0 rfl ?_
  refine r_getR hB dX11_duel_236 kf_X11_65 rfl th_257 rf_257_33 ?_
  refine x_iload hC dX11_duel_239 1 rfl ?_
  refine r_iald hB dX11_duel_241 th_275 ?_
  refine x_sipush (v := (9999 : Int32)) hC dX11_duel_242 kh_9999 ?_
  refine x_icmp_ne (tgt := 252) hC dX11_duel_245 (by decide) ?_ ?_
  · refine x_iconst (v := (-1 : Int32)) hC dX11_duel_248 ki_m1 ?_
    refine x_goto (tgt := 259) hC dX11_duel_249 (by decide) ?_
    exact r_retI hR dX11_duel_259 (fun h => h)
  · refine x_aload_n hC dX11_duel_252 rfl 0 rfl ?_
    refine r_getR hB dX11_duel_253 kf_X11_65 rfl th_257 rf_257_33 ?_
    refine x_iload hC dX11_duel_256 1 rfl ?_
    refine r_iald hB dX11_duel_258 th_275 ?_
    exact r_retI hR dX11_duel_259 (fun h => h)
noncomputable def j_X11_duel_95 (v4_95 : Int32) (v5_95 : Int32) (v6_95 : Int32) (M : zM) : Option (Int32 × zM) :=
  nm (mset M 275 (ix (7320 : Int32)) (0 : Int32)) fun M103 =>
  (loopW (fun s => b_X11_duel_110 v4_95 v5_95 v6_95 s.1 s.2.1 s.2.2) ((0 : Int32), (0 : Int32), M103)).bind (fun r => j_X11_duel_235 v6_95 r)
set_option maxRecDepth 100000 in
theorem j_X11_duel_95_ok {C : zC} {d : Nat} {g : zG} {l : Launch} {w : zW} {r : Int32 × zM} {v4_95 : Int32} {v5_95 : Int32} {v6_95 : Int32} (hB : bOK C cX11_duel 11 RX11 d g l w false) (hd : 2 ≤ d) (M : zM) (hR : RtI C cX11_duel w r.1 r.2) : Sg C w (0, 0) 95 [(0, zr w 257), (4, .int v4_95), (5, .int v5_95), (6, .int v6_95)] [] M (j_X11_duel_95 v4_95 v5_95 v6_95 M) (fun q => q = r) := by
  have hC := hB.1.1
  have hq1 : 1 ≤ d := by omega
  unfold j_X11_duel_95
  refine x_aload_n hC dX11_duel_95 rfl 0 rfl ?_
  refine r_getR hB dX11_duel_96 kf_X11_65 rfl th_257 rf_257_33 ?_
  refine x_sipush (v := (7320 : Int32)) hC dX11_duel_99 kh_7320 ?_
  refine x_iconst (v := (0 : Int32)) hC dX11_duel_102 ki_0 ?_
  refine r_iast0 hB dX11_duel_103 th_275 ib_7320_14641 ?_
  refine x_mem (fun M103 => ?_)
  refine x_iconst (v := (0 : Int32)) hC dX11_duel_104 ki_0 ?_
  refine x_istore (f := 0) hC dX11_duel_105 [(7, .int (0 : Int32)), (0, zr w 257), (4, .int v4_95), (5, .int v5_95), (6, .int v6_95)] (by decide) rfl ?_
  refine x_iconst (v := (0 : Int32)) hC dX11_duel_107 ki_0 ?_
  refine x_istore (f := 0) hC dX11_duel_108 [(8, .int (0 : Int32)), (7, .int (0 : Int32)), (0, zr w 257), (4, .int v4_95), (5, .int v5_95), (6, .int v6_95)] (by decide) rfl ?_
  refine x_sub [2, 3, 4, 5, 1, 0] rfl ?_
  refine x_loopB (pc2 := 235) (fun (s : (Int32 × Int32 × zM)) => [(0, zr w 257), (4, .int v4_95), (5, .int v5_95), (6, .int v6_95), (7, .int s.1), (8, .int s.2.1)]) (fun (s : (Int32 × Int32 × zM)) => s.2.2) (fun (s : (zM)) => [(0, zr w 257), (6, .int v6_95)]) (fun (s : (zM)) => s) ((0 : Int32), (0 : Int32), M103) ?_ ?_
  · exact fun s => b_X11_duel_110_ok hB hd s.2.2 hR
  · intro r9
    exact j_X11_duel_235_ok hB hd r9 hR
noncomputable def f_X11_duel (p1 : Int32) (p2 : Int32) (p3 : Int32) (M : zM) : Option (Int32 × zM) :=
  if (f_X11_within p1 (1 : Int32) (55 : Int32)) = 0 then (some ((-1 : Int32), M))
  else (if (5 : Int32) < (irem p1 (10 : Int32)) then (some ((-1 : Int32), M))
  else (if (f_X11_within p2 (-20 : Int32) (20 : Int32)) = 0 then (some ((-1 : Int32), M))
  else (if (f_X11_within p3 (-20 : Int32) (20 : Int32)) = 0 then (some ((-1 : Int32), M))
  else (nm (p1 / (10 : Int32)) fun v4_46 =>
  nm (irem p1 (10 : Int32)) fun v5_52 =>
  nm ((((121 : Int32) * ((60 : Int32) + p3)) + (60 : Int32)) + p2) fun v6_66 =>
  (loopW (fun s => b_X11_duel_71 v4_46 v5_52 v6_66 s.1 s.2) ((0 : Int32), M)).bind (fun r => j_X11_duel_95 v4_46 v5_52 v6_66 r)))))
set_option maxRecDepth 100000 in
theorem f_X11_duel_ok {C : zC} {d : Nat} {g : zG} {l : Launch} {w : zW} {r : Int32 × zM} {p1 : Int32} {p2 : Int32} {p3 : Int32} (hB : bOK C cX11_duel 11 RX11 d g l w false) (hd : 2 ≤ d) (M : zM) (hR : RtI C cX11_duel w r.1 r.2) : Sg C w (0, 0) 0 [(0, zr w 257), (1, .int p1), (2, .int p2), (3, .int p3)] [] M (f_X11_duel p1 p2 p3 M) (fun q => q = r) := by
  have hC := hB.1.1
  have hq1 : 1 ≤ d := by omega
  unfold f_X11_duel
  refine x_iload_n hC dX11_duel_0 rfl 1 rfl ?_
  refine x_iconst (v := (1 : Int32)) hC dX11_duel_1 ki_1 ?_
  refine x_bipush (v := (55 : Int32)) hC dX11_duel_2 kb_55 ?_
  refine r_cS0 (as := [.int p1, .int (1 : Int32), .int (55 : Int32)]) (rest := []) hB dX11_duel_4 ks_X11_100 hq1 rfl rfl (Nat.le_of_ble_eq_true rfl) (f_X11_within_met hB.2 (by omega)) ?_
  refine x_if_eq (tgt := 40) hC dX11_duel_7 (by decide) ?_ ?_
  · refine x_iconst (v := (-1 : Int32)) hC dX11_duel_40 ki_m1 ?_
    exact r_retI hR dX11_duel_41 (fun h => h)
  · refine x_iload_n hC dX11_duel_10 rfl 1 rfl ?_
    refine x_bipush (v := (10 : Int32)) hC dX11_duel_11 kb_10 ?_
    refine x_irem0 hC dX11_duel_13 nz_10 ?_
    refine x_iconst (v := (5 : Int32)) hC dX11_duel_14 ki_5 ?_
    refine x_icmp_gt (tgt := 40) hC dX11_duel_15 (by decide) ?_ ?_
    · refine x_iconst (v := (-1 : Int32)) hC dX11_duel_40 ki_m1 ?_
      exact r_retI hR dX11_duel_41 (fun h => h)
    · refine x_iload_n hC dX11_duel_18 rfl 2 rfl ?_
      refine x_bipush (v := (-20 : Int32)) hC dX11_duel_19 kb_m20 ?_
      refine x_bipush (v := (20 : Int32)) hC dX11_duel_21 kb_20 ?_
      refine r_cS0 (as := [.int p2, .int (-20 : Int32), .int (20 : Int32)]) (rest := []) hB dX11_duel_23 ks_X11_100 hq1 rfl rfl (Nat.le_of_ble_eq_true rfl) (f_X11_within_met hB.2 (by omega)) ?_
      refine x_if_eq (tgt := 40) hC dX11_duel_26 (by decide) ?_ ?_
      · refine x_iconst (v := (-1 : Int32)) hC dX11_duel_40 ki_m1 ?_
        exact r_retI hR dX11_duel_41 (fun h => h)
      · refine x_iload_n hC dX11_duel_29 rfl 3 rfl ?_
        refine x_bipush (v := (-20 : Int32)) hC dX11_duel_30 kb_m20 ?_
        refine x_bipush (v := (20 : Int32)) hC dX11_duel_32 kb_20 ?_
        refine r_cS0 (as := [.int p3, .int (-20 : Int32), .int (20 : Int32)]) (rest := []) hB dX11_duel_34 ks_X11_100 hq1 rfl rfl (Nat.le_of_ble_eq_true rfl) (f_X11_within_met hB.2 (by omega)) ?_
        refine x_if_ne (tgt := 42) hC dX11_duel_37 (by decide) ?_ ?_
        · refine x_iconst (v := (-1 : Int32)) hC dX11_duel_40 ki_m1 ?_
          exact r_retI hR dX11_duel_41 (fun h => h)
        · refine x_iload_n hC dX11_duel_42 rfl 1 rfl ?_
          refine x_bipush (v := (10 : Int32)) hC dX11_duel_43 kb_10 ?_
          refine x_idiv0 hC dX11_duel_45 nz_10 ?_
          refine x_top (fun v4_46 => ?_)
          refine x_istore (f := 0) hC dX11_duel_46 [(4, .int v4_46), (0, zr w 257), (1, .int p1), (2, .int p2), (3, .int p3)] (by decide) rfl ?_
          refine x_iload_n hC dX11_duel_48 rfl 2 rfl ?_
          refine x_bipush (v := (10 : Int32)) hC dX11_duel_49 kb_10 ?_
          refine x_irem0 hC dX11_duel_51 nz_10 ?_
          refine x_top (fun v5_52 => ?_)
          refine x_istore (f := 0) hC dX11_duel_52 [(5, .int v5_52), (4, .int v4_46), (0, zr w 257), (1, .int p1), (2, .int p2), (3, .int p3)] (by decide) rfl ?_
          refine x_bipush (v := (121 : Int32)) hC dX11_duel_54 kb_121 ?_
          refine x_bipush (v := (60 : Int32)) hC dX11_duel_56 kb_60 ?_
          refine x_iload_n hC dX11_duel_58 rfl 5 rfl ?_
          refine x_iadd hC dX11_duel_59 ?_
          refine x_imul hC dX11_duel_60 ?_
          refine x_bipush (v := (60 : Int32)) hC dX11_duel_61 kb_60 ?_
          refine x_iadd hC dX11_duel_63 ?_
          refine x_iload_n hC dX11_duel_64 rfl 4 rfl ?_
          refine x_iadd hC dX11_duel_65 ?_
          refine x_top (fun v6_66 => ?_)
          refine x_istore (f := 0) hC dX11_duel_66 [(6, .int v6_66), (5, .int v5_52), (4, .int v4_46), (0, zr w 257), (1, .int p1), (2, .int p2), (3, .int p3)] (by decide) rfl ?_
          refine x_iconst (v := (0 : Int32)) hC dX11_duel_68 ki_0 ?_
          refine x_istore (f := 0) hC dX11_duel_69 [(7, .int (0 : Int32)), (6, .int v6_66), (5, .int v5_52), (4, .int v4_46), (0, zr w 257), (1, .int p1), (2, .int p2), (3, .int p3)] (by decide) rfl ?_
          refine x_sub [4, 3, 2, 1, 0] rfl ?_
          refine x_loopB (pc2 := 95) (fun (s : (Int32 × zM)) => [(0, zr w 257), (4, .int v4_46), (5, .int v5_52), (6, .int v6_66), (7, .int s.1)]) (fun (s : (Int32 × zM)) => s.2) (fun (s : (zM)) => [(0, zr w 257), (4, .int v4_46), (5, .int v5_52), (6, .int v6_66)]) (fun (s : (zM)) => s) ((0 : Int32), M) ?_ ?_
          · exact fun s => b_X11_duel_71_ok hB hd s.2 hR
          · intro r9
            exact j_X11_duel_95_ok hB hd r9 hR
theorem f_X11_duel_met {l : Launch} {d : Nat} {g : zG} {w : zW} {M0 : zM} {p1 : Int32} {p2 : Int32} {p3 : Int32} {M : zM} (hw : wS w) (hd : 2 ≤ d) {v : Int32} {M' : zM} (h : f_X11_duel p1 p2 p3 M = some (v, M')) : zMet l yX11_duel cX11_duel 11 (some .int) d g w (zin false) M0 [zr w 257, .int p1, .int p2, .int p3] M (some (.int v)) M' :=
  met_i (by decide +kernel) (Nat.le_of_ble_eq_true rfl) rfl (fun C hB0 hR => f_X11_duel_ok (r := (v, M')) ⟨hB0, hw⟩ hd M hR _ h rfl)
/-! WindingSquareModel.ant(II)I -/
noncomputable def b_X11_ant_26 (v1_26 : Int32) (v2_26 : Int32) (v3_26 : Int32) (M : zM) : Option ((Int32 × zM) ⊕ (zM)) :=
  if (16384 : Int32) ≤ v3_26 then (some (.inr M))
  else (grd (inb v3_26 16384) (
  nm (mset M 276 (ix v3_26) (0 : Int32)) fun M39_26 =>
  some (.inl ((v3_26 + (1 : Int32)), M39_26))))
set_option maxRecDepth 100000 in
theorem b_X11_ant_26_ok {C : zC} {d : Nat} {g : zG} {l : Launch} {w : zW} {r : Int32 × zM} {v1_26 : Int32} {v2_26 : Int32} {v3_26 : Int32} (hB : bOK C cX11_ant 11 RX11 d g l w false) (hd : 2 ≤ d) (M : zM) (hR : RtI C cX11_ant w r.1 r.2) : Sg C w (0, 0) 26 [(0, zr w 257), (1, .int v1_26), (2, .int v2_26), (3, .int v3_26)] [] M (b_X11_ant_26 v1_26 v2_26 v3_26 M) (fun o => Sum.elim (fun (s : (Int32 × zM)) => Zs C w (0, 0) 26 [(0, zr w 257), (1, .int v1_26), (2, .int v2_26), (3, .int s.1)] [] s.2) (fun (s : (zM)) => Zs C w (0, 0) 46 [(0, zr w 257), (1, .int v1_26), (2, .int v2_26)] [] s) o) := by
  have hC := hB.1.1
  have hq1 : 1 ≤ d := by omega
  unfold b_X11_ant_26
  refine x_iload_n hC dX11_ant_26 rfl 3 rfl ?_
  refine x_sipush (v := (16384 : Int32)) hC dX11_ant_27 kh_16384 ?_
  refine x_icmp_ge (tgt := 46) hC dX11_ant_30 (by decide) ?_ ?_
  · refine x_sub [0, 1, 2] rfl ?_
    exact x_done (fun h => h)
  · refine x_aload_n hC dX11_ant_33 rfl 0 rfl ?_
    refine r_getR hB dX11_ant_34 kf_X11_68 rfl th_257 rf_257_34 ?_
    refine x_iload_n hC dX11_ant_37 rfl 3 rfl ?_
    refine x_iconst (v := (0 : Int32)) hC dX11_ant_38 ki_0 ?_
    refine r_iast hB dX11_ant_39 th_276 ?_
    refine x_mem (fun M39_26 => ?_)
    refine x_iinc hC dX11_ant_40 ki_1 [(3, .int (v3_26 + (1 : Int32))), (0, zr w 257), (1, .int v1_26), (2, .int v2_26)] 3 rfl (by decide) rfl ?_
    refine x_goto (tgt := 26) hC dX11_ant_43 (by decide) ?_
    refine x_sub [1, 2, 3, 0] rfl ?_
    exact x_done (fun h => h)
noncomputable def j_X11_ant_165_63 (v1_63 : Int32) (v2_63 : Int32) (v3_165_63 : Int32) (v4_165_63 : Int32) (v5_165_63 : Int32) (v6_165_63 : Int32) (v8_165_63 : Int32) (s0_165_63 : Int32) (M : zM) : Option ((Int32 × Int32 × Int32 × Int32 × Int32 × Int32 × zM) ⊕ (Int32 × Int32 × Int32 × Int32 × zM)) :=
  nm (v3_165_63 + (f_X11_goesX v5_165_63)) fun v3_174_63 =>
  nm (v4_165_63 + (f_X11_goesY v5_165_63)) fun v4_183_63 =>
  some (.inl (v3_174_63, v4_183_63, v5_165_63, v6_165_63, s0_165_63, (v8_165_63 + (1 : Int32)), M))
set_option maxRecDepth 100000 in
theorem j_X11_ant_165_63_ok {C : zC} {d : Nat} {g : zG} {l : Launch} {w : zW} {r : Int32 × zM} {v1_63 : Int32} {v2_63 : Int32} {v3_165_63 : Int32} {v4_165_63 : Int32} {v5_165_63 : Int32} {v6_165_63 : Int32} {v8_165_63 : Int32} {s0_165_63 : Int32} (hB : bOK C cX11_ant 11 RX11 d g l w false) (hd : 2 ≤ d) (M : zM) (hR : RtI C cX11_ant w r.1 r.2) : Sg C w (0, 0) 165 [(0, zr w 257), (1, .int v1_63), (2, .int v2_63), (3, .int v3_165_63), (4, .int v4_165_63), (5, .int v5_165_63), (6, .int v6_165_63), (8, .int v8_165_63)] [.int s0_165_63] M (j_X11_ant_165_63 v1_63 v2_63 v3_165_63 v4_165_63 v5_165_63 v6_165_63 v8_165_63 s0_165_63 M) (fun o => Sum.elim (fun (s : (Int32 × Int32 × Int32 × Int32 × Int32 × Int32 × zM)) => Zs C w (0, 0) 63 [(0, zr w 257), (1, .int v1_63), (2, .int v2_63), (3, .int s.1), (4, .int s.2.1), (5, .int s.2.2.1), (6, .int s.2.2.2.1), (7, .int s.2.2.2.2.1), (8, .int s.2.2.2.2.2.1)] [] s.2.2.2.2.2.2) (fun (s : (Int32 × Int32 × Int32 × Int32 × zM)) => Zs C w (0, 0) 191 [(2, .int v2_63), (3, .int s.1), (4, .int s.2.1), (6, .int s.2.2.1), (7, .int s.2.2.2.1)] [] s.2.2.2.2) o) := by
  have hC := hB.1.1
  have hq1 : 1 ≤ d := by omega
  unfold j_X11_ant_165_63
  refine x_istore (f := 0) hC dX11_ant_165 [(7, .int s0_165_63), (0, zr w 257), (1, .int v1_63), (2, .int v2_63), (3, .int v3_165_63), (4, .int v4_165_63), (5, .int v5_165_63), (6, .int v6_165_63), (8, .int v8_165_63)] (by decide) rfl ?_
  refine x_iload_n hC dX11_ant_167 rfl 4 rfl ?_
  refine x_iload hC dX11_ant_168 6 rfl ?_
  refine r_cS0 (as := [.int v5_165_63]) (rest := [.int v3_165_63]) hB dX11_ant_170 ks_X11_285 hq1 rfl rfl (Nat.le_of_ble_eq_true rfl) (f_X11_goesX_met hB.2 (by omega)) ?_
  refine x_iadd hC dX11_ant_173 ?_
  refine x_top (fun v3_174_63 => ?_)
  refine x_istore_n hC dX11_ant_174 rfl [(3, .int v3_174_63), (7, .int s0_165_63), (0, zr w 257), (1, .int v1_63), (2, .int v2_63), (4, .int v4_165_63), (5, .int v5_165_63), (6, .int v6_165_63), (8, .int v8_165_63)] (by decide) rfl ?_
  refine x_iload hC dX11_ant_175 5 rfl ?_
  refine x_iload hC dX11_ant_177 6 rfl ?_
  refine r_cS0 (as := [.int v5_165_63]) (rest := [.int v4_165_63]) hB dX11_ant_179 ks_X11_288 hq1 rfl rfl (Nat.le_of_ble_eq_true rfl) (f_X11_goesY_met hB.2 (by omega)) ?_
  refine x_iadd hC dX11_ant_182 ?_
  refine x_top (fun v4_183_63 => ?_)
  refine x_istore (f := 0) hC dX11_ant_183 [(4, .int v4_183_63), (3, .int v3_174_63), (7, .int s0_165_63), (0, zr w 257), (1, .int v1_63), (2, .int v2_63), (5, .int v5_165_63), (6, .int v6_165_63), (8, .int v8_165_63)] (by decide) rfl ?_
  refine x_iinc hC dX11_ant_185 ki_1 [(8, .int (v8_165_63 + (1 : Int32))), (4, .int v4_183_63), (3, .int v3_174_63), (7, .int s0_165_63), (0, zr w 257), (1, .int v1_63), (2, .int v2_63), (5, .int v5_165_63), (6, .int v6_165_63)] 8 rfl (by decide) rfl ?_
  refine x_goto (tgt := 63) hC dX11_ant_188 (by decide) ?_
  refine x_sub [4, 5, 6, 2, 1, 7, 8, 3, 0] rfl ?_
  exact x_done (fun h => h)
noncomputable def j_X11_ant_148_63 (v1_63 : Int32) (v2_63 : Int32) (v3_148_63 : Int32) (v4_148_63 : Int32) (v5_148_63 : Int32) (v7_148_63 : Int32) (v8_148_63 : Int32) (s0_148_63 : Int32) (s1_148_63 : Int32) (M : zM) : Option ((Int32 × Int32 × Int32 × Int32 × Int32 × Int32 × zM) ⊕ (Int32 × Int32 × Int32 × Int32 × zM)) :=
  nm (s0_148_63 + s1_148_63) fun v6_149_63 =>
  if v6_149_63 ≤ v7_148_63 then (j_X11_ant_165_63 v1_63 v2_63 v3_148_63 v4_148_63 v5_148_63 v6_149_63 v8_148_63 v7_148_63 M)
  else (j_X11_ant_165_63 v1_63 v2_63 v3_148_63 v4_148_63 v5_148_63 v6_149_63 v8_148_63 v6_149_63 M)
set_option maxRecDepth 100000 in
theorem j_X11_ant_148_63_ok {C : zC} {d : Nat} {g : zG} {l : Launch} {w : zW} {r : Int32 × zM} {v1_63 : Int32} {v2_63 : Int32} {v3_148_63 : Int32} {v4_148_63 : Int32} {v5_148_63 : Int32} {v7_148_63 : Int32} {v8_148_63 : Int32} {s0_148_63 : Int32} {s1_148_63 : Int32} (hB : bOK C cX11_ant 11 RX11 d g l w false) (hd : 2 ≤ d) (M : zM) (hR : RtI C cX11_ant w r.1 r.2) : Sg C w (0, 0) 148 [(0, zr w 257), (1, .int v1_63), (2, .int v2_63), (3, .int v3_148_63), (4, .int v4_148_63), (5, .int v5_148_63), (7, .int v7_148_63), (8, .int v8_148_63)] [.int s1_148_63, .int s0_148_63] M (j_X11_ant_148_63 v1_63 v2_63 v3_148_63 v4_148_63 v5_148_63 v7_148_63 v8_148_63 s0_148_63 s1_148_63 M) (fun o => Sum.elim (fun (s : (Int32 × Int32 × Int32 × Int32 × Int32 × Int32 × zM)) => Zs C w (0, 0) 63 [(0, zr w 257), (1, .int v1_63), (2, .int v2_63), (3, .int s.1), (4, .int s.2.1), (5, .int s.2.2.1), (6, .int s.2.2.2.1), (7, .int s.2.2.2.2.1), (8, .int s.2.2.2.2.2.1)] [] s.2.2.2.2.2.2) (fun (s : (Int32 × Int32 × Int32 × Int32 × zM)) => Zs C w (0, 0) 191 [(2, .int v2_63), (3, .int s.1), (4, .int s.2.1), (6, .int s.2.2.1), (7, .int s.2.2.2.1)] [] s.2.2.2.2) o) := by
  have hC := hB.1.1
  have hq1 : 1 ≤ d := by omega
  unfold j_X11_ant_148_63
  refine x_iadd hC dX11_ant_148 ?_
  refine x_top (fun v6_149_63 => ?_)
  refine x_istore (f := 0) hC dX11_ant_149 [(6, .int v6_149_63), (0, zr w 257), (1, .int v1_63), (2, .int v2_63), (3, .int v3_148_63), (4, .int v4_148_63), (5, .int v5_148_63), (7, .int v7_148_63), (8, .int v8_148_63)] (by decide) rfl ?_
  refine x_iload hC dX11_ant_151 0 rfl ?_
  refine x_iload hC dX11_ant_153 7 rfl ?_
  refine x_icmp_le (tgt := 163) hC dX11_ant_155 (by decide) ?_ ?_
  · refine x_iload hC dX11_ant_163 7 rfl ?_
    refine x_sub [1, 2, 3, 4, 5, 6, 0, 8] rfl ?_
    exact j_X11_ant_165_63_ok hB hd M hR
  · refine x_iload hC dX11_ant_158 0 rfl ?_
    refine x_goto (tgt := 165) hC dX11_ant_160 (by decide) ?_
    refine x_sub [1, 2, 3, 4, 5, 6, 0, 8] rfl ?_
    exact j_X11_ant_165_63_ok hB hd M hR
noncomputable def j_X11_ant_115_63 (v1_63 : Int32) (v2_63 : Int32) (v3_115_63 : Int32) (v4_115_63 : Int32) (v6_115_63 : Int32) (v7_115_63 : Int32) (v8_115_63 : Int32) (v9_115_63 : Int32) (v10_115_63 : Int32) (s0_115_63 : Int32) (s1_115_63 : Int32) (M : zM) : Option ((Int32 × Int32 × Int32 × Int32 × Int32 × Int32 × zM) ⊕ (Int32 × Int32 × Int32 × Int32 × zM)) :=
  nm (f_X11_turned s0_115_63 s1_115_63) fun v5_118_63 =>
  grd (inb v9_115_63 16384) (
  grd (inb v9_115_63 16384) (
  nm (mset M 276 (ix v9_115_63) ((1 : Int32) - (M 276 (ix v9_115_63)))) fun M135_63 =>
  if v10_115_63 = 0 then (j_X11_ant_148_63 v1_63 v2_63 v3_115_63 v4_115_63 v5_118_63 v7_115_63 v8_115_63 v6_115_63 (1 : Int32) M135_63)
  else (j_X11_ant_148_63 v1_63 v2_63 v3_115_63 v4_115_63 v5_118_63 v7_115_63 v8_115_63 v6_115_63 (-1 : Int32) M135_63)))
set_option maxRecDepth 100000 in
theorem j_X11_ant_115_63_ok {C : zC} {d : Nat} {g : zG} {l : Launch} {w : zW} {r : Int32 × zM} {v1_63 : Int32} {v2_63 : Int32} {v3_115_63 : Int32} {v4_115_63 : Int32} {v6_115_63 : Int32} {v7_115_63 : Int32} {v8_115_63 : Int32} {v9_115_63 : Int32} {v10_115_63 : Int32} {s0_115_63 : Int32} {s1_115_63 : Int32} (hB : bOK C cX11_ant 11 RX11 d g l w false) (hd : 2 ≤ d) (M : zM) (hR : RtI C cX11_ant w r.1 r.2) : Sg C w (0, 0) 115 [(0, zr w 257), (1, .int v1_63), (2, .int v2_63), (3, .int v3_115_63), (4, .int v4_115_63), (6, .int v6_115_63), (7, .int v7_115_63), (8, .int v8_115_63), (9, .int v9_115_63), (10, .int v10_115_63)] [.int s1_115_63, .int s0_115_63] M (j_X11_ant_115_63 v1_63 v2_63 v3_115_63 v4_115_63 v6_115_63 v7_115_63 v8_115_63 v9_115_63 v10_115_63 s0_115_63 s1_115_63 M) (fun o => Sum.elim (fun (s : (Int32 × Int32 × Int32 × Int32 × Int32 × Int32 × zM)) => Zs C w (0, 0) 63 [(0, zr w 257), (1, .int v1_63), (2, .int v2_63), (3, .int s.1), (4, .int s.2.1), (5, .int s.2.2.1), (6, .int s.2.2.2.1), (7, .int s.2.2.2.2.1), (8, .int s.2.2.2.2.2.1)] [] s.2.2.2.2.2.2) (fun (s : (Int32 × Int32 × Int32 × Int32 × zM)) => Zs C w (0, 0) 191 [(2, .int v2_63), (3, .int s.1), (4, .int s.2.1), (6, .int s.2.2.1), (7, .int s.2.2.2.1)] [] s.2.2.2.2) o) := by
  have hC := hB.1.1
  have hq1 : 1 ≤ d := by omega
  unfold j_X11_ant_115_63
  refine r_cS0 (as := [.int s0_115_63, .int s1_115_63]) (rest := []) hB dX11_ant_115 ks_X11_263 hq1 rfl rfl (Nat.le_of_ble_eq_true rfl) (f_X11_turned_met hB.2 (by omega)) ?_
  refine x_top (fun v5_118_63 => ?_)
  refine x_istore (f := 0) hC dX11_ant_118 [(5, .int v5_118_63), (0, zr w 257), (1, .int v1_63), (2, .int v2_63), (3, .int v3_115_63), (4, .int v4_115_63), (6, .int v6_115_63), (7, .int v7_115_63), (8, .int v8_115_63), (9, .int v9_115_63), (10, .int v10_115_63)] (by decide) rfl ?_
  refine x_aload_n hC dX11_ant_120 rfl 1 rfl ?_
  refine r_getR hB dX11_ant_121 kf_X11_68 rfl th_257 rf_257_34 ?_
  refine x_iload hC dX11_ant_124 9 rfl ?_
  refine x_iconst (v := (1 : Int32)) hC dX11_ant_126 ki_1 ?_
  refine x_aload_n hC dX11_ant_127 rfl 1 rfl ?_
  refine r_getR hB dX11_ant_128 kf_X11_68 rfl th_257 rf_257_34 ?_
  refine x_iload hC dX11_ant_131 9 rfl ?_
  refine r_iald hB dX11_ant_133 th_276 ?_
  refine x_isub hC dX11_ant_134 ?_
  refine r_iast hB dX11_ant_135 th_276 ?_
  refine x_mem (fun M135_63 => ?_)
  refine x_iload hC dX11_ant_136 6 rfl ?_
  refine x_iload hC dX11_ant_138 10 rfl ?_
  refine x_if_eq (tgt := 147) hC dX11_ant_140 (by decide) ?_ ?_
  · refine x_iconst (v := (1 : Int32)) hC dX11_ant_147 ki_1 ?_
    refine x_sub [1, 2, 3, 4, 5, 0, 7, 8] rfl ?_
    exact j_X11_ant_148_63_ok hB hd M135_63 hR
  · refine x_iconst (v := (-1 : Int32)) hC dX11_ant_143 ki_m1 ?_
    refine x_goto (tgt := 148) hC dX11_ant_144 (by decide) ?_
    refine x_sub [1, 2, 3, 4, 5, 0, 7, 8] rfl ?_
    exact j_X11_ant_148_63_ok hB hd M135_63 hR
noncomputable def j_X11_ant_101_63 (v1_63 : Int32) (v2_63 : Int32) (v3_101_63 : Int32) (v4_101_63 : Int32) (v5_101_63 : Int32) (v6_101_63 : Int32) (v7_101_63 : Int32) (v8_101_63 : Int32) (v9_101_63 : Int32) (s0_101_63 : Int32) (M : zM) : Option ((Int32 × Int32 × Int32 × Int32 × Int32 × Int32 × zM) ⊕ (Int32 × Int32 × Int32 × Int32 × zM)) :=
  if s0_101_63 = 0 then (j_X11_ant_115_63 v1_63 v2_63 v3_101_63 v4_101_63 v6_101_63 v7_101_63 v8_101_63 v9_101_63 s0_101_63 v5_101_63 (1 : Int32) M)
  else (j_X11_ant_115_63 v1_63 v2_63 v3_101_63 v4_101_63 v6_101_63 v7_101_63 v8_101_63 v9_101_63 s0_101_63 v5_101_63 (0 : Int32) M)
set_option maxRecDepth 100000 in
theorem j_X11_ant_101_63_ok {C : zC} {d : Nat} {g : zG} {l : Launch} {w : zW} {r : Int32 × zM} {v1_63 : Int32} {v2_63 : Int32} {v3_101_63 : Int32} {v4_101_63 : Int32} {v5_101_63 : Int32} {v6_101_63 : Int32} {v7_101_63 : Int32} {v8_101_63 : Int32} {v9_101_63 : Int32} {s0_101_63 : Int32} (hB : bOK C cX11_ant 11 RX11 d g l w false) (hd : 2 ≤ d) (M : zM) (hR : RtI C cX11_ant w r.1 r.2) : Sg C w (0, 0) 101 [(0, zr w 257), (1, .int v1_63), (2, .int v2_63), (3, .int v3_101_63), (4, .int v4_101_63), (5, .int v5_101_63), (6, .int v6_101_63), (7, .int v7_101_63), (8, .int v8_101_63), (9, .int v9_101_63)] [.int s0_101_63] M (j_X11_ant_101_63 v1_63 v2_63 v3_101_63 v4_101_63 v5_101_63 v6_101_63 v7_101_63 v8_101_63 v9_101_63 s0_101_63 M) (fun o => Sum.elim (fun (s : (Int32 × Int32 × Int32 × Int32 × Int32 × Int32 × zM)) => Zs C w (0, 0) 63 [(0, zr w 257), (1, .int v1_63), (2, .int v2_63), (3, .int s.1), (4, .int s.2.1), (5, .int s.2.2.1), (6, .int s.2.2.2.1), (7, .int s.2.2.2.2.1), (8, .int s.2.2.2.2.2.1)] [] s.2.2.2.2.2.2) (fun (s : (Int32 × Int32 × Int32 × Int32 × zM)) => Zs C w (0, 0) 191 [(2, .int v2_63), (3, .int s.1), (4, .int s.2.1), (6, .int s.2.2.1), (7, .int s.2.2.2.1)] [] s.2.2.2.2) o) := by
  have hC := hB.1.1
  have hq1 : 1 ≤ d := by omega
  unfold j_X11_ant_101_63
  refine x_istore (f := 0) hC dX11_ant_101 [(10, .int s0_101_63), (0, zr w 257), (1, .int v1_63), (2, .int v2_63), (3, .int v3_101_63), (4, .int v4_101_63), (5, .int v5_101_63), (6, .int v6_101_63), (7, .int v7_101_63), (8, .int v8_101_63), (9, .int v9_101_63)] (by decide) rfl ?_
  refine x_iload hC dX11_ant_103 6 rfl ?_
  refine x_iload hC dX11_ant_105 0 rfl ?_
  refine x_if_eq (tgt := 114) hC dX11_ant_107 (by decide) ?_ ?_
  · refine x_iconst (v := (1 : Int32)) hC dX11_ant_114 ki_1 ?_
    refine x_sub [1, 2, 3, 4, 5, 7, 8, 9, 10, 0] rfl ?_
    exact j_X11_ant_115_63_ok hB hd M hR
  · refine x_iconst (v := (0 : Int32)) hC dX11_ant_110 ki_0 ?_
    refine x_goto (tgt := 115) hC dX11_ant_111 (by decide) ?_
    refine x_sub [1, 2, 3, 4, 5, 7, 8, 9, 10, 0] rfl ?_
    exact j_X11_ant_115_63_ok hB hd M hR
noncomputable def b_X11_ant_63 (v1_63 : Int32) (v2_63 : Int32) (v3_63 : Int32) (v4_63 : Int32) (v5_63 : Int32) (v6_63 : Int32) (v7_63 : Int32) (v8_63 : Int32) (M : zM) : Option ((Int32 × Int32 × Int32 × Int32 × Int32 × Int32 × zM) ⊕ (Int32 × Int32 × Int32 × Int32 × zM)) :=
  if v1_63 ≤ v8_63 then (some (.inr (v3_63, v4_63, v6_63, v7_63, M)))
  else (nm (((128 : Int32) * (v4_63 &&& (127 : Int32))) + (v3_63 &&& (127 : Int32))) fun v9_83_63 =>
  grd (inb v9_83_63 16384) (
  if (M 276 (ix v9_83_63)) = (1 : Int32) then (j_X11_ant_101_63 v1_63 v2_63 v3_63 v4_63 v5_63 v6_63 v7_63 v8_63 v9_83_63 (1 : Int32) M)
  else (j_X11_ant_101_63 v1_63 v2_63 v3_63 v4_63 v5_63 v6_63 v7_63 v8_63 v9_83_63 (0 : Int32) M)))
set_option maxRecDepth 100000 in
theorem b_X11_ant_63_ok {C : zC} {d : Nat} {g : zG} {l : Launch} {w : zW} {r : Int32 × zM} {v1_63 : Int32} {v2_63 : Int32} {v3_63 : Int32} {v4_63 : Int32} {v5_63 : Int32} {v6_63 : Int32} {v7_63 : Int32} {v8_63 : Int32} (hB : bOK C cX11_ant 11 RX11 d g l w false) (hd : 2 ≤ d) (M : zM) (hR : RtI C cX11_ant w r.1 r.2) : Sg C w (0, 0) 63 [(0, zr w 257), (1, .int v1_63), (2, .int v2_63), (3, .int v3_63), (4, .int v4_63), (5, .int v5_63), (6, .int v6_63), (7, .int v7_63), (8, .int v8_63)] [] M (b_X11_ant_63 v1_63 v2_63 v3_63 v4_63 v5_63 v6_63 v7_63 v8_63 M) (fun o => Sum.elim (fun (s : (Int32 × Int32 × Int32 × Int32 × Int32 × Int32 × zM)) => Zs C w (0, 0) 63 [(0, zr w 257), (1, .int v1_63), (2, .int v2_63), (3, .int s.1), (4, .int s.2.1), (5, .int s.2.2.1), (6, .int s.2.2.2.1), (7, .int s.2.2.2.2.1), (8, .int s.2.2.2.2.2.1)] [] s.2.2.2.2.2.2) (fun (s : (Int32 × Int32 × Int32 × Int32 × zM)) => Zs C w (0, 0) 191 [(2, .int v2_63), (3, .int s.1), (4, .int s.2.1), (6, .int s.2.2.1), (7, .int s.2.2.2.1)] [] s.2.2.2.2) o) := by
  have hC := hB.1.1
  have hq1 : 1 ≤ d := by omega
  unfold b_X11_ant_63
  refine x_iload hC dX11_ant_63 8 rfl ?_
  refine x_iload_n hC dX11_ant_65 rfl 1 rfl ?_
  refine x_icmp_ge (tgt := 191) hC dX11_ant_66 (by decide) ?_ ?_
  · refine x_sub [2, 3, 4, 6, 7] rfl ?_
    exact x_done (fun h => h)
  · refine x_sipush (v := (128 : Int32)) hC dX11_ant_69 kh_128 ?_
    refine x_iload hC dX11_ant_72 4 rfl ?_
    refine x_bipush (v := (127 : Int32)) hC dX11_ant_74 kb_127 ?_
    refine x_iand hC dX11_ant_76 ?_
    refine x_imul hC dX11_ant_77 ?_
    refine x_iload_n hC dX11_ant_78 rfl 3 rfl ?_
    refine x_bipush (v := (127 : Int32)) hC dX11_ant_79 kb_127 ?_
    refine x_iand hC dX11_ant_81 ?_
    refine x_iadd hC dX11_ant_82 ?_
    refine x_top (fun v9_83_63 => ?_)
    refine x_istore (f := 0) hC dX11_ant_83 [(9, .int v9_83_63), (0, zr w 257), (1, .int v1_63), (2, .int v2_63), (3, .int v3_63), (4, .int v4_63), (5, .int v5_63), (6, .int v6_63), (7, .int v7_63), (8, .int v8_63)] (by decide) rfl ?_
    refine x_aload_n hC dX11_ant_85 rfl 1 rfl ?_
    refine r_getR hB dX11_ant_86 kf_X11_68 rfl th_257 rf_257_34 ?_
    refine x_iload hC dX11_ant_89 0 rfl ?_
    refine r_iald hB dX11_ant_91 th_276 ?_
    refine x_iconst (v := (1 : Int32)) hC dX11_ant_92 ki_1 ?_
    refine x_icmp_ne (tgt := 100) hC dX11_ant_93 (by decide) ?_ ?_
    · refine x_iconst (v := (1 : Int32)) hC dX11_ant_96 ki_1 ?_
      refine x_goto (tgt := 101) hC dX11_ant_97 (by decide) ?_
      refine x_sub [1, 2, 3, 4, 5, 6, 7, 8, 9, 0] rfl ?_
      exact j_X11_ant_101_63_ok hB hd M hR
    · refine x_iconst (v := (0 : Int32)) hC dX11_ant_100 ki_0 ?_
      refine x_sub [1, 2, 3, 4, 5, 6, 7, 8, 9, 0] rfl ?_
      exact j_X11_ant_101_63_ok hB hd M hR
noncomputable def j_X11_ant_191 (v2_191 : Int32) (v3_191 : Int32) (v4_191 : Int32) (v6_191 : Int32) (v7_191 : Int32) (M : zM) : Option (Int32 × zM) :=
  if v2_191 = 0 then (some (v6_191, M))
  else (if v2_191 = (1 : Int32) then (some (v3_191, M))
  else (if v2_191 = (2 : Int32) then (some (v4_191, M))
  else (some (v7_191, M))))
set_option maxRecDepth 100000 in
theorem j_X11_ant_191_ok {C : zC} {d : Nat} {g : zG} {l : Launch} {w : zW} {r : Int32 × zM} {v2_191 : Int32} {v3_191 : Int32} {v4_191 : Int32} {v6_191 : Int32} {v7_191 : Int32} (hB : bOK C cX11_ant 11 RX11 d g l w false) (hd : 2 ≤ d) (M : zM) (hR : RtI C cX11_ant w r.1 r.2) : Sg C w (0, 0) 191 [(2, .int v2_191), (3, .int v3_191), (4, .int v4_191), (6, .int v6_191), (7, .int v7_191)] [] M (j_X11_ant_191 v2_191 v3_191 v4_191 v6_191 v7_191 M) (fun q => q = r) := by
  have hC := hB.1.1
  have hq1 : 1 ≤ d := by omega
  unfold j_X11_ant_191
  refine x_iload_n hC dX11_ant_191 rfl 0 rfl ?_
  refine x_if_ne (tgt := 200) hC dX11_ant_192 (by decide) ?_ ?_
  · refine x_iload hC dX11_ant_195 3 rfl ?_
    refine x_goto (tgt := 221) hC dX11_ant_197 (by decide) ?_
    exact r_retI hR dX11_ant_221 (fun h => h)
  · refine x_iload_n hC dX11_ant_200 rfl 0 rfl ?_
    refine x_iconst (v := (1 : Int32)) hC dX11_ant_201 ki_1 ?_
    refine x_icmp_ne (tgt := 209) hC dX11_ant_202 (by decide) ?_ ?_
    · refine x_iload_n hC dX11_ant_205 rfl 1 rfl ?_
      refine x_goto (tgt := 221) hC dX11_ant_206 (by decide) ?_
      exact r_retI hR dX11_ant_221 (fun h => h)
    · refine x_iload_n hC dX11_ant_209 rfl 0 rfl ?_
      refine x_iconst (v := (2 : Int32)) hC dX11_ant_210 ki_2 ?_
      refine x_icmp_ne (tgt := 219) hC dX11_ant_211 (by decide) ?_ ?_
      · refine x_iload hC dX11_ant_214 2 rfl ?_
        refine x_goto (tgt := 221) hC dX11_ant_216 (by decide) ?_
        exact r_retI hR dX11_ant_221 (fun h => h)
      · refine x_iload hC dX11_ant_219 4 rfl ?_
        exact r_retI hR dX11_ant_221 (fun h => h)
noncomputable def j_X11_ant_46 (v1_46 : Int32) (v2_46 : Int32) (M : zM) : Option (Int32 × zM) :=
  (loopW (fun s => b_X11_ant_63 v1_46 v2_46 s.1 s.2.1 s.2.2.1 s.2.2.2.1 s.2.2.2.2.1 s.2.2.2.2.2.1 s.2.2.2.2.2.2) ((0 : Int32), (0 : Int32), (0 : Int32), (0 : Int32), (0 : Int32), (0 : Int32), M)).bind (fun r => j_X11_ant_191 v2_46 r.1 r.2.1 r.2.2.1 r.2.2.2.1 r.2.2.2.2)
set_option maxRecDepth 100000 in
theorem j_X11_ant_46_ok {C : zC} {d : Nat} {g : zG} {l : Launch} {w : zW} {r : Int32 × zM} {v1_46 : Int32} {v2_46 : Int32} (hB : bOK C cX11_ant 11 RX11 d g l w false) (hd : 2 ≤ d) (M : zM) (hR : RtI C cX11_ant w r.1 r.2) : Sg C w (0, 0) 46 [(0, zr w 257), (1, .int v1_46), (2, .int v2_46)] [] M (j_X11_ant_46 v1_46 v2_46 M) (fun q => q = r) := by
  have hC := hB.1.1
  have hq1 : 1 ≤ d := by omega
  unfold j_X11_ant_46
  refine x_iconst (v := (0 : Int32)) hC dX11_ant_46 ki_0 ?_
  refine x_istore_n hC dX11_ant_47 rfl [(3, .int (0 : Int32)), (0, zr w 257), (1, .int v1_46), (2, .int v2_46)] (by decide) rfl ?_
  refine x_iconst (v := (0 : Int32)) hC dX11_ant_48 ki_0 ?_
  refine x_istore (f := 0) hC dX11_ant_49 [(4, .int (0 : Int32)), (3, .int (0 : Int32)), (0, zr w 257), (1, .int v1_46), (2, .int v2_46)] (by decide) rfl ?_
  refine x_iconst (v := (0 : Int32)) hC dX11_ant_51 ki_0 ?_
  refine x_istore (f := 0) hC dX11_ant_52 [(5, .int (0 : Int32)), (4, .int (0 : Int32)), (3, .int (0 : Int32)), (0, zr w 257), (1, .int v1_46), (2, .int v2_46)] (by decide) rfl ?_
  refine x_iconst (v := (0 : Int32)) hC dX11_ant_54 ki_0 ?_
  refine x_istore (f := 0) hC dX11_ant_55 [(6, .int (0 : Int32)), (5, .int (0 : Int32)), (4, .int (0 : Int32)), (3, .int (0 : Int32)), (0, zr w 257), (1, .int v1_46), (2, .int v2_46)] (by decide) rfl ?_
  refine x_iconst (v := (0 : Int32)) hC dX11_ant_57 ki_0 ?_
  refine x_istore (f := 0) hC dX11_ant_58 [(7, .int (0 : Int32)), (6, .int (0 : Int32)), (5, .int (0 : Int32)), (4, .int (0 : Int32)), (3, .int (0 : Int32)), (0, zr w 257), (1, .int v1_46), (2, .int v2_46)] (by decide) rfl ?_
  refine x_iconst (v := (0 : Int32)) hC dX11_ant_60 ki_0 ?_
  refine x_istore (f := 0) hC dX11_ant_61 [(8, .int (0 : Int32)), (7, .int (0 : Int32)), (6, .int (0 : Int32)), (5, .int (0 : Int32)), (4, .int (0 : Int32)), (3, .int (0 : Int32)), (0, zr w 257), (1, .int v1_46), (2, .int v2_46)] (by decide) rfl ?_
  refine x_sub [6, 7, 8, 5, 4, 3, 2, 1, 0] rfl ?_
  refine x_loopB (pc2 := 191) (fun (s : (Int32 × Int32 × Int32 × Int32 × Int32 × Int32 × zM)) => [(0, zr w 257), (1, .int v1_46), (2, .int v2_46), (3, .int s.1), (4, .int s.2.1), (5, .int s.2.2.1), (6, .int s.2.2.2.1), (7, .int s.2.2.2.2.1), (8, .int s.2.2.2.2.2.1)]) (fun (s : (Int32 × Int32 × Int32 × Int32 × Int32 × Int32 × zM)) => s.2.2.2.2.2.2) (fun (s : (Int32 × Int32 × Int32 × Int32 × zM)) => [(2, .int v2_46), (3, .int s.1), (4, .int s.2.1), (6, .int s.2.2.1), (7, .int s.2.2.2.1)]) (fun (s : (Int32 × Int32 × Int32 × Int32 × zM)) => s.2.2.2.2) ((0 : Int32), (0 : Int32), (0 : Int32), (0 : Int32), (0 : Int32), (0 : Int32), M) ?_ ?_
  · exact fun s => b_X11_ant_63_ok hB hd s.2.2.2.2.2.2 hR
  · intro r9
    exact j_X11_ant_191_ok hB hd r9.2.2.2.2 hR
noncomputable def f_X11_ant (p1 : Int32) (p2 : Int32) (M : zM) : Option (Int32 × zM) :=
  if (f_X11_within p1 (0 : Int32) (2000 : Int32)) = 0 then (some ((-10000 : Int32), M))
  else (if (f_X11_within p2 (0 : Int32) (3 : Int32)) = 0 then (some ((-10000 : Int32), M))
  else ((loopW (fun s => b_X11_ant_26 p1 p2 s.1 s.2) ((0 : Int32), M)).bind (fun r => j_X11_ant_46 p1 p2 r)))
set_option maxRecDepth 100000 in
theorem f_X11_ant_ok {C : zC} {d : Nat} {g : zG} {l : Launch} {w : zW} {r : Int32 × zM} {p1 : Int32} {p2 : Int32} (hB : bOK C cX11_ant 11 RX11 d g l w false) (hd : 2 ≤ d) (M : zM) (hR : RtI C cX11_ant w r.1 r.2) : Sg C w (0, 0) 0 [(0, zr w 257), (1, .int p1), (2, .int p2)] [] M (f_X11_ant p1 p2 M) (fun q => q = r) := by
  have hC := hB.1.1
  have hq1 : 1 ≤ d := by omega
  unfold f_X11_ant
  refine x_iload_n hC dX11_ant_0 rfl 1 rfl ?_
  refine x_iconst (v := (0 : Int32)) hC dX11_ant_1 ki_0 ?_
  refine x_sipush (v := (2000 : Int32)) hC dX11_ant_2 kh_2000 ?_
  refine r_cS0 (as := [.int p1, .int (0 : Int32), .int (2000 : Int32)]) (rest := []) hB dX11_ant_5 ks_X11_100 hq1 rfl rfl (Nat.le_of_ble_eq_true rfl) (f_X11_within_met hB.2 (by omega)) ?_
  refine x_if_eq (tgt := 20) hC dX11_ant_8 (by decide) ?_ ?_
  · refine x_sipush (v := (-10000 : Int32)) hC dX11_ant_20 kh_m10000 ?_
    exact r_retI hR dX11_ant_23 (fun h => h)
  · refine x_iload_n hC dX11_ant_11 rfl 2 rfl ?_
    refine x_iconst (v := (0 : Int32)) hC dX11_ant_12 ki_0 ?_
    refine x_iconst (v := (3 : Int32)) hC dX11_ant_13 ki_3 ?_
    refine r_cS0 (as := [.int p2, .int (0 : Int32), .int (3 : Int32)]) (rest := []) hB dX11_ant_14 ks_X11_100 hq1 rfl rfl (Nat.le_of_ble_eq_true rfl) (f_X11_within_met hB.2 (by omega)) ?_
    refine x_if_ne (tgt := 24) hC dX11_ant_17 (by decide) ?_ ?_
    · refine x_sipush (v := (-10000 : Int32)) hC dX11_ant_20 kh_m10000 ?_
      exact r_retI hR dX11_ant_23 (fun h => h)
    · refine x_iconst (v := (0 : Int32)) hC dX11_ant_24 ki_0 ?_
      refine x_istore_n hC dX11_ant_25 rfl [(3, .int (0 : Int32)), (0, zr w 257), (1, .int p1), (2, .int p2)] (by decide) rfl ?_
      refine x_sub [1, 2, 3, 0] rfl ?_
      refine x_loopB (pc2 := 46) (fun (s : (Int32 × zM)) => [(0, zr w 257), (1, .int p1), (2, .int p2), (3, .int s.1)]) (fun (s : (Int32 × zM)) => s.2) (fun (s : (zM)) => [(0, zr w 257), (1, .int p1), (2, .int p2)]) (fun (s : (zM)) => s) ((0 : Int32), M) ?_ ?_
      · exact fun s => b_X11_ant_26_ok hB hd s.2 hR
      · intro r9
        exact j_X11_ant_46_ok hB hd r9 hR
theorem f_X11_ant_met {l : Launch} {d : Nat} {g : zG} {w : zW} {M0 : zM} {p1 : Int32} {p2 : Int32} {M : zM} (hw : wS w) (hd : 2 ≤ d) {v : Int32} {M' : zM} (h : f_X11_ant p1 p2 M = some (v, M')) : zMet l yX11_ant cX11_ant 11 (some .int) d g w (zin false) M0 [zr w 257, .int p1, .int p2] M (some (.int v)) M' :=
  met_i (by decide +kernel) (Nat.le_of_ble_eq_true rfl) rfl (fun C hB0 hR => f_X11_ant_ok (r := (v, M')) ⟨hB0, hw⟩ hd M hR _ h rfl)
/-! WindingSquareModel.hooks(II)I -/
noncomputable def j_X11_hooks_42_23 (v1_23 : Int32) (v2_23 : Int32) (v3_42_23 : Int32) (s1_42_23 : Int32) (s2_42_23 : Int32) (M : zM) : Option ((Int32 × zM) ⊕ (zM)) :=
  grd (inb s1_42_23 4) (
  nm (mset M 277 (ix s1_42_23) s2_42_23) fun M42_23 =>
  some (.inl ((v3_42_23 + (1 : Int32)), M42_23)))
set_option maxRecDepth 100000 in
theorem j_X11_hooks_42_23_ok {C : zC} {d : Nat} {g : zG} {l : Launch} {w : zW} {r : Int32 × zM} {v1_23 : Int32} {v2_23 : Int32} {v3_42_23 : Int32} {s1_42_23 : Int32} {s2_42_23 : Int32} (hB : bOK C cX11_hooks 5 RX11 d g l w false) (hd : 2 ≤ d) (M : zM) (hR : RtI C cX11_hooks w r.1 r.2) : Sg C w (0, 0) 42 [(0, zr w 257), (1, .int v1_23), (2, .int v2_23), (3, .int v3_42_23)] [.int s2_42_23, .int s1_42_23, zr w 277] M (j_X11_hooks_42_23 v1_23 v2_23 v3_42_23 s1_42_23 s2_42_23 M) (fun o => Sum.elim (fun (s : (Int32 × zM)) => Zs C w (0, 0) 23 [(0, zr w 257), (1, .int v1_23), (2, .int v2_23), (3, .int s.1)] [] s.2) (fun (s : (zM)) => Zs C w (0, 0) 49 [(0, zr w 257), (1, .int v1_23), (2, .int v2_23)] [] s) o) := by
  have hC := hB.1.1
  have hq1 : 1 ≤ d := by omega
  unfold j_X11_hooks_42_23
  refine r_iast hB dX11_hooks_42 th_277 ?_
  refine x_mem (fun M42_23 => ?_)
  refine x_iinc hC dX11_hooks_43 ki_1 [(3, .int (v3_42_23 + (1 : Int32))), (0, zr w 257), (1, .int v1_23), (2, .int v2_23)] 3 rfl (by decide) rfl ?_
  refine x_goto (tgt := 23) hC dX11_hooks_46 (by decide) ?_
  refine x_sub [1, 2, 3, 0] rfl ?_
  exact x_done (fun h => h)
noncomputable def b_X11_hooks_23 (v1_23 : Int32) (v2_23 : Int32) (v3_23 : Int32) (M : zM) : Option ((Int32 × zM) ⊕ (zM)) :=
  if (4 : Int32) ≤ v3_23 then (some (.inr M))
  else (if v3_23 = 0 then (j_X11_hooks_42_23 v1_23 v2_23 v3_23 v3_23 (1 : Int32) M)
  else (j_X11_hooks_42_23 v1_23 v2_23 v3_23 v3_23 (0 : Int32) M))
set_option maxRecDepth 100000 in
theorem b_X11_hooks_23_ok {C : zC} {d : Nat} {g : zG} {l : Launch} {w : zW} {r : Int32 × zM} {v1_23 : Int32} {v2_23 : Int32} {v3_23 : Int32} (hB : bOK C cX11_hooks 5 RX11 d g l w false) (hd : 2 ≤ d) (M : zM) (hR : RtI C cX11_hooks w r.1 r.2) : Sg C w (0, 0) 23 [(0, zr w 257), (1, .int v1_23), (2, .int v2_23), (3, .int v3_23)] [] M (b_X11_hooks_23 v1_23 v2_23 v3_23 M) (fun o => Sum.elim (fun (s : (Int32 × zM)) => Zs C w (0, 0) 23 [(0, zr w 257), (1, .int v1_23), (2, .int v2_23), (3, .int s.1)] [] s.2) (fun (s : (zM)) => Zs C w (0, 0) 49 [(0, zr w 257), (1, .int v1_23), (2, .int v2_23)] [] s) o) := by
  have hC := hB.1.1
  have hq1 : 1 ≤ d := by omega
  unfold b_X11_hooks_23
  refine x_iload_n hC dX11_hooks_23 rfl 3 rfl ?_
  refine x_iconst (v := (4 : Int32)) hC dX11_hooks_24 ki_4 ?_
  refine x_icmp_ge (tgt := 49) hC dX11_hooks_25 (by decide) ?_ ?_
  · refine x_sub [0, 1, 2] rfl ?_
    exact x_done (fun h => h)
  · refine x_aload_n hC dX11_hooks_28 rfl 0 rfl ?_
    refine r_getR hB dX11_hooks_29 kf_X11_71 rfl th_257 rf_257_35 ?_
    refine x_iload_n hC dX11_hooks_32 rfl 3 rfl ?_
    refine x_iload_n hC dX11_hooks_33 rfl 3 rfl ?_
    refine x_if_ne (tgt := 41) hC dX11_hooks_34 (by decide) ?_ ?_
    · refine x_iconst (v := (1 : Int32)) hC dX11_hooks_37 ki_1 ?_
      refine x_goto (tgt := 42) hC dX11_hooks_38 (by decide) ?_
      exact j_X11_hooks_42_23_ok hB hd M hR
    · refine x_iconst (v := (0 : Int32)) hC dX11_hooks_41 ki_0 ?_
      exact j_X11_hooks_42_23_ok hB hd M hR
noncomputable def b_X11_hooks_56 (v1_56 : Int32) (v3_56 : Int32) (v4_56 : Int32) (M : zM) : Option ((Int32 × zM) ⊕ (zM)) :=
  if v1_56 ≤ v4_56 then (some (.inr M))
  else (nm (mset M 278 (ix (0 : Int32)) (f_X11_plus (M 277 (ix (3 : Int32))) (v3_56 * (M 277 (ix (0 : Int32)))))) fun M84_56 =>
  nm (mset M84_56 278 (ix (1 : Int32)) (f_X11_plus (M84_56 277 (ix (0 : Int32))) (v3_56 * (M84_56 277 (ix (2 : Int32)))))) fun M107_56 =>
  nm (mset M107_56 278 (ix (2 : Int32)) (f_X11_plus (M107_56 277 (ix (0 : Int32))) (v3_56 * (M107_56 277 (ix (1 : Int32)))))) fun M130_56 =>
  nm (mset M130_56 278 (ix (3 : Int32)) (f_X11_plus (f_X11_plus (M130_56 277 (ix (1 : Int32))) (M130_56 277 (ix (2 : Int32)))) (v3_56 * (M130_56 277 (ix (0 : Int32)))))) fun M162_56 =>
  (f_X11_copies 278 277 (4 : Int32) M162_56).bind fun M172_56 =>
  some (.inl ((v4_56 + (1 : Int32)), M172_56)))
set_option maxRecDepth 100000 in
theorem b_X11_hooks_56_ok {C : zC} {d : Nat} {g : zG} {l : Launch} {w : zW} {r : Int32 × zM} {v1_56 : Int32} {v3_56 : Int32} {v4_56 : Int32} (hB : bOK C cX11_hooks 5 RX11 d g l w false) (hd : 2 ≤ d) (M : zM) (hR : RtI C cX11_hooks w r.1 r.2) : Sg C w (0, 0) 56 [(0, zr w 257), (1, .int v1_56), (3, .int v3_56), (4, .int v4_56)] [] M (b_X11_hooks_56 v1_56 v3_56 v4_56 M) (fun o => Sum.elim (fun (s : (Int32 × zM)) => Zs C w (0, 0) 56 [(0, zr w 257), (1, .int v1_56), (3, .int v3_56), (4, .int s.1)] [] s.2) (fun (s : (zM)) => Zs C w (0, 0) 181 [(0, zr w 257)] [] s) o) := by
  have hC := hB.1.1
  have hq1 : 1 ≤ d := by omega
  unfold b_X11_hooks_56
  refine x_iload hC dX11_hooks_56 3 rfl ?_
  refine x_iload_n hC dX11_hooks_58 rfl 1 rfl ?_
  refine x_icmp_ge (tgt := 181) hC dX11_hooks_59 (by decide) ?_ ?_
  · refine x_sub [0] rfl ?_
    exact x_done (fun h => h)
  · refine x_aload_n hC dX11_hooks_62 rfl 0 rfl ?_
    refine r_getR hB dX11_hooks_63 kf_X11_74 rfl th_257 rf_257_36 ?_
    refine x_iconst (v := (0 : Int32)) hC dX11_hooks_66 ki_0 ?_
    refine x_aload_n hC dX11_hooks_67 rfl 0 rfl ?_
    refine r_getR hB dX11_hooks_68 kf_X11_71 rfl th_257 rf_257_35 ?_
    refine x_iconst (v := (3 : Int32)) hC dX11_hooks_71 ki_3 ?_
    refine r_iald0 hB dX11_hooks_72 th_277 ib_3_4 ?_
    refine x_iload_n hC dX11_hooks_73 rfl 2 rfl ?_
    refine x_aload_n hC dX11_hooks_74 rfl 0 rfl ?_
    refine r_getR hB dX11_hooks_75 kf_X11_71 rfl th_257 rf_257_35 ?_
    refine x_iconst (v := (0 : Int32)) hC dX11_hooks_78 ki_0 ?_
    refine r_iald0 hB dX11_hooks_79 th_277 ib_0_4 ?_
    refine x_imul hC dX11_hooks_80 ?_
    refine r_cS0 (as := [.int (M 277 (ix (3 : Int32))), .int (v3_56 * (M 277 (ix (0 : Int32))))]) (rest := [.int (0 : Int32), zr w 278]) hB dX11_hooks_81 ks_X11_350 hq1 rfl rfl (Nat.le_of_ble_eq_true rfl) (f_X11_plus_met hB.2 (by omega)) ?_
    refine r_iast0 hB dX11_hooks_84 th_278 ib_0_4 ?_
    refine x_mem (fun M84_56 => ?_)
    refine x_aload_n hC dX11_hooks_85 rfl 0 rfl ?_
    refine r_getR hB dX11_hooks_86 kf_X11_74 rfl th_257 rf_257_36 ?_
    refine x_iconst (v := (1 : Int32)) hC dX11_hooks_89 ki_1 ?_
    refine x_aload_n hC dX11_hooks_90 rfl 0 rfl ?_
    refine r_getR hB dX11_hooks_91 kf_X11_71 rfl th_257 rf_257_35 ?_
    refine x_iconst (v := (0 : Int32)) hC dX11_hooks_94 ki_0 ?_
    refine r_iald0 hB dX11_hooks_95 th_277 ib_0_4 ?_
    refine x_iload_n hC dX11_hooks_96 rfl 2 rfl ?_
    refine x_aload_n hC dX11_hooks_97 rfl 0 rfl ?_
    refine r_getR hB dX11_hooks_98 kf_X11_71 rfl th_257 rf_257_35 ?_
    refine x_iconst (v := (2 : Int32)) hC dX11_hooks_101 ki_2 ?_
    refine r_iald0 hB dX11_hooks_102 th_277 ib_2_4 ?_
    refine x_imul hC dX11_hooks_103 ?_
    refine r_cS0 (as := [.int (M84_56 277 (ix (0 : Int32))), .int (v3_56 * (M84_56 277 (ix (2 : Int32))))]) (rest := [.int (1 : Int32), zr w 278]) hB dX11_hooks_104 ks_X11_350 hq1 rfl rfl (Nat.le_of_ble_eq_true rfl) (f_X11_plus_met hB.2 (by omega)) ?_
    refine r_iast0 hB dX11_hooks_107 th_278 ib_1_4 ?_
    refine x_mem (fun M107_56 => ?_)
    refine x_aload_n hC dX11_hooks_108 rfl 0 rfl ?_
    refine r_getR hB dX11_hooks_109 kf_X11_74 rfl th_257 rf_257_36 ?_
    refine x_iconst (v := (2 : Int32)) hC dX11_hooks_112 ki_2 ?_
    refine x_aload_n hC dX11_hooks_113 rfl 0 rfl ?_
    refine r_getR hB dX11_hooks_114 kf_X11_71 rfl th_257 rf_257_35 ?_
    refine x_iconst (v := (0 : Int32)) hC dX11_hooks_117 ki_0 ?_
    refine r_iald0 hB dX11_hooks_118 th_277 ib_0_4 ?_
    refine x_iload_n hC dX11_hooks_119 rfl 2 rfl ?_
    refine x_aload_n hC dX11_hooks_120 rfl 0 rfl ?_
    refine r_getR hB dX11_hooks_121 kf_X11_71 rfl th_257 rf_257_35 ?_
    refine x_iconst (v := (1 : Int32)) hC dX11_hooks_124 ki_1 ?_
    refine r_iald0 hB dX11_hooks_125 th_277 ib_1_4 ?_
    refine x_imul hC dX11_hooks_126 ?_
    refine r_cS0 (as := [.int (M107_56 277 (ix (0 : Int32))), .int (v3_56 * (M107_56 277 (ix (1 : Int32))))]) (rest := [.int (2 : Int32), zr w 278]) hB dX11_hooks_127 ks_X11_350 hq1 rfl rfl (Nat.le_of_ble_eq_true rfl) (f_X11_plus_met hB.2 (by omega)) ?_
    refine r_iast0 hB dX11_hooks_130 th_278 ib_2_4 ?_
    refine x_mem (fun M130_56 => ?_)
    refine x_aload_n hC dX11_hooks_131 rfl 0 rfl ?_
    refine r_getR hB dX11_hooks_132 kf_X11_74 rfl th_257 rf_257_36 ?_
    refine x_iconst (v := (3 : Int32)) hC dX11_hooks_135 ki_3 ?_
    refine x_aload_n hC dX11_hooks_136 rfl 0 rfl ?_
    refine r_getR hB dX11_hooks_137 kf_X11_71 rfl th_257 rf_257_35 ?_
    refine x_iconst (v := (1 : Int32)) hC dX11_hooks_140 ki_1 ?_
    refine r_iald0 hB dX11_hooks_141 th_277 ib_1_4 ?_
    refine x_aload_n hC dX11_hooks_142 rfl 0 rfl ?_
    refine r_getR hB dX11_hooks_143 kf_X11_71 rfl th_257 rf_257_35 ?_
    refine x_iconst (v := (2 : Int32)) hC dX11_hooks_146 ki_2 ?_
    refine r_iald0 hB dX11_hooks_147 th_277 ib_2_4 ?_
    refine r_cS0 (as := [.int (M130_56 277 (ix (1 : Int32))), .int (M130_56 277 (ix (2 : Int32)))]) (rest := [.int (3 : Int32), zr w 278]) hB dX11_hooks_148 ks_X11_350 hq1 rfl rfl (Nat.le_of_ble_eq_true rfl) (f_X11_plus_met hB.2 (by omega)) ?_
    refine x_iload_n hC dX11_hooks_151 rfl 2 rfl ?_
    refine x_aload_n hC dX11_hooks_152 rfl 0 rfl ?_
    refine r_getR hB dX11_hooks_153 kf_X11_71 rfl th_257 rf_257_35 ?_
    refine x_iconst (v := (0 : Int32)) hC dX11_hooks_156 ki_0 ?_
    refine r_iald0 hB dX11_hooks_157 th_277 ib_0_4 ?_
    refine x_imul hC dX11_hooks_158 ?_
    refine r_cS0 (as := [.int (f_X11_plus (M130_56 277 (ix (1 : Int32))) (M130_56 277 (ix (2 : Int32)))), .int (v3_56 * (M130_56 277 (ix (0 : Int32))))]) (rest := [.int (3 : Int32), zr w 278]) hB dX11_hooks_159 ks_X11_350 hq1 rfl rfl (Nat.le_of_ble_eq_true rfl) (f_X11_plus_met hB.2 (by omega)) ?_
    refine r_iast0 hB dX11_hooks_162 th_278 ib_3_4 ?_
    refine x_mem (fun M162_56 => ?_)
    refine x_aload_n hC dX11_hooks_163 rfl 0 rfl ?_
    refine r_getR hB dX11_hooks_164 kf_X11_74 rfl th_257 rf_257_36 ?_
    refine x_aload_n hC dX11_hooks_167 rfl 0 rfl ?_
    refine r_getR hB dX11_hooks_168 kf_X11_71 rfl th_257 rf_257_35 ?_
    refine x_iconst (v := (4 : Int32)) hC dX11_hooks_171 ki_4 ?_
    refine r_cSv (as := [zr w 278, zr w 277, .int (4 : Int32)]) (rest := []) hB dX11_hooks_172 ks_X11_86 hq1 rfl rfl (Nat.le_of_ble_eq_true rfl) (fun M' hv => f_X11_copies_met hB.2 (tA.toI th_278) (tA.toI th_277) (by omega) hv) (fun M172_56 => ?_)
    refine x_iinc hC dX11_hooks_175 ki_1 [(4, .int (v4_56 + (1 : Int32))), (0, zr w 257), (1, .int v1_56), (3, .int v3_56)] 3 rfl (by decide) rfl ?_
    refine x_goto (tgt := 56) hC dX11_hooks_178 (by decide) ?_
    refine x_sub [1, 2, 3, 0] rfl ?_
    exact x_done (fun h => h)
noncomputable def j_X11_hooks_181 (M : zM) : Option (Int32 × zM) :=
  some ((M 277 (ix (0 : Int32))), M)
set_option maxRecDepth 100000 in
theorem j_X11_hooks_181_ok {C : zC} {d : Nat} {g : zG} {l : Launch} {w : zW} {r : Int32 × zM} (hB : bOK C cX11_hooks 5 RX11 d g l w false) (hd : 2 ≤ d) (M : zM) (hR : RtI C cX11_hooks w r.1 r.2) : Sg C w (0, 0) 181 [(0, zr w 257)] [] M (j_X11_hooks_181 M) (fun q => q = r) := by
  have hC := hB.1.1
  have hq1 : 1 ≤ d := by omega
  unfold j_X11_hooks_181
  refine x_aload_n hC dX11_hooks_181 rfl 0 rfl ?_
  refine r_getR hB dX11_hooks_182 kf_X11_71 rfl th_257 rf_257_35 ?_
  refine x_iconst (v := (0 : Int32)) hC dX11_hooks_185 ki_0 ?_
  refine r_iald0 hB dX11_hooks_186 th_277 ib_0_4 ?_
  exact r_retI hR dX11_hooks_187 (fun h => h)
noncomputable def j_X11_hooks_49 (v1_49 : Int32) (v2_49 : Int32) (M : zM) : Option (Int32 × zM) :=
  nm ((1 : Int32) - v2_49) fun v3_52 =>
  (loopW (fun s => b_X11_hooks_56 v1_49 v3_52 s.1 s.2) ((0 : Int32), M)).bind (fun r => j_X11_hooks_181 r)
set_option maxRecDepth 100000 in
theorem j_X11_hooks_49_ok {C : zC} {d : Nat} {g : zG} {l : Launch} {w : zW} {r : Int32 × zM} {v1_49 : Int32} {v2_49 : Int32} (hB : bOK C cX11_hooks 5 RX11 d g l w false) (hd : 2 ≤ d) (M : zM) (hR : RtI C cX11_hooks w r.1 r.2) : Sg C w (0, 0) 49 [(0, zr w 257), (1, .int v1_49), (2, .int v2_49)] [] M (j_X11_hooks_49 v1_49 v2_49 M) (fun q => q = r) := by
  have hC := hB.1.1
  have hq1 : 1 ≤ d := by omega
  unfold j_X11_hooks_49
  refine x_iconst (v := (1 : Int32)) hC dX11_hooks_49 ki_1 ?_
  refine x_iload_n hC dX11_hooks_50 rfl 2 rfl ?_
  refine x_isub hC dX11_hooks_51 ?_
  refine x_top (fun v3_52 => ?_)
  refine x_istore_n hC dX11_hooks_52 rfl [(3, .int v3_52), (0, zr w 257), (1, .int v1_49), (2, .int v2_49)] (by decide) rfl ?_
  refine x_iconst (v := (0 : Int32)) hC dX11_hooks_53 ki_0 ?_
  refine x_istore (f := 0) hC dX11_hooks_54 [(4, .int (0 : Int32)), (3, .int v3_52), (0, zr w 257), (1, .int v1_49), (2, .int v2_49)] (by decide) rfl ?_
  refine x_sub [2, 3, 1, 0] rfl ?_
  refine x_loopB (pc2 := 181) (fun (s : (Int32 × zM)) => [(0, zr w 257), (1, .int v1_49), (3, .int v3_52), (4, .int s.1)]) (fun (s : (Int32 × zM)) => s.2) (fun (s : (zM)) => [(0, zr w 257)]) (fun (s : (zM)) => s) ((0 : Int32), M) ?_ ?_
  · exact fun s => b_X11_hooks_56_ok hB hd s.2 hR
  · intro r9
    exact j_X11_hooks_181_ok hB hd r9 hR
noncomputable def f_X11_hooks (p1 : Int32) (p2 : Int32) (M : zM) : Option (Int32 × zM) :=
  if (f_X11_within p1 (0 : Int32) (40 : Int32)) = 0 then (some ((-1 : Int32), M))
  else (if (f_X11_within p2 (0 : Int32) (1 : Int32)) = 0 then (some ((-1 : Int32), M))
  else ((loopW (fun s => b_X11_hooks_23 p1 p2 s.1 s.2) ((0 : Int32), M)).bind (fun r => j_X11_hooks_49 p1 p2 r)))
set_option maxRecDepth 100000 in
theorem f_X11_hooks_ok {C : zC} {d : Nat} {g : zG} {l : Launch} {w : zW} {r : Int32 × zM} {p1 : Int32} {p2 : Int32} (hB : bOK C cX11_hooks 5 RX11 d g l w false) (hd : 2 ≤ d) (M : zM) (hR : RtI C cX11_hooks w r.1 r.2) : Sg C w (0, 0) 0 [(0, zr w 257), (1, .int p1), (2, .int p2)] [] M (f_X11_hooks p1 p2 M) (fun q => q = r) := by
  have hC := hB.1.1
  have hq1 : 1 ≤ d := by omega
  unfold f_X11_hooks
  refine x_iload_n hC dX11_hooks_0 rfl 1 rfl ?_
  refine x_iconst (v := (0 : Int32)) hC dX11_hooks_1 ki_0 ?_
  refine x_bipush (v := (40 : Int32)) hC dX11_hooks_2 kb_40 ?_
  refine r_cS0 (as := [.int p1, .int (0 : Int32), .int (40 : Int32)]) (rest := []) hB dX11_hooks_4 ks_X11_100 hq1 rfl rfl (Nat.le_of_ble_eq_true rfl) (f_X11_within_met hB.2 (by omega)) ?_
  refine x_if_eq (tgt := 19) hC dX11_hooks_7 (by decide) ?_ ?_
  · refine x_iconst (v := (-1 : Int32)) hC dX11_hooks_19 ki_m1 ?_
    exact r_retI hR dX11_hooks_20 (fun h => h)
  · refine x_iload_n hC dX11_hooks_10 rfl 2 rfl ?_
    refine x_iconst (v := (0 : Int32)) hC dX11_hooks_11 ki_0 ?_
    refine x_iconst (v := (1 : Int32)) hC dX11_hooks_12 ki_1 ?_
    refine r_cS0 (as := [.int p2, .int (0 : Int32), .int (1 : Int32)]) (rest := []) hB dX11_hooks_13 ks_X11_100 hq1 rfl rfl (Nat.le_of_ble_eq_true rfl) (f_X11_within_met hB.2 (by omega)) ?_
    refine x_if_ne (tgt := 21) hC dX11_hooks_16 (by decide) ?_ ?_
    · refine x_iconst (v := (-1 : Int32)) hC dX11_hooks_19 ki_m1 ?_
      exact r_retI hR dX11_hooks_20 (fun h => h)
    · refine x_iconst (v := (0 : Int32)) hC dX11_hooks_21 ki_0 ?_
      refine x_istore_n hC dX11_hooks_22 rfl [(3, .int (0 : Int32)), (0, zr w 257), (1, .int p1), (2, .int p2)] (by decide) rfl ?_
      refine x_sub [1, 2, 3, 0] rfl ?_
      refine x_loopB (pc2 := 49) (fun (s : (Int32 × zM)) => [(0, zr w 257), (1, .int p1), (2, .int p2), (3, .int s.1)]) (fun (s : (Int32 × zM)) => s.2) (fun (s : (zM)) => [(0, zr w 257), (1, .int p1), (2, .int p2)]) (fun (s : (zM)) => s) ((0 : Int32), M) ?_ ?_
      · exact fun s => b_X11_hooks_23_ok hB hd s.2 hR
      · intro r9
        exact j_X11_hooks_49_ok hB hd r9 hR
theorem f_X11_hooks_met {l : Launch} {d : Nat} {g : zG} {w : zW} {M0 : zM} {p1 : Int32} {p2 : Int32} {M : zM} (hw : wS w) (hd : 2 ≤ d) {v : Int32} {M' : zM} (h : f_X11_hooks p1 p2 M = some (v, M')) : zMet l yX11_hooks cX11_hooks 5 (some .int) d g w (zin false) M0 [zr w 257, .int p1, .int p2] M (some (.int v)) M' :=
  met_i (by decide +kernel) (Nat.le_of_ble_eq_true rfl) rfl (fun C hB0 hR => f_X11_hooks_ok (r := (v, M')) ⟨hB0, hw⟩ hd M hR _ h rfl)
/-! WindingSquareModel.layValues(I)V -/
noncomputable def j_X11_layValues_58_2_9_20 (v1_2 : Int32) (v2_9_2 : Int32) (v3_20_2_9 : Int32) (v5_58_2_9_20 : Int32) (s0_58_2_9_20 : Int32) (s1_58_2_9_20 : Int32) (M : zM) : Option ((Int32 × Int32) ⊕ (Int32)) :=
  nm (s0_58_2_9_20 ||| s1_58_2_9_20) fun v4_59_2_9_20 =>
  some (.inl (v4_59_2_9_20, (v5_58_2_9_20 + (1 : Int32))))
set_option maxRecDepth 100000 in
theorem j_X11_layValues_58_2_9_20_ok {C : zC} {d : Nat} {g : zG} {l : Launch} {w : zW} {r : zM} {v1_2 : Int32} {v2_9_2 : Int32} {v3_20_2_9 : Int32} {v5_58_2_9_20 : Int32} {s0_58_2_9_20 : Int32} {s1_58_2_9_20 : Int32} (hB : bOK C cX11_layValues 7 RX11 d g l w false) (hd : 2 ≤ d) (M : zM) (hR : RtV C cX11_layValues w r) : Sg C w (0, 0) 58 [(0, zr w 257), (1, .int v1_2), (2, .int v2_9_2), (3, .int v3_20_2_9), (5, .int v5_58_2_9_20)] [.int s1_58_2_9_20, .int s0_58_2_9_20] M (j_X11_layValues_58_2_9_20 v1_2 v2_9_2 v3_20_2_9 v5_58_2_9_20 s0_58_2_9_20 s1_58_2_9_20 M) (fun o => Sum.elim (fun (s : (Int32 × Int32)) => Zs C w (0, 0) 20 [(0, zr w 257), (1, .int v1_2), (2, .int v2_9_2), (3, .int v3_20_2_9), (4, .int s.1), (5, .int s.2)] [] M) (fun (s : (Int32)) => Zs C w (0, 0) 67 [(0, zr w 257), (1, .int v1_2), (2, .int v2_9_2), (3, .int v3_20_2_9), (4, .int s)] [] M) o) := by
  have hC := hB.1.1
  have hq1 : 1 ≤ d := by omega
  unfold j_X11_layValues_58_2_9_20
  refine x_ior hC dX11_layValues_58 ?_
  refine x_top (fun v4_59_2_9_20 => ?_)
  refine x_istore (f := 0) hC dX11_layValues_59 [(4, .int v4_59_2_9_20), (0, zr w 257), (1, .int v1_2), (2, .int v2_9_2), (3, .int v3_20_2_9), (5, .int v5_58_2_9_20)] (by decide) rfl ?_
  refine x_iinc hC dX11_layValues_61 ki_1 [(5, .int (v5_58_2_9_20 + (1 : Int32))), (4, .int v4_59_2_9_20), (0, zr w 257), (1, .int v1_2), (2, .int v2_9_2), (3, .int v3_20_2_9)] 5 rfl (by decide) rfl ?_
  refine x_goto (tgt := 20) hC dX11_layValues_64 (by decide) ?_
  refine x_sub [2, 3, 4, 5, 1, 0] rfl ?_
  exact x_done (fun h => h)
noncomputable def b_X11_layValues_20_2_9 (v1_2 : Int32) (v2_9_2 : Int32) (v3_20_2_9 : Int32) (v4_20_2_9 : Int32) (v5_20_2_9 : Int32) (M : zM) : Option ((Int32 × Int32) ⊕ (Int32)) :=
  if (4 : Int32) ≤ v5_20_2_9 then (some (.inr v4_20_2_9))
  else (nm (f_X11_bend (v2_9_2 - v3_20_2_9) v3_20_2_9 v5_20_2_9) fun v6_35_2_9_20 =>
  if v6_35_2_9_20 = (-1 : Int32) then (j_X11_layValues_58_2_9_20 v1_2 v2_9_2 v3_20_2_9 v5_20_2_9 v4_20_2_9 (0 : Int32) M)
  else (grd (inb v6_35_2_9_20 3721) (
  j_X11_layValues_58_2_9_20 v1_2 v2_9_2 v3_20_2_9 v5_20_2_9 v4_20_2_9 ((1 : Int32) <<< ((M 281 (ix v6_35_2_9_20)) &&& 31)) M)))
set_option maxRecDepth 100000 in
theorem b_X11_layValues_20_2_9_ok {C : zC} {d : Nat} {g : zG} {l : Launch} {w : zW} {r : zM} {v1_2 : Int32} {v2_9_2 : Int32} {v3_20_2_9 : Int32} {v4_20_2_9 : Int32} {v5_20_2_9 : Int32} (hB : bOK C cX11_layValues 7 RX11 d g l w false) (hd : 2 ≤ d) (M : zM) (hR : RtV C cX11_layValues w r) : Sg C w (0, 0) 20 [(0, zr w 257), (1, .int v1_2), (2, .int v2_9_2), (3, .int v3_20_2_9), (4, .int v4_20_2_9), (5, .int v5_20_2_9)] [] M (b_X11_layValues_20_2_9 v1_2 v2_9_2 v3_20_2_9 v4_20_2_9 v5_20_2_9 M) (fun o => Sum.elim (fun (s : (Int32 × Int32)) => Zs C w (0, 0) 20 [(0, zr w 257), (1, .int v1_2), (2, .int v2_9_2), (3, .int v3_20_2_9), (4, .int s.1), (5, .int s.2)] [] M) (fun (s : (Int32)) => Zs C w (0, 0) 67 [(0, zr w 257), (1, .int v1_2), (2, .int v2_9_2), (3, .int v3_20_2_9), (4, .int s)] [] M) o) := by
  have hC := hB.1.1
  have hq1 : 1 ≤ d := by omega
  unfold b_X11_layValues_20_2_9
  refine x_iload hC dX11_layValues_20 5 rfl ?_
  refine x_iconst (v := (4 : Int32)) hC dX11_layValues_22 ki_4 ?_
  refine x_icmp_ge (tgt := 67) hC dX11_layValues_23 (by decide) ?_ ?_
  · refine x_sub [0, 1, 2, 3, 4] rfl ?_
    exact x_done (fun h => h)
  · refine x_iload_n hC dX11_layValues_26 rfl 2 rfl ?_
    refine x_iload_n hC dX11_layValues_27 rfl 3 rfl ?_
    refine x_isub hC dX11_layValues_28 ?_
    refine x_iload_n hC dX11_layValues_29 rfl 3 rfl ?_
    refine x_iload hC dX11_layValues_30 5 rfl ?_
    refine r_cS0 (as := [.int (v2_9_2 - v3_20_2_9), .int v3_20_2_9, .int v5_20_2_9]) (rest := []) hB dX11_layValues_32 ks_X11_405 hq1 rfl rfl (Nat.le_of_ble_eq_true rfl) (f_X11_bend_met hB.2 (by omega)) ?_
    refine x_top (fun v6_35_2_9_20 => ?_)
    refine x_istore (f := 0) hC dX11_layValues_35 [(6, .int v6_35_2_9_20), (0, zr w 257), (1, .int v1_2), (2, .int v2_9_2), (3, .int v3_20_2_9), (4, .int v4_20_2_9), (5, .int v5_20_2_9)] (by decide) rfl ?_
    refine x_iload hC dX11_layValues_37 5 rfl ?_
    refine x_iload hC dX11_layValues_39 0 rfl ?_
    refine x_iconst (v := (-1 : Int32)) hC dX11_layValues_41 ki_m1 ?_
    refine x_icmp_ne (tgt := 49) hC dX11_layValues_42 (by decide) ?_ ?_
    · refine x_iconst (v := (0 : Int32)) hC dX11_layValues_45 ki_0 ?_
      refine x_goto (tgt := 58) hC dX11_layValues_46 (by decide) ?_
      refine x_sub [1, 2, 3, 4, 6] rfl ?_
      exact j_X11_layValues_58_2_9_20_ok hB hd M hR
    · refine x_iconst (v := (1 : Int32)) hC dX11_layValues_49 ki_1 ?_
      refine x_aload_n hC dX11_layValues_50 rfl 1 rfl ?_
      refine r_getR hB dX11_layValues_51 kf_X11_83 rfl th_257 rf_257_39 ?_
      refine x_iload hC dX11_layValues_54 0 rfl ?_
      refine r_iald hB dX11_layValues_56 th_281 ?_
      refine x_ishl hC dX11_layValues_57 ?_
      refine x_sub [1, 2, 3, 4, 6] rfl ?_
      exact j_X11_layValues_58_2_9_20_ok hB hd M hR
noncomputable def b_X11_layValues_70_2_9 (v1_2 : Int32) (v2_9_2 : Int32) (v3_70_2_9 : Int32) (v4_70_2_9 : Int32) (v5_70_2_9 : Int32) (M : zM) : Option ((Int32) ⊕ (Int32)) :=
  if ((v4_70_2_9 >>> (v5_70_2_9 &&& 31)) &&& (1 : Int32)) = (1 : Int32) then (some (.inl (v5_70_2_9 + (1 : Int32))))
  else (some (.inr v5_70_2_9))
set_option maxRecDepth 100000 in
theorem b_X11_layValues_70_2_9_ok {C : zC} {d : Nat} {g : zG} {l : Launch} {w : zW} {r : zM} {v1_2 : Int32} {v2_9_2 : Int32} {v3_70_2_9 : Int32} {v4_70_2_9 : Int32} {v5_70_2_9 : Int32} (hB : bOK C cX11_layValues 7 RX11 d g l w false) (hd : 2 ≤ d) (M : zM) (hR : RtV C cX11_layValues w r) : Sg C w (0, 0) 70 [(0, zr w 257), (1, .int v1_2), (2, .int v2_9_2), (3, .int v3_70_2_9), (4, .int v4_70_2_9), (5, .int v5_70_2_9)] [] M (b_X11_layValues_70_2_9 v1_2 v2_9_2 v3_70_2_9 v4_70_2_9 v5_70_2_9 M) (fun o => Sum.elim (fun (s : (Int32)) => Zs C w (0, 0) 70 [(0, zr w 257), (1, .int v1_2), (2, .int v2_9_2), (3, .int v3_70_2_9), (4, .int v4_70_2_9), (5, .int s)] [] M) (fun (s : (Int32)) => Zs C w (0, 0) 87 [(0, zr w 257), (1, .int v1_2), (2, .int v2_9_2), (3, .int v3_70_2_9), (5, .int s)] [] M) o) := by
  have hC := hB.1.1
  have hq1 : 1 ≤ d := by omega
  unfold b_X11_layValues_70_2_9
  refine x_iload hC dX11_layValues_70 4 rfl ?_
  refine x_iload hC dX11_layValues_72 5 rfl ?_
  refine x_ishr hC dX11_layValues_74 ?_
  refine x_iconst (v := (1 : Int32)) hC dX11_layValues_75 ki_1 ?_
  refine x_iand hC dX11_layValues_76 ?_
  refine x_iconst (v := (1 : Int32)) hC dX11_layValues_77 ki_1 ?_
  refine x_icmp_ne (tgt := 87) hC dX11_layValues_78 (by decide) ?_ ?_
  · refine x_iinc hC dX11_layValues_81 ki_1 [(5, .int (v5_70_2_9 + (1 : Int32))), (0, zr w 257), (1, .int v1_2), (2, .int v2_9_2), (3, .int v3_70_2_9), (4, .int v4_70_2_9)] 5 rfl (by decide) rfl ?_
    refine x_goto (tgt := 70) hC dX11_layValues_84 (by decide) ?_
    refine x_sub [1, 2, 3, 4, 5, 0] rfl ?_
    exact x_done (fun h => h)
  · refine x_sub [0, 1, 2, 3, 5] rfl ?_
    exact x_done (fun h => h)
noncomputable def j_X11_layValues_87_2_9 (v1_2 : Int32) (v2_9_2 : Int32) (v3_87_2_9 : Int32) (v5_87_2_9 : Int32) (M : zM) : Option ((Int32 × zM) ⊕ (zM)) :=
  grd (inb ((((61 : Int32) * v3_87_2_9) + v2_9_2) - v3_87_2_9) 3721) (
  nm (mset M 281 (ix ((((61 : Int32) * v3_87_2_9) + v2_9_2) - v3_87_2_9)) v5_87_2_9) fun M101_2_9 =>
  some (.inl ((v3_87_2_9 + (1 : Int32)), M101_2_9)))
set_option maxRecDepth 100000 in
theorem j_X11_layValues_87_2_9_ok {C : zC} {d : Nat} {g : zG} {l : Launch} {w : zW} {r : zM} {v1_2 : Int32} {v2_9_2 : Int32} {v3_87_2_9 : Int32} {v5_87_2_9 : Int32} (hB : bOK C cX11_layValues 7 RX11 d g l w false) (hd : 2 ≤ d) (M : zM) (hR : RtV C cX11_layValues w r) : Sg C w (0, 0) 87 [(0, zr w 257), (1, .int v1_2), (2, .int v2_9_2), (3, .int v3_87_2_9), (5, .int v5_87_2_9)] [] M (j_X11_layValues_87_2_9 v1_2 v2_9_2 v3_87_2_9 v5_87_2_9 M) (fun o => Sum.elim (fun (s : (Int32 × zM)) => Zs C w (0, 0) 9 [(0, zr w 257), (1, .int v1_2), (2, .int v2_9_2), (3, .int s.1)] [] s.2) (fun (s : (zM)) => Zs C w (0, 0) 108 [(0, zr w 257), (1, .int v1_2), (2, .int v2_9_2)] [] s) o) := by
  have hC := hB.1.1
  have hq1 : 1 ≤ d := by omega
  unfold j_X11_layValues_87_2_9
  refine x_aload_n hC dX11_layValues_87 rfl 0 rfl ?_
  refine r_getR hB dX11_layValues_88 kf_X11_83 rfl th_257 rf_257_39 ?_
  refine x_bipush (v := (61 : Int32)) hC dX11_layValues_91 kb_61 ?_
  refine x_iload_n hC dX11_layValues_93 rfl 3 rfl ?_
  refine x_imul hC dX11_layValues_94 ?_
  refine x_iload_n hC dX11_layValues_95 rfl 2 rfl ?_
  refine x_iadd hC dX11_layValues_96 ?_
  refine x_iload_n hC dX11_layValues_97 rfl 3 rfl ?_
  refine x_isub hC dX11_layValues_98 ?_
  refine x_iload hC dX11_layValues_99 4 rfl ?_
  refine r_iast hB dX11_layValues_101 th_281 ?_
  refine x_mem (fun M101_2_9 => ?_)
  refine x_iinc hC dX11_layValues_102 ki_1 [(3, .int (v3_87_2_9 + (1 : Int32))), (0, zr w 257), (1, .int v1_2), (2, .int v2_9_2), (5, .int v5_87_2_9)] 3 rfl (by decide) rfl ?_
  refine x_goto (tgt := 9) hC dX11_layValues_105 (by decide) ?_
  refine x_sub [1, 2, 3, 0] rfl ?_
  exact x_done (fun h => h)
noncomputable def j_X11_layValues_67_2_9 (v1_2 : Int32) (v2_9_2 : Int32) (v3_67_2_9 : Int32) (v4_67_2_9 : Int32) (M : zM) : Option ((Int32 × zM) ⊕ (zM)) :=
  (loopW (fun s => b_X11_layValues_70_2_9 v1_2 v2_9_2 v3_67_2_9 v4_67_2_9 s M) (0 : Int32)).bind (fun r => j_X11_layValues_87_2_9 v1_2 v2_9_2 v3_67_2_9 r M)
set_option maxRecDepth 100000 in
theorem j_X11_layValues_67_2_9_ok {C : zC} {d : Nat} {g : zG} {l : Launch} {w : zW} {r : zM} {v1_2 : Int32} {v2_9_2 : Int32} {v3_67_2_9 : Int32} {v4_67_2_9 : Int32} (hB : bOK C cX11_layValues 7 RX11 d g l w false) (hd : 2 ≤ d) (M : zM) (hR : RtV C cX11_layValues w r) : Sg C w (0, 0) 67 [(0, zr w 257), (1, .int v1_2), (2, .int v2_9_2), (3, .int v3_67_2_9), (4, .int v4_67_2_9)] [] M (j_X11_layValues_67_2_9 v1_2 v2_9_2 v3_67_2_9 v4_67_2_9 M) (fun o => Sum.elim (fun (s : (Int32 × zM)) => Zs C w (0, 0) 9 [(0, zr w 257), (1, .int v1_2), (2, .int v2_9_2), (3, .int s.1)] [] s.2) (fun (s : (zM)) => Zs C w (0, 0) 108 [(0, zr w 257), (1, .int v1_2), (2, .int v2_9_2)] [] s) o) := by
  have hC := hB.1.1
  have hq1 : 1 ≤ d := by omega
  unfold j_X11_layValues_67_2_9
  refine x_iconst (v := (0 : Int32)) hC dX11_layValues_67 ki_0 ?_
  refine x_istore (f := 0) hC dX11_layValues_68 [(5, .int (0 : Int32)), (0, zr w 257), (1, .int v1_2), (2, .int v2_9_2), (3, .int v3_67_2_9), (4, .int v4_67_2_9)] (by decide) rfl ?_
  refine x_sub [1, 2, 3, 4, 5, 0] rfl ?_
  refine x_loopB (pc2 := 87) (fun (s : (Int32)) => [(0, zr w 257), (1, .int v1_2), (2, .int v2_9_2), (3, .int v3_67_2_9), (4, .int v4_67_2_9), (5, .int s)]) (fun (s : (Int32)) => M) (fun (s : (Int32)) => [(0, zr w 257), (1, .int v1_2), (2, .int v2_9_2), (3, .int v3_67_2_9), (5, .int s)]) (fun (s : (Int32)) => M) (0 : Int32) ?_ ?_
  · exact fun s => b_X11_layValues_70_2_9_ok hB hd M hR
  · intro r9
    exact j_X11_layValues_87_2_9_ok hB hd M hR
noncomputable def b_X11_layValues_9_2 (v1_2 : Int32) (v2_9_2 : Int32) (v3_9_2 : Int32) (M : zM) : Option ((Int32 × zM) ⊕ (zM)) :=
  if v2_9_2 < v3_9_2 then (some (.inr M))
  else ((loopW (fun s => b_X11_layValues_20_2_9 v1_2 v2_9_2 v3_9_2 s.1 s.2 M) ((0 : Int32), (0 : Int32))).bind (fun r => j_X11_layValues_67_2_9 v1_2 v2_9_2 v3_9_2 r M))
set_option maxRecDepth 100000 in
theorem b_X11_layValues_9_2_ok {C : zC} {d : Nat} {g : zG} {l : Launch} {w : zW} {r : zM} {v1_2 : Int32} {v2_9_2 : Int32} {v3_9_2 : Int32} (hB : bOK C cX11_layValues 7 RX11 d g l w false) (hd : 2 ≤ d) (M : zM) (hR : RtV C cX11_layValues w r) : Sg C w (0, 0) 9 [(0, zr w 257), (1, .int v1_2), (2, .int v2_9_2), (3, .int v3_9_2)] [] M (b_X11_layValues_9_2 v1_2 v2_9_2 v3_9_2 M) (fun o => Sum.elim (fun (s : (Int32 × zM)) => Zs C w (0, 0) 9 [(0, zr w 257), (1, .int v1_2), (2, .int v2_9_2), (3, .int s.1)] [] s.2) (fun (s : (zM)) => Zs C w (0, 0) 108 [(0, zr w 257), (1, .int v1_2), (2, .int v2_9_2)] [] s) o) := by
  have hC := hB.1.1
  have hq1 : 1 ≤ d := by omega
  unfold b_X11_layValues_9_2
  refine x_iload_n hC dX11_layValues_9 rfl 3 rfl ?_
  refine x_iload_n hC dX11_layValues_10 rfl 2 rfl ?_
  refine x_icmp_gt (tgt := 108) hC dX11_layValues_11 (by decide) ?_ ?_
  · refine x_sub [0, 1, 2] rfl ?_
    exact x_done (fun h => h)
  · refine x_iconst (v := (0 : Int32)) hC dX11_layValues_14 ki_0 ?_
    refine x_istore (f := 0) hC dX11_layValues_15 [(4, .int (0 : Int32)), (0, zr w 257), (1, .int v1_2), (2, .int v2_9_2), (3, .int v3_9_2)] (by decide) rfl ?_
    refine x_iconst (v := (0 : Int32)) hC dX11_layValues_17 ki_0 ?_
    refine x_istore (f := 0) hC dX11_layValues_18 [(5, .int (0 : Int32)), (4, .int (0 : Int32)), (0, zr w 257), (1, .int v1_2), (2, .int v2_9_2), (3, .int v3_9_2)] (by decide) rfl ?_
    refine x_sub [2, 3, 4, 5, 1, 0] rfl ?_
    refine x_loopB (pc2 := 67) (fun (s : (Int32 × Int32)) => [(0, zr w 257), (1, .int v1_2), (2, .int v2_9_2), (3, .int v3_9_2), (4, .int s.1), (5, .int s.2)]) (fun (s : (Int32 × Int32)) => M) (fun (s : (Int32)) => [(0, zr w 257), (1, .int v1_2), (2, .int v2_9_2), (3, .int v3_9_2), (4, .int s)]) (fun (s : (Int32)) => M) ((0 : Int32), (0 : Int32)) ?_ ?_
    · exact fun s => b_X11_layValues_20_2_9_ok hB hd M hR
    · intro r9
      exact j_X11_layValues_67_2_9_ok hB hd M hR
noncomputable def j_X11_layValues_108_2 (v1_2 : Int32) (v2_108_2 : Int32) (M : zM) : Option ((Int32 × zM) ⊕ (zM)) :=
  some (.inl ((v2_108_2 + (1 : Int32)), M))
set_option maxRecDepth 100000 in
theorem j_X11_layValues_108_2_ok {C : zC} {d : Nat} {g : zG} {l : Launch} {w : zW} {r : zM} {v1_2 : Int32} {v2_108_2 : Int32} (hB : bOK C cX11_layValues 7 RX11 d g l w false) (hd : 2 ≤ d) (M : zM) (hR : RtV C cX11_layValues w r) : Sg C w (0, 0) 108 [(0, zr w 257), (1, .int v1_2), (2, .int v2_108_2)] [] M (j_X11_layValues_108_2 v1_2 v2_108_2 M) (fun o => Sum.elim (fun (s : (Int32 × zM)) => Zs C w (0, 0) 2 [(0, zr w 257), (1, .int v1_2), (2, .int s.1)] [] s.2) (fun (s : (zM)) => Zs C w (0, 0) 114 [] [] s) o) := by
  have hC := hB.1.1
  have hq1 : 1 ≤ d := by omega
  unfold j_X11_layValues_108_2
  refine x_iinc hC dX11_layValues_108 ki_1 [(2, .int (v2_108_2 + (1 : Int32))), (0, zr w 257), (1, .int v1_2)] 2 rfl (by decide) rfl ?_
  refine x_goto (tgt := 2) hC dX11_layValues_111 (by decide) ?_
  refine x_sub [1, 2, 0] rfl ?_
  exact x_done (fun h => h)
noncomputable def b_X11_layValues_2 (v1_2 : Int32) (v2_2 : Int32) (M : zM) : Option ((Int32 × zM) ⊕ (zM)) :=
  if v1_2 < v2_2 then (some (.inr M))
  else ((loopW (fun s => b_X11_layValues_9_2 v1_2 v2_2 s.1 s.2) ((0 : Int32), M)).bind (fun r => j_X11_layValues_108_2 v1_2 v2_2 r))
set_option maxRecDepth 100000 in
theorem b_X11_layValues_2_ok {C : zC} {d : Nat} {g : zG} {l : Launch} {w : zW} {r : zM} {v1_2 : Int32} {v2_2 : Int32} (hB : bOK C cX11_layValues 7 RX11 d g l w false) (hd : 2 ≤ d) (M : zM) (hR : RtV C cX11_layValues w r) : Sg C w (0, 0) 2 [(0, zr w 257), (1, .int v1_2), (2, .int v2_2)] [] M (b_X11_layValues_2 v1_2 v2_2 M) (fun o => Sum.elim (fun (s : (Int32 × zM)) => Zs C w (0, 0) 2 [(0, zr w 257), (1, .int v1_2), (2, .int s.1)] [] s.2) (fun (s : (zM)) => Zs C w (0, 0) 114 [] [] s) o) := by
  have hC := hB.1.1
  have hq1 : 1 ≤ d := by omega
  unfold b_X11_layValues_2
  refine x_iload_n hC dX11_layValues_2 rfl 2 rfl ?_
  refine x_iload_n hC dX11_layValues_3 rfl 1 rfl ?_
  refine x_icmp_gt (tgt := 114) hC dX11_layValues_4 (by decide) ?_ ?_
  · refine x_sub [] rfl ?_
    exact x_done (fun h => h)
  · refine x_iconst (v := (0 : Int32)) hC dX11_layValues_7 ki_0 ?_
    refine x_istore_n hC dX11_layValues_8 rfl [(3, .int (0 : Int32)), (0, zr w 257), (1, .int v1_2), (2, .int v2_2)] (by decide) rfl ?_
    refine x_sub [1, 2, 3, 0] rfl ?_
    refine x_loopB (pc2 := 108) (fun (s : (Int32 × zM)) => [(0, zr w 257), (1, .int v1_2), (2, .int v2_2), (3, .int s.1)]) (fun (s : (Int32 × zM)) => s.2) (fun (s : (zM)) => [(0, zr w 257), (1, .int v1_2), (2, .int v2_2)]) (fun (s : (zM)) => s) ((0 : Int32), M) ?_ ?_
    · exact fun s => b_X11_layValues_9_2_ok hB hd s.2 hR
    · intro r9
      exact j_X11_layValues_108_2_ok hB hd r9 hR
noncomputable def j_X11_layValues_114 (M : zM) : Option (zM) :=
  some M
set_option maxRecDepth 100000 in
theorem j_X11_layValues_114_ok {C : zC} {d : Nat} {g : zG} {l : Launch} {w : zW} {r : zM} (hB : bOK C cX11_layValues 7 RX11 d g l w false) (hd : 2 ≤ d) (M : zM) (hR : RtV C cX11_layValues w r) : Sg C w (0, 0) 114 [] [] M (j_X11_layValues_114 M) (fun q => q = r) := by
  have hC := hB.1.1
  have hq1 : 1 ≤ d := by omega
  unfold j_X11_layValues_114
  exact r_retV hR dX11_layValues_114 (fun h => h)
noncomputable def f_X11_layValues (p1 : Int32) (M : zM) : Option (zM) :=
  (loopW (fun s => b_X11_layValues_2 p1 s.1 s.2) ((0 : Int32), M)).bind (fun r => j_X11_layValues_114 r)
set_option maxRecDepth 100000 in
theorem f_X11_layValues_ok {C : zC} {d : Nat} {g : zG} {l : Launch} {w : zW} {r : zM} {p1 : Int32} (hB : bOK C cX11_layValues 7 RX11 d g l w false) (hd : 2 ≤ d) (M : zM) (hR : RtV C cX11_layValues w r) : Sg C w (0, 0) 0 [(0, zr w 257), (1, .int p1)] [] M (f_X11_layValues p1 M) (fun q => q = r) := by
  have hC := hB.1.1
  have hq1 : 1 ≤ d := by omega
  unfold f_X11_layValues
  refine x_iconst (v := (0 : Int32)) hC dX11_layValues_0 ki_0 ?_
  refine x_istore_n hC dX11_layValues_1 rfl [(2, .int (0 : Int32)), (0, zr w 257), (1, .int p1)] (by decide) rfl ?_
  refine x_sub [1, 2, 0] rfl ?_
  refine x_loopB (pc2 := 114) (fun (s : (Int32 × zM)) => [(0, zr w 257), (1, .int p1), (2, .int s.1)]) (fun (s : (Int32 × zM)) => s.2) (fun (s : (zM)) => []) (fun (s : (zM)) => s) ((0 : Int32), M) ?_ ?_
  · exact fun s => b_X11_layValues_2_ok hB hd s.2 hR
  · intro r9
    exact j_X11_layValues_114_ok hB hd r9 hR
theorem f_X11_layValues_met {l : Launch} {d : Nat} {g : zG} {w : zW} {M0 : zM} {p1 : Int32} {M : zM} (hw : wS w) (hd : 2 ≤ d) {M' : zM} (h : f_X11_layValues p1 M = some M') : zMet l yX11_layValues cX11_layValues 7 none d g w (zin false) M0 [zr w 257, .int p1] M none M' :=
  met_v (by decide +kernel) (Nat.le_of_ble_eq_true rfl) (fun C hB0 hR => f_X11_layValues_ok ⟨hB0, hw⟩ hd M hR _ h rfl)
/-! WindingSquare$Book.copyFrom(LWindingSquare$Book;)V -/
noncomputable def f_X0_copyFrom (a0 : Nat) (a1 : Nat) (M : zM) : Option (zM) :=
  nm (mrow M (a0 + 1) (va_cpy (M (a1 + 1)) (M (a0 + 1)) (ix (0 : Int32)) (ix (0 : Int32)) (ix (600 : Int32)))) fun M13 =>
  some M13
set_option maxRecDepth 100000 in
theorem f_X0_copyFrom_ok {C : zC} {d : Nat} {g : zG} {l : Launch} {w : zW} {r : zM} {a0 : Nat} {a1 : Nat} (hB : bOK C cX0_copyFrom 2 RX0 d g l w true) (h0 : tO true 0 a0) (h1 : tO true 0 a1) (hd : 3 ≤ d) (M : zM) (hR : RtV C cX0_copyFrom w r) : Sg C w (0, 0) 0 [(0, zr w a0), (1, zr w a1)] [] M (f_X0_copyFrom a0 a1 M) (fun q => q = r) := by
  have hC := hB.1.1
  have hq1 : 1 ≤ d := by omega
  unfold f_X0_copyFrom
  refine x_aload_n hC dX0_copyFrom_0 rfl 1 rfl ?_
  refine r_getR hB dX0_copyFrom_1 kf_X0_9 rfl h1 (nv_0_0 h1).1 ?_
  refine x_iconst (v := (0 : Int32)) hC dX0_copyFrom_4 ki_0 ?_
  refine x_aload_n hC dX0_copyFrom_5 rfl 0 rfl ?_
  refine r_getR hB dX0_copyFrom_6 kf_X0_9 rfl h0 (nv_0_0 h0).1 ?_
  refine x_iconst (v := (0 : Int32)) hC dX0_copyFrom_9 ki_0 ?_
  refine x_sipush (v := (600 : Int32)) hC dX0_copyFrom_10 kh_600 ?_
  refine r_acp hB dX0_copyFrom_13 kac_X0_22 (Nat.le_trans (by decide) hd) (nv_0_0 h1).2 (nv_0_0 h0).2 (by decide) (by decide) (by decide) (by decide +kernel) (by decide +kernel) (Nat.le_of_ble_eq_true rfl) ?_
  refine x_mem (fun M13 => ?_)
  exact r_retV hR dX0_copyFrom_16 (fun h => h)
theorem f_X0_copyFrom_met {l : Launch} {d : Nat} {g : zG} {w : zW} {M0 : zM} {a0 : Nat} {a1 : Nat} {M : zM} (hw : wS w) (h0 : tO true 0 a0) (h1 : tO true 0 a1) (hd : 3 ≤ d) {M' : zM} (h : f_X0_copyFrom a0 a1 M = some M') : zMet l yX0_copyFrom cX0_copyFrom 2 none d g w (zin true) M0 [zr w a0, zr w a1] M none M' :=
  met_v (by decide +kernel) (Nat.le_of_ble_eq_true rfl) (fun C hB0 hR => f_X0_copyFrom_ok ⟨hB0, hw⟩ h0 h1 hd M hR _ h rfl)
/-! WindingSquare$Day.goOn(I)I -/
noncomputable def j_X1_goOn_47 (v1_47 : Int32) (v2_47 : Nat) (M : zM) : Option (Int32 × zM) :=
  (f_X0_write 68 1 (5 : Int32) v1_47 (f_X9_at v2_47 M) M).bind fun M61 =>
  some ((0 : Int32), M61)
set_option maxRecDepth 100000 in
theorem j_X1_goOn_47_ok {C : zC} {d : Nat} {g : zG} {l : Launch} {w : zW} {r : Int32 × zM} {v1_47 : Int32} {v2_47 : Nat} (hB : bOK C cX1_goOn 4 RX1 d g l w true) (hd : 3 ≤ d) (h_v2_47 : tO true 9 v2_47) (M : zM) (hR : RtI C cX1_goOn w r.1 r.2) : Sg C w (0, 0) 47 [(0, zr w 83), (1, .int v1_47), (2, zr w v2_47)] [] M (j_X1_goOn_47 v1_47 v2_47 M) (fun q => q = r) := by
  have hC := hB.1.1
  have hq1 : 1 ≤ d := by omega
  unfold j_X1_goOn_47
  refine x_aload_n hC dX1_goOn_47 rfl 0 rfl ?_
  refine r_getR hB dX1_goOn_48 kf_X1_33 rfl th_83 rf_83_4 ?_
  refine x_aload_n hC dX1_goOn_51 rfl 0 rfl ?_
  refine r_getR hB dX1_goOn_52 kf_X1_25 rfl th_83 rf_83_2 ?_
  refine x_iconst (v := (5 : Int32)) hC dX1_goOn_55 ki_5 ?_
  refine x_iload_n hC dX1_goOn_56 rfl 1 rfl ?_
  refine x_aload_n hC dX1_goOn_57 rfl 2 rfl ?_
  refine r_cV0 (as := []) (rest := [.int v1_47, .int (5 : Int32), zr w 1, zr w 68]) hB dX1_goOn_58 kv_X1_67 h_v2_47 hq1 rfl rfl (Nat.le_of_ble_eq_true rfl) (f_X9_at_met hB.2 h_v2_47 (by omega)) ?_
  refine r_cVv (as := [zr w 1, .int (5 : Int32), .int v1_47, .int (f_X9_at v2_47 M)]) (rest := []) hB dX1_goOn_61 kv_X1_76 th_68 hq1 rfl rfl (Nat.le_of_ble_eq_true rfl) (fun M' hv => f_X0_write_met hB.2 th_68 th_1 (by omega) hv) (fun M61 => ?_)
  refine x_iconst (v := (0 : Int32)) hC dX1_goOn_64 ki_0 ?_
  exact r_retI hR dX1_goOn_65 (fun h => h)
noncomputable def f_X1_goOn (p1 : Int32) (M : zM) : Option (Int32 × zM) :=
  grd (inb p1 16) (
  (f_X9_ahead (1 + 3 + ix p1) M).bind fun u11 =>
  if u11 = (-1 : Int32) then (some ((2 : Int32), M))
  else (grd (inb u11 144) (
  if (M 3 (ix u11)) = (1 : Int32) then (j_X1_goOn_47 p1 (1 + 3 + ix p1) M)
  else ((f_X7_whoAt 1 u11 M).bind fun u40 =>
  if u40 = (-1 : Int32) then ((f_X9_stand (1 + 3 + ix p1) u11 M).bind fun M68 =>
  some ((1 : Int32), M68))
  else (j_X1_goOn_47 p1 (1 + 3 + ix p1) M)))))
set_option maxRecDepth 100000 in
theorem f_X1_goOn_ok {C : zC} {d : Nat} {g : zG} {l : Launch} {w : zW} {r : Int32 × zM} {p1 : Int32} (hB : bOK C cX1_goOn 4 RX1 d g l w true) (hd : 3 ≤ d) (M : zM) (hR : RtI C cX1_goOn w r.1 r.2) : Sg C w (0, 0) 0 [(0, zr w 83), (1, .int p1)] [] M (f_X1_goOn p1 M) (fun q => q = r) := by
  have hC := hB.1.1
  have hq1 : 1 ≤ d := by omega
  unfold f_X1_goOn
  refine x_aload_n hC dX1_goOn_0 rfl 0 rfl ?_
  refine r_getR hB dX1_goOn_1 kf_X1_25 rfl th_83 rf_83_2 ?_
  refine r_getR hB dX1_goOn_4 kf_X1_43 rfl th_1 rf_1_0 ?_
  refine x_iload_n hC dX1_goOn_7 rfl 1 rfl ?_
  refine r_aaW (a := 1) hB dX1_goOn_8 th_1 (fun hg8 => ?_)
  refine x_astore_n hC dX1_goOn_9 rfl [(2, zr w (1 + 3 + ix p1)), (0, zr w 83), (1, .int p1)] (by decide) rfl ?_
  refine x_aload_n hC dX1_goOn_10 rfl 0 rfl ?_
  refine r_cV1 (as := []) (rest := []) hB dX1_goOn_11 kv_X1_151 (nv_wk th_1 hg8).2 hq1 rfl rfl (Nat.le_of_ble_eq_true rfl) (fun v hv => f_X9_ahead_met hB.2 (nv_wk th_1 hg8).2 (by omega) hv) (fun u11 => ?_)
  refine x_istore_n hC dX1_goOn_14 rfl [(3, .int u11), (2, zr w (1 + 3 + ix p1)), (0, zr w 83), (1, .int p1)] (by decide) rfl ?_
  refine x_iload_n hC dX1_goOn_15 rfl 0 rfl ?_
  refine x_iconst (v := (-1 : Int32)) hC dX1_goOn_16 ki_m1 ?_
  refine x_icmp_ne (tgt := 22) hC dX1_goOn_17 (by decide) ?_ ?_
  · refine x_iconst (v := (2 : Int32)) hC dX1_goOn_20 ki_2 ?_
    exact r_retI hR dX1_goOn_21 (fun h => h)
  · refine x_aload_n hC dX1_goOn_22 rfl 2 rfl ?_
    refine r_getR hB dX1_goOn_23 kf_X1_25 rfl th_83 rf_83_2 ?_
    refine r_getR hB dX1_goOn_26 kf_X1_64 rfl th_1 rf_1_1 ?_
    refine x_iload_n hC dX1_goOn_29 rfl 0 rfl ?_
    refine r_iald hB dX1_goOn_30 th_3 ?_
    refine x_iconst (v := (1 : Int32)) hC dX1_goOn_31 ki_1 ?_
    refine x_icmp_eq (tgt := 47) hC dX1_goOn_32 (by decide) ?_ ?_
    · refine x_sub [2, 3, 1] rfl ?_
      exact j_X1_goOn_47_ok hB hd (nv_wk th_1 hg8).2 M hR
    · refine x_aload_n hC dX1_goOn_35 rfl 2 rfl ?_
      refine r_getR hB dX1_goOn_36 kf_X1_25 rfl th_83 rf_83_2 ?_
      refine x_iload_n hC dX1_goOn_39 rfl 0 rfl ?_
      refine r_cV1 (as := [.int u11]) (rest := []) hB dX1_goOn_40 kv_X1_154 th_1 hq1 rfl rfl (Nat.le_of_ble_eq_true rfl) (fun v hv => f_X7_whoAt_met hB.2 th_1 (by omega) hv) (fun u40 => ?_)
      refine x_iconst (v := (-1 : Int32)) hC dX1_goOn_43 ki_m1 ?_
      refine x_icmp_eq (tgt := 66) hC dX1_goOn_44 (by decide) ?_ ?_
      · refine x_aload_n hC dX1_goOn_66 rfl 1 rfl ?_
        refine x_iload_n hC dX1_goOn_67 rfl 0 rfl ?_
        refine r_cVv (as := [.int u11]) (rest := []) hB dX1_goOn_68 kv_X1_157 (nv_wk th_1 hg8).2 hq1 rfl rfl (Nat.le_of_ble_eq_true rfl) (fun M' hv => f_X9_stand_met hB.2 (nv_wk th_1 hg8).2 (by omega) hv) (fun M68 => ?_)
        refine x_iconst (v := (1 : Int32)) hC dX1_goOn_71 ki_1 ?_
        exact r_retI hR dX1_goOn_72 (fun h => h)
      · refine x_sub [2, 3, 1] rfl ?_
        exact j_X1_goOn_47_ok hB hd (nv_wk th_1 hg8).2 M hR
theorem f_X1_goOn_met {l : Launch} {d : Nat} {g : zG} {w : zW} {M0 : zM} {p1 : Int32} {M : zM} (hw : wS w) (hd : 3 ≤ d) {v : Int32} {M' : zM} (h : f_X1_goOn p1 M = some (v, M')) : zMet l yX1_goOn cX1_goOn 4 (some .int) d g w (zin true) M0 [zr w 83, .int p1] M (some (.int v)) M' :=
  met_i (by decide +kernel) (Nat.le_of_ble_eq_true rfl) rfl (fun C hB0 hR => f_X1_goOn_ok (r := (v, M')) ⟨hB0, hw⟩ hd M hR _ h rfl)
/-! WindingSquare$Day.actAlone(ILWindingSquare$Walker;)V -/
noncomputable def f_X1_actAlone (p1 : Int32) (a2 : Nat) (M : zM) : Option (zM) :=
  bnd2 (f_X8_nextWord 40 p1 a2 M) fun u6 M6 =>
  if u6 = (154 : Int32) then (some M6)
  else (if u6 = (150 : Int32) then ((f_X9_ahead a2 M6).bind fun u36 =>
  if u36 = (-1 : Int32) then (nm (mset M6 a2 1 (0 : Int32)) fun M49 =>
  some M49)
  else (grd (inb u36 144) (
  if (M6 3 (ix u36)) = (1 : Int32) then (some M6)
  else ((f_X9_stand a2 u36 M6).bind fun M72 =>
  some M72))))
  else ((f_X9_face a2 (u6 - (151 : Int32)) M6).bind fun M31 =>
  some M31))
set_option maxRecDepth 100000 in
theorem f_X1_actAlone_ok {C : zC} {d : Nat} {g : zG} {l : Launch} {w : zW} {r : zM} {p1 : Int32} {a2 : Nat} (hB : bOK C cX1_actAlone 5 RX1 d g l w true) (h2 : tO true 9 a2) (hd : 3 ≤ d) (M : zM) (hR : RtV C cX1_actAlone w r) : Sg C w (0, 0) 0 [(0, zr w 83), (1, .int p1), (2, zr w a2)] [] M (f_X1_actAlone p1 a2 M) (fun q => q = r) := by
  have hC := hB.1.1
  have hq1 : 1 ≤ d := by omega
  unfold f_X1_actAlone
  refine x_aload_n hC dX1_actAlone_0 rfl 0 rfl ?_
  refine r_getR hB dX1_actAlone_1 kf_X1_29 rfl th_83 rf_83_3 ?_
  refine x_iload_n hC dX1_actAlone_4 rfl 1 rfl ?_
  refine x_aload_n hC dX1_actAlone_5 rfl 2 rfl ?_
  refine r_cV2 (as := [.int p1, zr w a2]) (rest := []) hB dX1_actAlone_6 kv_X1_125 th_40 hq1 rfl rfl (Nat.le_of_ble_eq_true rfl) (fun v M' hv => f_X8_nextWord_met hB.2 th_40 h2 (by omega) hv) (fun u6 M6 => ?_)
  refine x_istore_n hC dX1_actAlone_9 rfl [(3, .int u6), (0, zr w 83), (1, .int p1), (2, zr w a2)] (by decide) rfl ?_
  refine x_iload_n hC dX1_actAlone_10 rfl 0 rfl ?_
  refine x_sipush (v := (154 : Int32)) hC dX1_actAlone_11 kh_154 ?_
  refine x_icmp_ne (tgt := 18) hC dX1_actAlone_14 (by decide) ?_ ?_
  · exact r_retV hR dX1_actAlone_17 (fun h => h)
  · refine x_iload_n hC dX1_actAlone_18 rfl 0 rfl ?_
    refine x_sipush (v := (150 : Int32)) hC dX1_actAlone_19 kh_150 ?_
    refine x_icmp_eq (tgt := 35) hC dX1_actAlone_22 (by decide) ?_ ?_
    · refine x_aload_n hC dX1_actAlone_35 rfl 3 rfl ?_
      refine r_cV1 (as := []) (rest := []) hB dX1_actAlone_36 kv_X1_151 h2 hq1 rfl rfl (Nat.le_of_ble_eq_true rfl) (fun v hv => f_X9_ahead_met hB.2 h2 (by omega) hv) (fun u36 => ?_)
      refine x_istore (f := 0) hC dX1_actAlone_39 [(4, .int u36), (3, .int u6), (0, zr w 83), (1, .int p1), (2, zr w a2)] (by decide) rfl ?_
      refine x_iload hC dX1_actAlone_41 0 rfl ?_
      refine x_iconst (v := (-1 : Int32)) hC dX1_actAlone_43 ki_m1 ?_
      refine x_icmp_ne (tgt := 55) hC dX1_actAlone_44 (by decide) ?_ ?_
      · refine x_aload_n hC dX1_actAlone_47 rfl 4 rfl ?_
        refine x_iconst (v := (0 : Int32)) hC dX1_actAlone_48 ki_0 ?_
        refine r_putZ hB dX1_actAlone_49 kf_X1_47 rfl h2 (Or.inl rfl) ?_
        refine x_mem (fun M49 => ?_)
        refine x_goto (tgt := 75) hC dX1_actAlone_52 (by decide) ?_
        exact r_retV hR dX1_actAlone_75 (fun h => h)
      · refine x_aload_n hC dX1_actAlone_55 rfl 2 rfl ?_
        refine r_getR hB dX1_actAlone_56 kf_X1_25 rfl th_83 rf_83_2 ?_
        refine r_getR hB dX1_actAlone_59 kf_X1_64 rfl th_1 rf_1_1 ?_
        refine x_iload hC dX1_actAlone_62 0 rfl ?_
        refine r_iald hB dX1_actAlone_64 th_3 ?_
        refine x_iconst (v := (1 : Int32)) hC dX1_actAlone_65 ki_1 ?_
        refine x_icmp_eq (tgt := 75) hC dX1_actAlone_66 (by decide) ?_ ?_
        · exact r_retV hR dX1_actAlone_75 (fun h => h)
        · refine x_aload_n hC dX1_actAlone_69 rfl 4 rfl ?_
          refine x_iload hC dX1_actAlone_70 0 rfl ?_
          refine r_cVv (as := [.int u36]) (rest := []) hB dX1_actAlone_72 kv_X1_157 h2 hq1 rfl rfl (Nat.le_of_ble_eq_true rfl) (fun M' hv => f_X9_stand_met hB.2 h2 (by omega) hv) (fun M72 => ?_)
          exact r_retV hR dX1_actAlone_75 (fun h => h)
    · refine x_aload_n hC dX1_actAlone_25 rfl 3 rfl ?_
      refine x_iload_n hC dX1_actAlone_26 rfl 0 rfl ?_
      refine x_sipush (v := (151 : Int32)) hC dX1_actAlone_27 kh_151 ?_
      refine x_isub hC dX1_actAlone_30 ?_
      refine r_cVv (as := [.int (u6 - (151 : Int32))]) (rest := []) hB dX1_actAlone_31 kv_X1_58 h2 hq1 rfl rfl (Nat.le_of_ble_eq_true rfl) (fun M' hv => f_X9_face_met hB.2 h2 (by omega) hv) (fun M31 => ?_)
      exact r_retV hR dX1_actAlone_34 (fun h => h)
theorem f_X1_actAlone_met {l : Launch} {d : Nat} {g : zG} {w : zW} {M0 : zM} {p1 : Int32} {a2 : Nat} {M : zM} (hw : wS w) (h2 : tO true 9 a2) (hd : 3 ≤ d) {M' : zM} (h : f_X1_actAlone p1 a2 M = some M') : zMet l yX1_actAlone cX1_actAlone 5 none d g w (zin true) M0 [zr w 83, .int p1, zr w a2] M none M' :=
  met_v (by decide +kernel) (Nat.le_of_ble_eq_true rfl) (fun C hB0 hR => f_X1_actAlone_ok ⟨hB0, hw⟩ h2 hd M hR _ h rfl)
/-! WindingSquare$Grid.sees(II)Z -/
noncomputable def b_X2_sees_38 (v1_38 : Int32) (v3_38 : Int32) (v4_38 : Int32) (v5_38 : Int32) (v6_38 : Int32) (M : zM) : Option ((Int32) ⊕ (Unit ⊕ (Int32))) :=
  if v5_38 ≤ v6_38 then (some (.inr (.inl ())))
  else ((f_X2_nearest (v3_38 * v6_38) v5_38).bind fun u55_38 =>
  nm ((irem v1_38 (12 : Int32)) + u55_38) fun v7_59_38 =>
  (f_X2_nearest (v4_38 * v6_38) v5_38).bind fun u72_38 =>
  nm ((v1_38 / (12 : Int32)) + u72_38) fun v8_76_38 =>
  grd (inb (((12 : Int32) * v8_76_38) + v7_59_38) 144) (
  if (M 3 (ix (((12 : Int32) * v8_76_38) + v7_59_38))) = (1 : Int32) then (some (.inr (.inr (0 : Int32))))
  else (some (.inl (v6_38 + (1 : Int32))))))
set_option maxRecDepth 100000 in
theorem b_X2_sees_38_ok {C : zC} {d : Nat} {g : zG} {l : Launch} {w : zW} {r : Int32} {v1_38 : Int32} {v3_38 : Int32} {v4_38 : Int32} {v5_38 : Int32} {v6_38 : Int32} (hB : bOK C cX2_sees 9 RX2 d g l w true) (hd : 3 ≤ d) (M : zM) (hR : RtZ C cX2_sees w r M) : Sg C w (0, 0) 38 [(0, zr w 87), (1, .int v1_38), (3, .int v3_38), (4, .int v4_38), (5, .int v5_38), (6, .int v6_38)] [] M (b_X2_sees_38 v1_38 v3_38 v4_38 v5_38 v6_38 M) (fun o => Sum.elim (fun (s : (Int32)) => Zs C w (0, 0) 38 [(0, zr w 87), (1, .int v1_38), (3, .int v3_38), (4, .int v4_38), (5, .int v5_38), (6, .int s)] [] M) (fun q => Sum.elim (fun (s : Unit) => Zs C w (0, 0) 103 [] [] M) (fun q => q = r) q) o) := by
  have hC := hB.1.1
  have hq1 : 1 ≤ d := by omega
  unfold b_X2_sees_38
  refine x_iload hC dX2_sees_38 5 rfl ?_
  refine x_iload hC dX2_sees_40 4 rfl ?_
  refine x_icmp_ge (tgt := 103) hC dX2_sees_42 (by decide) ?_ ?_
  · refine x_sub [] rfl ?_
    exact x_done (fun h => h)
  · refine x_iload_n hC dX2_sees_45 rfl 1 rfl ?_
    refine x_bipush (v := (12 : Int32)) hC dX2_sees_46 kb_12 ?_
    refine x_irem0 hC dX2_sees_48 nz_12 ?_
    refine x_iload_n hC dX2_sees_49 rfl 2 rfl ?_
    refine x_iload hC dX2_sees_50 5 rfl ?_
    refine x_imul hC dX2_sees_52 ?_
    refine x_iload hC dX2_sees_53 4 rfl ?_
    refine r_cS1 (as := [.int (v3_38 * v6_38), .int v5_38]) (rest := [.int (irem v1_38 (12 : Int32))]) hB dX2_sees_55 ks_X2_79 hq1 rfl rfl (Nat.le_of_ble_eq_true rfl) (fun v hv => f_X2_nearest_met hB.2 (by omega) hv) (fun u55_38 => ?_)
    refine x_iadd hC dX2_sees_58 ?_
    refine x_top (fun v7_59_38 => ?_)
    refine x_istore (f := 0) hC dX2_sees_59 [(7, .int v7_59_38), (0, zr w 87), (1, .int v1_38), (3, .int v3_38), (4, .int v4_38), (5, .int v5_38), (6, .int v6_38)] (by decide) rfl ?_
    refine x_iload_n hC dX2_sees_61 rfl 2 rfl ?_
    refine x_bipush (v := (12 : Int32)) hC dX2_sees_62 kb_12 ?_
    refine x_idiv0 hC dX2_sees_64 nz_12 ?_
    refine x_iload hC dX2_sees_65 4 rfl ?_
    refine x_iload hC dX2_sees_67 6 rfl ?_
    refine x_imul hC dX2_sees_69 ?_
    refine x_iload hC dX2_sees_70 5 rfl ?_
    refine r_cS1 (as := [.int (v4_38 * v6_38), .int v5_38]) (rest := [.int (v1_38 / (12 : Int32))]) hB dX2_sees_72 ks_X2_79 hq1 rfl rfl (Nat.le_of_ble_eq_true rfl) (fun v hv => f_X2_nearest_met hB.2 (by omega) hv) (fun u72_38 => ?_)
    refine x_iadd hC dX2_sees_75 ?_
    refine x_top (fun v8_76_38 => ?_)
    refine x_istore (f := 0) hC dX2_sees_76 [(8, .int v8_76_38), (7, .int v7_59_38), (0, zr w 87), (1, .int v1_38), (3, .int v3_38), (4, .int v4_38), (5, .int v5_38), (6, .int v6_38)] (by decide) rfl ?_
    refine x_aload_n hC dX2_sees_78 rfl 2 rfl ?_
    refine r_getR hB dX2_sees_79 kf_X2_33 rfl th_87 rf_87_0 ?_
    refine x_bipush (v := (12 : Int32)) hC dX2_sees_82 kb_12 ?_
    refine x_iload hC dX2_sees_84 0 rfl ?_
    refine x_imul hC dX2_sees_86 ?_
    refine x_iload hC dX2_sees_87 1 rfl ?_
    refine x_iadd hC dX2_sees_89 ?_
    refine r_iald hB dX2_sees_90 th_3 ?_
    refine x_iconst (v := (1 : Int32)) hC dX2_sees_91 ki_1 ?_
    refine x_icmp_ne (tgt := 97) hC dX2_sees_92 (by decide) ?_ ?_
    · refine x_iconst (v := (0 : Int32)) hC dX2_sees_95 ki_0 ?_
      exact r_retZ hR dX2_sees_96 (Or.inl rfl) (fun h => congrArg (fun q => (q, M)) h)
    · refine x_iinc hC dX2_sees_97 ki_1 [(6, .int (v6_38 + (1 : Int32))), (8, .int v8_76_38), (7, .int v7_59_38), (0, zr w 87), (1, .int v1_38), (3, .int v3_38), (4, .int v4_38), (5, .int v5_38)] 7 rfl (by decide) rfl ?_
      refine x_goto (tgt := 38) hC dX2_sees_100 (by decide) ?_
      refine x_sub [3, 4, 5, 6, 7, 0] rfl ?_
      exact x_done (fun h => h)
noncomputable def j_X2_sees_103 (M : zM) : Option (Int32) :=
  some (1 : Int32)
set_option maxRecDepth 100000 in
theorem j_X2_sees_103_ok {C : zC} {d : Nat} {g : zG} {l : Launch} {w : zW} {r : Int32} (hB : bOK C cX2_sees 9 RX2 d g l w true) (hd : 3 ≤ d) (M : zM) (hR : RtZ C cX2_sees w r M) : Sg C w (0, 0) 103 [] [] M (j_X2_sees_103 M) (fun q => q = r) := by
  have hC := hB.1.1
  have hq1 : 1 ≤ d := by omega
  unfold j_X2_sees_103
  refine x_iconst (v := (1 : Int32)) hC dX2_sees_103 ki_1 ?_
  exact r_retZ hR dX2_sees_104 (Or.inr rfl) (fun h => congrArg (fun q => (q, M)) h)
noncomputable def f_X2_sees (p1 : Int32) (p2 : Int32) (M : zM) : Option (Int32) :=
  nm ((irem p2 (12 : Int32)) - (irem p1 (12 : Int32))) fun v3_9 =>
  nm ((p2 / (12 : Int32)) - (p1 / (12 : Int32))) fun v4_19 =>
  nm (f_J9_max_7cf53 (f_J9_abs_0f7a4 v3_9) (f_J9_abs_0f7a4 v4_19)) fun v5_33 =>
  (loopW (fun s => b_X2_sees_38 p1 v3_9 v4_19 v5_33 s M) (1 : Int32)).bind (fun q => Sum.elim (fun r => j_X2_sees_103 M) some q)
set_option maxRecDepth 100000 in
theorem f_X2_sees_ok {C : zC} {d : Nat} {g : zG} {l : Launch} {w : zW} {r : Int32} {p1 : Int32} {p2 : Int32} (hB : bOK C cX2_sees 9 RX2 d g l w true) (hd : 3 ≤ d) (M : zM) (hR : RtZ C cX2_sees w r M) : Sg C w (0, 0) 0 [(0, zr w 87), (1, .int p1), (2, .int p2)] [] M (f_X2_sees p1 p2 M) (fun q => q = r) := by
  have hC := hB.1.1
  have hq1 : 1 ≤ d := by omega
  unfold f_X2_sees
  refine x_iload_n hC dX2_sees_0 rfl 2 rfl ?_
  refine x_bipush (v := (12 : Int32)) hC dX2_sees_1 kb_12 ?_
  refine x_irem0 hC dX2_sees_3 nz_12 ?_
  refine x_iload_n hC dX2_sees_4 rfl 1 rfl ?_
  refine x_bipush (v := (12 : Int32)) hC dX2_sees_5 kb_12 ?_
  refine x_irem0 hC dX2_sees_7 nz_12 ?_
  refine x_isub hC dX2_sees_8 ?_
  refine x_top (fun v3_9 => ?_)
  refine x_istore_n hC dX2_sees_9 rfl [(3, .int v3_9), (0, zr w 87), (1, .int p1), (2, .int p2)] (by decide) rfl ?_
  refine x_iload_n hC dX2_sees_10 rfl 3 rfl ?_
  refine x_bipush (v := (12 : Int32)) hC dX2_sees_11 kb_12 ?_
  refine x_idiv0 hC dX2_sees_13 nz_12 ?_
  refine x_iload_n hC dX2_sees_14 rfl 2 rfl ?_
  refine x_bipush (v := (12 : Int32)) hC dX2_sees_15 kb_12 ?_
  refine x_idiv0 hC dX2_sees_17 nz_12 ?_
  refine x_isub hC dX2_sees_18 ?_
  refine x_top (fun v4_19 => ?_)
  refine x_istore (f := 0) hC dX2_sees_19 [(4, .int v4_19), (3, .int v3_9), (0, zr w 87), (1, .int p1), (2, .int p2)] (by decide) rfl ?_
  refine x_iload_n hC dX2_sees_21 rfl 1 rfl ?_
  refine r_cS0 (as := [.int v3_9]) (rest := []) hB dX2_sees_22 ks_X2_72 hq1 rfl rfl (Nat.le_of_ble_eq_true rfl) (f_J9_abs_0f7a4_met hB.2 (by omega)) ?_
  refine x_iload hC dX2_sees_25 0 rfl ?_
  refine r_cS0 (as := [.int v4_19]) (rest := [.int (f_J9_abs_0f7a4 v3_9)]) hB dX2_sees_27 ks_X2_72 hq1 rfl rfl (Nat.le_of_ble_eq_true rfl) (f_J9_abs_0f7a4_met hB.2 (by omega)) ?_
  refine r_cS0 (as := [.int (f_J9_abs_0f7a4 v3_9), .int (f_J9_abs_0f7a4 v4_19)]) (rest := []) hB dX2_sees_30 ks_X2_76 hq1 rfl rfl (Nat.le_of_ble_eq_true rfl) (f_J9_max_7cf53_met hB.2 (by omega)) ?_
  refine x_top (fun v5_33 => ?_)
  refine x_istore (f := 0) hC dX2_sees_33 [(5, .int v5_33), (4, .int v4_19), (3, .int v3_9), (0, zr w 87), (1, .int p1), (2, .int p2)] (by decide) rfl ?_
  refine x_iconst (v := (1 : Int32)) hC dX2_sees_35 ki_1 ?_
  refine x_istore (f := 0) hC dX2_sees_36 [(6, .int (1 : Int32)), (5, .int v5_33), (4, .int v4_19), (3, .int v3_9), (0, zr w 87), (1, .int p1), (2, .int p2)] (by decide) rfl ?_
  refine x_sub [4, 5, 3, 2, 1, 0] rfl ?_
  refine x_loopR (pc2 := 103) (fun (s : (Int32)) => [(0, zr w 87), (1, .int p1), (3, .int v3_9), (4, .int v4_19), (5, .int v5_33), (6, .int s)]) (fun (s : (Int32)) => M) (fun (s : Unit) => []) (fun (s : Unit) => M) (1 : Int32) ?_ ?_
  · exact fun s => b_X2_sees_38_ok hB hd M hR
  · intro r9
    exact j_X2_sees_103_ok hB hd M hR
theorem f_X2_sees_met {l : Launch} {d : Nat} {g : zG} {w : zW} {M0 : zM} {p1 : Int32} {p2 : Int32} {M : zM} (hw : wS w) (hd : 3 ≤ d) {v : Int32} (h : f_X2_sees p1 p2 M = some v) : zMet l yX2_sees cX2_sees 9 (some .boolean) d g w (zin true) M0 [zr w 87, .int p1, .int p2] M (some (.int v)) M :=
  met_z (by decide +kernel) (Nat.le_of_ble_eq_true rfl) (fun C hB0 hR => f_X2_sees_ok ⟨hB0, hw⟩ hd M hR _ h rfl)
/-! WindingSquare$Grid.fewestToPart()I -/
noncomputable def j_X2_fewestToPart_79_13_28 (v1_79_13_28 : Int32) (v2_28_13 : Int32) (v3_79_13_28 : Int32) (M : zM) : Option ((Int32 × Int32 × zM) ⊕ (Int32 × zM)) :=
  some (.inl (v1_79_13_28, (v3_79_13_28 + (1 : Int32)), M))
set_option maxRecDepth 100000 in
theorem j_X2_fewestToPart_79_13_28_ok {C : zC} {d : Nat} {g : zG} {l : Launch} {w : zW} {r : Int32 × zM} {v2_28_13 : Int32} {v1_79_13_28 : Int32} {v3_79_13_28 : Int32} (hB : bOK C cX2_fewestToPart 5 RX2 d g l w true) (hd : 3 ≤ d) (M : zM) (hR : RtI C cX2_fewestToPart w r.1 r.2) : Sg C w (0, 0) 79 [(0, zr w 87), (1, .int v1_79_13_28), (2, .int v2_28_13), (3, .int v3_79_13_28)] [] M (j_X2_fewestToPart_79_13_28 v1_79_13_28 v2_28_13 v3_79_13_28 M) (fun o => Sum.elim (fun (s : (Int32 × Int32 × zM)) => Zs C w (0, 0) 28 [(0, zr w 87), (1, .int s.1), (2, .int v2_28_13), (3, .int s.2.1)] [] s.2.2) (fun (s : (Int32 × zM)) => Zs C w (0, 0) 85 [(0, zr w 87), (1, .int s.1), (2, .int v2_28_13)] [] s.2) o) := by
  have hC := hB.1.1
  have hq1 : 1 ≤ d := by omega
  unfold j_X2_fewestToPart_79_13_28
  refine x_iinc hC dX2_fewestToPart_79 ki_1 [(3, .int (v3_79_13_28 + (1 : Int32))), (0, zr w 87), (1, .int v1_79_13_28), (2, .int v2_28_13)] 3 rfl (by decide) rfl ?_
  refine x_goto (tgt := 28) hC dX2_fewestToPart_82 (by decide) ?_
  refine x_sub [1, 2, 3, 0] rfl ?_
  exact x_done (fun h => h)
noncomputable def j_X2_fewestToPart_55_13_28 (v1_55_13_28 : Int32) (v2_28_13 : Int32) (v3_55_13_28 : Int32) (s0_55_13_28 : Int32) (s1_55_13_28 : Int32) (M : zM) : Option ((Int32 × Int32 × zM) ⊕ (Int32 × zM)) :=
  nm (s0_55_13_28 + s1_55_13_28) fun v4_56_13_28 =>
  grd (inb v3_55_13_28 576) (
  if (M 88 (ix v3_55_13_28)) ≤ v4_56_13_28 then (j_X2_fewestToPart_79_13_28 v1_55_13_28 v2_28_13 v3_55_13_28 M)
  else (grd (inb v3_55_13_28 576) (
  nm (mset M 88 (ix v3_55_13_28) v4_56_13_28) fun M76_13_28 =>
  j_X2_fewestToPart_79_13_28 (1 : Int32) v2_28_13 v3_55_13_28 M76_13_28)))
set_option maxRecDepth 100000 in
theorem j_X2_fewestToPart_55_13_28_ok {C : zC} {d : Nat} {g : zG} {l : Launch} {w : zW} {r : Int32 × zM} {v2_28_13 : Int32} {v1_55_13_28 : Int32} {v3_55_13_28 : Int32} {s0_55_13_28 : Int32} {s1_55_13_28 : Int32} (hB : bOK C cX2_fewestToPart 5 RX2 d g l w true) (hd : 3 ≤ d) (M : zM) (hR : RtI C cX2_fewestToPart w r.1 r.2) : Sg C w (0, 0) 55 [(0, zr w 87), (1, .int v1_55_13_28), (2, .int v2_28_13), (3, .int v3_55_13_28)] [.int s1_55_13_28, .int s0_55_13_28] M (j_X2_fewestToPart_55_13_28 v1_55_13_28 v2_28_13 v3_55_13_28 s0_55_13_28 s1_55_13_28 M) (fun o => Sum.elim (fun (s : (Int32 × Int32 × zM)) => Zs C w (0, 0) 28 [(0, zr w 87), (1, .int s.1), (2, .int v2_28_13), (3, .int s.2.1)] [] s.2.2) (fun (s : (Int32 × zM)) => Zs C w (0, 0) 85 [(0, zr w 87), (1, .int s.1), (2, .int v2_28_13)] [] s.2) o) := by
  have hC := hB.1.1
  have hq1 : 1 ≤ d := by omega
  unfold j_X2_fewestToPart_55_13_28
  refine x_iadd hC dX2_fewestToPart_55 ?_
  refine x_top (fun v4_56_13_28 => ?_)
  refine x_istore (f := 0) hC dX2_fewestToPart_56 [(4, .int v4_56_13_28), (0, zr w 87), (1, .int v1_55_13_28), (2, .int v2_28_13), (3, .int v3_55_13_28)] (by decide) rfl ?_
  refine x_iload hC dX2_fewestToPart_58 0 rfl ?_
  refine x_aload_n hC dX2_fewestToPart_60 rfl 1 rfl ?_
  refine r_getR hB dX2_fewestToPart_61 kf_X2_11 rfl th_87 rf_87_1 ?_
  refine x_iload_n hC dX2_fewestToPart_64 rfl 4 rfl ?_
  refine r_iald hB dX2_fewestToPart_65 th_88 ?_
  refine x_icmp_ge (tgt := 79) hC dX2_fewestToPart_66 (by decide) ?_ ?_
  · refine x_sub [1, 2, 3, 4] rfl ?_
    exact j_X2_fewestToPart_79_13_28_ok hB hd M hR
  · refine x_aload_n hC dX2_fewestToPart_69 rfl 1 rfl ?_
    refine r_getR hB dX2_fewestToPart_70 kf_X2_11 rfl th_87 rf_87_1 ?_
    refine x_iload_n hC dX2_fewestToPart_73 rfl 4 rfl ?_
    refine x_iload hC dX2_fewestToPart_74 0 rfl ?_
    refine r_iast hB dX2_fewestToPart_76 th_88 ?_
    refine x_mem (fun M76_13_28 => ?_)
    refine x_iconst (v := (1 : Int32)) hC dX2_fewestToPart_77 ki_1 ?_
    refine x_istore_n hC dX2_fewestToPart_78 rfl [(1, .int (1 : Int32)), (4, .int v4_56_13_28), (0, zr w 87), (2, .int v2_28_13), (3, .int v3_55_13_28)] (by decide) rfl ?_
    refine x_sub [2, 0, 3, 4] rfl ?_
    exact j_X2_fewestToPart_79_13_28_ok hB hd M76_13_28 hR
noncomputable def b_X2_fewestToPart_28_13 (v2_28_13 : Int32) (v1_28_13 : Int32) (v3_28_13 : Int32) (M : zM) : Option ((Int32 × Int32 × zM) ⊕ (Int32 × zM)) :=
  if (144 : Int32) ≤ v3_28_13 then (some (.inr (v1_28_13, M)))
  else ((f_X2_cheapestBeside v3_28_13 M).bind fun u37_13_28 =>
  grd (inb v3_28_13 144) (
  if (M 3 (ix v3_28_13)) = (1 : Int32) then (j_X2_fewestToPart_55_13_28 v1_28_13 v2_28_13 v3_28_13 u37_13_28 (0 : Int32) M)
  else (j_X2_fewestToPart_55_13_28 v1_28_13 v2_28_13 v3_28_13 u37_13_28 (1 : Int32) M)))
set_option maxRecDepth 100000 in
theorem b_X2_fewestToPart_28_13_ok {C : zC} {d : Nat} {g : zG} {l : Launch} {w : zW} {r : Int32 × zM} {v2_28_13 : Int32} {v1_28_13 : Int32} {v3_28_13 : Int32} (hB : bOK C cX2_fewestToPart 5 RX2 d g l w true) (hd : 3 ≤ d) (M : zM) (hR : RtI C cX2_fewestToPart w r.1 r.2) : Sg C w (0, 0) 28 [(0, zr w 87), (1, .int v1_28_13), (2, .int v2_28_13), (3, .int v3_28_13)] [] M (b_X2_fewestToPart_28_13 v2_28_13 v1_28_13 v3_28_13 M) (fun o => Sum.elim (fun (s : (Int32 × Int32 × zM)) => Zs C w (0, 0) 28 [(0, zr w 87), (1, .int s.1), (2, .int v2_28_13), (3, .int s.2.1)] [] s.2.2) (fun (s : (Int32 × zM)) => Zs C w (0, 0) 85 [(0, zr w 87), (1, .int s.1), (2, .int v2_28_13)] [] s.2) o) := by
  have hC := hB.1.1
  have hq1 : 1 ≤ d := by omega
  unfold b_X2_fewestToPart_28_13
  refine x_iload_n hC dX2_fewestToPart_28 rfl 3 rfl ?_
  refine x_sipush (v := (144 : Int32)) hC dX2_fewestToPart_29 kh_144 ?_
  refine x_icmp_ge (tgt := 85) hC dX2_fewestToPart_32 (by decide) ?_ ?_
  · refine x_sub [0, 1, 2] rfl ?_
    exact x_done (fun h => h)
  · refine x_aload_n hC dX2_fewestToPart_35 rfl 0 rfl ?_
    refine x_iload_n hC dX2_fewestToPart_36 rfl 3 rfl ?_
    refine r_cV1 (as := [.int v3_28_13]) (rest := []) hB dX2_fewestToPart_37 kv_X2_82 th_87 hq1 rfl rfl (Nat.le_of_ble_eq_true rfl) (fun v hv => f_X2_cheapestBeside_met hB.2 (by omega) hv) (fun u37_13_28 => ?_)
    refine x_aload_n hC dX2_fewestToPart_40 rfl 0 rfl ?_
    refine r_getR hB dX2_fewestToPart_41 kf_X2_33 rfl th_87 rf_87_0 ?_
    refine x_iload_n hC dX2_fewestToPart_44 rfl 3 rfl ?_
    refine r_iald hB dX2_fewestToPart_45 th_3 ?_
    refine x_iconst (v := (1 : Int32)) hC dX2_fewestToPart_46 ki_1 ?_
    refine x_icmp_ne (tgt := 54) hC dX2_fewestToPart_47 (by decide) ?_ ?_
    · refine x_iconst (v := (0 : Int32)) hC dX2_fewestToPart_50 ki_0 ?_
      refine x_goto (tgt := 55) hC dX2_fewestToPart_51 (by decide) ?_
      exact j_X2_fewestToPart_55_13_28_ok hB hd M hR
    · refine x_iconst (v := (1 : Int32)) hC dX2_fewestToPart_54 ki_1 ?_
      exact j_X2_fewestToPart_55_13_28_ok hB hd M hR
noncomputable def j_X2_fewestToPart_85_13 (v1_85_13 : Int32) (v2_85_13 : Int32) (M : zM) : Option ((Int32 × Int32 × zM) ⊕ (zM)) :=
  some (.inl (v1_85_13, (v2_85_13 + (1 : Int32)), M))
set_option maxRecDepth 100000 in
theorem j_X2_fewestToPart_85_13_ok {C : zC} {d : Nat} {g : zG} {l : Launch} {w : zW} {r : Int32 × zM} {v1_85_13 : Int32} {v2_85_13 : Int32} (hB : bOK C cX2_fewestToPart 5 RX2 d g l w true) (hd : 3 ≤ d) (M : zM) (hR : RtI C cX2_fewestToPart w r.1 r.2) : Sg C w (0, 0) 85 [(0, zr w 87), (1, .int v1_85_13), (2, .int v2_85_13)] [] M (j_X2_fewestToPart_85_13 v1_85_13 v2_85_13 M) (fun o => Sum.elim (fun (s : (Int32 × Int32 × zM)) => Zs C w (0, 0) 13 [(0, zr w 87), (1, .int s.1), (2, .int s.2.1)] [] s.2.2) (fun (s : (zM)) => Zs C w (0, 0) 91 [(0, zr w 87)] [] s) o) := by
  have hC := hB.1.1
  have hq1 : 1 ≤ d := by omega
  unfold j_X2_fewestToPart_85_13
  refine x_iinc hC dX2_fewestToPart_85 ki_1 [(2, .int (v2_85_13 + (1 : Int32))), (0, zr w 87), (1, .int v1_85_13)] 2 rfl (by decide) rfl ?_
  refine x_goto (tgt := 13) hC dX2_fewestToPart_88 (by decide) ?_
  refine x_sub [1, 2, 0] rfl ?_
  exact x_done (fun h => h)
noncomputable def b_X2_fewestToPart_13 (v1_13 : Int32) (v2_13 : Int32) (M : zM) : Option ((Int32 × Int32 × zM) ⊕ (zM)) :=
  if (144 : Int32) ≤ v2_13 then (some (.inr M))
  else (if v1_13 = 0 then (some (.inr M))
  else ((loopW (fun s => b_X2_fewestToPart_28_13 v2_13 s.1 s.2.1 s.2.2) ((0 : Int32), (0 : Int32), M)).bind (fun r => j_X2_fewestToPart_85_13 r.1 v2_13 r.2)))
set_option maxRecDepth 100000 in
theorem b_X2_fewestToPart_13_ok {C : zC} {d : Nat} {g : zG} {l : Launch} {w : zW} {r : Int32 × zM} {v1_13 : Int32} {v2_13 : Int32} (hB : bOK C cX2_fewestToPart 5 RX2 d g l w true) (hd : 3 ≤ d) (M : zM) (hR : RtI C cX2_fewestToPart w r.1 r.2) : Sg C w (0, 0) 13 [(0, zr w 87), (1, .int v1_13), (2, .int v2_13)] [] M (b_X2_fewestToPart_13 v1_13 v2_13 M) (fun o => Sum.elim (fun (s : (Int32 × Int32 × zM)) => Zs C w (0, 0) 13 [(0, zr w 87), (1, .int s.1), (2, .int s.2.1)] [] s.2.2) (fun (s : (zM)) => Zs C w (0, 0) 91 [(0, zr w 87)] [] s) o) := by
  have hC := hB.1.1
  have hq1 : 1 ≤ d := by omega
  unfold b_X2_fewestToPart_13
  refine x_iload_n hC dX2_fewestToPart_13 rfl 2 rfl ?_
  refine x_sipush (v := (144 : Int32)) hC dX2_fewestToPart_14 kh_144 ?_
  refine x_icmp_ge (tgt := 91) hC dX2_fewestToPart_17 (by decide) ?_ ?_
  · refine x_sub [0] rfl ?_
    exact x_done (fun h => h)
  · refine x_iload_n hC dX2_fewestToPart_20 rfl 1 rfl ?_
    refine x_if_eq (tgt := 91) hC dX2_fewestToPart_21 (by decide) ?_ ?_
    · refine x_sub [0] rfl ?_
      exact x_done (fun h => h)
    · refine x_iconst (v := (0 : Int32)) hC dX2_fewestToPart_24 ki_0 ?_
      refine x_istore_n hC dX2_fewestToPart_25 rfl [(1, .int (0 : Int32)), (0, zr w 87), (2, .int v2_13)] (by decide) rfl ?_
      refine x_iconst (v := (0 : Int32)) hC dX2_fewestToPart_26 ki_0 ?_
      refine x_istore_n hC dX2_fewestToPart_27 rfl [(3, .int (0 : Int32)), (1, .int (0 : Int32)), (0, zr w 87), (2, .int v2_13)] (by decide) rfl ?_
      refine x_sub [2, 1, 3, 0] rfl ?_
      refine x_loopB (pc2 := 85) (fun (s : (Int32 × Int32 × zM)) => [(0, zr w 87), (1, .int s.1), (2, .int v2_13), (3, .int s.2.1)]) (fun (s : (Int32 × Int32 × zM)) => s.2.2) (fun (s : (Int32 × zM)) => [(0, zr w 87), (1, .int s.1), (2, .int v2_13)]) (fun (s : (Int32 × zM)) => s.2) ((0 : Int32), (0 : Int32), M) ?_ ?_
      · exact fun s => b_X2_fewestToPart_28_13_ok hB hd s.2.2 hR
      · intro r9
        exact j_X2_fewestToPart_85_13_ok hB hd r9.2 hR
noncomputable def b_X2_fewestToPart_96 (v2_96 : Int32) (v3_96 : Int32) (M : zM) : Option ((Int32 × Int32) ⊕ (Int32)) :=
  if (12 : Int32) ≤ v3_96 then (some (.inr v2_96))
  else (grd (inb ((((12 : Int32) * v3_96) + (12 : Int32)) - (1 : Int32)) 576) (
  nm (f_J9_min_7cf53 v2_96 (M 88 (ix ((((12 : Int32) * v3_96) + (12 : Int32)) - (1 : Int32))))) fun v2_120_96 =>
  some (.inl (v2_120_96, (v3_96 + (1 : Int32))))))
set_option maxRecDepth 100000 in
theorem b_X2_fewestToPart_96_ok {C : zC} {d : Nat} {g : zG} {l : Launch} {w : zW} {r : Int32 × zM} {v2_96 : Int32} {v3_96 : Int32} (hB : bOK C cX2_fewestToPart 5 RX2 d g l w true) (hd : 3 ≤ d) (M : zM) (hR : RtI C cX2_fewestToPart w r.1 r.2) : Sg C w (0, 0) 96 [(0, zr w 87), (2, .int v2_96), (3, .int v3_96)] [] M (b_X2_fewestToPart_96 v2_96 v3_96 M) (fun o => Sum.elim (fun (s : (Int32 × Int32)) => Zs C w (0, 0) 96 [(0, zr w 87), (2, .int s.1), (3, .int s.2)] [] M) (fun (s : (Int32)) => Zs C w (0, 0) 127 [(2, .int s)] [] M) o) := by
  have hC := hB.1.1
  have hq1 : 1 ≤ d := by omega
  unfold b_X2_fewestToPart_96
  refine x_iload_n hC dX2_fewestToPart_96 rfl 2 rfl ?_
  refine x_bipush (v := (12 : Int32)) hC dX2_fewestToPart_97 kb_12 ?_
  refine x_icmp_ge (tgt := 127) hC dX2_fewestToPart_99 (by decide) ?_ ?_
  · refine x_sub [1] rfl ?_
    exact x_done (fun h => h)
  · refine x_iload_n hC dX2_fewestToPart_102 rfl 1 rfl ?_
    refine x_aload_n hC dX2_fewestToPart_103 rfl 0 rfl ?_
    refine r_getR hB dX2_fewestToPart_104 kf_X2_11 rfl th_87 rf_87_1 ?_
    refine x_bipush (v := (12 : Int32)) hC dX2_fewestToPart_107 kb_12 ?_
    refine x_iload_n hC dX2_fewestToPart_109 rfl 2 rfl ?_
    refine x_imul hC dX2_fewestToPart_110 ?_
    refine x_bipush (v := (12 : Int32)) hC dX2_fewestToPart_111 kb_12 ?_
    refine x_iadd hC dX2_fewestToPart_113 ?_
    refine x_iconst (v := (1 : Int32)) hC dX2_fewestToPart_114 ki_1 ?_
    refine x_isub hC dX2_fewestToPart_115 ?_
    refine r_iald hB dX2_fewestToPart_116 th_88 ?_
    refine r_cS0 (as := [.int v2_96, .int (M 88 (ix ((((12 : Int32) * v3_96) + (12 : Int32)) - (1 : Int32))))]) (rest := []) hB dX2_fewestToPart_117 ks_X2_57 hq1 rfl rfl (Nat.le_of_ble_eq_true rfl) (f_J9_min_7cf53_met hB.2 (by omega)) ?_
    refine x_top (fun v2_120_96 => ?_)
    refine x_istore_n hC dX2_fewestToPart_120 rfl [(2, .int v2_120_96), (0, zr w 87), (3, .int v3_96)] (by decide) rfl ?_
    refine x_iinc hC dX2_fewestToPart_121 ki_1 [(3, .int (v3_96 + (1 : Int32))), (2, .int v2_120_96), (0, zr w 87)] 2 rfl (by decide) rfl ?_
    refine x_goto (tgt := 96) hC dX2_fewestToPart_124 (by decide) ?_
    refine x_sub [2, 1, 0] rfl ?_
    exact x_done (fun h => h)
noncomputable def j_X2_fewestToPart_127 (v2_127 : Int32) (M : zM) : Option (Int32 × zM) :=
  some (v2_127, M)
set_option maxRecDepth 100000 in
theorem j_X2_fewestToPart_127_ok {C : zC} {d : Nat} {g : zG} {l : Launch} {w : zW} {r : Int32 × zM} {v2_127 : Int32} (hB : bOK C cX2_fewestToPart 5 RX2 d g l w true) (hd : 3 ≤ d) (M : zM) (hR : RtI C cX2_fewestToPart w r.1 r.2) : Sg C w (0, 0) 127 [(2, .int v2_127)] [] M (j_X2_fewestToPart_127 v2_127 M) (fun q => q = r) := by
  have hC := hB.1.1
  have hq1 : 1 ≤ d := by omega
  unfold j_X2_fewestToPart_127
  refine x_iload_n hC dX2_fewestToPart_127 rfl 0 rfl ?_
  exact r_retI hR dX2_fewestToPart_128 (fun h => h)
noncomputable def j_X2_fewestToPart_91 (M : zM) : Option (Int32 × zM) :=
  (loopW (fun s => b_X2_fewestToPart_96 s.1 s.2 M) ((12 : Int32), (0 : Int32))).bind (fun r => j_X2_fewestToPart_127 r M)
set_option maxRecDepth 100000 in
theorem j_X2_fewestToPart_91_ok {C : zC} {d : Nat} {g : zG} {l : Launch} {w : zW} {r : Int32 × zM} (hB : bOK C cX2_fewestToPart 5 RX2 d g l w true) (hd : 3 ≤ d) (M : zM) (hR : RtI C cX2_fewestToPart w r.1 r.2) : Sg C w (0, 0) 91 [(0, zr w 87)] [] M (j_X2_fewestToPart_91 M) (fun q => q = r) := by
  have hC := hB.1.1
  have hq1 : 1 ≤ d := by omega
  unfold j_X2_fewestToPart_91
  refine x_bipush (v := (12 : Int32)) hC dX2_fewestToPart_91 kb_12 ?_
  refine x_istore_n hC dX2_fewestToPart_93 rfl [(2, .int (12 : Int32)), (0, zr w 87)] (by decide) rfl ?_
  refine x_iconst (v := (0 : Int32)) hC dX2_fewestToPart_94 ki_0 ?_
  refine x_istore_n hC dX2_fewestToPart_95 rfl [(3, .int (0 : Int32)), (2, .int (12 : Int32)), (0, zr w 87)] (by decide) rfl ?_
  refine x_sub [2, 1, 0] rfl ?_
  refine x_loopB (pc2 := 127) (fun (s : (Int32 × Int32)) => [(0, zr w 87), (2, .int s.1), (3, .int s.2)]) (fun (s : (Int32 × Int32)) => M) (fun (s : (Int32)) => [(2, .int s)]) (fun (s : (Int32)) => M) ((12 : Int32), (0 : Int32)) ?_ ?_
  · exact fun s => b_X2_fewestToPart_96_ok hB hd M hR
  · intro r9
    exact j_X2_fewestToPart_127_ok hB hd M hR
noncomputable def f_X2_fewestToPart (M : zM) : Option (Int32 × zM) :=
  (f_J7_fill_53178 88 (1000000 : Int32) M).bind fun M6 =>
  (loopW (fun s => b_X2_fewestToPart_13 s.1 s.2.1 s.2.2) ((1 : Int32), (0 : Int32), M6)).bind (fun r => j_X2_fewestToPart_91 r)
set_option maxRecDepth 100000 in
theorem f_X2_fewestToPart_ok {C : zC} {d : Nat} {g : zG} {l : Launch} {w : zW} {r : Int32 × zM} (hB : bOK C cX2_fewestToPart 5 RX2 d g l w true) (hd : 3 ≤ d) (M : zM) (hR : RtI C cX2_fewestToPart w r.1 r.2) : Sg C w (0, 0) 0 [(0, zr w 87)] [] M (f_X2_fewestToPart M) (fun q => q = r) := by
  have hC := hB.1.1
  have hq1 : 1 ≤ d := by omega
  unfold f_X2_fewestToPart
  refine x_aload_n hC dX2_fewestToPart_0 rfl 0 rfl ?_
  refine r_getR hB dX2_fewestToPart_1 kf_X2_11 rfl th_87 rf_87_1 ?_
  refine x_ldc hC dX2_fewestToPart_4 wd_1063 ?_
  refine r_cSv (as := [zr w 88, .int (1000000 : Int32)]) (rest := []) hB dX2_fewestToPart_6 ks_X2_40 hq1 rfl rfl (Nat.le_of_ble_eq_true rfl) (fun M' hv => f_J7_fill_53178_met hB.2 (tA.toI th_88) (by omega) hv) (fun M6 => ?_)
  refine x_iconst (v := (1 : Int32)) hC dX2_fewestToPart_9 ki_1 ?_
  refine x_istore_n hC dX2_fewestToPart_10 rfl [(1, .int (1 : Int32)), (0, zr w 87)] (by decide) rfl ?_
  refine x_iconst (v := (0 : Int32)) hC dX2_fewestToPart_11 ki_0 ?_
  refine x_istore_n hC dX2_fewestToPart_12 rfl [(2, .int (0 : Int32)), (1, .int (1 : Int32)), (0, zr w 87)] (by decide) rfl ?_
  refine x_sub [2, 1, 0] rfl ?_
  refine x_loopB (pc2 := 91) (fun (s : (Int32 × Int32 × zM)) => [(0, zr w 87), (1, .int s.1), (2, .int s.2.1)]) (fun (s : (Int32 × Int32 × zM)) => s.2.2) (fun (s : (zM)) => [(0, zr w 87)]) (fun (s : (zM)) => s) ((1 : Int32), (0 : Int32), M6) ?_ ?_
  · exact fun s => b_X2_fewestToPart_13_ok hB hd s.2.2 hR
  · intro r9
    exact j_X2_fewestToPart_91_ok hB hd r9 hR
theorem f_X2_fewestToPart_met {l : Launch} {d : Nat} {g : zG} {w : zW} {M0 : zM} {M : zM} (hw : wS w) (hd : 3 ≤ d) {v : Int32} {M' : zM} (h : f_X2_fewestToPart M = some (v, M')) : zMet l yX2_fewestToPart cX2_fewestToPart 5 (some .int) d g w (zin true) M0 [zr w 87] M (some (.int v)) M' :=
  met_i (by decide +kernel) (Nat.le_of_ble_eq_true rfl) rfl (fun C hB0 hR => f_X2_fewestToPart_ok (r := (v, M')) ⟨hB0, hw⟩ hd M hR _ h rfl)
/-! WindingSquare$Grid.withOneBeside()I -/
noncomputable def j_X2_withOneBeside_39_4_16 (v1_16_4 : Int32) (v2_16_4 : Int32) (v4_39_4_16 : Int32) (s0_39_4_16 : Int32) (s1_39_4_16 : Int32) (M : zM) : Option ((Int32 × Int32) ⊕ (Int32)) :=
  nm (s0_39_4_16 + s1_39_4_16) fun v3_40_4_16 =>
  some (.inl (v3_40_4_16, (v4_39_4_16 + (1 : Int32))))
set_option maxRecDepth 100000 in
theorem j_X2_withOneBeside_39_4_16_ok {C : zC} {d : Nat} {g : zG} {l : Launch} {w : zW} {r : Int32} {v1_16_4 : Int32} {v2_16_4 : Int32} {v4_39_4_16 : Int32} {s0_39_4_16 : Int32} {s1_39_4_16 : Int32} (hB : bOK C cX2_withOneBeside 5 RX2 d g l w true) (hd : 3 ≤ d) (M : zM) (hR : RtI C cX2_withOneBeside w r M) : Sg C w (0, 0) 39 [(0, zr w 87), (1, .int v1_16_4), (2, .int v2_16_4), (4, .int v4_39_4_16)] [.int s1_39_4_16, .int s0_39_4_16] M (j_X2_withOneBeside_39_4_16 v1_16_4 v2_16_4 v4_39_4_16 s0_39_4_16 s1_39_4_16 M) (fun o => Sum.elim (fun (s : (Int32 × Int32)) => Zs C w (0, 0) 16 [(0, zr w 87), (1, .int v1_16_4), (2, .int v2_16_4), (3, .int s.1), (4, .int s.2)] [] M) (fun (s : (Int32)) => Zs C w (0, 0) 47 [(0, zr w 87), (1, .int v1_16_4), (2, .int v2_16_4), (3, .int s)] [] M) o) := by
  have hC := hB.1.1
  have hq1 : 1 ≤ d := by omega
  unfold j_X2_withOneBeside_39_4_16
  refine x_iadd hC dX2_withOneBeside_39 ?_
  refine x_top (fun v3_40_4_16 => ?_)
  refine x_istore_n hC dX2_withOneBeside_40 rfl [(3, .int v3_40_4_16), (0, zr w 87), (1, .int v1_16_4), (2, .int v2_16_4), (4, .int v4_39_4_16)] (by decide) rfl ?_
  refine x_iinc hC dX2_withOneBeside_41 ki_1 [(4, .int (v4_39_4_16 + (1 : Int32))), (3, .int v3_40_4_16), (0, zr w 87), (1, .int v1_16_4), (2, .int v2_16_4)] 4 rfl (by decide) rfl ?_
  refine x_goto (tgt := 16) hC dX2_withOneBeside_44 (by decide) ?_
  refine x_sub [2, 3, 4, 1, 0] rfl ?_
  exact x_done (fun h => h)
noncomputable def b_X2_withOneBeside_16_4 (v1_16_4 : Int32) (v2_16_4 : Int32) (v3_16_4 : Int32) (v4_16_4 : Int32) (M : zM) : Option ((Int32 × Int32) ⊕ (Int32)) :=
  if (4 : Int32) ≤ v4_16_4 then (some (.inr v3_16_4))
  else ((f_X2_onward v2_16_4 v4_16_4 M).bind fun u27_4_16 =>
  if u27_4_16 = (-1 : Int32) then (j_X2_withOneBeside_39_4_16 v1_16_4 v2_16_4 v4_16_4 v3_16_4 (0 : Int32) M)
  else (j_X2_withOneBeside_39_4_16 v1_16_4 v2_16_4 v4_16_4 v3_16_4 (1 : Int32) M))
set_option maxRecDepth 100000 in
theorem b_X2_withOneBeside_16_4_ok {C : zC} {d : Nat} {g : zG} {l : Launch} {w : zW} {r : Int32} {v1_16_4 : Int32} {v2_16_4 : Int32} {v3_16_4 : Int32} {v4_16_4 : Int32} (hB : bOK C cX2_withOneBeside 5 RX2 d g l w true) (hd : 3 ≤ d) (M : zM) (hR : RtI C cX2_withOneBeside w r M) : Sg C w (0, 0) 16 [(0, zr w 87), (1, .int v1_16_4), (2, .int v2_16_4), (3, .int v3_16_4), (4, .int v4_16_4)] [] M (b_X2_withOneBeside_16_4 v1_16_4 v2_16_4 v3_16_4 v4_16_4 M) (fun o => Sum.elim (fun (s : (Int32 × Int32)) => Zs C w (0, 0) 16 [(0, zr w 87), (1, .int v1_16_4), (2, .int v2_16_4), (3, .int s.1), (4, .int s.2)] [] M) (fun (s : (Int32)) => Zs C w (0, 0) 47 [(0, zr w 87), (1, .int v1_16_4), (2, .int v2_16_4), (3, .int s)] [] M) o) := by
  have hC := hB.1.1
  have hq1 : 1 ≤ d := by omega
  unfold b_X2_withOneBeside_16_4
  refine x_iload hC dX2_withOneBeside_16 4 rfl ?_
  refine x_iconst (v := (4 : Int32)) hC dX2_withOneBeside_18 ki_4 ?_
  refine x_icmp_ge (tgt := 47) hC dX2_withOneBeside_19 (by decide) ?_ ?_
  · refine x_sub [0, 1, 2, 3] rfl ?_
    exact x_done (fun h => h)
  · refine x_iload_n hC dX2_withOneBeside_22 rfl 3 rfl ?_
    refine x_aload_n hC dX2_withOneBeside_23 rfl 0 rfl ?_
    refine x_iload_n hC dX2_withOneBeside_24 rfl 2 rfl ?_
    refine x_iload hC dX2_withOneBeside_25 4 rfl ?_
    refine r_cV1 (as := [.int v2_16_4, .int v4_16_4]) (rest := [.int v3_16_4]) hB dX2_withOneBeside_27 kv_X2_91 th_87 hq1 rfl rfl (Nat.le_of_ble_eq_true rfl) (fun v hv => f_X2_onward_met hB.2 (by omega) hv) (fun u27_4_16 => ?_)
    refine x_iconst (v := (-1 : Int32)) hC dX2_withOneBeside_30 ki_m1 ?_
    refine x_icmp_ne (tgt := 38) hC dX2_withOneBeside_31 (by decide) ?_ ?_
    · refine x_iconst (v := (0 : Int32)) hC dX2_withOneBeside_34 ki_0 ?_
      refine x_goto (tgt := 39) hC dX2_withOneBeside_35 (by decide) ?_
      refine x_sub [0, 1, 2, 4] rfl ?_
      exact j_X2_withOneBeside_39_4_16_ok hB hd M hR
    · refine x_iconst (v := (1 : Int32)) hC dX2_withOneBeside_38 ki_1 ?_
      refine x_sub [0, 1, 2, 4] rfl ?_
      exact j_X2_withOneBeside_39_4_16_ok hB hd M hR
noncomputable def j_X2_withOneBeside_63_4 (v1_63_4 : Int32) (v2_63_4 : Int32) (M : zM) : Option ((Int32 × Int32) ⊕ (Int32)) :=
  some (.inl (v1_63_4, (v2_63_4 + (1 : Int32))))
set_option maxRecDepth 100000 in
theorem j_X2_withOneBeside_63_4_ok {C : zC} {d : Nat} {g : zG} {l : Launch} {w : zW} {r : Int32} {v1_63_4 : Int32} {v2_63_4 : Int32} (hB : bOK C cX2_withOneBeside 5 RX2 d g l w true) (hd : 3 ≤ d) (M : zM) (hR : RtI C cX2_withOneBeside w r M) : Sg C w (0, 0) 63 [(0, zr w 87), (1, .int v1_63_4), (2, .int v2_63_4)] [] M (j_X2_withOneBeside_63_4 v1_63_4 v2_63_4 M) (fun o => Sum.elim (fun (s : (Int32 × Int32)) => Zs C w (0, 0) 4 [(0, zr w 87), (1, .int s.1), (2, .int s.2)] [] M) (fun (s : (Int32)) => Zs C w (0, 0) 69 [(1, .int s)] [] M) o) := by
  have hC := hB.1.1
  have hq1 : 1 ≤ d := by omega
  unfold j_X2_withOneBeside_63_4
  refine x_iinc hC dX2_withOneBeside_63 ki_1 [(2, .int (v2_63_4 + (1 : Int32))), (0, zr w 87), (1, .int v1_63_4)] 2 rfl (by decide) rfl ?_
  refine x_goto (tgt := 4) hC dX2_withOneBeside_66 (by decide) ?_
  refine x_sub [1, 2, 0] rfl ?_
  exact x_done (fun h => h)
noncomputable def j_X2_withOneBeside_47_4 (v1_47_4 : Int32) (v2_47_4 : Int32) (v3_47_4 : Int32) (M : zM) : Option ((Int32 × Int32) ⊕ (Int32)) :=
  (f_X2_free v2_47_4 M).bind fun u49_4 =>
  if u49_4 = 0 then (j_X2_withOneBeside_63_4 v1_47_4 v2_47_4 M)
  else (if v3_47_4 = (1 : Int32) then (j_X2_withOneBeside_63_4 (v1_47_4 + (1 : Int32)) v2_47_4 M)
  else (j_X2_withOneBeside_63_4 v1_47_4 v2_47_4 M))
set_option maxRecDepth 100000 in
theorem j_X2_withOneBeside_47_4_ok {C : zC} {d : Nat} {g : zG} {l : Launch} {w : zW} {r : Int32} {v1_47_4 : Int32} {v2_47_4 : Int32} {v3_47_4 : Int32} (hB : bOK C cX2_withOneBeside 5 RX2 d g l w true) (hd : 3 ≤ d) (M : zM) (hR : RtI C cX2_withOneBeside w r M) : Sg C w (0, 0) 47 [(0, zr w 87), (1, .int v1_47_4), (2, .int v2_47_4), (3, .int v3_47_4)] [] M (j_X2_withOneBeside_47_4 v1_47_4 v2_47_4 v3_47_4 M) (fun o => Sum.elim (fun (s : (Int32 × Int32)) => Zs C w (0, 0) 4 [(0, zr w 87), (1, .int s.1), (2, .int s.2)] [] M) (fun (s : (Int32)) => Zs C w (0, 0) 69 [(1, .int s)] [] M) o) := by
  have hC := hB.1.1
  have hq1 : 1 ≤ d := by omega
  unfold j_X2_withOneBeside_47_4
  refine x_aload_n hC dX2_withOneBeside_47 rfl 0 rfl ?_
  refine x_iload_n hC dX2_withOneBeside_48 rfl 2 rfl ?_
  refine r_cV1 (as := [.int v2_47_4]) (rest := []) hB dX2_withOneBeside_49 kv_X2_85 th_87 hq1 rfl rfl (Nat.le_of_ble_eq_true rfl) (fun v hv => f_X2_free_met hB.2 (by omega) hv) (fun u49_4 => ?_)
  refine x_if_eq (tgt := 63) hC dX2_withOneBeside_52 (by decide) ?_ ?_
  · refine x_sub [0, 1, 2] rfl ?_
    exact j_X2_withOneBeside_63_4_ok hB hd M hR
  · refine x_iload_n hC dX2_withOneBeside_55 rfl 3 rfl ?_
    refine x_iconst (v := (1 : Int32)) hC dX2_withOneBeside_56 ki_1 ?_
    refine x_icmp_ne (tgt := 63) hC dX2_withOneBeside_57 (by decide) ?_ ?_
    · refine x_iinc hC dX2_withOneBeside_60 ki_1 [(1, .int (v1_47_4 + (1 : Int32))), (0, zr w 87), (2, .int v2_47_4), (3, .int v3_47_4)] 1 rfl (by decide) rfl ?_
      refine x_sub [1, 0, 2] rfl ?_
      exact j_X2_withOneBeside_63_4_ok hB hd M hR
    · refine x_sub [0, 1, 2] rfl ?_
      exact j_X2_withOneBeside_63_4_ok hB hd M hR
noncomputable def b_X2_withOneBeside_4 (v1_4 : Int32) (v2_4 : Int32) (M : zM) : Option ((Int32 × Int32) ⊕ (Int32)) :=
  if (144 : Int32) ≤ v2_4 then (some (.inr v1_4))
  else ((loopW (fun s => b_X2_withOneBeside_16_4 v1_4 v2_4 s.1 s.2 M) ((0 : Int32), (0 : Int32))).bind (fun r => j_X2_withOneBeside_47_4 v1_4 v2_4 r M))
set_option maxRecDepth 100000 in
theorem b_X2_withOneBeside_4_ok {C : zC} {d : Nat} {g : zG} {l : Launch} {w : zW} {r : Int32} {v1_4 : Int32} {v2_4 : Int32} (hB : bOK C cX2_withOneBeside 5 RX2 d g l w true) (hd : 3 ≤ d) (M : zM) (hR : RtI C cX2_withOneBeside w r M) : Sg C w (0, 0) 4 [(0, zr w 87), (1, .int v1_4), (2, .int v2_4)] [] M (b_X2_withOneBeside_4 v1_4 v2_4 M) (fun o => Sum.elim (fun (s : (Int32 × Int32)) => Zs C w (0, 0) 4 [(0, zr w 87), (1, .int s.1), (2, .int s.2)] [] M) (fun (s : (Int32)) => Zs C w (0, 0) 69 [(1, .int s)] [] M) o) := by
  have hC := hB.1.1
  have hq1 : 1 ≤ d := by omega
  unfold b_X2_withOneBeside_4
  refine x_iload_n hC dX2_withOneBeside_4 rfl 2 rfl ?_
  refine x_sipush (v := (144 : Int32)) hC dX2_withOneBeside_5 kh_144 ?_
  refine x_icmp_ge (tgt := 69) hC dX2_withOneBeside_8 (by decide) ?_ ?_
  · refine x_sub [1] rfl ?_
    exact x_done (fun h => h)
  · refine x_iconst (v := (0 : Int32)) hC dX2_withOneBeside_11 ki_0 ?_
    refine x_istore_n hC dX2_withOneBeside_12 rfl [(3, .int (0 : Int32)), (0, zr w 87), (1, .int v1_4), (2, .int v2_4)] (by decide) rfl ?_
    refine x_iconst (v := (0 : Int32)) hC dX2_withOneBeside_13 ki_0 ?_
    refine x_istore (f := 0) hC dX2_withOneBeside_14 [(4, .int (0 : Int32)), (3, .int (0 : Int32)), (0, zr w 87), (1, .int v1_4), (2, .int v2_4)] (by decide) rfl ?_
    refine x_sub [2, 3, 4, 1, 0] rfl ?_
    refine x_loopB (pc2 := 47) (fun (s : (Int32 × Int32)) => [(0, zr w 87), (1, .int v1_4), (2, .int v2_4), (3, .int s.1), (4, .int s.2)]) (fun (s : (Int32 × Int32)) => M) (fun (s : (Int32)) => [(0, zr w 87), (1, .int v1_4), (2, .int v2_4), (3, .int s)]) (fun (s : (Int32)) => M) ((0 : Int32), (0 : Int32)) ?_ ?_
    · exact fun s => b_X2_withOneBeside_16_4_ok hB hd M hR
    · intro r9
      exact j_X2_withOneBeside_47_4_ok hB hd M hR
noncomputable def j_X2_withOneBeside_69 (v1_69 : Int32) (M : zM) : Option (Int32) :=
  some v1_69
set_option maxRecDepth 100000 in
theorem j_X2_withOneBeside_69_ok {C : zC} {d : Nat} {g : zG} {l : Launch} {w : zW} {r : Int32} {v1_69 : Int32} (hB : bOK C cX2_withOneBeside 5 RX2 d g l w true) (hd : 3 ≤ d) (M : zM) (hR : RtI C cX2_withOneBeside w r M) : Sg C w (0, 0) 69 [(1, .int v1_69)] [] M (j_X2_withOneBeside_69 v1_69 M) (fun q => q = r) := by
  have hC := hB.1.1
  have hq1 : 1 ≤ d := by omega
  unfold j_X2_withOneBeside_69
  refine x_iload_n hC dX2_withOneBeside_69 rfl 0 rfl ?_
  exact r_retI hR dX2_withOneBeside_70 (fun h => congrArg (fun q => (q, M)) h)
noncomputable def f_X2_withOneBeside (M : zM) : Option (Int32) :=
  (loopW (fun s => b_X2_withOneBeside_4 s.1 s.2 M) ((0 : Int32), (0 : Int32))).bind (fun r => j_X2_withOneBeside_69 r M)
set_option maxRecDepth 100000 in
theorem f_X2_withOneBeside_ok {C : zC} {d : Nat} {g : zG} {l : Launch} {w : zW} {r : Int32} (hB : bOK C cX2_withOneBeside 5 RX2 d g l w true) (hd : 3 ≤ d) (M : zM) (hR : RtI C cX2_withOneBeside w r M) : Sg C w (0, 0) 0 [(0, zr w 87)] [] M (f_X2_withOneBeside M) (fun q => q = r) := by
  have hC := hB.1.1
  have hq1 : 1 ≤ d := by omega
  unfold f_X2_withOneBeside
  refine x_iconst (v := (0 : Int32)) hC dX2_withOneBeside_0 ki_0 ?_
  refine x_istore_n hC dX2_withOneBeside_1 rfl [(1, .int (0 : Int32)), (0, zr w 87)] (by decide) rfl ?_
  refine x_iconst (v := (0 : Int32)) hC dX2_withOneBeside_2 ki_0 ?_
  refine x_istore_n hC dX2_withOneBeside_3 rfl [(2, .int (0 : Int32)), (1, .int (0 : Int32)), (0, zr w 87)] (by decide) rfl ?_
  refine x_sub [2, 1, 0] rfl ?_
  refine x_loopB (pc2 := 69) (fun (s : (Int32 × Int32)) => [(0, zr w 87), (1, .int s.1), (2, .int s.2)]) (fun (s : (Int32 × Int32)) => M) (fun (s : (Int32)) => [(1, .int s)]) (fun (s : (Int32)) => M) ((0 : Int32), (0 : Int32)) ?_ ?_
  · exact fun s => b_X2_withOneBeside_4_ok hB hd M hR
  · intro r9
    exact j_X2_withOneBeside_69_ok hB hd M hR
theorem f_X2_withOneBeside_met {l : Launch} {d : Nat} {g : zG} {w : zW} {M0 : zM} {M : zM} (hw : wS w) (hd : 3 ≤ d) {v : Int32} (h : f_X2_withOneBeside M = some v) : zMet l yX2_withOneBeside cX2_withOneBeside 5 (some .int) d g w (zin true) M0 [zr w 87] M (some (.int v)) M :=
  met_i (by decide +kernel) (Nat.le_of_ble_eq_true rfl) rfl (fun C hB0 hR => f_X2_withOneBeside_ok ⟨hB0, hw⟩ hd M hR _ h rfl)
/-! WindingSquare$Grid.neighbour(II)I -/
noncomputable def f_X2_neighbour (p1 : Int32) (p2 : Int32) (M : zM) : Option (Int32) :=
  nm (irem p1 (144 : Int32)) fun v3_5 =>
  nm (p1 / (144 : Int32)) fun v4_11 =>
  if p2 = 0 then ((f_X2_onward v3_5 v4_11 M).bind fun u21 =>
  if u21 = (-1 : Int32) then (some (-1 : Int32))
  else (some (((144 : Int32) * v4_11) + u21)))
  else (some (((144 : Int32) * (((v4_11 + ((2 : Int32) * p2)) - (1 : Int32)) &&& (3 : Int32))) + v3_5))
set_option maxRecDepth 100000 in
theorem f_X2_neighbour_ok {C : zC} {d : Nat} {g : zG} {l : Launch} {w : zW} {r : Int32} {p1 : Int32} {p2 : Int32} (hB : bOK C cX2_neighbour 6 RX2 d g l w true) (hd : 3 ≤ d) (M : zM) (hR : RtI C cX2_neighbour w r M) : Sg C w (0, 0) 0 [(0, zr w 87), (1, .int p1), (2, .int p2)] [] M (f_X2_neighbour p1 p2 M) (fun q => q = r) := by
  have hC := hB.1.1
  have hq1 : 1 ≤ d := by omega
  unfold f_X2_neighbour
  refine x_iload_n hC dX2_neighbour_0 rfl 1 rfl ?_
  refine x_sipush (v := (144 : Int32)) hC dX2_neighbour_1 kh_144 ?_
  refine x_irem0 hC dX2_neighbour_4 nz_144 ?_
  refine x_top (fun v3_5 => ?_)
  refine x_istore_n hC dX2_neighbour_5 rfl [(3, .int v3_5), (0, zr w 87), (1, .int p1), (2, .int p2)] (by decide) rfl ?_
  refine x_iload_n hC dX2_neighbour_6 rfl 2 rfl ?_
  refine x_sipush (v := (144 : Int32)) hC dX2_neighbour_7 kh_144 ?_
  refine x_idiv0 hC dX2_neighbour_10 nz_144 ?_
  refine x_top (fun v4_11 => ?_)
  refine x_istore (f := 0) hC dX2_neighbour_11 [(4, .int v4_11), (3, .int v3_5), (0, zr w 87), (1, .int p1), (2, .int p2)] (by decide) rfl ?_
  refine x_iload_n hC dX2_neighbour_13 rfl 4 rfl ?_
  refine x_if_ne (tgt := 46) hC dX2_neighbour_14 (by decide) ?_ ?_
  · refine x_aload_n hC dX2_neighbour_17 rfl 2 rfl ?_
    refine x_iload_n hC dX2_neighbour_18 rfl 1 rfl ?_
    refine x_iload hC dX2_neighbour_19 0 rfl ?_
    refine r_cV1 (as := [.int v3_5, .int v4_11]) (rest := []) hB dX2_neighbour_21 kv_X2_91 th_87 hq1 rfl rfl (Nat.le_of_ble_eq_true rfl) (fun v hv => f_X2_onward_met hB.2 (by omega) hv) (fun u21 => ?_)
    refine x_istore (f := 0) hC dX2_neighbour_24 [(5, .int u21), (4, .int v4_11), (3, .int v3_5), (0, zr w 87), (1, .int p1), (2, .int p2)] (by decide) rfl ?_
    refine x_iload hC dX2_neighbour_26 0 rfl ?_
    refine x_iconst (v := (-1 : Int32)) hC dX2_neighbour_28 ki_m1 ?_
    refine x_icmp_ne (tgt := 36) hC dX2_neighbour_29 (by decide) ?_ ?_
    · refine x_iconst (v := (-1 : Int32)) hC dX2_neighbour_32 ki_m1 ?_
      refine x_goto (tgt := 45) hC dX2_neighbour_33 (by decide) ?_
      exact r_retI hR dX2_neighbour_45 (fun h => congrArg (fun q => (q, M)) h)
    · refine x_sipush (v := (144 : Int32)) hC dX2_neighbour_36 kh_144 ?_
      refine x_iload hC dX2_neighbour_39 1 rfl ?_
      refine x_imul hC dX2_neighbour_41 ?_
      refine x_iload hC dX2_neighbour_42 0 rfl ?_
      refine x_iadd hC dX2_neighbour_44 ?_
      exact r_retI hR dX2_neighbour_45 (fun h => congrArg (fun q => (q, M)) h)
  · refine x_sipush (v := (144 : Int32)) hC dX2_neighbour_46 kh_144 ?_
    refine x_iload hC dX2_neighbour_49 0 rfl ?_
    refine x_iconst (v := (2 : Int32)) hC dX2_neighbour_51 ki_2 ?_
    refine x_iload_n hC dX2_neighbour_52 rfl 4 rfl ?_
    refine x_imul hC dX2_neighbour_53 ?_
    refine x_iadd hC dX2_neighbour_54 ?_
    refine x_iconst (v := (1 : Int32)) hC dX2_neighbour_55 ki_1 ?_
    refine x_isub hC dX2_neighbour_56 ?_
    refine x_iconst (v := (3 : Int32)) hC dX2_neighbour_57 ki_3 ?_
    refine x_iand hC dX2_neighbour_58 ?_
    refine x_imul hC dX2_neighbour_59 ?_
    refine x_iload_n hC dX2_neighbour_60 rfl 1 rfl ?_
    refine x_iadd hC dX2_neighbour_61 ?_
    exact r_retI hR dX2_neighbour_62 (fun h => congrArg (fun q => (q, M)) h)
theorem f_X2_neighbour_met {l : Launch} {d : Nat} {g : zG} {w : zW} {M0 : zM} {p1 : Int32} {p2 : Int32} {M : zM} (hw : wS w) (hd : 3 ≤ d) {v : Int32} (h : f_X2_neighbour p1 p2 M = some v) : zMet l yX2_neighbour cX2_neighbour 6 (some .int) d g w (zin true) M0 [zr w 87, .int p1, .int p2] M (some (.int v)) M :=
  met_i (by decide +kernel) (Nat.le_of_ble_eq_true rfl) rfl (fun C hB0 hR => f_X2_neighbour_ok ⟨hB0, hw⟩ hd M hR _ h rfl)
/-! WindingSquare$Grid.goStraight()V -/
noncomputable def j_X2_goStraight_88_2_9 (v1_9_2 : Int32) (v2_88_2_9 : Int32) (M : zM) : Option ((Int32 × zM) ⊕ (zM)) :=
  some (.inl ((v2_88_2_9 + (1 : Int32)), M))
set_option maxRecDepth 100000 in
theorem j_X2_goStraight_88_2_9_ok {C : zC} {d : Nat} {g : zG} {l : Launch} {w : zW} {r : zM} {v1_9_2 : Int32} {v2_88_2_9 : Int32} (hB : bOK C cX2_goStraight 5 RX2 d g l w true) (hd : 3 ≤ d) (M : zM) (hR : RtV C cX2_goStraight w r) : Sg C w (0, 0) 88 [(0, zr w 87), (1, .int v1_9_2), (2, .int v2_88_2_9)] [] M (j_X2_goStraight_88_2_9 v1_9_2 v2_88_2_9 M) (fun o => Sum.elim (fun (s : (Int32 × zM)) => Zs C w (0, 0) 9 [(0, zr w 87), (1, .int v1_9_2), (2, .int s.1)] [] s.2) (fun (s : (zM)) => Zs C w (0, 0) 94 [(0, zr w 87), (1, .int v1_9_2)] [] s) o) := by
  have hC := hB.1.1
  have hq1 : 1 ≤ d := by omega
  unfold j_X2_goStraight_88_2_9
  refine x_iinc hC dX2_goStraight_88 ki_1 [(2, .int (v2_88_2_9 + (1 : Int32))), (0, zr w 87), (1, .int v1_9_2)] 2 rfl (by decide) rfl ?_
  refine x_goto (tgt := 9) hC dX2_goStraight_91 (by decide) ?_
  refine x_sub [1, 2, 0] rfl ?_
  exact x_done (fun h => h)
noncomputable def j_X2_goStraight_30_2_9 (v1_9_2 : Int32) (v2_30_2_9 : Int32) (s0_30_2_9 : Int32) (M : zM) : Option ((Int32 × zM) ⊕ (zM)) :=
  (f_X2_onward s0_30_2_9 v1_9_2 M).bind fun u34_2_9 =>
  if u34_2_9 = (-1 : Int32) then (j_X2_goStraight_88_2_9 v1_9_2 v2_30_2_9 M)
  else (grd (inb (((144 : Int32) * v1_9_2) + u34_2_9) 576) (
  grd (inb (((144 : Int32) * v1_9_2) + s0_30_2_9) 576) (
  grd (inb (((144 : Int32) * v1_9_2) + u34_2_9) 576) (
  nm (mset M 88 (ix (((144 : Int32) * v1_9_2) + u34_2_9)) (f_J9_min_7cf53 (M 88 (ix (((144 : Int32) * v1_9_2) + u34_2_9))) ((M 88 (ix (((144 : Int32) * v1_9_2) + s0_30_2_9))) + (1 : Int32)))) fun M87_2_9 =>
  j_X2_goStraight_88_2_9 v1_9_2 v2_30_2_9 M87_2_9))))
set_option maxRecDepth 100000 in
theorem j_X2_goStraight_30_2_9_ok {C : zC} {d : Nat} {g : zG} {l : Launch} {w : zW} {r : zM} {v1_9_2 : Int32} {v2_30_2_9 : Int32} {s0_30_2_9 : Int32} (hB : bOK C cX2_goStraight 5 RX2 d g l w true) (hd : 3 ≤ d) (M : zM) (hR : RtV C cX2_goStraight w r) : Sg C w (0, 0) 30 [(0, zr w 87), (1, .int v1_9_2), (2, .int v2_30_2_9)] [.int s0_30_2_9] M (j_X2_goStraight_30_2_9 v1_9_2 v2_30_2_9 s0_30_2_9 M) (fun o => Sum.elim (fun (s : (Int32 × zM)) => Zs C w (0, 0) 9 [(0, zr w 87), (1, .int v1_9_2), (2, .int s.1)] [] s.2) (fun (s : (zM)) => Zs C w (0, 0) 94 [(0, zr w 87), (1, .int v1_9_2)] [] s) o) := by
  have hC := hB.1.1
  have hq1 : 1 ≤ d := by omega
  unfold j_X2_goStraight_30_2_9
  refine x_istore_n hC dX2_goStraight_30 rfl [(3, .int s0_30_2_9), (0, zr w 87), (1, .int v1_9_2), (2, .int v2_30_2_9)] (by decide) rfl ?_
  refine x_aload_n hC dX2_goStraight_31 rfl 1 rfl ?_
  refine x_iload_n hC dX2_goStraight_32 rfl 0 rfl ?_
  refine x_iload_n hC dX2_goStraight_33 rfl 2 rfl ?_
  refine r_cV1 (as := [.int s0_30_2_9, .int v1_9_2]) (rest := []) hB dX2_goStraight_34 kv_X2_91 th_87 hq1 rfl rfl (Nat.le_of_ble_eq_true rfl) (fun v hv => f_X2_onward_met hB.2 (by omega) hv) (fun u34_2_9 => ?_)
  refine x_istore (f := 0) hC dX2_goStraight_37 [(4, .int u34_2_9), (3, .int s0_30_2_9), (0, zr w 87), (1, .int v1_9_2), (2, .int v2_30_2_9)] (by decide) rfl ?_
  refine x_iload hC dX2_goStraight_39 0 rfl ?_
  refine x_iconst (v := (-1 : Int32)) hC dX2_goStraight_41 ki_m1 ?_
  refine x_icmp_eq (tgt := 88) hC dX2_goStraight_42 (by decide) ?_ ?_
  · refine x_sub [2, 3, 4] rfl ?_
    exact j_X2_goStraight_88_2_9_ok hB hd M hR
  · refine x_aload_n hC dX2_goStraight_45 rfl 2 rfl ?_
    refine r_getR hB dX2_goStraight_46 kf_X2_11 rfl th_87 rf_87_1 ?_
    refine x_sipush (v := (144 : Int32)) hC dX2_goStraight_49 kh_144 ?_
    refine x_iload_n hC dX2_goStraight_52 rfl 3 rfl ?_
    refine x_imul hC dX2_goStraight_53 ?_
    refine x_iload hC dX2_goStraight_54 0 rfl ?_
    refine x_iadd hC dX2_goStraight_56 ?_
    refine x_aload_n hC dX2_goStraight_57 rfl 2 rfl ?_
    refine r_getR hB dX2_goStraight_58 kf_X2_11 rfl th_87 rf_87_1 ?_
    refine x_sipush (v := (144 : Int32)) hC dX2_goStraight_61 kh_144 ?_
    refine x_iload_n hC dX2_goStraight_64 rfl 3 rfl ?_
    refine x_imul hC dX2_goStraight_65 ?_
    refine x_iload hC dX2_goStraight_66 0 rfl ?_
    refine x_iadd hC dX2_goStraight_68 ?_
    refine r_iald hB dX2_goStraight_69 th_88 ?_
    refine x_aload_n hC dX2_goStraight_70 rfl 2 rfl ?_
    refine r_getR hB dX2_goStraight_71 kf_X2_11 rfl th_87 rf_87_1 ?_
    refine x_sipush (v := (144 : Int32)) hC dX2_goStraight_74 kh_144 ?_
    refine x_iload_n hC dX2_goStraight_77 rfl 3 rfl ?_
    refine x_imul hC dX2_goStraight_78 ?_
    refine x_iload_n hC dX2_goStraight_79 rfl 1 rfl ?_
    refine x_iadd hC dX2_goStraight_80 ?_
    refine r_iald hB dX2_goStraight_81 th_88 ?_
    refine x_iconst (v := (1 : Int32)) hC dX2_goStraight_82 ki_1 ?_
    refine x_iadd hC dX2_goStraight_83 ?_
    refine r_cS0 (as := [.int (M 88 (ix (((144 : Int32) * v1_9_2) + u34_2_9))), .int ((M 88 (ix (((144 : Int32) * v1_9_2) + s0_30_2_9))) + (1 : Int32))]) (rest := [.int (((144 : Int32) * v1_9_2) + u34_2_9), zr w 88]) hB dX2_goStraight_84 ks_X2_57 hq1 rfl rfl (Nat.le_of_ble_eq_true rfl) (f_J9_min_7cf53_met hB.2 (by omega)) ?_
    refine r_iast hB dX2_goStraight_87 th_88 ?_
    refine x_mem (fun M87_2_9 => ?_)
    refine x_sub [2, 3, 4] rfl ?_
    exact j_X2_goStraight_88_2_9_ok hB hd M87_2_9 hR
noncomputable def b_X2_goStraight_9_2 (v1_9_2 : Int32) (v2_9_2 : Int32) (M : zM) : Option ((Int32 × zM) ⊕ (zM)) :=
  if (144 : Int32) ≤ v2_9_2 then (some (.inr M))
  else (if (2 : Int32) ≤ v1_9_2 then (j_X2_goStraight_30_2_9 v1_9_2 v2_9_2 ((143 : Int32) - v2_9_2) M)
  else (j_X2_goStraight_30_2_9 v1_9_2 v2_9_2 v2_9_2 M))
set_option maxRecDepth 100000 in
theorem b_X2_goStraight_9_2_ok {C : zC} {d : Nat} {g : zG} {l : Launch} {w : zW} {r : zM} {v1_9_2 : Int32} {v2_9_2 : Int32} (hB : bOK C cX2_goStraight 5 RX2 d g l w true) (hd : 3 ≤ d) (M : zM) (hR : RtV C cX2_goStraight w r) : Sg C w (0, 0) 9 [(0, zr w 87), (1, .int v1_9_2), (2, .int v2_9_2)] [] M (b_X2_goStraight_9_2 v1_9_2 v2_9_2 M) (fun o => Sum.elim (fun (s : (Int32 × zM)) => Zs C w (0, 0) 9 [(0, zr w 87), (1, .int v1_9_2), (2, .int s.1)] [] s.2) (fun (s : (zM)) => Zs C w (0, 0) 94 [(0, zr w 87), (1, .int v1_9_2)] [] s) o) := by
  have hC := hB.1.1
  have hq1 : 1 ≤ d := by omega
  unfold b_X2_goStraight_9_2
  refine x_iload_n hC dX2_goStraight_9 rfl 2 rfl ?_
  refine x_sipush (v := (144 : Int32)) hC dX2_goStraight_10 kh_144 ?_
  refine x_icmp_ge (tgt := 94) hC dX2_goStraight_13 (by decide) ?_ ?_
  · refine x_sub [0, 1] rfl ?_
    exact x_done (fun h => h)
  · refine x_iload_n hC dX2_goStraight_16 rfl 1 rfl ?_
    refine x_iconst (v := (2 : Int32)) hC dX2_goStraight_17 ki_2 ?_
    refine x_icmp_ge (tgt := 25) hC dX2_goStraight_18 (by decide) ?_ ?_
    · refine x_sipush (v := (143 : Int32)) hC dX2_goStraight_25 kh_143 ?_
      refine x_iload_n hC dX2_goStraight_28 rfl 2 rfl ?_
      refine x_isub hC dX2_goStraight_29 ?_
      exact j_X2_goStraight_30_2_9_ok hB hd M hR
    · refine x_iload_n hC dX2_goStraight_21 rfl 2 rfl ?_
      refine x_goto (tgt := 30) hC dX2_goStraight_22 (by decide) ?_
      exact j_X2_goStraight_30_2_9_ok hB hd M hR
noncomputable def j_X2_goStraight_94_2 (v1_94_2 : Int32) (M : zM) : Option ((Int32 × zM) ⊕ (zM)) :=
  some (.inl ((v1_94_2 + (1 : Int32)), M))
set_option maxRecDepth 100000 in
theorem j_X2_goStraight_94_2_ok {C : zC} {d : Nat} {g : zG} {l : Launch} {w : zW} {r : zM} {v1_94_2 : Int32} (hB : bOK C cX2_goStraight 5 RX2 d g l w true) (hd : 3 ≤ d) (M : zM) (hR : RtV C cX2_goStraight w r) : Sg C w (0, 0) 94 [(0, zr w 87), (1, .int v1_94_2)] [] M (j_X2_goStraight_94_2 v1_94_2 M) (fun o => Sum.elim (fun (s : (Int32 × zM)) => Zs C w (0, 0) 2 [(0, zr w 87), (1, .int s.1)] [] s.2) (fun (s : (zM)) => Zs C w (0, 0) 100 [] [] s) o) := by
  have hC := hB.1.1
  have hq1 : 1 ≤ d := by omega
  unfold j_X2_goStraight_94_2
  refine x_iinc hC dX2_goStraight_94 ki_1 [(1, .int (v1_94_2 + (1 : Int32))), (0, zr w 87)] 1 rfl (by decide) rfl ?_
  refine x_goto (tgt := 2) hC dX2_goStraight_97 (by decide) ?_
  refine x_sub [1, 0] rfl ?_
  exact x_done (fun h => h)
noncomputable def b_X2_goStraight_2 (v1_2 : Int32) (M : zM) : Option ((Int32 × zM) ⊕ (zM)) :=
  if (4 : Int32) ≤ v1_2 then (some (.inr M))
  else ((loopW (fun s => b_X2_goStraight_9_2 v1_2 s.1 s.2) ((0 : Int32), M)).bind (fun r => j_X2_goStraight_94_2 v1_2 r))
set_option maxRecDepth 100000 in
theorem b_X2_goStraight_2_ok {C : zC} {d : Nat} {g : zG} {l : Launch} {w : zW} {r : zM} {v1_2 : Int32} (hB : bOK C cX2_goStraight 5 RX2 d g l w true) (hd : 3 ≤ d) (M : zM) (hR : RtV C cX2_goStraight w r) : Sg C w (0, 0) 2 [(0, zr w 87), (1, .int v1_2)] [] M (b_X2_goStraight_2 v1_2 M) (fun o => Sum.elim (fun (s : (Int32 × zM)) => Zs C w (0, 0) 2 [(0, zr w 87), (1, .int s.1)] [] s.2) (fun (s : (zM)) => Zs C w (0, 0) 100 [] [] s) o) := by
  have hC := hB.1.1
  have hq1 : 1 ≤ d := by omega
  unfold b_X2_goStraight_2
  refine x_iload_n hC dX2_goStraight_2 rfl 1 rfl ?_
  refine x_iconst (v := (4 : Int32)) hC dX2_goStraight_3 ki_4 ?_
  refine x_icmp_ge (tgt := 100) hC dX2_goStraight_4 (by decide) ?_ ?_
  · refine x_sub [] rfl ?_
    exact x_done (fun h => h)
  · refine x_iconst (v := (0 : Int32)) hC dX2_goStraight_7 ki_0 ?_
    refine x_istore_n hC dX2_goStraight_8 rfl [(2, .int (0 : Int32)), (0, zr w 87), (1, .int v1_2)] (by decide) rfl ?_
    refine x_sub [1, 2, 0] rfl ?_
    refine x_loopB (pc2 := 94) (fun (s : (Int32 × zM)) => [(0, zr w 87), (1, .int v1_2), (2, .int s.1)]) (fun (s : (Int32 × zM)) => s.2) (fun (s : (zM)) => [(0, zr w 87), (1, .int v1_2)]) (fun (s : (zM)) => s) ((0 : Int32), M) ?_ ?_
    · exact fun s => b_X2_goStraight_9_2_ok hB hd s.2 hR
    · intro r9
      exact j_X2_goStraight_94_2_ok hB hd r9 hR
noncomputable def j_X2_goStraight_100 (M : zM) : Option (zM) :=
  some M
set_option maxRecDepth 100000 in
theorem j_X2_goStraight_100_ok {C : zC} {d : Nat} {g : zG} {l : Launch} {w : zW} {r : zM} (hB : bOK C cX2_goStraight 5 RX2 d g l w true) (hd : 3 ≤ d) (M : zM) (hR : RtV C cX2_goStraight w r) : Sg C w (0, 0) 100 [] [] M (j_X2_goStraight_100 M) (fun q => q = r) := by
  have hC := hB.1.1
  have hq1 : 1 ≤ d := by omega
  unfold j_X2_goStraight_100
  exact r_retV hR dX2_goStraight_100 (fun h => h)
noncomputable def f_X2_goStraight (M : zM) : Option (zM) :=
  (loopW (fun s => b_X2_goStraight_2 s.1 s.2) ((0 : Int32), M)).bind (fun r => j_X2_goStraight_100 r)
set_option maxRecDepth 100000 in
theorem f_X2_goStraight_ok {C : zC} {d : Nat} {g : zG} {l : Launch} {w : zW} {r : zM} (hB : bOK C cX2_goStraight 5 RX2 d g l w true) (hd : 3 ≤ d) (M : zM) (hR : RtV C cX2_goStraight w r) : Sg C w (0, 0) 0 [(0, zr w 87)] [] M (f_X2_goStraight M) (fun q => q = r) := by
  have hC := hB.1.1
  have hq1 : 1 ≤ d := by omega
  unfold f_X2_goStraight
  refine x_iconst (v := (0 : Int32)) hC dX2_goStraight_0 ki_0 ?_
  refine x_istore_n hC dX2_goStraight_1 rfl [(1, .int (0 : Int32)), (0, zr w 87)] (by decide) rfl ?_
  refine x_sub [1, 0] rfl ?_
  refine x_loopB (pc2 := 100) (fun (s : (Int32 × zM)) => [(0, zr w 87), (1, .int s.1)]) (fun (s : (Int32 × zM)) => s.2) (fun (s : (zM)) => []) (fun (s : (zM)) => s) ((0 : Int32), M) ?_ ?_
  · exact fun s => b_X2_goStraight_2_ok hB hd s.2 hR
  · intro r9
    exact j_X2_goStraight_100_ok hB hd r9 hR
theorem f_X2_goStraight_met {l : Launch} {d : Nat} {g : zG} {w : zW} {M0 : zM} {M : zM} (hw : wS w) (hd : 3 ≤ d) {M' : zM} (h : f_X2_goStraight M = some M') : zMet l yX2_goStraight cX2_goStraight 5 none d g w (zin true) M0 [zr w 87] M none M' :=
  met_v (by decide +kernel) (Nat.le_of_ble_eq_true rfl) (fun C hB0 hR => f_X2_goStraight_ok ⟨hB0, hw⟩ hd M hR _ h rfl)
/-! WindingSquare$Grid.turnEverywhere(I)V -/
noncomputable def b_X2_turnEverywhere_2 (v1_2 : Int32) (v2_2 : Int32) (M : zM) : Option ((Int32 × zM) ⊕ (zM)) :=
  if (144 : Int32) ≤ v2_2 then (some (.inr M))
  else ((f_X2_turnAt v2_2 v1_2 M).bind fun M12_2 =>
  some (.inl ((v2_2 + (1 : Int32)), M12_2)))
set_option maxRecDepth 100000 in
theorem b_X2_turnEverywhere_2_ok {C : zC} {d : Nat} {g : zG} {l : Launch} {w : zW} {r : zM} {v1_2 : Int32} {v2_2 : Int32} (hB : bOK C cX2_turnEverywhere 3 RX2 d g l w true) (hd : 3 ≤ d) (M : zM) (hR : RtV C cX2_turnEverywhere w r) : Sg C w (0, 0) 2 [(0, zr w 87), (1, .int v1_2), (2, .int v2_2)] [] M (b_X2_turnEverywhere_2 v1_2 v2_2 M) (fun o => Sum.elim (fun (s : (Int32 × zM)) => Zs C w (0, 0) 2 [(0, zr w 87), (1, .int v1_2), (2, .int s.1)] [] s.2) (fun (s : (zM)) => Zs C w (0, 0) 21 [] [] s) o) := by
  have hC := hB.1.1
  have hq1 : 1 ≤ d := by omega
  unfold b_X2_turnEverywhere_2
  refine x_iload_n hC dX2_turnEverywhere_2 rfl 2 rfl ?_
  refine x_sipush (v := (144 : Int32)) hC dX2_turnEverywhere_3 kh_144 ?_
  refine x_icmp_ge (tgt := 21) hC dX2_turnEverywhere_6 (by decide) ?_ ?_
  · refine x_sub [] rfl ?_
    exact x_done (fun h => h)
  · refine x_aload_n hC dX2_turnEverywhere_9 rfl 0 rfl ?_
    refine x_iload_n hC dX2_turnEverywhere_10 rfl 2 rfl ?_
    refine x_iload_n hC dX2_turnEverywhere_11 rfl 1 rfl ?_
    refine r_cVv (as := [.int v2_2, .int v1_2]) (rest := []) hB dX2_turnEverywhere_12 kv_X2_109 th_87 hq1 rfl rfl (Nat.le_of_ble_eq_true rfl) (fun M' hv => f_X2_turnAt_met hB.2 (by omega) hv) (fun M12_2 => ?_)
    refine x_iinc hC dX2_turnEverywhere_15 ki_1 [(2, .int (v2_2 + (1 : Int32))), (0, zr w 87), (1, .int v1_2)] 2 rfl (by decide) rfl ?_
    refine x_goto (tgt := 2) hC dX2_turnEverywhere_18 (by decide) ?_
    refine x_sub [1, 2, 0] rfl ?_
    exact x_done (fun h => h)
noncomputable def j_X2_turnEverywhere_21 (M : zM) : Option (zM) :=
  some M
set_option maxRecDepth 100000 in
theorem j_X2_turnEverywhere_21_ok {C : zC} {d : Nat} {g : zG} {l : Launch} {w : zW} {r : zM} (hB : bOK C cX2_turnEverywhere 3 RX2 d g l w true) (hd : 3 ≤ d) (M : zM) (hR : RtV C cX2_turnEverywhere w r) : Sg C w (0, 0) 21 [] [] M (j_X2_turnEverywhere_21 M) (fun q => q = r) := by
  have hC := hB.1.1
  have hq1 : 1 ≤ d := by omega
  unfold j_X2_turnEverywhere_21
  exact r_retV hR dX2_turnEverywhere_21 (fun h => h)
noncomputable def f_X2_turnEverywhere (p1 : Int32) (M : zM) : Option (zM) :=
  (loopW (fun s => b_X2_turnEverywhere_2 p1 s.1 s.2) ((0 : Int32), M)).bind (fun r => j_X2_turnEverywhere_21 r)
set_option maxRecDepth 100000 in
theorem f_X2_turnEverywhere_ok {C : zC} {d : Nat} {g : zG} {l : Launch} {w : zW} {r : zM} {p1 : Int32} (hB : bOK C cX2_turnEverywhere 3 RX2 d g l w true) (hd : 3 ≤ d) (M : zM) (hR : RtV C cX2_turnEverywhere w r) : Sg C w (0, 0) 0 [(0, zr w 87), (1, .int p1)] [] M (f_X2_turnEverywhere p1 M) (fun q => q = r) := by
  have hC := hB.1.1
  have hq1 : 1 ≤ d := by omega
  unfold f_X2_turnEverywhere
  refine x_iconst (v := (0 : Int32)) hC dX2_turnEverywhere_0 ki_0 ?_
  refine x_istore_n hC dX2_turnEverywhere_1 rfl [(2, .int (0 : Int32)), (0, zr w 87), (1, .int p1)] (by decide) rfl ?_
  refine x_sub [1, 2, 0] rfl ?_
  refine x_loopB (pc2 := 21) (fun (s : (Int32 × zM)) => [(0, zr w 87), (1, .int p1), (2, .int s.1)]) (fun (s : (Int32 × zM)) => s.2) (fun (s : (zM)) => []) (fun (s : (zM)) => s) ((0 : Int32), M) ?_ ?_
  · exact fun s => b_X2_turnEverywhere_2_ok hB hd s.2 hR
  · intro r9
    exact j_X2_turnEverywhere_21_ok hB hd r9 hR
theorem f_X2_turnEverywhere_met {l : Launch} {d : Nat} {g : zG} {w : zW} {M0 : zM} {p1 : Int32} {M : zM} (hw : wS w) (hd : 3 ≤ d) {M' : zM} (h : f_X2_turnEverywhere p1 M = some M') : zMet l yX2_turnEverywhere cX2_turnEverywhere 3 none d g w (zin true) M0 [zr w 87, .int p1] M none M' :=
  met_v (by decide +kernel) (Nat.le_of_ble_eq_true rfl) (fun C hB0 hR => f_X2_turnEverywhere_ok ⟨hB0, hw⟩ hd M hR _ h rfl)
/-! WindingSquare$Grid.stepOn(I)V -/
noncomputable def j_X2_stepOn_74_10 (v1_10 : Int32) (v2_74_10 : Int32) (M : zM) : Option ((Int32 × zM) ⊕ (zM)) :=
  some (.inl ((v2_74_10 + (1 : Int32)), M))
set_option maxRecDepth 100000 in
theorem j_X2_stepOn_74_10_ok {C : zC} {d : Nat} {g : zG} {l : Launch} {w : zW} {r : zM} {v1_10 : Int32} {v2_74_10 : Int32} (hB : bOK C cX2_stepOn 4 RX2 d g l w true) (hd : 3 ≤ d) (M : zM) (hR : RtV C cX2_stepOn w r) : Sg C w (0, 0) 74 [(0, zr w 87), (1, .int v1_10), (2, .int v2_74_10)] [] M (j_X2_stepOn_74_10 v1_10 v2_74_10 M) (fun o => Sum.elim (fun (s : (Int32 × zM)) => Zs C w (0, 0) 10 [(0, zr w 87), (1, .int v1_10), (2, .int s.1)] [] s.2) (fun (s : (zM)) => Zs C w (0, 0) 80 [] [] s) o) := by
  have hC := hB.1.1
  have hq1 : 1 ≤ d := by omega
  unfold j_X2_stepOn_74_10
  refine x_iinc hC dX2_stepOn_74 ki_1 [(2, .int (v2_74_10 + (1 : Int32))), (0, zr w 87), (1, .int v1_10)] 2 rfl (by decide) rfl ?_
  refine x_goto (tgt := 10) hC dX2_stepOn_77 (by decide) ?_
  refine x_sub [1, 2, 0] rfl ?_
  exact x_done (fun h => h)
noncomputable def b_X2_stepOn_10 (v1_10 : Int32) (v2_10 : Int32) (M : zM) : Option ((Int32 × zM) ⊕ (zM)) :=
  if ((576 : Int32) * (v1_10 + (1 : Int32))) ≤ v2_10 then (some (.inr M))
  else (grd (inb v2_10 4032) (
  if (M 91 (ix v2_10)) = 0 then (j_X2_stepOn_74_10 v1_10 v2_10 M)
  else ((f_X2_onward (irem v2_10 (144 : Int32)) ((irem v2_10 (576 : Int32)) / (144 : Int32)) M).bind fun u45_10 =>
  if u45_10 = (-1 : Int32) then (j_X2_stepOn_74_10 v1_10 v2_10 M)
  else (grd (inb v2_10 4032) (
  grd (inb ((v2_10 - (irem v2_10 (144 : Int32))) + u45_10) 4032) (
  nm (mset M 92 (ix ((v2_10 - (irem v2_10 (144 : Int32))) + u45_10)) (M 91 (ix v2_10))) fun M73_10 =>
  j_X2_stepOn_74_10 v1_10 v2_10 M73_10))))))
set_option maxRecDepth 100000 in
theorem b_X2_stepOn_10_ok {C : zC} {d : Nat} {g : zG} {l : Launch} {w : zW} {r : zM} {v1_10 : Int32} {v2_10 : Int32} (hB : bOK C cX2_stepOn 4 RX2 d g l w true) (hd : 3 ≤ d) (M : zM) (hR : RtV C cX2_stepOn w r) : Sg C w (0, 0) 10 [(0, zr w 87), (1, .int v1_10), (2, .int v2_10)] [] M (b_X2_stepOn_10 v1_10 v2_10 M) (fun o => Sum.elim (fun (s : (Int32 × zM)) => Zs C w (0, 0) 10 [(0, zr w 87), (1, .int v1_10), (2, .int s.1)] [] s.2) (fun (s : (zM)) => Zs C w (0, 0) 80 [] [] s) o) := by
  have hC := hB.1.1
  have hq1 : 1 ≤ d := by omega
  unfold b_X2_stepOn_10
  refine x_iload_n hC dX2_stepOn_10 rfl 2 rfl ?_
  refine x_sipush (v := (576 : Int32)) hC dX2_stepOn_11 kh_576 ?_
  refine x_iload_n hC dX2_stepOn_14 rfl 1 rfl ?_
  refine x_iconst (v := (1 : Int32)) hC dX2_stepOn_15 ki_1 ?_
  refine x_iadd hC dX2_stepOn_16 ?_
  refine x_imul hC dX2_stepOn_17 ?_
  refine x_icmp_ge (tgt := 80) hC dX2_stepOn_18 (by decide) ?_ ?_
  · refine x_sub [] rfl ?_
    exact x_done (fun h => h)
  · refine x_aload_n hC dX2_stepOn_21 rfl 0 rfl ?_
    refine r_getR hB dX2_stepOn_22 kf_X2_21 rfl th_87 rf_87_4 ?_
    refine x_iload_n hC dX2_stepOn_25 rfl 2 rfl ?_
    refine r_iald hB dX2_stepOn_26 th_91 ?_
    refine x_if_eq (tgt := 74) hC dX2_stepOn_27 (by decide) ?_ ?_
    · exact j_X2_stepOn_74_10_ok hB hd M hR
    · refine x_aload_n hC dX2_stepOn_30 rfl 0 rfl ?_
      refine x_iload_n hC dX2_stepOn_31 rfl 2 rfl ?_
      refine x_sipush (v := (144 : Int32)) hC dX2_stepOn_32 kh_144 ?_
      refine x_irem0 hC dX2_stepOn_35 nz_144 ?_
      refine x_iload_n hC dX2_stepOn_36 rfl 2 rfl ?_
      refine x_sipush (v := (576 : Int32)) hC dX2_stepOn_37 kh_576 ?_
      refine x_irem0 hC dX2_stepOn_40 nz_576 ?_
      refine x_sipush (v := (144 : Int32)) hC dX2_stepOn_41 kh_144 ?_
      refine x_idiv0 hC dX2_stepOn_44 nz_144 ?_
      refine r_cV1 (as := [.int (irem v2_10 (144 : Int32)), .int ((irem v2_10 (576 : Int32)) / (144 : Int32))]) (rest := []) hB dX2_stepOn_45 kv_X2_91 th_87 hq1 rfl rfl (Nat.le_of_ble_eq_true rfl) (fun v hv => f_X2_onward_met hB.2 (by omega) hv) (fun u45_10 => ?_)
      refine x_istore_n hC dX2_stepOn_48 rfl [(3, .int u45_10), (0, zr w 87), (1, .int v1_10), (2, .int v2_10)] (by decide) rfl ?_
      refine x_iload_n hC dX2_stepOn_49 rfl 0 rfl ?_
      refine x_iconst (v := (-1 : Int32)) hC dX2_stepOn_50 ki_m1 ?_
      refine x_icmp_eq (tgt := 74) hC dX2_stepOn_51 (by decide) ?_ ?_
      · refine x_sub [1, 2, 3] rfl ?_
        exact j_X2_stepOn_74_10_ok hB hd M hR
      · refine x_aload_n hC dX2_stepOn_54 rfl 1 rfl ?_
        refine r_getR hB dX2_stepOn_55 kf_X2_24 rfl th_87 rf_87_5 ?_
        refine x_iload_n hC dX2_stepOn_58 rfl 3 rfl ?_
        refine x_iload_n hC dX2_stepOn_59 rfl 3 rfl ?_
        refine x_sipush (v := (144 : Int32)) hC dX2_stepOn_60 kh_144 ?_
        refine x_irem0 hC dX2_stepOn_63 nz_144 ?_
        refine x_isub hC dX2_stepOn_64 ?_
        refine x_iload_n hC dX2_stepOn_65 rfl 0 rfl ?_
        refine x_iadd hC dX2_stepOn_66 ?_
        refine x_aload_n hC dX2_stepOn_67 rfl 1 rfl ?_
        refine r_getR hB dX2_stepOn_68 kf_X2_21 rfl th_87 rf_87_4 ?_
        refine x_iload_n hC dX2_stepOn_71 rfl 3 rfl ?_
        refine r_iald hB dX2_stepOn_72 th_91 ?_
        refine r_iast hB dX2_stepOn_73 th_92 ?_
        refine x_mem (fun M73_10 => ?_)
        refine x_sub [1, 2, 3] rfl ?_
        exact j_X2_stepOn_74_10_ok hB hd M73_10 hR
noncomputable def j_X2_stepOn_80 (M : zM) : Option (zM) :=
  some M
set_option maxRecDepth 100000 in
theorem j_X2_stepOn_80_ok {C : zC} {d : Nat} {g : zG} {l : Launch} {w : zW} {r : zM} (hB : bOK C cX2_stepOn 4 RX2 d g l w true) (hd : 3 ≤ d) (M : zM) (hR : RtV C cX2_stepOn w r) : Sg C w (0, 0) 80 [] [] M (j_X2_stepOn_80 M) (fun q => q = r) := by
  have hC := hB.1.1
  have hq1 : 1 ≤ d := by omega
  unfold j_X2_stepOn_80
  exact r_retV hR dX2_stepOn_80 (fun h => h)
noncomputable def f_X2_stepOn (p1 : Int32) (M : zM) : Option (zM) :=
  (f_J7_fill_53178 92 (0 : Int32) M).bind fun M5 =>
  (loopW (fun s => b_X2_stepOn_10 p1 s.1 s.2) ((0 : Int32), M5)).bind (fun r => j_X2_stepOn_80 r)
set_option maxRecDepth 100000 in
theorem f_X2_stepOn_ok {C : zC} {d : Nat} {g : zG} {l : Launch} {w : zW} {r : zM} {p1 : Int32} (hB : bOK C cX2_stepOn 4 RX2 d g l w true) (hd : 3 ≤ d) (M : zM) (hR : RtV C cX2_stepOn w r) : Sg C w (0, 0) 0 [(0, zr w 87), (1, .int p1)] [] M (f_X2_stepOn p1 M) (fun q => q = r) := by
  have hC := hB.1.1
  have hq1 : 1 ≤ d := by omega
  unfold f_X2_stepOn
  refine x_aload_n hC dX2_stepOn_0 rfl 0 rfl ?_
  refine r_getR hB dX2_stepOn_1 kf_X2_24 rfl th_87 rf_87_5 ?_
  refine x_iconst (v := (0 : Int32)) hC dX2_stepOn_4 ki_0 ?_
  refine r_cSv (as := [zr w 92, .int (0 : Int32)]) (rest := []) hB dX2_stepOn_5 ks_X2_40 hq1 rfl rfl (Nat.le_of_ble_eq_true rfl) (fun M' hv => f_J7_fill_53178_met hB.2 (tA.toI th_92) (by omega) hv) (fun M5 => ?_)
  refine x_iconst (v := (0 : Int32)) hC dX2_stepOn_8 ki_0 ?_
  refine x_istore_n hC dX2_stepOn_9 rfl [(2, .int (0 : Int32)), (0, zr w 87), (1, .int p1)] (by decide) rfl ?_
  refine x_sub [1, 2, 0] rfl ?_
  refine x_loopB (pc2 := 80) (fun (s : (Int32 × zM)) => [(0, zr w 87), (1, .int p1), (2, .int s.1)]) (fun (s : (Int32 × zM)) => s.2) (fun (s : (zM)) => []) (fun (s : (zM)) => s) ((0 : Int32), M5) ?_ ?_
  · exact fun s => b_X2_stepOn_10_ok hB hd s.2 hR
  · intro r9
    exact j_X2_stepOn_80_ok hB hd r9 hR
theorem f_X2_stepOn_met {l : Launch} {d : Nat} {g : zG} {w : zW} {M0 : zM} {p1 : Int32} {M : zM} (hw : wS w) (hd : 3 ≤ d) {M' : zM} (h : f_X2_stepOn p1 M = some M') : zMet l yX2_stepOn cX2_stepOn 4 none d g w (zin true) M0 [zr w 87, .int p1] M none M' :=
  met_v (by decide +kernel) (Nat.le_of_ble_eq_true rfl) (fun C hB0 hR => f_X2_stepOn_ok ⟨hB0, hw⟩ hd M hR _ h rfl)
/-! WindingSquare$Grid.flockFrom(I)I -/
noncomputable def j_X2_flockFrom_89_18_26 (v2_89_18_26 : Int32) (v3_26_18 : Int32) (v4_89_18_26 : Int32) (M : zM) : Option ((Int32 × Int32 × zM) ⊕ (Int32 × zM)) :=
  some (.inl (v2_89_18_26, (v4_89_18_26 + (1 : Int32)), M))
set_option maxRecDepth 100000 in
theorem j_X2_flockFrom_89_18_26_ok {C : zC} {d : Nat} {g : zG} {l : Launch} {w : zW} {r : Int32 × zM} {v3_26_18 : Int32} {v2_89_18_26 : Int32} {v4_89_18_26 : Int32} (hB : bOK C cX2_flockFrom 6 RX2 d g l w true) (hd : 3 ≤ d) (M : zM) (hR : RtI C cX2_flockFrom w r.1 r.2) : Sg C w (0, 0) 89 [(0, zr w 87), (2, .int v2_89_18_26), (3, .int v3_26_18), (4, .int v4_89_18_26)] [] M (j_X2_flockFrom_89_18_26 v2_89_18_26 v3_26_18 v4_89_18_26 M) (fun o => Sum.elim (fun (s : (Int32 × Int32 × zM)) => Zs C w (0, 0) 26 [(0, zr w 87), (2, .int s.1), (3, .int v3_26_18), (4, .int s.2.1)] [] s.2.2) (fun (s : (Int32 × zM)) => Zs C w (0, 0) 95 [(0, zr w 87), (2, .int s.1), (3, .int v3_26_18)] [] s.2) o) := by
  have hC := hB.1.1
  have hq1 : 1 ≤ d := by omega
  unfold j_X2_flockFrom_89_18_26
  refine x_iinc hC dX2_flockFrom_89 ki_1 [(4, .int (v4_89_18_26 + (1 : Int32))), (0, zr w 87), (2, .int v2_89_18_26), (3, .int v3_26_18)] 3 rfl (by decide) rfl ?_
  refine x_goto (tgt := 26) hC dX2_flockFrom_92 (by decide) ?_
  refine x_sub [1, 2, 3, 0] rfl ?_
  exact x_done (fun h => h)
noncomputable def b_X2_flockFrom_26_18 (v3_26_18 : Int32) (v2_26_18 : Int32) (v4_26_18 : Int32) (M : zM) : Option ((Int32 × Int32 × zM) ⊕ (Int32 × zM)) :=
  if (4 : Int32) ≤ v4_26_18 then (some (.inr (v2_26_18, M)))
  else (grd (inb v3_26_18 576) (
  (f_X2_onward (M 90 (ix v3_26_18)) v4_26_18 M).bind fun u41_18_26 =>
  if u41_18_26 = (-1 : Int32) then (j_X2_flockFrom_89_18_26 v2_26_18 v3_26_18 v4_26_18 M)
  else (grd (inb u41_18_26 576) (
  if (M 88 (ix u41_18_26)) = (-1 : Int32) then (if (576 : Int32) ≤ v2_26_18 then (j_X2_flockFrom_89_18_26 v2_26_18 v3_26_18 v4_26_18 M)
  else (grd (inb u41_18_26 576) (
  nm (mset M 88 (ix u41_18_26) (0 : Int32)) fun M77_18_26 =>
  grd (inb v2_26_18 576) (
  nm (mset M77_18_26 90 (ix v2_26_18) u41_18_26) fun M85_18_26 =>
  j_X2_flockFrom_89_18_26 (v2_26_18 + (1 : Int32)) v3_26_18 v4_26_18 M85_18_26))))
  else (j_X2_flockFrom_89_18_26 v2_26_18 v3_26_18 v4_26_18 M)))))
set_option maxRecDepth 100000 in
theorem b_X2_flockFrom_26_18_ok {C : zC} {d : Nat} {g : zG} {l : Launch} {w : zW} {r : Int32 × zM} {v3_26_18 : Int32} {v2_26_18 : Int32} {v4_26_18 : Int32} (hB : bOK C cX2_flockFrom 6 RX2 d g l w true) (hd : 3 ≤ d) (M : zM) (hR : RtI C cX2_flockFrom w r.1 r.2) : Sg C w (0, 0) 26 [(0, zr w 87), (2, .int v2_26_18), (3, .int v3_26_18), (4, .int v4_26_18)] [] M (b_X2_flockFrom_26_18 v3_26_18 v2_26_18 v4_26_18 M) (fun o => Sum.elim (fun (s : (Int32 × Int32 × zM)) => Zs C w (0, 0) 26 [(0, zr w 87), (2, .int s.1), (3, .int v3_26_18), (4, .int s.2.1)] [] s.2.2) (fun (s : (Int32 × zM)) => Zs C w (0, 0) 95 [(0, zr w 87), (2, .int s.1), (3, .int v3_26_18)] [] s.2) o) := by
  have hC := hB.1.1
  have hq1 : 1 ≤ d := by omega
  unfold b_X2_flockFrom_26_18
  refine x_iload hC dX2_flockFrom_26 3 rfl ?_
  refine x_iconst (v := (4 : Int32)) hC dX2_flockFrom_28 ki_4 ?_
  refine x_icmp_ge (tgt := 95) hC dX2_flockFrom_29 (by decide) ?_ ?_
  · refine x_sub [0, 1, 2] rfl ?_
    exact x_done (fun h => h)
  · refine x_aload_n hC dX2_flockFrom_32 rfl 0 rfl ?_
    refine x_aload_n hC dX2_flockFrom_33 rfl 0 rfl ?_
    refine r_getR hB dX2_flockFrom_34 kf_X2_18 rfl th_87 rf_87_3 ?_
    refine x_iload_n hC dX2_flockFrom_37 rfl 2 rfl ?_
    refine r_iald hB dX2_flockFrom_38 th_90 ?_
    refine x_iload hC dX2_flockFrom_39 3 rfl ?_
    refine r_cV1 (as := [.int (M 90 (ix v3_26_18)), .int v4_26_18]) (rest := []) hB dX2_flockFrom_41 kv_X2_91 th_87 hq1 rfl rfl (Nat.le_of_ble_eq_true rfl) (fun v hv => f_X2_onward_met hB.2 (by omega) hv) (fun u41_18_26 => ?_)
    refine x_istore (f := 0) hC dX2_flockFrom_44 [(5, .int u41_18_26), (0, zr w 87), (2, .int v2_26_18), (3, .int v3_26_18), (4, .int v4_26_18)] (by decide) rfl ?_
    refine x_iload hC dX2_flockFrom_46 0 rfl ?_
    refine x_iconst (v := (-1 : Int32)) hC dX2_flockFrom_48 ki_m1 ?_
    refine x_icmp_eq (tgt := 89) hC dX2_flockFrom_49 (by decide) ?_ ?_
    · refine x_sub [1, 2, 3, 4] rfl ?_
      exact j_X2_flockFrom_89_18_26_ok hB hd M hR
    · refine x_aload_n hC dX2_flockFrom_52 rfl 1 rfl ?_
      refine r_getR hB dX2_flockFrom_53 kf_X2_11 rfl th_87 rf_87_1 ?_
      refine x_iload hC dX2_flockFrom_56 0 rfl ?_
      refine r_iald hB dX2_flockFrom_58 th_88 ?_
      refine x_iconst (v := (-1 : Int32)) hC dX2_flockFrom_59 ki_m1 ?_
      refine x_icmp_ne (tgt := 89) hC dX2_flockFrom_60 (by decide) ?_ ?_
      · refine x_iload_n hC dX2_flockFrom_63 rfl 2 rfl ?_
        refine x_sipush (v := (576 : Int32)) hC dX2_flockFrom_64 kh_576 ?_
        refine x_icmp_ge (tgt := 89) hC dX2_flockFrom_67 (by decide) ?_ ?_
        · refine x_sub [1, 2, 3, 4] rfl ?_
          exact j_X2_flockFrom_89_18_26_ok hB hd M hR
        · refine x_aload_n hC dX2_flockFrom_70 rfl 1 rfl ?_
          refine r_getR hB dX2_flockFrom_71 kf_X2_11 rfl th_87 rf_87_1 ?_
          refine x_iload hC dX2_flockFrom_74 0 rfl ?_
          refine x_iconst (v := (0 : Int32)) hC dX2_flockFrom_76 ki_0 ?_
          refine r_iast hB dX2_flockFrom_77 th_88 ?_
          refine x_mem (fun M77_18_26 => ?_)
          refine x_aload_n hC dX2_flockFrom_78 rfl 1 rfl ?_
          refine r_getR hB dX2_flockFrom_79 kf_X2_18 rfl th_87 rf_87_3 ?_
          refine x_iload_n hC dX2_flockFrom_82 rfl 2 rfl ?_
          refine x_iload hC dX2_flockFrom_83 0 rfl ?_
          refine r_iast hB dX2_flockFrom_85 th_90 ?_
          refine x_mem (fun M85_18_26 => ?_)
          refine x_iinc hC dX2_flockFrom_86 ki_1 [(2, .int (v2_26_18 + (1 : Int32))), (5, .int u41_18_26), (0, zr w 87), (3, .int v3_26_18), (4, .int v4_26_18)] 2 rfl (by decide) rfl ?_
          refine x_sub [2, 0, 3, 4] rfl ?_
          exact j_X2_flockFrom_89_18_26_ok hB hd M85_18_26 hR
      · refine x_sub [1, 2, 3, 4] rfl ?_
        exact j_X2_flockFrom_89_18_26_ok hB hd M hR
noncomputable def j_X2_flockFrom_95_18 (v2_95_18 : Int32) (v3_95_18 : Int32) (M : zM) : Option ((Int32 × Int32 × zM) ⊕ (Int32 × zM)) :=
  some (.inl (v2_95_18, (v3_95_18 + (1 : Int32)), M))
set_option maxRecDepth 100000 in
theorem j_X2_flockFrom_95_18_ok {C : zC} {d : Nat} {g : zG} {l : Launch} {w : zW} {r : Int32 × zM} {v2_95_18 : Int32} {v3_95_18 : Int32} (hB : bOK C cX2_flockFrom 6 RX2 d g l w true) (hd : 3 ≤ d) (M : zM) (hR : RtI C cX2_flockFrom w r.1 r.2) : Sg C w (0, 0) 95 [(0, zr w 87), (2, .int v2_95_18), (3, .int v3_95_18)] [] M (j_X2_flockFrom_95_18 v2_95_18 v3_95_18 M) (fun o => Sum.elim (fun (s : (Int32 × Int32 × zM)) => Zs C w (0, 0) 18 [(0, zr w 87), (2, .int s.1), (3, .int s.2.1)] [] s.2.2) (fun (s : (Int32 × zM)) => Zs C w (0, 0) 101 [(2, .int s.1)] [] s.2) o) := by
  have hC := hB.1.1
  have hq1 : 1 ≤ d := by omega
  unfold j_X2_flockFrom_95_18
  refine x_iinc hC dX2_flockFrom_95 ki_1 [(3, .int (v3_95_18 + (1 : Int32))), (0, zr w 87), (2, .int v2_95_18)] 2 rfl (by decide) rfl ?_
  refine x_goto (tgt := 18) hC dX2_flockFrom_98 (by decide) ?_
  refine x_sub [1, 2, 0] rfl ?_
  exact x_done (fun h => h)
noncomputable def b_X2_flockFrom_18 (v2_18 : Int32) (v3_18 : Int32) (M : zM) : Option ((Int32 × Int32 × zM) ⊕ (Int32 × zM)) :=
  if v2_18 ≤ v3_18 then (some (.inr (v2_18, M)))
  else ((loopW (fun s => b_X2_flockFrom_26_18 v3_18 s.1 s.2.1 s.2.2) (v2_18, (0 : Int32), M)).bind (fun r => j_X2_flockFrom_95_18 r.1 v3_18 r.2))
set_option maxRecDepth 100000 in
theorem b_X2_flockFrom_18_ok {C : zC} {d : Nat} {g : zG} {l : Launch} {w : zW} {r : Int32 × zM} {v2_18 : Int32} {v3_18 : Int32} (hB : bOK C cX2_flockFrom 6 RX2 d g l w true) (hd : 3 ≤ d) (M : zM) (hR : RtI C cX2_flockFrom w r.1 r.2) : Sg C w (0, 0) 18 [(0, zr w 87), (2, .int v2_18), (3, .int v3_18)] [] M (b_X2_flockFrom_18 v2_18 v3_18 M) (fun o => Sum.elim (fun (s : (Int32 × Int32 × zM)) => Zs C w (0, 0) 18 [(0, zr w 87), (2, .int s.1), (3, .int s.2.1)] [] s.2.2) (fun (s : (Int32 × zM)) => Zs C w (0, 0) 101 [(2, .int s.1)] [] s.2) o) := by
  have hC := hB.1.1
  have hq1 : 1 ≤ d := by omega
  unfold b_X2_flockFrom_18
  refine x_iload_n hC dX2_flockFrom_18 rfl 2 rfl ?_
  refine x_iload_n hC dX2_flockFrom_19 rfl 1 rfl ?_
  refine x_icmp_ge (tgt := 101) hC dX2_flockFrom_20 (by decide) ?_ ?_
  · refine x_sub [1] rfl ?_
    exact x_done (fun h => h)
  · refine x_iconst (v := (0 : Int32)) hC dX2_flockFrom_23 ki_0 ?_
    refine x_istore (f := 0) hC dX2_flockFrom_24 [(4, .int (0 : Int32)), (0, zr w 87), (2, .int v2_18), (3, .int v3_18)] (by decide) rfl ?_
    refine x_sub [1, 2, 3, 0] rfl ?_
    refine x_loopB (pc2 := 95) (fun (s : (Int32 × Int32 × zM)) => [(0, zr w 87), (2, .int s.1), (3, .int v3_18), (4, .int s.2.1)]) (fun (s : (Int32 × Int32 × zM)) => s.2.2) (fun (s : (Int32 × zM)) => [(0, zr w 87), (2, .int s.1), (3, .int v3_18)]) (fun (s : (Int32 × zM)) => s.2) (v2_18, (0 : Int32), M) ?_ ?_
    · exact fun s => b_X2_flockFrom_26_18_ok hB hd s.2.2 hR
    · intro r9
      exact j_X2_flockFrom_95_18_ok hB hd r9.2 hR
noncomputable def j_X2_flockFrom_101 (v2_101 : Int32) (M : zM) : Option (Int32 × zM) :=
  some (v2_101, M)
set_option maxRecDepth 100000 in
theorem j_X2_flockFrom_101_ok {C : zC} {d : Nat} {g : zG} {l : Launch} {w : zW} {r : Int32 × zM} {v2_101 : Int32} (hB : bOK C cX2_flockFrom 6 RX2 d g l w true) (hd : 3 ≤ d) (M : zM) (hR : RtI C cX2_flockFrom w r.1 r.2) : Sg C w (0, 0) 101 [(2, .int v2_101)] [] M (j_X2_flockFrom_101 v2_101 M) (fun q => q = r) := by
  have hC := hB.1.1
  have hq1 : 1 ≤ d := by omega
  unfold j_X2_flockFrom_101
  refine x_iload_n hC dX2_flockFrom_101 rfl 0 rfl ?_
  exact r_retI hR dX2_flockFrom_102 (fun h => h)
noncomputable def f_X2_flockFrom (p1 : Int32) (M : zM) : Option (Int32 × zM) :=
  grd (inb p1 576) (
  nm (mset M 88 (ix p1) (0 : Int32)) fun M6 =>
  nm (mset M6 90 (ix (0 : Int32)) p1) fun M13 =>
  (loopW (fun s => b_X2_flockFrom_18 s.1 s.2.1 s.2.2) ((1 : Int32), (0 : Int32), M13)).bind (fun r => j_X2_flockFrom_101 r.1 r.2))
set_option maxRecDepth 100000 in
theorem f_X2_flockFrom_ok {C : zC} {d : Nat} {g : zG} {l : Launch} {w : zW} {r : Int32 × zM} {p1 : Int32} (hB : bOK C cX2_flockFrom 6 RX2 d g l w true) (hd : 3 ≤ d) (M : zM) (hR : RtI C cX2_flockFrom w r.1 r.2) : Sg C w (0, 0) 0 [(0, zr w 87), (1, .int p1)] [] M (f_X2_flockFrom p1 M) (fun q => q = r) := by
  have hC := hB.1.1
  have hq1 : 1 ≤ d := by omega
  unfold f_X2_flockFrom
  refine x_aload_n hC dX2_flockFrom_0 rfl 0 rfl ?_
  refine r_getR hB dX2_flockFrom_1 kf_X2_11 rfl th_87 rf_87_1 ?_
  refine x_iload_n hC dX2_flockFrom_4 rfl 1 rfl ?_
  refine x_iconst (v := (0 : Int32)) hC dX2_flockFrom_5 ki_0 ?_
  refine r_iast hB dX2_flockFrom_6 th_88 ?_
  refine x_mem (fun M6 => ?_)
  refine x_aload_n hC dX2_flockFrom_7 rfl 0 rfl ?_
  refine r_getR hB dX2_flockFrom_8 kf_X2_18 rfl th_87 rf_87_3 ?_
  refine x_iconst (v := (0 : Int32)) hC dX2_flockFrom_11 ki_0 ?_
  refine x_iload_n hC dX2_flockFrom_12 rfl 1 rfl ?_
  refine r_iast0 hB dX2_flockFrom_13 th_90 ib_0_576 ?_
  refine x_mem (fun M13 => ?_)
  refine x_iconst (v := (1 : Int32)) hC dX2_flockFrom_14 ki_1 ?_
  refine x_istore_n hC dX2_flockFrom_15 rfl [(2, .int (1 : Int32)), (0, zr w 87), (1, .int p1)] (by decide) rfl ?_
  refine x_iconst (v := (0 : Int32)) hC dX2_flockFrom_16 ki_0 ?_
  refine x_istore_n hC dX2_flockFrom_17 rfl [(3, .int (0 : Int32)), (2, .int (1 : Int32)), (0, zr w 87), (1, .int p1)] (by decide) rfl ?_
  refine x_sub [2, 1, 0] rfl ?_
  refine x_loopB (pc2 := 101) (fun (s : (Int32 × Int32 × zM)) => [(0, zr w 87), (2, .int s.1), (3, .int s.2.1)]) (fun (s : (Int32 × Int32 × zM)) => s.2.2) (fun (s : (Int32 × zM)) => [(2, .int s.1)]) (fun (s : (Int32 × zM)) => s.2) ((1 : Int32), (0 : Int32), M13) ?_ ?_
  · exact fun s => b_X2_flockFrom_18_ok hB hd s.2.2 hR
  · intro r9
    exact j_X2_flockFrom_101_ok hB hd r9.2 hR
theorem f_X2_flockFrom_met {l : Launch} {d : Nat} {g : zG} {w : zW} {M0 : zM} {p1 : Int32} {M : zM} (hw : wS w) (hd : 3 ≤ d) {v : Int32} {M' : zM} (h : f_X2_flockFrom p1 M = some (v, M')) : zMet l yX2_flockFrom cX2_flockFrom 6 (some .int) d g w (zin true) M0 [zr w 87, .int p1] M (some (.int v)) M' :=
  met_i (by decide +kernel) (Nat.le_of_ble_eq_true rfl) rfl (fun C hB0 hR => f_X2_flockFrom_ok (r := (v, M')) ⟨hB0, hw⟩ hd M hR _ h rfl)
/-! WindingSquare$Law.tells(I[I)I -/
noncomputable def j_X3_tells_71_12 (a0 : Nat) (a2 : Nat) (v1_12 : Int32) (v4_71_12 : Int32) (v5_71_12 : Int32) (M : zM) : Option ((Int32 × Int32 × zM) ⊕ ((Int32 × zM) ⊕ (Int32 × zM))) :=
  grd (inb v5_71_12 16) (
  bnd2 (f_X3_run a0 v4_71_12 (M (a0 + 2) (ix v5_71_12)) a2 M) fun u82_12 M82_12 =>
  some (.inr (.inl (u82_12, M82_12))))
set_option maxRecDepth 100000 in
theorem j_X3_tells_71_12_ok {C : zC} {d : Nat} {g : zG} {l : Launch} {w : zW} {r : Int32 × zM} {a0 : Nat} {a2 : Nat} {v1_12 : Int32} {v3_12 : Int32} {v4_71_12 : Int32} {v5_71_12 : Int32} (hB : bOK C cX3_tells 6 RX3 d g l w true) (h0 : tO true 3 a0) (h2 : tA true 10 a2) (hd : 3 ≤ d) (M : zM) (hR : RtI C cX3_tells w r.1 r.2) : Sg C w (0, 0) 71 [(0, zr w a0), (1, .int v1_12), (2, zr w a2), (4, .int v4_71_12), (5, .int v5_71_12)] [] M (j_X3_tells_71_12 a0 a2 v1_12 v4_71_12 v5_71_12 M) (fun o => Sum.elim (fun (s : (Int32 × Int32 × zM)) => Zs C w (0, 0) 12 [(0, zr w a0), (1, .int v1_12), (2, zr w a2), (3, .int v3_12), (4, .int s.1), (5, .int s.2.1)] [] s.2.2) (fun q => Sum.elim (fun (s : (Int32 × zM)) => Zs C w (0, 0) 104 [(1, .int v1_12), (3, .int s.1)] [] s.2) (fun q => q = r) q) o) := by
  have hC := hB.1.1
  have hq1 : 1 ≤ d := by omega
  unfold j_X3_tells_71_12
  refine x_aload_n hC dX3_tells_71 rfl 0 rfl ?_
  refine x_iload hC dX3_tells_72 3 rfl ?_
  refine x_aload_n hC dX3_tells_74 rfl 0 rfl ?_
  refine r_getR hB dX3_tells_75 kf_X3_15 rfl h0 (nv_3_2 h0).1 ?_
  refine x_iload hC dX3_tells_78 4 rfl ?_
  refine r_iald hB dX3_tells_80 (nv_3_2 h0).2 ?_
  refine x_aload_n hC dX3_tells_81 rfl 2 rfl ?_
  refine r_cV2 (as := [.int v4_71_12, .int (M (a0 + 2) (ix v5_71_12)), zr w a2]) (rest := []) hB dX3_tells_82 kv_X3_63 h0 hq1 rfl rfl (Nat.le_of_ble_eq_true rfl) (fun v M' hv => f_X3_run_met hB.2 h0 h2 (by omega) hv) (fun u82_12 M82_12 => ?_)
  refine x_istore_n hC dX3_tells_85 rfl [(3, .int u82_12), (0, zr w a0), (1, .int v1_12), (2, zr w a2), (4, .int v4_71_12), (5, .int v5_71_12)] (by decide) rfl ?_
  refine x_goto (tgt := 104) hC dX3_tells_86 (by decide) ?_
  refine x_sub [2, 0] rfl ?_
  exact x_done (fun h => h)
noncomputable def j_X3_tells_89_12 (a0 : Nat) (a2 : Nat) (v1_12 : Int32) (v3_12 : Int32) (v5_89_12 : Int32) (M : zM) : Option ((Int32 × Int32 × zM) ⊕ ((Int32 × zM) ⊕ (Int32 × zM))) :=
  grd (inb v5_89_12 16) (
  nm (M (a0 + 3) (ix v5_89_12)) fun v4_96_12 =>
  some (.inl (v4_96_12, (v5_89_12 + (1 : Int32)), M)))
set_option maxRecDepth 100000 in
theorem j_X3_tells_89_12_ok {C : zC} {d : Nat} {g : zG} {l : Launch} {w : zW} {r : Int32 × zM} {a0 : Nat} {a2 : Nat} {v1_12 : Int32} {v3_12 : Int32} {v5_89_12 : Int32} (hB : bOK C cX3_tells 6 RX3 d g l w true) (h0 : tO true 3 a0) (h2 : tA true 10 a2) (hd : 3 ≤ d) (M : zM) (hR : RtI C cX3_tells w r.1 r.2) : Sg C w (0, 0) 89 [(0, zr w a0), (1, .int v1_12), (2, zr w a2), (3, .int v3_12), (5, .int v5_89_12)] [] M (j_X3_tells_89_12 a0 a2 v1_12 v3_12 v5_89_12 M) (fun o => Sum.elim (fun (s : (Int32 × Int32 × zM)) => Zs C w (0, 0) 12 [(0, zr w a0), (1, .int v1_12), (2, zr w a2), (3, .int v3_12), (4, .int s.1), (5, .int s.2.1)] [] s.2.2) (fun q => Sum.elim (fun (s : (Int32 × zM)) => Zs C w (0, 0) 104 [(1, .int v1_12), (3, .int s.1)] [] s.2) (fun q => q = r) q) o) := by
  have hC := hB.1.1
  have hq1 : 1 ≤ d := by omega
  unfold j_X3_tells_89_12
  refine x_aload_n hC dX3_tells_89 rfl 0 rfl ?_
  refine r_getR hB dX3_tells_90 kf_X3_18 rfl h0 (nv_3_3 h0).1 ?_
  refine x_iload hC dX3_tells_93 4 rfl ?_
  refine r_iald hB dX3_tells_95 (nv_3_3 h0).2 ?_
  refine x_top (fun v4_96_12 => ?_)
  refine x_istore (f := 0) hC dX3_tells_96 [(4, .int v4_96_12), (0, zr w a0), (1, .int v1_12), (2, zr w a2), (3, .int v3_12), (5, .int v5_89_12)] (by decide) rfl ?_
  refine x_iinc hC dX3_tells_98 ki_1 [(5, .int (v5_89_12 + (1 : Int32))), (4, .int v4_96_12), (0, zr w a0), (1, .int v1_12), (2, zr w a2), (3, .int v3_12)] 5 rfl (by decide) rfl ?_
  refine x_goto (tgt := 12) hC dX3_tells_101 (by decide) ?_
  refine x_sub [2, 3, 4, 5, 1, 0] rfl ?_
  exact x_done (fun h => h)
noncomputable def b_X3_tells_12 (a0 : Nat) (a2 : Nat) (v1_12 : Int32) (v3_12 : Int32) (v4_12 : Int32) (v5_12 : Int32) (M : zM) : Option ((Int32 × Int32 × zM) ⊕ ((Int32 × zM) ⊕ (Int32 × zM))) :=
  if (M a0 0) ≤ v5_12 then (some (.inr (.inl (v3_12, M))))
  else (grd (inb v5_12 16) (
  if (M (a0 + 1) (ix v5_12)) = v1_12 then (grd (inb v5_12 16) (
  grd (inb v5_12 16) (
  if (M (a0 + 2) (ix v5_12)) = (M (a0 + 3) (ix v5_12)) then (j_X3_tells_71_12 a0 a2 v1_12 v4_12 v5_12 M)
  else (grd (inb v5_12 16) (
  grd (inb v5_12 16) (
  bnd2 (f_X3_run a0 (M (a0 + 2) (ix v5_12)) (M (a0 + 3) (ix v5_12)) a2 M) fun u65_12 M65_12 =>
  if u65_12 = 0 then (j_X3_tells_89_12 a0 a2 v1_12 v3_12 v5_12 M65_12)
  else (j_X3_tells_71_12 a0 a2 v1_12 v4_12 v5_12 M65_12)))))))
  else (j_X3_tells_89_12 a0 a2 v1_12 v3_12 v5_12 M)))
set_option maxRecDepth 100000 in
theorem b_X3_tells_12_ok {C : zC} {d : Nat} {g : zG} {l : Launch} {w : zW} {r : Int32 × zM} {a0 : Nat} {a2 : Nat} {v1_12 : Int32} {v3_12 : Int32} {v4_12 : Int32} {v5_12 : Int32} (hB : bOK C cX3_tells 6 RX3 d g l w true) (h0 : tO true 3 a0) (h2 : tA true 10 a2) (hd : 3 ≤ d) (M : zM) (hR : RtI C cX3_tells w r.1 r.2) : Sg C w (0, 0) 12 [(0, zr w a0), (1, .int v1_12), (2, zr w a2), (3, .int v3_12), (4, .int v4_12), (5, .int v5_12)] [] M (b_X3_tells_12 a0 a2 v1_12 v3_12 v4_12 v5_12 M) (fun o => Sum.elim (fun (s : (Int32 × Int32 × zM)) => Zs C w (0, 0) 12 [(0, zr w a0), (1, .int v1_12), (2, zr w a2), (3, .int v3_12), (4, .int s.1), (5, .int s.2.1)] [] s.2.2) (fun q => Sum.elim (fun (s : (Int32 × zM)) => Zs C w (0, 0) 104 [(1, .int v1_12), (3, .int s.1)] [] s.2) (fun q => q = r) q) o) := by
  have hC := hB.1.1
  have hq1 : 1 ≤ d := by omega
  unfold b_X3_tells_12
  refine x_iload hC dX3_tells_12 5 rfl ?_
  refine x_aload_n hC dX3_tells_14 rfl 0 rfl ?_
  refine r_getI hB dX3_tells_15 kf_X3_31 rfl h0 ?_
  refine x_icmp_ge (tgt := 104) hC dX3_tells_18 (by decide) ?_ ?_
  · refine x_sub [1, 3] rfl ?_
    exact x_done (fun h => h)
  · refine x_aload_n hC dX3_tells_21 rfl 0 rfl ?_
    refine r_getR hB dX3_tells_22 kf_X3_9 rfl h0 (nv_3_1 h0).1 ?_
    refine x_iload hC dX3_tells_25 5 rfl ?_
    refine r_iald hB dX3_tells_27 (nv_3_1 h0).2 ?_
    refine x_iload_n hC dX3_tells_28 rfl 1 rfl ?_
    refine x_icmp_ne (tgt := 89) hC dX3_tells_29 (by decide) ?_ ?_
    · refine x_aload_n hC dX3_tells_32 rfl 0 rfl ?_
      refine r_getR hB dX3_tells_33 kf_X3_15 rfl h0 (nv_3_2 h0).1 ?_
      refine x_iload hC dX3_tells_36 5 rfl ?_
      refine r_iald hB dX3_tells_38 (nv_3_2 h0).2 ?_
      refine x_aload_n hC dX3_tells_39 rfl 0 rfl ?_
      refine r_getR hB dX3_tells_40 kf_X3_18 rfl h0 (nv_3_3 h0).1 ?_
      refine x_iload hC dX3_tells_43 5 rfl ?_
      refine r_iald hB dX3_tells_45 (nv_3_3 h0).2 ?_
      refine x_icmp_eq (tgt := 71) hC dX3_tells_46 (by decide) ?_ ?_
      · refine x_sub [0, 1, 2, 4, 5] rfl ?_
        exact j_X3_tells_71_12_ok hB h0 h2 hd M hR
      · refine x_aload_n hC dX3_tells_49 rfl 0 rfl ?_
        refine x_aload_n hC dX3_tells_50 rfl 0 rfl ?_
        refine r_getR hB dX3_tells_51 kf_X3_15 rfl h0 (nv_3_2 h0).1 ?_
        refine x_iload hC dX3_tells_54 5 rfl ?_
        refine r_iald hB dX3_tells_56 (nv_3_2 h0).2 ?_
        refine x_aload_n hC dX3_tells_57 rfl 0 rfl ?_
        refine r_getR hB dX3_tells_58 kf_X3_18 rfl h0 (nv_3_3 h0).1 ?_
        refine x_iload hC dX3_tells_61 5 rfl ?_
        refine r_iald hB dX3_tells_63 (nv_3_3 h0).2 ?_
        refine x_aload_n hC dX3_tells_64 rfl 2 rfl ?_
        refine r_cV2 (as := [.int (M (a0 + 2) (ix v5_12)), .int (M (a0 + 3) (ix v5_12)), zr w a2]) (rest := []) hB dX3_tells_65 kv_X3_63 h0 hq1 rfl rfl (Nat.le_of_ble_eq_true rfl) (fun v M' hv => f_X3_run_met hB.2 h0 h2 (by omega) hv) (fun u65_12 M65_12 => ?_)
        refine x_if_eq (tgt := 89) hC dX3_tells_68 (by decide) ?_ ?_
        · refine x_sub [0, 1, 2, 3, 5] rfl ?_
          exact j_X3_tells_89_12_ok hB h0 h2 hd M65_12 hR
        · refine x_sub [0, 1, 2, 4, 5] rfl ?_
          exact j_X3_tells_71_12_ok hB h0 h2 hd M65_12 hR
    · refine x_sub [0, 1, 2, 3, 5] rfl ?_
      exact j_X3_tells_89_12_ok hB h0 h2 hd M hR
noncomputable def j_X3_tells_121 (a0 : Nat) (a2 : Nat) (s0_121 : Int32) (s1_121 : Int32) (s2_121 : Int32) (M : zM) : Option (Int32 × zM) :=
  some ((f_J9_max_7cf53 s0_121 (f_J9_min_7cf53 s1_121 s2_121)), M)
set_option maxRecDepth 100000 in
theorem j_X3_tells_121_ok {C : zC} {d : Nat} {g : zG} {l : Launch} {w : zW} {r : Int32 × zM} {a0 : Nat} {a2 : Nat} {s0_121 : Int32} {s1_121 : Int32} {s2_121 : Int32} (hB : bOK C cX3_tells 6 RX3 d g l w true) (h0 : tO true 3 a0) (h2 : tA true 10 a2) (hd : 3 ≤ d) (M : zM) (hR : RtI C cX3_tells w r.1 r.2) : Sg C w (0, 0) 121 [] [.int s2_121, .int s1_121, .int s0_121] M (j_X3_tells_121 a0 a2 s0_121 s1_121 s2_121 M) (fun q => q = r) := by
  have hC := hB.1.1
  have hq1 : 1 ≤ d := by omega
  unfold j_X3_tells_121
  refine r_cS0 (as := [.int s1_121, .int s2_121]) (rest := [.int s0_121]) hB dX3_tells_121 ks_X3_67 hq1 rfl rfl (Nat.le_of_ble_eq_true rfl) (f_J9_min_7cf53_met hB.2 (by omega)) ?_
  refine r_cS0 (as := [.int s0_121, .int (f_J9_min_7cf53 s1_121 s2_121)]) (rest := []) hB dX3_tells_124 ks_X3_73 hq1 rfl rfl (Nat.le_of_ble_eq_true rfl) (f_J9_max_7cf53_met hB.2 (by omega)) ?_
  exact r_retI hR dX3_tells_127 (fun h => h)
noncomputable def j_X3_tells_104 (a0 : Nat) (a2 : Nat) (v1_104 : Int32) (v3_104 : Int32) (M : zM) : Option (Int32 × zM) :=
  if v1_104 = (130 : Int32) then (j_X3_tells_121 a0 a2 (0 : Int32) v3_104 (99 : Int32) M)
  else (j_X3_tells_121 a0 a2 (0 : Int32) v3_104 (1000 : Int32) M)
set_option maxRecDepth 100000 in
theorem j_X3_tells_104_ok {C : zC} {d : Nat} {g : zG} {l : Launch} {w : zW} {r : Int32 × zM} {a0 : Nat} {a2 : Nat} {v1_104 : Int32} {v3_104 : Int32} (hB : bOK C cX3_tells 6 RX3 d g l w true) (h0 : tO true 3 a0) (h2 : tA true 10 a2) (hd : 3 ≤ d) (M : zM) (hR : RtI C cX3_tells w r.1 r.2) : Sg C w (0, 0) 104 [(1, .int v1_104), (3, .int v3_104)] [] M (j_X3_tells_104 a0 a2 v1_104 v3_104 M) (fun q => q = r) := by
  have hC := hB.1.1
  have hq1 : 1 ≤ d := by omega
  unfold j_X3_tells_104
  refine x_iconst (v := (0 : Int32)) hC dX3_tells_104 ki_0 ?_
  refine x_iload_n hC dX3_tells_105 rfl 1 rfl ?_
  refine x_iload_n hC dX3_tells_106 rfl 0 rfl ?_
  refine x_sipush (v := (130 : Int32)) hC dX3_tells_107 kh_130 ?_
  refine x_icmp_ne (tgt := 118) hC dX3_tells_110 (by decide) ?_ ?_
  · refine x_bipush (v := (99 : Int32)) hC dX3_tells_113 kb_99 ?_
    refine x_goto (tgt := 121) hC dX3_tells_115 (by decide) ?_
    refine x_sub [] rfl ?_
    exact j_X3_tells_121_ok hB h0 h2 hd M hR
  · refine x_sipush (v := (1000 : Int32)) hC dX3_tells_118 kh_1000 ?_
    refine x_sub [] rfl ?_
    exact j_X3_tells_121_ok hB h0 h2 hd M hR
noncomputable def f_X3_tells (a0 : Nat) (p1 : Int32) (a2 : Nat) (M : zM) : Option (Int32 × zM) :=
  (f_X3_without p1 a2 M).bind fun u2 =>
  (loopW (fun s => b_X3_tells_12 a0 a2 p1 u2 s.1 s.2.1 s.2.2) ((0 : Int32), (0 : Int32), M)).bind (fun q => Sum.elim (fun r => j_X3_tells_104 a0 a2 p1 r.1 r.2) some q)
set_option maxRecDepth 100000 in
theorem f_X3_tells_ok {C : zC} {d : Nat} {g : zG} {l : Launch} {w : zW} {r : Int32 × zM} {a0 : Nat} {p1 : Int32} {a2 : Nat} (hB : bOK C cX3_tells 6 RX3 d g l w true) (h0 : tO true 3 a0) (h2 : tA true 10 a2) (hd : 3 ≤ d) (M : zM) (hR : RtI C cX3_tells w r.1 r.2) : Sg C w (0, 0) 0 [(0, zr w a0), (1, .int p1), (2, zr w a2)] [] M (f_X3_tells a0 p1 a2 M) (fun q => q = r) := by
  have hC := hB.1.1
  have hq1 : 1 ≤ d := by omega
  unfold f_X3_tells
  refine x_iload_n hC dX3_tells_0 rfl 1 rfl ?_
  refine x_aload_n hC dX3_tells_1 rfl 2 rfl ?_
  refine r_cS1 (as := [.int p1, zr w a2]) (rest := []) hB dX3_tells_2 ks_X3_59 hq1 rfl rfl (Nat.le_of_ble_eq_true rfl) (fun v hv => f_X3_without_met hB.2 h2 (by omega) hv) (fun u2 => ?_)
  refine x_istore_n hC dX3_tells_5 rfl [(3, .int u2), (0, zr w a0), (1, .int p1), (2, zr w a2)] (by decide) rfl ?_
  refine x_iconst (v := (0 : Int32)) hC dX3_tells_6 ki_0 ?_
  refine x_istore (f := 0) hC dX3_tells_7 [(4, .int (0 : Int32)), (3, .int u2), (0, zr w a0), (1, .int p1), (2, zr w a2)] (by decide) rfl ?_
  refine x_iconst (v := (0 : Int32)) hC dX3_tells_9 ki_0 ?_
  refine x_istore (f := 0) hC dX3_tells_10 [(5, .int (0 : Int32)), (4, .int (0 : Int32)), (3, .int u2), (0, zr w a0), (1, .int p1), (2, zr w a2)] (by decide) rfl ?_
  refine x_sub [3, 4, 5, 2, 1, 0] rfl ?_
  refine x_loopR (pc2 := 104) (fun (s : (Int32 × Int32 × zM)) => [(0, zr w a0), (1, .int p1), (2, zr w a2), (3, .int u2), (4, .int s.1), (5, .int s.2.1)]) (fun (s : (Int32 × Int32 × zM)) => s.2.2) (fun (s : (Int32 × zM)) => [(1, .int p1), (3, .int s.1)]) (fun (s : (Int32 × zM)) => s.2) ((0 : Int32), (0 : Int32), M) ?_ ?_
  · exact fun s => b_X3_tells_12_ok hB h0 h2 hd s.2.2 hR
  · intro r9
    exact j_X3_tells_104_ok hB h0 h2 hd r9.2 hR
theorem f_X3_tells_met {l : Launch} {d : Nat} {g : zG} {w : zW} {M0 : zM} {a0 : Nat} {p1 : Int32} {a2 : Nat} {M : zM} (hw : wS w) (h0 : tO true 3 a0) (h2 : tA true 10 a2) (hd : 3 ≤ d) {v : Int32} {M' : zM} (h : f_X3_tells a0 p1 a2 M = some (v, M')) : zMet l yX3_tells cX3_tells 6 (some .int) d g w (zin true) M0 [zr w a0, .int p1, zr w a2] M (some (.int v)) M' :=
  met_i (by decide +kernel) (Nat.le_of_ble_eq_true rfl) rfl (fun C hB0 hR => f_X3_tells_ok (r := (v, M')) ⟨hB0, hw⟩ h0 h2 hd M hR _ h rfl)
/-! WindingSquare$Law.copyFrom(LWindingSquare$Law;)V -/
noncomputable def f_X3_copyFrom (a0 : Nat) (a1 : Nat) (M : zM) : Option (zM) :=
  nm (mset M a0 0 (M a1 0)) fun M5 =>
  nm (mset M5 a0 5 (M5 a1 5)) fun M13 =>
  nm (mrow M13 (a0 + 1) (va_cpy (M13 (a1 + 1)) (M13 (a0 + 1)) (ix (0 : Int32)) (ix (0 : Int32)) (ix (16 : Int32)))) fun M28 =>
  nm (mrow M28 (a0 + 2) (va_cpy (M28 (a1 + 2)) (M28 (a0 + 2)) (ix (0 : Int32)) (ix (0 : Int32)) (ix (16 : Int32)))) fun M43 =>
  nm (mrow M43 (a0 + 3) (va_cpy (M43 (a1 + 3)) (M43 (a0 + 3)) (ix (0 : Int32)) (ix (0 : Int32)) (ix (16 : Int32)))) fun M58 =>
  nm (mrow M58 (a0 + 4) (va_cpy (M58 (a1 + 4)) (M58 (a0 + 4)) (ix (0 : Int32)) (ix (0 : Int32)) (ix (400 : Int32)))) fun M74 =>
  some M74
set_option maxRecDepth 100000 in
theorem f_X3_copyFrom_ok {C : zC} {d : Nat} {g : zG} {l : Launch} {w : zW} {r : zM} {a0 : Nat} {a1 : Nat} (hB : bOK C cX3_copyFrom 2 RX3 d g l w true) (h0 : tO true 3 a0) (h1 : tO true 3 a1) (hd : 3 ≤ d) (M : zM) (hR : RtV C cX3_copyFrom w r) : Sg C w (0, 0) 0 [(0, zr w a0), (1, zr w a1)] [] M (f_X3_copyFrom a0 a1 M) (fun q => q = r) := by
  have hC := hB.1.1
  have hq1 : 1 ≤ d := by omega
  unfold f_X3_copyFrom
  refine x_aload_n hC dX3_copyFrom_0 rfl 0 rfl ?_
  refine x_aload_n hC dX3_copyFrom_1 rfl 1 rfl ?_
  refine r_getI hB dX3_copyFrom_2 kf_X3_31 rfl h1 ?_
  refine r_putI hB dX3_copyFrom_5 kf_X3_31 rfl h0 ?_
  refine x_mem (fun M5 => ?_)
  refine x_aload_n hC dX3_copyFrom_8 rfl 0 rfl ?_
  refine x_aload_n hC dX3_copyFrom_9 rfl 1 rfl ?_
  refine r_getI hB dX3_copyFrom_10 kf_X3_27 rfl h1 ?_
  refine r_putI hB dX3_copyFrom_13 kf_X3_27 rfl h0 ?_
  refine x_mem (fun M13 => ?_)
  refine x_aload_n hC dX3_copyFrom_16 rfl 1 rfl ?_
  refine r_getR hB dX3_copyFrom_17 kf_X3_9 rfl h1 (nv_3_1 h1).1 ?_
  refine x_iconst (v := (0 : Int32)) hC dX3_copyFrom_20 ki_0 ?_
  refine x_aload_n hC dX3_copyFrom_21 rfl 0 rfl ?_
  refine r_getR hB dX3_copyFrom_22 kf_X3_9 rfl h0 (nv_3_1 h0).1 ?_
  refine x_iconst (v := (0 : Int32)) hC dX3_copyFrom_25 ki_0 ?_
  refine x_bipush (v := (16 : Int32)) hC dX3_copyFrom_26 kb_16 ?_
  refine r_acp hB dX3_copyFrom_28 kac_X3_76 (Nat.le_trans (by decide) hd) (nv_3_1 h1).2 (nv_3_1 h0).2 (by decide) (by decide) (by decide) (by decide +kernel) (by decide +kernel) (Nat.le_of_ble_eq_true rfl) ?_
  refine x_mem (fun M28 => ?_)
  refine x_aload_n hC dX3_copyFrom_31 rfl 1 rfl ?_
  refine r_getR hB dX3_copyFrom_32 kf_X3_15 rfl h1 (nv_3_2 h1).1 ?_
  refine x_iconst (v := (0 : Int32)) hC dX3_copyFrom_35 ki_0 ?_
  refine x_aload_n hC dX3_copyFrom_36 rfl 0 rfl ?_
  refine r_getR hB dX3_copyFrom_37 kf_X3_15 rfl h0 (nv_3_2 h0).1 ?_
  refine x_iconst (v := (0 : Int32)) hC dX3_copyFrom_40 ki_0 ?_
  refine x_bipush (v := (16 : Int32)) hC dX3_copyFrom_41 kb_16 ?_
  refine r_acp hB dX3_copyFrom_43 kac_X3_76 (Nat.le_trans (by decide) hd) (nv_3_2 h1).2 (nv_3_2 h0).2 (by decide) (by decide) (by decide) (by decide +kernel) (by decide +kernel) (Nat.le_of_ble_eq_true rfl) ?_
  refine x_mem (fun M43 => ?_)
  refine x_aload_n hC dX3_copyFrom_46 rfl 1 rfl ?_
  refine r_getR hB dX3_copyFrom_47 kf_X3_18 rfl h1 (nv_3_3 h1).1 ?_
  refine x_iconst (v := (0 : Int32)) hC dX3_copyFrom_50 ki_0 ?_
  refine x_aload_n hC dX3_copyFrom_51 rfl 0 rfl ?_
  refine r_getR hB dX3_copyFrom_52 kf_X3_18 rfl h0 (nv_3_3 h0).1 ?_
  refine x_iconst (v := (0 : Int32)) hC dX3_copyFrom_55 ki_0 ?_
  refine x_bipush (v := (16 : Int32)) hC dX3_copyFrom_56 kb_16 ?_
  refine r_acp hB dX3_copyFrom_58 kac_X3_76 (Nat.le_trans (by decide) hd) (nv_3_3 h1).2 (nv_3_3 h0).2 (by decide) (by decide) (by decide) (by decide +kernel) (by decide +kernel) (Nat.le_of_ble_eq_true rfl) ?_
  refine x_mem (fun M58 => ?_)
  refine x_aload_n hC dX3_copyFrom_61 rfl 1 rfl ?_
  refine r_getR hB dX3_copyFrom_62 kf_X3_21 rfl h1 (nv_3_4 h1).1 ?_
  refine x_iconst (v := (0 : Int32)) hC dX3_copyFrom_65 ki_0 ?_
  refine x_aload_n hC dX3_copyFrom_66 rfl 0 rfl ?_
  refine r_getR hB dX3_copyFrom_67 kf_X3_21 rfl h0 (nv_3_4 h0).1 ?_
  refine x_iconst (v := (0 : Int32)) hC dX3_copyFrom_70 ki_0 ?_
  refine x_sipush (v := (400 : Int32)) hC dX3_copyFrom_71 kh_400 ?_
  refine r_acp hB dX3_copyFrom_74 kac_X3_76 (Nat.le_trans (by decide) hd) (nv_3_4 h1).2 (nv_3_4 h0).2 (by decide) (by decide) (by decide) (by decide +kernel) (by decide +kernel) (Nat.le_of_ble_eq_true rfl) ?_
  refine x_mem (fun M74 => ?_)
  exact r_retV hR dX3_copyFrom_77 (fun h => h)
theorem f_X3_copyFrom_met {l : Launch} {d : Nat} {g : zG} {w : zW} {M0 : zM} {a0 : Nat} {a1 : Nat} {M : zM} (hw : wS w) (h0 : tO true 3 a0) (h1 : tO true 3 a1) (hd : 3 ≤ d) {M' : zM} (h : f_X3_copyFrom a0 a1 M = some M') : zMet l yX3_copyFrom cX3_copyFrom 2 none d g w (zin true) M0 [zr w a0, zr w a1] M none M' :=
  met_v (by decide +kernel) (Nat.le_of_ble_eq_true rfl) (fun C hB0 hR => f_X3_copyFrom_ok ⟨hB0, hw⟩ h0 h1 hd M hR _ h rfl)
/-! WindingSquare$Law.readUnit(LWindingSquare$Reader;Z)Z -/
noncomputable def j_X3_readUnit_48 (a0 : Nat) (s1_48 : Int32) (M : zM) : Option (Int32 × zM) :=
  bnd2 (f_X5_number s1_48 (9999 : Int32) M) fun u51 M51 =>
  (f_X3_emit a0 u51 M51).bind fun M59 =>
  if u51 = (-1 : Int32) then (some ((0 : Int32), M59))
  else (some ((1 : Int32), M59))
set_option maxRecDepth 100000 in
theorem j_X3_readUnit_48_ok {C : zC} {d : Nat} {g : zG} {l : Launch} {w : zW} {r : Int32 × zM} {a0 : Nat} {s1_48 : Int32} (hB : bOK C cX3_readUnit 5 RX3 d g l w true) (h0 : tO true 3 a0) (hd : 3 ≤ d) (M : zM) (hR : RtZ C cX3_readUnit w r.1 r.2) : Sg C w (0, 0) 48 [(0, zr w a0)] [.int s1_48, zr w 78] M (j_X3_readUnit_48 a0 s1_48 M) (fun q => q = r) := by
  have hC := hB.1.1
  have hq1 : 1 ≤ d := by omega
  unfold j_X3_readUnit_48
  refine x_sipush (v := (9999 : Int32)) hC dX3_readUnit_48 kh_9999 ?_
  refine r_cV2 (as := [.int s1_48, .int (9999 : Int32)]) (rest := []) hB dX3_readUnit_51 kv_X3_96 th_78 hq1 rfl rfl (Nat.le_of_ble_eq_true rfl) (fun v M' hv => f_X5_number_met hB.2 (by omega) hv) (fun u51 M51 => ?_)
  refine x_istore (f := 0) hC dX3_readUnit_54 [(4, .int u51), (0, zr w a0)] (by decide) rfl ?_
  refine x_aload_n hC dX3_readUnit_56 rfl 1 rfl ?_
  refine x_iload hC dX3_readUnit_57 0 rfl ?_
  refine r_cVv (as := [.int u51]) (rest := []) hB dX3_readUnit_59 kv_X3_85 h0 hq1 rfl rfl (Nat.le_of_ble_eq_true rfl) (fun M' hv => f_X3_emit_met hB.2 h0 (by omega) hv) (fun M59 => ?_)
  refine x_iload hC dX3_readUnit_62 0 rfl ?_
  refine x_iconst (v := (-1 : Int32)) hC dX3_readUnit_64 ki_m1 ?_
  refine x_icmp_eq (tgt := 72) hC dX3_readUnit_65 (by decide) ?_ ?_
  · refine x_iconst (v := (0 : Int32)) hC dX3_readUnit_72 ki_0 ?_
    exact r_retZ hR dX3_readUnit_73 (Or.inl rfl) (fun h => h)
  · refine x_iconst (v := (1 : Int32)) hC dX3_readUnit_68 ki_1 ?_
    refine x_goto (tgt := 73) hC dX3_readUnit_69 (by decide) ?_
    exact r_retZ hR dX3_readUnit_73 (Or.inr rfl) (fun h => h)
noncomputable def j_X3_readUnit_38 (a0 : Nat) (v2_38 : Int32) (M : zM) : Option (Int32 × zM) :=
  if v2_38 = 0 then (j_X3_readUnit_48 a0 (0 : Int32) M)
  else (j_X3_readUnit_48 a0 (1 : Int32) M)
set_option maxRecDepth 100000 in
theorem j_X3_readUnit_38_ok {C : zC} {d : Nat} {g : zG} {l : Launch} {w : zW} {r : Int32 × zM} {a0 : Nat} {v2_38 : Int32} (hB : bOK C cX3_readUnit 5 RX3 d g l w true) (h0 : tO true 3 a0) (hd : 3 ≤ d) (M : zM) (hR : RtZ C cX3_readUnit w r.1 r.2) : Sg C w (0, 0) 38 [(0, zr w a0), (1, zr w 78), (2, .int v2_38)] [] M (j_X3_readUnit_38 a0 v2_38 M) (fun q => q = r) := by
  have hC := hB.1.1
  have hq1 : 1 ≤ d := by omega
  unfold j_X3_readUnit_38
  refine x_aload_n hC dX3_readUnit_38 rfl 1 rfl ?_
  refine x_iload_n hC dX3_readUnit_39 rfl 2 rfl ?_
  refine x_if_eq (tgt := 47) hC dX3_readUnit_40 (by decide) ?_ ?_
  · refine x_iconst (v := (0 : Int32)) hC dX3_readUnit_47 ki_0 ?_
    refine x_sub [0] rfl ?_
    exact j_X3_readUnit_48_ok hB h0 hd M hR
  · refine x_iconst (v := (1 : Int32)) hC dX3_readUnit_43 ki_1 ?_
    refine x_goto (tgt := 48) hC dX3_readUnit_44 (by decide) ?_
    refine x_sub [0] rfl ?_
    exact j_X3_readUnit_48_ok hB h0 hd M hR
noncomputable def f_X3_readUnit (a0 : Nat) (p2 : Int32) (M : zM) : Option (Int32 × zM) :=
  (f_X5_kind M).bind fun u1 =>
  if p2 = 0 then (if u1 < (135 : Int32) then (j_X3_readUnit_38 a0 p2 M)
  else (if (144 : Int32) < u1 then (j_X3_readUnit_38 a0 p2 M)
  else ((f_X5_next M).bind fun M24 =>
  (f_X3_emit a0 ((10000 : Int32) + u1) M24).bind fun M33 =>
  some ((1 : Int32), M33))))
  else (j_X3_readUnit_38 a0 p2 M)
set_option maxRecDepth 100000 in
theorem f_X3_readUnit_ok {C : zC} {d : Nat} {g : zG} {l : Launch} {w : zW} {r : Int32 × zM} {a0 : Nat} {p2 : Int32} (hB : bOK C cX3_readUnit 5 RX3 d g l w true) (h0 : tO true 3 a0) (hd : 3 ≤ d) (M : zM) (hR : RtZ C cX3_readUnit w r.1 r.2) : Sg C w (0, 0) 0 [(0, zr w a0), (1, zr w 78), (2, .int p2)] [] M (f_X3_readUnit a0 p2 M) (fun q => q = r) := by
  have hC := hB.1.1
  have hq1 : 1 ≤ d := by omega
  unfold f_X3_readUnit
  refine x_aload_n hC dX3_readUnit_0 rfl 1 rfl ?_
  refine r_cV1 (as := []) (rest := []) hB dX3_readUnit_1 kv_X3_34 th_78 hq1 rfl rfl (Nat.le_of_ble_eq_true rfl) (fun v hv => f_X5_kind_met hB.2 (by omega) hv) (fun u1 => ?_)
  refine x_istore_n hC dX3_readUnit_4 rfl [(3, .int u1), (0, zr w a0), (1, zr w 78), (2, .int p2)] (by decide) rfl ?_
  refine x_iload_n hC dX3_readUnit_5 rfl 3 rfl ?_
  refine x_if_ne (tgt := 38) hC dX3_readUnit_6 (by decide) ?_ ?_
  · refine x_iload_n hC dX3_readUnit_9 rfl 0 rfl ?_
    refine x_sipush (v := (135 : Int32)) hC dX3_readUnit_10 kh_135 ?_
    refine x_icmp_lt (tgt := 38) hC dX3_readUnit_13 (by decide) ?_ ?_
    · refine x_sub [1, 2, 3] rfl ?_
      exact j_X3_readUnit_38_ok hB h0 hd M hR
    · refine x_iload_n hC dX3_readUnit_16 rfl 0 rfl ?_
      refine x_sipush (v := (144 : Int32)) hC dX3_readUnit_17 kh_144 ?_
      refine x_icmp_gt (tgt := 38) hC dX3_readUnit_20 (by decide) ?_ ?_
      · refine x_sub [1, 2, 3] rfl ?_
        exact j_X3_readUnit_38_ok hB h0 hd M hR
      · refine x_aload_n hC dX3_readUnit_23 rfl 2 rfl ?_
        refine r_cVv (as := []) (rest := []) hB dX3_readUnit_24 kv_X3_44 th_78 hq1 rfl rfl (Nat.le_of_ble_eq_true rfl) (fun M' hv => f_X5_next_met hB.2 (by omega) hv) (fun M24 => ?_)
        refine x_aload_n hC dX3_readUnit_27 rfl 1 rfl ?_
        refine x_sipush (v := (10000 : Int32)) hC dX3_readUnit_28 kh_10000 ?_
        refine x_iload_n hC dX3_readUnit_31 rfl 0 rfl ?_
        refine x_iadd hC dX3_readUnit_32 ?_
        refine r_cVv (as := [.int ((10000 : Int32) + u1)]) (rest := []) hB dX3_readUnit_33 kv_X3_85 h0 hq1 rfl rfl (Nat.le_of_ble_eq_true rfl) (fun M' hv => f_X3_emit_met hB.2 h0 (by omega) hv) (fun M33 => ?_)
        refine x_iconst (v := (1 : Int32)) hC dX3_readUnit_36 ki_1 ?_
        exact r_retZ hR dX3_readUnit_37 (Or.inr rfl) (fun h => h)
  · refine x_sub [1, 2, 3] rfl ?_
    exact j_X3_readUnit_38_ok hB h0 hd M hR
theorem f_X3_readUnit_met {l : Launch} {d : Nat} {g : zG} {w : zW} {M0 : zM} {a0 : Nat} {p2 : Int32} {M : zM} (hw : wS w) (h0 : tO true 3 a0) (hd : 3 ≤ d) {v : Int32} {M' : zM} (h : f_X3_readUnit a0 p2 M = some (v, M')) : zMet l yX3_readUnit cX3_readUnit 5 (some .boolean) d g w (zin true) M0 [zr w a0, zr w 78, .int p2] M (some (.int v)) M' :=
  met_z (by decide +kernel) (Nat.le_of_ble_eq_true rfl) (fun C hB0 hR => f_X3_readUnit_ok (r := (v, M')) ⟨hB0, hw⟩ h0 hd M hR _ h rfl)
/-! WindingSquare$Plane.antLeaves(II)I -/
noncomputable def j_X4_antLeaves_118_25 (v1_25 : Int32) (v2_25 : Int32) (v3_118_25 : Int32) (v4_118_25 : Int32) (v6_118_25 : Int32) (v7_118_25 : Int32) (v8_118_25 : Int32) (s0_118_25 : Int32) (s1_118_25 : Int32) (M : zM) : Option ((Int32 × Int32 × Int32 × Int32 × Int32 × Int32 × zM) ⊕ ((Int32 × Int32 × Int32 × Int32 × zM) ⊕ (Int32 × zM))) :=
  nm ((s0_118_25 + s1_118_25) &&& (3 : Int32)) fun v5_121_25 =>
  grd (inb v5_121_25 4) (
  nm (v3_118_25 + (zsV 0 (ix v5_121_25))) fun v3_131_25 =>
  grd (inb v5_121_25 4) (
  nm (v4_118_25 + (zsV 1 (ix v5_121_25))) fun v4_141_25 =>
  some (.inl (v3_131_25, v4_141_25, v5_121_25, v6_118_25, v7_118_25, (v8_118_25 + (1 : Int32)), M))))
set_option maxRecDepth 100000 in
theorem j_X4_antLeaves_118_25_ok {C : zC} {d : Nat} {g : zG} {l : Launch} {w : zW} {r : Int32 × zM} {v1_25 : Int32} {v2_25 : Int32} {v3_118_25 : Int32} {v4_118_25 : Int32} {v6_118_25 : Int32} {v7_118_25 : Int32} {v8_118_25 : Int32} {s0_118_25 : Int32} {s1_118_25 : Int32} (hB : bOK C cX4_antLeaves 11 RX4 d g l w true) (hd : 3 ≤ d) (M : zM) (hR : RtI C cX4_antLeaves w r.1 r.2) : Sg C w (0, 0) 118 [(0, zr w 95), (1, .int v1_25), (2, .int v2_25), (3, .int v3_118_25), (4, .int v4_118_25), (6, .int v6_118_25), (7, .int v7_118_25), (8, .int v8_118_25)] [.int s1_118_25, .int s0_118_25] M (j_X4_antLeaves_118_25 v1_25 v2_25 v3_118_25 v4_118_25 v6_118_25 v7_118_25 v8_118_25 s0_118_25 s1_118_25 M) (fun o => Sum.elim (fun (s : (Int32 × Int32 × Int32 × Int32 × Int32 × Int32 × zM)) => Zs C w (0, 0) 25 [(0, zr w 95), (1, .int v1_25), (2, .int v2_25), (3, .int s.1), (4, .int s.2.1), (5, .int s.2.2.1), (6, .int s.2.2.2.1), (7, .int s.2.2.2.2.1), (8, .int s.2.2.2.2.2.1)] [] s.2.2.2.2.2.2) (fun q => Sum.elim (fun (s : (Int32 × Int32 × Int32 × Int32 × zM)) => Zs C w (0, 0) 149 [(2, .int v2_25), (3, .int s.1), (4, .int s.2.1), (6, .int s.2.2.1), (7, .int s.2.2.2.1)] [] s.2.2.2.2) (fun q => q = r) q) o) := by
  have hC := hB.1.1
  have hq1 : 1 ≤ d := by omega
  unfold j_X4_antLeaves_118_25
  refine x_iadd hC dX4_antLeaves_118 ?_
  refine x_iconst (v := (3 : Int32)) hC dX4_antLeaves_119 ki_3 ?_
  refine x_iand hC dX4_antLeaves_120 ?_
  refine x_top (fun v5_121_25 => ?_)
  refine x_istore (f := 0) hC dX4_antLeaves_121 [(5, .int v5_121_25), (0, zr w 95), (1, .int v1_25), (2, .int v2_25), (3, .int v3_118_25), (4, .int v4_118_25), (6, .int v6_118_25), (7, .int v7_118_25), (8, .int v8_118_25)] (by decide) rfl ?_
  refine x_iload_n hC dX4_antLeaves_123 rfl 4 rfl ?_
  refine r_getsN (k0 := 0) hB dX4_antLeaves_124 (by decide) ng_X4_43 ?_
  refine x_iload hC dX4_antLeaves_127 0 rfl ?_
  refine r_stld hB dX4_antLeaves_129 (by decide) ?_
  refine x_iadd hC dX4_antLeaves_130 ?_
  refine x_top (fun v3_131_25 => ?_)
  refine x_istore_n hC dX4_antLeaves_131 rfl [(3, .int v3_131_25), (5, .int v5_121_25), (0, zr w 95), (1, .int v1_25), (2, .int v2_25), (4, .int v4_118_25), (6, .int v6_118_25), (7, .int v7_118_25), (8, .int v8_118_25)] (by decide) rfl ?_
  refine x_iload hC dX4_antLeaves_132 5 rfl ?_
  refine r_getsN (k0 := 1) hB dX4_antLeaves_134 (by decide) ng_X4_46 ?_
  refine x_iload hC dX4_antLeaves_137 1 rfl ?_
  refine r_stld hB dX4_antLeaves_139 (by decide) ?_
  refine x_iadd hC dX4_antLeaves_140 ?_
  refine x_top (fun v4_141_25 => ?_)
  refine x_istore (f := 0) hC dX4_antLeaves_141 [(4, .int v4_141_25), (3, .int v3_131_25), (5, .int v5_121_25), (0, zr w 95), (1, .int v1_25), (2, .int v2_25), (6, .int v6_118_25), (7, .int v7_118_25), (8, .int v8_118_25)] (by decide) rfl ?_
  refine x_iinc hC dX4_antLeaves_143 ki_1 [(8, .int (v8_118_25 + (1 : Int32))), (4, .int v4_141_25), (3, .int v3_131_25), (5, .int v5_121_25), (0, zr w 95), (1, .int v1_25), (2, .int v2_25), (6, .int v6_118_25), (7, .int v7_118_25)] 8 rfl (by decide) rfl ?_
  refine x_goto (tgt := 25) hC dX4_antLeaves_146 (by decide) ?_
  refine x_sub [4, 5, 6, 2, 1, 3, 7, 8, 0] rfl ?_
  exact x_done (fun h => h)
noncomputable def j_X4_antLeaves_94_25 (v1_25 : Int32) (v2_25 : Int32) (v3_94_25 : Int32) (v4_94_25 : Int32) (v5_94_25 : Int32) (v7_94_25 : Int32) (v8_94_25 : Int32) (v10_94_25 : Int32) (s0_94_25 : Int32) (s1_94_25 : Int32) (M : zM) : Option ((Int32 × Int32 × Int32 × Int32 × Int32 × Int32 × zM) ⊕ ((Int32 × Int32 × Int32 × Int32 × zM) ⊕ (Int32 × zM))) :=
  nm (s0_94_25 + s1_94_25) fun v6_95_25 =>
  nm (f_J9_max_7cf53 v7_94_25 v6_95_25) fun v7_104_25 =>
  if v10_94_25 = 0 then (j_X4_antLeaves_118_25 v1_25 v2_25 v3_94_25 v4_94_25 v6_95_25 v7_104_25 v8_94_25 v5_94_25 (3 : Int32) M)
  else (j_X4_antLeaves_118_25 v1_25 v2_25 v3_94_25 v4_94_25 v6_95_25 v7_104_25 v8_94_25 v5_94_25 (1 : Int32) M)
set_option maxRecDepth 100000 in
theorem j_X4_antLeaves_94_25_ok {C : zC} {d : Nat} {g : zG} {l : Launch} {w : zW} {r : Int32 × zM} {v1_25 : Int32} {v2_25 : Int32} {v3_94_25 : Int32} {v4_94_25 : Int32} {v5_94_25 : Int32} {v7_94_25 : Int32} {v8_94_25 : Int32} {v10_94_25 : Int32} {s0_94_25 : Int32} {s1_94_25 : Int32} (hB : bOK C cX4_antLeaves 11 RX4 d g l w true) (hd : 3 ≤ d) (M : zM) (hR : RtI C cX4_antLeaves w r.1 r.2) : Sg C w (0, 0) 94 [(0, zr w 95), (1, .int v1_25), (2, .int v2_25), (3, .int v3_94_25), (4, .int v4_94_25), (5, .int v5_94_25), (7, .int v7_94_25), (8, .int v8_94_25), (10, .int v10_94_25)] [.int s1_94_25, .int s0_94_25] M (j_X4_antLeaves_94_25 v1_25 v2_25 v3_94_25 v4_94_25 v5_94_25 v7_94_25 v8_94_25 v10_94_25 s0_94_25 s1_94_25 M) (fun o => Sum.elim (fun (s : (Int32 × Int32 × Int32 × Int32 × Int32 × Int32 × zM)) => Zs C w (0, 0) 25 [(0, zr w 95), (1, .int v1_25), (2, .int v2_25), (3, .int s.1), (4, .int s.2.1), (5, .int s.2.2.1), (6, .int s.2.2.2.1), (7, .int s.2.2.2.2.1), (8, .int s.2.2.2.2.2.1)] [] s.2.2.2.2.2.2) (fun q => Sum.elim (fun (s : (Int32 × Int32 × Int32 × Int32 × zM)) => Zs C w (0, 0) 149 [(2, .int v2_25), (3, .int s.1), (4, .int s.2.1), (6, .int s.2.2.1), (7, .int s.2.2.2.1)] [] s.2.2.2.2) (fun q => q = r) q) o) := by
  have hC := hB.1.1
  have hq1 : 1 ≤ d := by omega
  unfold j_X4_antLeaves_94_25
  refine x_iadd hC dX4_antLeaves_94 ?_
  refine x_top (fun v6_95_25 => ?_)
  refine x_istore (f := 0) hC dX4_antLeaves_95 [(6, .int v6_95_25), (0, zr w 95), (1, .int v1_25), (2, .int v2_25), (3, .int v3_94_25), (4, .int v4_94_25), (5, .int v5_94_25), (7, .int v7_94_25), (8, .int v8_94_25), (10, .int v10_94_25)] (by decide) rfl ?_
  refine x_iload hC dX4_antLeaves_97 7 rfl ?_
  refine x_iload hC dX4_antLeaves_99 0 rfl ?_
  refine r_cS0 (as := [.int v7_94_25, .int v6_95_25]) (rest := []) hB dX4_antLeaves_101 ks_X4_38 hq1 rfl rfl (Nat.le_of_ble_eq_true rfl) (f_J9_max_7cf53_met hB.2 (by omega)) ?_
  refine x_top (fun v7_104_25 => ?_)
  refine x_istore (f := 0) hC dX4_antLeaves_104 [(7, .int v7_104_25), (6, .int v6_95_25), (0, zr w 95), (1, .int v1_25), (2, .int v2_25), (3, .int v3_94_25), (4, .int v4_94_25), (5, .int v5_94_25), (8, .int v8_94_25), (10, .int v10_94_25)] (by decide) rfl ?_
  refine x_iload hC dX4_antLeaves_106 7 rfl ?_
  refine x_iload hC dX4_antLeaves_108 9 rfl ?_
  refine x_if_eq (tgt := 117) hC dX4_antLeaves_110 (by decide) ?_ ?_
  · refine x_iconst (v := (3 : Int32)) hC dX4_antLeaves_117 ki_3 ?_
    refine x_sub [2, 3, 4, 5, 6, 1, 0, 8] rfl ?_
    exact j_X4_antLeaves_118_25_ok hB hd M hR
  · refine x_iconst (v := (1 : Int32)) hC dX4_antLeaves_113 ki_1 ?_
    refine x_goto (tgt := 118) hC dX4_antLeaves_114 (by decide) ?_
    refine x_sub [2, 3, 4, 5, 6, 1, 0, 8] rfl ?_
    exact j_X4_antLeaves_118_25_ok hB hd M hR
noncomputable def j_X4_antLeaves_81_25 (v1_25 : Int32) (v2_25 : Int32) (v3_81_25 : Int32) (v4_81_25 : Int32) (v5_81_25 : Int32) (v6_81_25 : Int32) (v7_81_25 : Int32) (v8_81_25 : Int32) (v10_81_25 : Int32) (s1_81_25 : Int32) (s2_81_25 : Int32) (M : zM) : Option ((Int32 × Int32 × Int32 × Int32 × Int32 × Int32 × zM) ⊕ ((Int32 × Int32 × Int32 × Int32 × zM) ⊕ (Int32 × zM))) :=
  grd (inb s1_81_25 6561) (
  nm (mset M 96 (ix s1_81_25) s2_81_25) fun M81_25 =>
  if v10_81_25 = 0 then (j_X4_antLeaves_94_25 v1_25 v2_25 v3_81_25 v4_81_25 v5_81_25 v7_81_25 v8_81_25 v10_81_25 v6_81_25 (-1 : Int32) M81_25)
  else (j_X4_antLeaves_94_25 v1_25 v2_25 v3_81_25 v4_81_25 v5_81_25 v7_81_25 v8_81_25 v10_81_25 v6_81_25 (1 : Int32) M81_25))
set_option maxRecDepth 100000 in
theorem j_X4_antLeaves_81_25_ok {C : zC} {d : Nat} {g : zG} {l : Launch} {w : zW} {r : Int32 × zM} {v1_25 : Int32} {v2_25 : Int32} {v3_81_25 : Int32} {v4_81_25 : Int32} {v5_81_25 : Int32} {v6_81_25 : Int32} {v7_81_25 : Int32} {v8_81_25 : Int32} {v10_81_25 : Int32} {s1_81_25 : Int32} {s2_81_25 : Int32} (hB : bOK C cX4_antLeaves 11 RX4 d g l w true) (hd : 3 ≤ d) (M : zM) (hR : RtI C cX4_antLeaves w r.1 r.2) : Sg C w (0, 0) 81 [(0, zr w 95), (1, .int v1_25), (2, .int v2_25), (3, .int v3_81_25), (4, .int v4_81_25), (5, .int v5_81_25), (6, .int v6_81_25), (7, .int v7_81_25), (8, .int v8_81_25), (10, .int v10_81_25)] [.int s2_81_25, .int s1_81_25, zr w 96] M (j_X4_antLeaves_81_25 v1_25 v2_25 v3_81_25 v4_81_25 v5_81_25 v6_81_25 v7_81_25 v8_81_25 v10_81_25 s1_81_25 s2_81_25 M) (fun o => Sum.elim (fun (s : (Int32 × Int32 × Int32 × Int32 × Int32 × Int32 × zM)) => Zs C w (0, 0) 25 [(0, zr w 95), (1, .int v1_25), (2, .int v2_25), (3, .int s.1), (4, .int s.2.1), (5, .int s.2.2.1), (6, .int s.2.2.2.1), (7, .int s.2.2.2.2.1), (8, .int s.2.2.2.2.2.1)] [] s.2.2.2.2.2.2) (fun q => Sum.elim (fun (s : (Int32 × Int32 × Int32 × Int32 × zM)) => Zs C w (0, 0) 149 [(2, .int v2_25), (3, .int s.1), (4, .int s.2.1), (6, .int s.2.2.1), (7, .int s.2.2.2.1)] [] s.2.2.2.2) (fun q => q = r) q) o) := by
  have hC := hB.1.1
  have hq1 : 1 ≤ d := by omega
  unfold j_X4_antLeaves_81_25
  refine r_iast hB dX4_antLeaves_81 th_96 ?_
  refine x_mem (fun M81_25 => ?_)
  refine x_iload hC dX4_antLeaves_82 6 rfl ?_
  refine x_iload hC dX4_antLeaves_84 9 rfl ?_
  refine x_if_eq (tgt := 93) hC dX4_antLeaves_86 (by decide) ?_ ?_
  · refine x_iconst (v := (-1 : Int32)) hC dX4_antLeaves_93 ki_m1 ?_
    refine x_sub [0, 1, 2, 3, 4, 5, 7, 8, 9] rfl ?_
    exact j_X4_antLeaves_94_25_ok hB hd M81_25 hR
  · refine x_iconst (v := (1 : Int32)) hC dX4_antLeaves_89 ki_1 ?_
    refine x_goto (tgt := 94) hC dX4_antLeaves_90 (by decide) ?_
    refine x_sub [0, 1, 2, 3, 4, 5, 7, 8, 9] rfl ?_
    exact j_X4_antLeaves_94_25_ok hB hd M81_25 hR
noncomputable def j_X4_antLeaves_63_25 (v1_25 : Int32) (v2_25 : Int32) (v3_63_25 : Int32) (v4_63_25 : Int32) (v5_63_25 : Int32) (v6_63_25 : Int32) (v7_63_25 : Int32) (v8_63_25 : Int32) (v9_63_25 : Int32) (s0_63_25 : Int32) (M : zM) : Option ((Int32 × Int32 × Int32 × Int32 × Int32 × Int32 × zM) ⊕ ((Int32 × Int32 × Int32 × Int32 × zM) ⊕ (Int32 × zM))) :=
  if s0_63_25 = 0 then (j_X4_antLeaves_81_25 v1_25 v2_25 v3_63_25 v4_63_25 v5_63_25 v6_63_25 v7_63_25 v8_63_25 s0_63_25 v9_63_25 (0 : Int32) M)
  else (j_X4_antLeaves_81_25 v1_25 v2_25 v3_63_25 v4_63_25 v5_63_25 v6_63_25 v7_63_25 v8_63_25 s0_63_25 v9_63_25 (1 : Int32) M)
set_option maxRecDepth 100000 in
theorem j_X4_antLeaves_63_25_ok {C : zC} {d : Nat} {g : zG} {l : Launch} {w : zW} {r : Int32 × zM} {v1_25 : Int32} {v2_25 : Int32} {v3_63_25 : Int32} {v4_63_25 : Int32} {v5_63_25 : Int32} {v6_63_25 : Int32} {v7_63_25 : Int32} {v8_63_25 : Int32} {v9_63_25 : Int32} {s0_63_25 : Int32} (hB : bOK C cX4_antLeaves 11 RX4 d g l w true) (hd : 3 ≤ d) (M : zM) (hR : RtI C cX4_antLeaves w r.1 r.2) : Sg C w (0, 0) 63 [(0, zr w 95), (1, .int v1_25), (2, .int v2_25), (3, .int v3_63_25), (4, .int v4_63_25), (5, .int v5_63_25), (6, .int v6_63_25), (7, .int v7_63_25), (8, .int v8_63_25), (9, .int v9_63_25)] [.int s0_63_25] M (j_X4_antLeaves_63_25 v1_25 v2_25 v3_63_25 v4_63_25 v5_63_25 v6_63_25 v7_63_25 v8_63_25 v9_63_25 s0_63_25 M) (fun o => Sum.elim (fun (s : (Int32 × Int32 × Int32 × Int32 × Int32 × Int32 × zM)) => Zs C w (0, 0) 25 [(0, zr w 95), (1, .int v1_25), (2, .int v2_25), (3, .int s.1), (4, .int s.2.1), (5, .int s.2.2.1), (6, .int s.2.2.2.1), (7, .int s.2.2.2.2.1), (8, .int s.2.2.2.2.2.1)] [] s.2.2.2.2.2.2) (fun q => Sum.elim (fun (s : (Int32 × Int32 × Int32 × Int32 × zM)) => Zs C w (0, 0) 149 [(2, .int v2_25), (3, .int s.1), (4, .int s.2.1), (6, .int s.2.2.1), (7, .int s.2.2.2.1)] [] s.2.2.2.2) (fun q => q = r) q) o) := by
  have hC := hB.1.1
  have hq1 : 1 ≤ d := by omega
  unfold j_X4_antLeaves_63_25
  refine x_istore (f := 0) hC dX4_antLeaves_63 [(10, .int s0_63_25), (0, zr w 95), (1, .int v1_25), (2, .int v2_25), (3, .int v3_63_25), (4, .int v4_63_25), (5, .int v5_63_25), (6, .int v6_63_25), (7, .int v7_63_25), (8, .int v8_63_25), (9, .int v9_63_25)] (by decide) rfl ?_
  refine x_aload_n hC dX4_antLeaves_65 rfl 1 rfl ?_
  refine r_getR hB dX4_antLeaves_66 kf_X4_11 rfl th_95 rf_95_0 ?_
  refine x_iload hC dX4_antLeaves_69 10 rfl ?_
  refine x_iload hC dX4_antLeaves_71 0 rfl ?_
  refine x_if_eq (tgt := 80) hC dX4_antLeaves_73 (by decide) ?_ ?_
  · refine x_iconst (v := (0 : Int32)) hC dX4_antLeaves_80 ki_0 ?_
    refine x_sub [1, 2, 3, 4, 5, 6, 7, 8, 9, 0] rfl ?_
    exact j_X4_antLeaves_81_25_ok hB hd M hR
  · refine x_iconst (v := (1 : Int32)) hC dX4_antLeaves_76 ki_1 ?_
    refine x_goto (tgt := 81) hC dX4_antLeaves_77 (by decide) ?_
    refine x_sub [1, 2, 3, 4, 5, 6, 7, 8, 9, 0] rfl ?_
    exact j_X4_antLeaves_81_25_ok hB hd M hR
noncomputable def b_X4_antLeaves_25 (v1_25 : Int32) (v2_25 : Int32) (v3_25 : Int32) (v4_25 : Int32) (v5_25 : Int32) (v6_25 : Int32) (v7_25 : Int32) (v8_25 : Int32) (M : zM) : Option ((Int32 × Int32 × Int32 × Int32 × Int32 × Int32 × zM) ⊕ ((Int32 × Int32 × Int32 × Int32 × zM) ⊕ (Int32 × zM))) :=
  if v1_25 ≤ v8_25 then (some (.inr (.inl (v3_25, v4_25, v6_25, v7_25, M))))
  else (nm (f_X4_field v3_25 v4_25) fun v9_37_25 =>
  if v9_37_25 = (-1 : Int32) then (some (.inr (.inl (v3_25, v4_25, v6_25, v7_25, M))))
  else (grd (inb v9_37_25 6561) (
  if (M 96 (ix v9_37_25)) = 0 then (j_X4_antLeaves_63_25 v1_25 v2_25 v3_25 v4_25 v5_25 v6_25 v7_25 v8_25 v9_37_25 (1 : Int32) M)
  else (j_X4_antLeaves_63_25 v1_25 v2_25 v3_25 v4_25 v5_25 v6_25 v7_25 v8_25 v9_37_25 (0 : Int32) M))))
set_option maxRecDepth 100000 in
theorem b_X4_antLeaves_25_ok {C : zC} {d : Nat} {g : zG} {l : Launch} {w : zW} {r : Int32 × zM} {v1_25 : Int32} {v2_25 : Int32} {v3_25 : Int32} {v4_25 : Int32} {v5_25 : Int32} {v6_25 : Int32} {v7_25 : Int32} {v8_25 : Int32} (hB : bOK C cX4_antLeaves 11 RX4 d g l w true) (hd : 3 ≤ d) (M : zM) (hR : RtI C cX4_antLeaves w r.1 r.2) : Sg C w (0, 0) 25 [(0, zr w 95), (1, .int v1_25), (2, .int v2_25), (3, .int v3_25), (4, .int v4_25), (5, .int v5_25), (6, .int v6_25), (7, .int v7_25), (8, .int v8_25)] [] M (b_X4_antLeaves_25 v1_25 v2_25 v3_25 v4_25 v5_25 v6_25 v7_25 v8_25 M) (fun o => Sum.elim (fun (s : (Int32 × Int32 × Int32 × Int32 × Int32 × Int32 × zM)) => Zs C w (0, 0) 25 [(0, zr w 95), (1, .int v1_25), (2, .int v2_25), (3, .int s.1), (4, .int s.2.1), (5, .int s.2.2.1), (6, .int s.2.2.2.1), (7, .int s.2.2.2.2.1), (8, .int s.2.2.2.2.2.1)] [] s.2.2.2.2.2.2) (fun q => Sum.elim (fun (s : (Int32 × Int32 × Int32 × Int32 × zM)) => Zs C w (0, 0) 149 [(2, .int v2_25), (3, .int s.1), (4, .int s.2.1), (6, .int s.2.2.1), (7, .int s.2.2.2.1)] [] s.2.2.2.2) (fun q => q = r) q) o) := by
  have hC := hB.1.1
  have hq1 : 1 ≤ d := by omega
  unfold b_X4_antLeaves_25
  refine x_iload hC dX4_antLeaves_25 8 rfl ?_
  refine x_iload_n hC dX4_antLeaves_27 rfl 1 rfl ?_
  refine x_icmp_ge (tgt := 149) hC dX4_antLeaves_28 (by decide) ?_ ?_
  · refine x_sub [2, 3, 4, 6, 7] rfl ?_
    exact x_done (fun h => h)
  · refine x_iload_n hC dX4_antLeaves_31 rfl 3 rfl ?_
    refine x_iload hC dX4_antLeaves_32 4 rfl ?_
    refine r_cS0 (as := [.int v3_25, .int v4_25]) (rest := []) hB dX4_antLeaves_34 ks_X4_30 hq1 rfl rfl (Nat.le_of_ble_eq_true rfl) (f_X4_field_met hB.2 (by omega)) ?_
    refine x_top (fun v9_37_25 => ?_)
    refine x_istore (f := 0) hC dX4_antLeaves_37 [(9, .int v9_37_25), (0, zr w 95), (1, .int v1_25), (2, .int v2_25), (3, .int v3_25), (4, .int v4_25), (5, .int v5_25), (6, .int v6_25), (7, .int v7_25), (8, .int v8_25)] (by decide) rfl ?_
    refine x_iload hC dX4_antLeaves_39 0 rfl ?_
    refine x_iconst (v := (-1 : Int32)) hC dX4_antLeaves_41 ki_m1 ?_
    refine x_icmp_ne (tgt := 48) hC dX4_antLeaves_42 (by decide) ?_ ?_
    · refine x_goto (tgt := 149) hC dX4_antLeaves_45 (by decide) ?_
      refine x_sub [3, 4, 5, 7, 8] rfl ?_
      exact x_done (fun h => h)
    · refine x_aload_n hC dX4_antLeaves_48 rfl 1 rfl ?_
      refine r_getR hB dX4_antLeaves_49 kf_X4_11 rfl th_95 rf_95_0 ?_
      refine x_iload hC dX4_antLeaves_52 0 rfl ?_
      refine r_iald hB dX4_antLeaves_54 th_96 ?_
      refine x_if_ne (tgt := 62) hC dX4_antLeaves_55 (by decide) ?_ ?_
      · refine x_iconst (v := (1 : Int32)) hC dX4_antLeaves_58 ki_1 ?_
        refine x_goto (tgt := 63) hC dX4_antLeaves_59 (by decide) ?_
        refine x_sub [1, 2, 3, 4, 5, 6, 7, 8, 9, 0] rfl ?_
        exact j_X4_antLeaves_63_25_ok hB hd M hR
      · refine x_iconst (v := (0 : Int32)) hC dX4_antLeaves_62 ki_0 ?_
        refine x_sub [1, 2, 3, 4, 5, 6, 7, 8, 9, 0] rfl ?_
        exact j_X4_antLeaves_63_25_ok hB hd M hR
noncomputable def j_X4_antLeaves_149 (v2_149 : Int32) (v3_149 : Int32) (v4_149 : Int32) (v6_149 : Int32) (v7_149 : Int32) (M : zM) : Option (Int32 × zM) :=
  if v2_149 = (0 : Int32) then (some (v6_149, M))
  else (if v2_149 = (1 : Int32) then (some (v3_149, M))
  else (if v2_149 = (2 : Int32) then (some (v4_149, M))
  else (some (v7_149, M))))
set_option maxRecDepth 100000 in
theorem j_X4_antLeaves_149_ok {C : zC} {d : Nat} {g : zG} {l : Launch} {w : zW} {r : Int32 × zM} {v2_149 : Int32} {v3_149 : Int32} {v4_149 : Int32} {v6_149 : Int32} {v7_149 : Int32} (hB : bOK C cX4_antLeaves 11 RX4 d g l w true) (hd : 3 ≤ d) (M : zM) (hR : RtI C cX4_antLeaves w r.1 r.2) : Sg C w (0, 0) 149 [(2, .int v2_149), (3, .int v3_149), (4, .int v4_149), (6, .int v6_149), (7, .int v7_149)] [] M (j_X4_antLeaves_149 v2_149 v3_149 v4_149 v6_149 v7_149 M) (fun q => q = r) := by
  have hC := hB.1.1
  have hq1 : 1 ≤ d := by omega
  unfold j_X4_antLeaves_149
  refine x_iload_n hC dX4_antLeaves_149 rfl 0 rfl ?_
  refine x_ite (fun hs => ?_) (fun hs0 => ?_)
  · refine x_tsI (tgt := 176) (off := 26) hC dX4_antLeaves_150 (by rw [hs]; decide +kernel) (by rw [hs]; decide +kernel) (by rw [hs]; decide +kernel) (by decide) ?_
    refine x_iload hC dX4_antLeaves_176 3 rfl ?_
    exact r_retI hR dX4_antLeaves_178 (fun h => h)
  · skip
    refine x_ite (fun hs => ?_) (fun hs1 => ?_)
    · refine x_tsI (tgt := 179) (off := 29) hC dX4_antLeaves_150 (by rw [hs]; decide +kernel) (by rw [hs]; decide +kernel) (by rw [hs]; decide +kernel) (by decide) ?_
      refine x_iload_n hC dX4_antLeaves_179 rfl 1 rfl ?_
      exact r_retI hR dX4_antLeaves_180 (fun h => h)
    · skip
      refine x_ite (fun hs => ?_) (fun hs2 => ?_)
      · refine x_tsI (tgt := 181) (off := 31) hC dX4_antLeaves_150 (by rw [hs]; decide +kernel) (by rw [hs]; decide +kernel) (by rw [hs]; decide +kernel) (by decide) ?_
        refine x_iload hC dX4_antLeaves_181 2 rfl ?_
        exact r_retI hR dX4_antLeaves_183 (fun h => h)
      · skip
        refine x_tsO (tgt := 184) hC dX4_antLeaves_150 (by have q0 := x_ne (k := 0) hs0 (by decide); have q1 := x_ne (k := 1) hs1 (by decide); have q2 := x_ne (k := 2) hs2 (by decide); omega) (by decide) ?_
        refine x_iload hC dX4_antLeaves_184 4 rfl ?_
        exact r_retI hR dX4_antLeaves_186 (fun h => h)
noncomputable def f_X4_antLeaves (p1 : Int32) (p2 : Int32) (M : zM) : Option (Int32 × zM) :=
  (f_J7_fill_53178 96 (0 : Int32) M).bind fun M5 =>
  (loopW (fun s => b_X4_antLeaves_25 p1 p2 s.1 s.2.1 s.2.2.1 s.2.2.2.1 s.2.2.2.2.1 s.2.2.2.2.2.1 s.2.2.2.2.2.2) ((0 : Int32), (0 : Int32), (0 : Int32), (0 : Int32), (0 : Int32), (0 : Int32), M5)).bind (fun q => Sum.elim (fun r => j_X4_antLeaves_149 p2 r.1 r.2.1 r.2.2.1 r.2.2.2.1 r.2.2.2.2) some q)
set_option maxRecDepth 100000 in
theorem f_X4_antLeaves_ok {C : zC} {d : Nat} {g : zG} {l : Launch} {w : zW} {r : Int32 × zM} {p1 : Int32} {p2 : Int32} (hB : bOK C cX4_antLeaves 11 RX4 d g l w true) (hd : 3 ≤ d) (M : zM) (hR : RtI C cX4_antLeaves w r.1 r.2) : Sg C w (0, 0) 0 [(0, zr w 95), (1, .int p1), (2, .int p2)] [] M (f_X4_antLeaves p1 p2 M) (fun q => q = r) := by
  have hC := hB.1.1
  have hq1 : 1 ≤ d := by omega
  unfold f_X4_antLeaves
  refine x_aload_n hC dX4_antLeaves_0 rfl 0 rfl ?_
  refine r_getR hB dX4_antLeaves_1 kf_X4_11 rfl th_95 rf_95_0 ?_
  refine x_iconst (v := (0 : Int32)) hC dX4_antLeaves_4 ki_0 ?_
  refine r_cSv (as := [zr w 96, .int (0 : Int32)]) (rest := []) hB dX4_antLeaves_5 ks_X4_24 hq1 rfl rfl (Nat.le_of_ble_eq_true rfl) (fun M' hv => f_J7_fill_53178_met hB.2 (tA.toI th_96) (by omega) hv) (fun M5 => ?_)
  refine x_iconst (v := (0 : Int32)) hC dX4_antLeaves_8 ki_0 ?_
  refine x_istore_n hC dX4_antLeaves_9 rfl [(3, .int (0 : Int32)), (0, zr w 95), (1, .int p1), (2, .int p2)] (by decide) rfl ?_
  refine x_iconst (v := (0 : Int32)) hC dX4_antLeaves_10 ki_0 ?_
  refine x_istore (f := 0) hC dX4_antLeaves_11 [(4, .int (0 : Int32)), (3, .int (0 : Int32)), (0, zr w 95), (1, .int p1), (2, .int p2)] (by decide) rfl ?_
  refine x_iconst (v := (0 : Int32)) hC dX4_antLeaves_13 ki_0 ?_
  refine x_istore (f := 0) hC dX4_antLeaves_14 [(5, .int (0 : Int32)), (4, .int (0 : Int32)), (3, .int (0 : Int32)), (0, zr w 95), (1, .int p1), (2, .int p2)] (by decide) rfl ?_
  refine x_iconst (v := (0 : Int32)) hC dX4_antLeaves_16 ki_0 ?_
  refine x_istore (f := 0) hC dX4_antLeaves_17 [(6, .int (0 : Int32)), (5, .int (0 : Int32)), (4, .int (0 : Int32)), (3, .int (0 : Int32)), (0, zr w 95), (1, .int p1), (2, .int p2)] (by decide) rfl ?_
  refine x_iconst (v := (0 : Int32)) hC dX4_antLeaves_19 ki_0 ?_
  refine x_istore (f := 0) hC dX4_antLeaves_20 [(7, .int (0 : Int32)), (6, .int (0 : Int32)), (5, .int (0 : Int32)), (4, .int (0 : Int32)), (3, .int (0 : Int32)), (0, zr w 95), (1, .int p1), (2, .int p2)] (by decide) rfl ?_
  refine x_iconst (v := (0 : Int32)) hC dX4_antLeaves_22 ki_0 ?_
  refine x_istore (f := 0) hC dX4_antLeaves_23 [(8, .int (0 : Int32)), (7, .int (0 : Int32)), (6, .int (0 : Int32)), (5, .int (0 : Int32)), (4, .int (0 : Int32)), (3, .int (0 : Int32)), (0, zr w 95), (1, .int p1), (2, .int p2)] (by decide) rfl ?_
  refine x_sub [6, 7, 8, 5, 4, 3, 2, 1, 0] rfl ?_
  refine x_loopR (pc2 := 149) (fun (s : (Int32 × Int32 × Int32 × Int32 × Int32 × Int32 × zM)) => [(0, zr w 95), (1, .int p1), (2, .int p2), (3, .int s.1), (4, .int s.2.1), (5, .int s.2.2.1), (6, .int s.2.2.2.1), (7, .int s.2.2.2.2.1), (8, .int s.2.2.2.2.2.1)]) (fun (s : (Int32 × Int32 × Int32 × Int32 × Int32 × Int32 × zM)) => s.2.2.2.2.2.2) (fun (s : (Int32 × Int32 × Int32 × Int32 × zM)) => [(2, .int p2), (3, .int s.1), (4, .int s.2.1), (6, .int s.2.2.1), (7, .int s.2.2.2.1)]) (fun (s : (Int32 × Int32 × Int32 × Int32 × zM)) => s.2.2.2.2) ((0 : Int32), (0 : Int32), (0 : Int32), (0 : Int32), (0 : Int32), (0 : Int32), M5) ?_ ?_
  · exact fun s => b_X4_antLeaves_25_ok hB hd s.2.2.2.2.2.2 hR
  · intro r9
    exact j_X4_antLeaves_149_ok hB hd r9.2.2.2.2 hR
theorem f_X4_antLeaves_met {l : Launch} {d : Nat} {g : zG} {w : zW} {M0 : zM} {p1 : Int32} {p2 : Int32} {M : zM} (hw : wS w) (hd : 3 ≤ d) {v : Int32} {M' : zM} (h : f_X4_antLeaves p1 p2 M = some (v, M')) : zMet l yX4_antLeaves cX4_antLeaves 11 (some .int) d g w (zin true) M0 [zr w 95, .int p1, .int p2] M (some (.int v)) M' :=
  met_i (by decide +kernel) (Nat.le_of_ble_eq_true rfl) rfl (fun C hB0 hR => f_X4_antLeaves_ok (r := (v, M')) ⟨hB0, hw⟩ hd M hR _ h rfl)
/-! WindingSquare$Plane.value(II)I -/
noncomputable def f_X4_value (p1 : Int32) (p2 : Int32) (M : zM) : Option (Int32 × zM) :=
  (f_X4_valueAll M).bind fun M1 =>
  grd (inb (((61 : Int32) * p2) + p1) 3721) (
  some ((M1 99 (ix (((61 : Int32) * p2) + p1))), M1))
set_option maxRecDepth 100000 in
theorem f_X4_value_ok {C : zC} {d : Nat} {g : zG} {l : Launch} {w : zW} {r : Int32 × zM} {p1 : Int32} {p2 : Int32} (hB : bOK C cX4_value 3 RX4 d g l w true) (hd : 3 ≤ d) (M : zM) (hR : RtI C cX4_value w r.1 r.2) : Sg C w (0, 0) 0 [(0, zr w 95), (1, .int p1), (2, .int p2)] [] M (f_X4_value p1 p2 M) (fun q => q = r) := by
  have hC := hB.1.1
  have hq1 : 1 ≤ d := by omega
  unfold f_X4_value
  refine x_aload_n hC dX4_value_0 rfl 0 rfl ?_
  refine r_cVv (as := []) (rest := []) hB dX4_value_1 kv_X4_53 th_95 hq1 rfl rfl (Nat.le_of_ble_eq_true rfl) (fun M' hv => f_X4_valueAll_met hB.2 (by omega) hv) (fun M1 => ?_)
  refine x_aload_n hC dX4_value_4 rfl 0 rfl ?_
  refine r_getR hB dX4_value_5 kf_X4_21 rfl th_95 rf_95_3 ?_
  refine x_bipush (v := (61 : Int32)) hC dX4_value_8 kb_61 ?_
  refine x_iload_n hC dX4_value_10 rfl 2 rfl ?_
  refine x_imul hC dX4_value_11 ?_
  refine x_iload_n hC dX4_value_12 rfl 1 rfl ?_
  refine x_iadd hC dX4_value_13 ?_
  refine r_iald hB dX4_value_14 th_99 ?_
  exact r_retI hR dX4_value_15 (fun h => h)
theorem f_X4_value_met {l : Launch} {d : Nat} {g : zG} {w : zW} {M0 : zM} {p1 : Int32} {p2 : Int32} {M : zM} (hw : wS w) (hd : 3 ≤ d) {v : Int32} {M' : zM} (h : f_X4_value p1 p2 M = some (v, M')) : zMet l yX4_value cX4_value 3 (some .int) d g w (zin true) M0 [zr w 95, .int p1, .int p2] M (some (.int v)) M' :=
  met_i (by decide +kernel) (Nat.le_of_ble_eq_true rfl) rfl (fun C hB0 hR => f_X4_value_ok (r := (v, M')) ⟨hB0, hw⟩ hd M hR _ h rfl)
/-! WindingSquare$Plane.wellGone(II)I -/
noncomputable def j_X4_wellGone_54_9 (v1_9 : Int32) (v2_9 : Int32) (v3_54_9 : Int32) (v4_54_9 : Int32) (M : zM) : Option ((Int32 × Int32) ⊕ (Int32)) :=
  some (.inl (v3_54_9, (v4_54_9 + (1 : Int32))))
set_option maxRecDepth 100000 in
theorem j_X4_wellGone_54_9_ok {C : zC} {d : Nat} {g : zG} {l : Launch} {w : zW} {r : Int32 × zM} {v1_9 : Int32} {v2_9 : Int32} {v3_54_9 : Int32} {v4_54_9 : Int32} (hB : bOK C cX4_wellGone 6 RX4 d g l w true) (hd : 3 ≤ d) (M : zM) (hR : RtI C cX4_wellGone w r.1 r.2) : Sg C w (0, 0) 54 [(0, zr w 95), (1, .int v1_9), (2, .int v2_9), (3, .int v3_54_9), (4, .int v4_54_9)] [] M (j_X4_wellGone_54_9 v1_9 v2_9 v3_54_9 v4_54_9 M) (fun o => Sum.elim (fun (s : (Int32 × Int32)) => Zs C w (0, 0) 9 [(0, zr w 95), (1, .int v1_9), (2, .int v2_9), (3, .int s.1), (4, .int s.2)] [] M) (fun (s : (Int32)) => Zs C w (0, 0) 60 [(3, .int s)] [] M) o) := by
  have hC := hB.1.1
  have hq1 : 1 ≤ d := by omega
  unfold j_X4_wellGone_54_9
  refine x_iinc hC dX4_wellGone_54 ki_1 [(4, .int (v4_54_9 + (1 : Int32))), (0, zr w 95), (1, .int v1_9), (2, .int v2_9), (3, .int v3_54_9)] 4 rfl (by decide) rfl ?_
  refine x_goto (tgt := 9) hC dX4_wellGone_57 (by decide) ?_
  refine x_sub [1, 2, 3, 4, 0] rfl ?_
  exact x_done (fun h => h)
noncomputable def j_X4_wellGone_51_9 (v1_9 : Int32) (v2_9 : Int32) (v4_51_9 : Int32) (v5_51_9 : Int32) (M : zM) : Option ((Int32 × Int32) ⊕ (Int32)) :=
  j_X4_wellGone_54_9 v1_9 v2_9 v5_51_9 v4_51_9 M
set_option maxRecDepth 100000 in
theorem j_X4_wellGone_51_9_ok {C : zC} {d : Nat} {g : zG} {l : Launch} {w : zW} {r : Int32 × zM} {v1_9 : Int32} {v2_9 : Int32} {v4_51_9 : Int32} {v5_51_9 : Int32} (hB : bOK C cX4_wellGone 6 RX4 d g l w true) (hd : 3 ≤ d) (M : zM) (hR : RtI C cX4_wellGone w r.1 r.2) : Sg C w (0, 0) 51 [(0, zr w 95), (1, .int v1_9), (2, .int v2_9), (4, .int v4_51_9), (5, .int v5_51_9)] [] M (j_X4_wellGone_51_9 v1_9 v2_9 v4_51_9 v5_51_9 M) (fun o => Sum.elim (fun (s : (Int32 × Int32)) => Zs C w (0, 0) 9 [(0, zr w 95), (1, .int v1_9), (2, .int v2_9), (3, .int s.1), (4, .int s.2)] [] M) (fun (s : (Int32)) => Zs C w (0, 0) 60 [(3, .int s)] [] M) o) := by
  have hC := hB.1.1
  have hq1 : 1 ≤ d := by omega
  unfold j_X4_wellGone_51_9
  refine x_iload hC dX4_wellGone_51 4 rfl ?_
  refine x_istore_n hC dX4_wellGone_53 rfl [(3, .int v5_51_9), (0, zr w 95), (1, .int v1_9), (2, .int v2_9), (4, .int v4_51_9), (5, .int v5_51_9)] (by decide) rfl ?_
  refine x_sub [1, 2, 3, 0, 4] rfl ?_
  exact j_X4_wellGone_54_9_ok hB hd M hR
noncomputable def b_X4_wellGone_9 (v1_9 : Int32) (v2_9 : Int32) (v3_9 : Int32) (v4_9 : Int32) (M : zM) : Option ((Int32 × Int32) ⊕ (Int32)) :=
  if (4 : Int32) ≤ v4_9 then (some (.inr v3_9))
  else ((f_X4_gone v1_9 v2_9 v4_9 M).bind fun u19_9 =>
  if u19_9 = (-1 : Int32) then (j_X4_wellGone_54_9 v1_9 v2_9 v3_9 v4_9 M)
  else (grd (inb u19_9 3721) (
  if (M 99 (ix u19_9)) = 0 then (if v3_9 = (-1 : Int32) then (j_X4_wellGone_51_9 v1_9 v2_9 v4_9 u19_9 M)
  else (if v3_9 ≤ u19_9 then (j_X4_wellGone_54_9 v1_9 v2_9 v3_9 v4_9 M)
  else (j_X4_wellGone_51_9 v1_9 v2_9 v4_9 u19_9 M)))
  else (j_X4_wellGone_54_9 v1_9 v2_9 v3_9 v4_9 M))))
set_option maxRecDepth 100000 in
theorem b_X4_wellGone_9_ok {C : zC} {d : Nat} {g : zG} {l : Launch} {w : zW} {r : Int32 × zM} {v1_9 : Int32} {v2_9 : Int32} {v3_9 : Int32} {v4_9 : Int32} (hB : bOK C cX4_wellGone 6 RX4 d g l w true) (hd : 3 ≤ d) (M : zM) (hR : RtI C cX4_wellGone w r.1 r.2) : Sg C w (0, 0) 9 [(0, zr w 95), (1, .int v1_9), (2, .int v2_9), (3, .int v3_9), (4, .int v4_9)] [] M (b_X4_wellGone_9 v1_9 v2_9 v3_9 v4_9 M) (fun o => Sum.elim (fun (s : (Int32 × Int32)) => Zs C w (0, 0) 9 [(0, zr w 95), (1, .int v1_9), (2, .int v2_9), (3, .int s.1), (4, .int s.2)] [] M) (fun (s : (Int32)) => Zs C w (0, 0) 60 [(3, .int s)] [] M) o) := by
  have hC := hB.1.1
  have hq1 : 1 ≤ d := by omega
  unfold b_X4_wellGone_9
  refine x_iload hC dX4_wellGone_9 4 rfl ?_
  refine x_iconst (v := (4 : Int32)) hC dX4_wellGone_11 ki_4 ?_
  refine x_icmp_ge (tgt := 60) hC dX4_wellGone_12 (by decide) ?_ ?_
  · refine x_sub [3] rfl ?_
    exact x_done (fun h => h)
  · refine x_iload_n hC dX4_wellGone_15 rfl 1 rfl ?_
    refine x_iload_n hC dX4_wellGone_16 rfl 2 rfl ?_
    refine x_iload hC dX4_wellGone_17 4 rfl ?_
    refine r_cS1 (as := [.int v1_9, .int v2_9, .int v4_9]) (rest := []) hB dX4_wellGone_19 ks_X4_56 hq1 rfl rfl (Nat.le_of_ble_eq_true rfl) (fun v hv => f_X4_gone_met hB.2 (by omega) hv) (fun u19_9 => ?_)
    refine x_istore (f := 0) hC dX4_wellGone_22 [(5, .int u19_9), (0, zr w 95), (1, .int v1_9), (2, .int v2_9), (3, .int v3_9), (4, .int v4_9)] (by decide) rfl ?_
    refine x_iload hC dX4_wellGone_24 0 rfl ?_
    refine x_iconst (v := (-1 : Int32)) hC dX4_wellGone_26 ki_m1 ?_
    refine x_icmp_eq (tgt := 54) hC dX4_wellGone_27 (by decide) ?_ ?_
    · refine x_sub [1, 2, 3, 4, 5] rfl ?_
      exact j_X4_wellGone_54_9_ok hB hd M hR
    · refine x_aload_n hC dX4_wellGone_30 rfl 1 rfl ?_
      refine r_getR hB dX4_wellGone_31 kf_X4_21 rfl th_95 rf_95_3 ?_
      refine x_iload hC dX4_wellGone_34 0 rfl ?_
      refine r_iald hB dX4_wellGone_36 th_99 ?_
      refine x_if_ne (tgt := 54) hC dX4_wellGone_37 (by decide) ?_ ?_
      · refine x_iload_n hC dX4_wellGone_40 rfl 4 rfl ?_
        refine x_iconst (v := (-1 : Int32)) hC dX4_wellGone_41 ki_m1 ?_
        refine x_icmp_eq (tgt := 51) hC dX4_wellGone_42 (by decide) ?_ ?_
        · refine x_sub [1, 2, 3, 5, 0] rfl ?_
          exact j_X4_wellGone_51_9_ok hB hd M hR
        · refine x_iload hC dX4_wellGone_45 0 rfl ?_
          refine x_iload_n hC dX4_wellGone_47 rfl 4 rfl ?_
          refine x_icmp_ge (tgt := 54) hC dX4_wellGone_48 (by decide) ?_ ?_
          · refine x_sub [1, 2, 3, 4, 5] rfl ?_
            exact j_X4_wellGone_54_9_ok hB hd M hR
          · refine x_sub [1, 2, 3, 5, 0] rfl ?_
            exact j_X4_wellGone_51_9_ok hB hd M hR
      · refine x_sub [1, 2, 3, 4, 5] rfl ?_
        exact j_X4_wellGone_54_9_ok hB hd M hR
noncomputable def j_X4_wellGone_60 (v3_60 : Int32) (M : zM) : Option (Int32 × zM) :=
  some (v3_60, M)
set_option maxRecDepth 100000 in
theorem j_X4_wellGone_60_ok {C : zC} {d : Nat} {g : zG} {l : Launch} {w : zW} {r : Int32 × zM} {v3_60 : Int32} (hB : bOK C cX4_wellGone 6 RX4 d g l w true) (hd : 3 ≤ d) (M : zM) (hR : RtI C cX4_wellGone w r.1 r.2) : Sg C w (0, 0) 60 [(3, .int v3_60)] [] M (j_X4_wellGone_60 v3_60 M) (fun q => q = r) := by
  have hC := hB.1.1
  have hq1 : 1 ≤ d := by omega
  unfold j_X4_wellGone_60
  refine x_iload_n hC dX4_wellGone_60 rfl 0 rfl ?_
  exact r_retI hR dX4_wellGone_61 (fun h => h)
noncomputable def f_X4_wellGone (p1 : Int32) (p2 : Int32) (M : zM) : Option (Int32 × zM) :=
  (f_X4_valueAll M).bind fun M1 =>
  (loopW (fun s => b_X4_wellGone_9 p1 p2 s.1 s.2 M1) ((-1 : Int32), (0 : Int32))).bind (fun r => j_X4_wellGone_60 r M1)
set_option maxRecDepth 100000 in
theorem f_X4_wellGone_ok {C : zC} {d : Nat} {g : zG} {l : Launch} {w : zW} {r : Int32 × zM} {p1 : Int32} {p2 : Int32} (hB : bOK C cX4_wellGone 6 RX4 d g l w true) (hd : 3 ≤ d) (M : zM) (hR : RtI C cX4_wellGone w r.1 r.2) : Sg C w (0, 0) 0 [(0, zr w 95), (1, .int p1), (2, .int p2)] [] M (f_X4_wellGone p1 p2 M) (fun q => q = r) := by
  have hC := hB.1.1
  have hq1 : 1 ≤ d := by omega
  unfold f_X4_wellGone
  refine x_aload_n hC dX4_wellGone_0 rfl 0 rfl ?_
  refine r_cVv (as := []) (rest := []) hB dX4_wellGone_1 kv_X4_53 th_95 hq1 rfl rfl (Nat.le_of_ble_eq_true rfl) (fun M' hv => f_X4_valueAll_met hB.2 (by omega) hv) (fun M1 => ?_)
  refine x_iconst (v := (-1 : Int32)) hC dX4_wellGone_4 ki_m1 ?_
  refine x_istore_n hC dX4_wellGone_5 rfl [(3, .int (-1 : Int32)), (0, zr w 95), (1, .int p1), (2, .int p2)] (by decide) rfl ?_
  refine x_iconst (v := (0 : Int32)) hC dX4_wellGone_6 ki_0 ?_
  refine x_istore (f := 0) hC dX4_wellGone_7 [(4, .int (0 : Int32)), (3, .int (-1 : Int32)), (0, zr w 95), (1, .int p1), (2, .int p2)] (by decide) rfl ?_
  refine x_sub [2, 3, 4, 1, 0] rfl ?_
  refine x_loopB (pc2 := 60) (fun (s : (Int32 × Int32)) => [(0, zr w 95), (1, .int p1), (2, .int p2), (3, .int s.1), (4, .int s.2)]) (fun (s : (Int32 × Int32)) => M1) (fun (s : (Int32)) => [(3, .int s)]) (fun (s : (Int32)) => M1) ((-1 : Int32), (0 : Int32)) ?_ ?_
  · exact fun s => b_X4_wellGone_9_ok hB hd M1 hR
  · intro r9
    exact j_X4_wellGone_60_ok hB hd M1 hR
theorem f_X4_wellGone_met {l : Launch} {d : Nat} {g : zG} {w : zW} {M0 : zM} {p1 : Int32} {p2 : Int32} {M : zM} (hw : wS w) (hd : 3 ≤ d) {v : Int32} {M' : zM} (h : f_X4_wellGone p1 p2 M = some (v, M')) : zMet l yX4_wellGone cX4_wellGone 6 (some .int) d g w (zin true) M0 [zr w 95, .int p1, .int p2] M (some (.int v)) M' :=
  met_i (by decide +kernel) (Nat.le_of_ble_eq_true rfl) rfl (fun C hB0 hR => f_X4_wellGone_ok (r := (v, M')) ⟨hB0, hw⟩ hd M hR _ h rfl)
/-! WindingSquare$Plane.leap(IIII)I -/
def j_X4_leap_41 (v4_41 : Int32) (s0_41 : Int32) (s1_41 : Int32) : Int32 :=
  nm (s0_41 + s1_41) fun v5_42 =>
  (f_X4_field v4_41 v5_42)
set_option maxRecDepth 100000 in
theorem j_X4_leap_41_ok {C : zC} {d : Nat} {g : zG} {l : Launch} {w : zW} {r : Int32} {v4_41 : Int32} {s0_41 : Int32} {s1_41 : Int32} (hB : bOK C cX4_leap 6 RX4 d g l w true) (hd : 3 ≤ d) (M : zM) (hR : RtI C cX4_leap w r M) : Sg C w (0, 0) 41 [(4, .int v4_41)] [.int s1_41, .int s0_41] M (some (j_X4_leap_41 v4_41 s0_41 s1_41)) (fun q => q = r) := by
  have hC := hB.1.1
  have hq1 : 1 ≤ d := by omega
  unfold j_X4_leap_41
  refine x_iadd hC dX4_leap_41 ?_
  refine x_sn ?_
  refine x_top (fun v5_42 => ?_)
  refine x_istore (f := 0) hC dX4_leap_42 [(5, .int v5_42), (4, .int v4_41)] (by decide) rfl ?_
  refine x_iload hC dX4_leap_44 1 rfl ?_
  refine x_iload hC dX4_leap_46 0 rfl ?_
  refine r_cS0 (as := [.int v4_41, .int v5_42]) (rest := []) hB dX4_leap_48 ks_X4_30 hq1 rfl rfl (Nat.le_of_ble_eq_true rfl) (f_X4_field_met hB.2 (by omega)) ?_
  exact r_retI hR dX4_leap_51 (fun h => congrArg (fun q => (q, M)) h)
def j_X4_leap_19 (v0_19 : Int32) (v2_19 : Int32) (v3_19 : Int32) (s0_19 : Int32) (s1_19 : Int32) : Int32 :=
  nm (s0_19 + s1_19) fun v4_20 =>
  if (v3_19 &&& (2 : Int32)) = 0 then (j_X4_leap_41 v4_20 ((v0_19 / (81 : Int32)) - (40 : Int32)) v2_19)
  else (j_X4_leap_41 v4_20 ((v0_19 / (81 : Int32)) - (40 : Int32)) (-v2_19))
set_option maxRecDepth 100000 in
theorem j_X4_leap_19_ok {C : zC} {d : Nat} {g : zG} {l : Launch} {w : zW} {r : Int32} {v0_19 : Int32} {v2_19 : Int32} {v3_19 : Int32} {s0_19 : Int32} {s1_19 : Int32} (hB : bOK C cX4_leap 6 RX4 d g l w true) (hd : 3 ≤ d) (M : zM) (hR : RtI C cX4_leap w r M) : Sg C w (0, 0) 19 [(0, .int v0_19), (2, .int v2_19), (3, .int v3_19)] [.int s1_19, .int s0_19] M (some (j_X4_leap_19 v0_19 v2_19 v3_19 s0_19 s1_19)) (fun q => q = r) := by
  have hC := hB.1.1
  have hq1 : 1 ≤ d := by omega
  unfold j_X4_leap_19
  refine x_iadd hC dX4_leap_19 ?_
  refine x_sn ?_
  refine x_top (fun v4_20 => ?_)
  refine x_istore (f := 0) hC dX4_leap_20 [(4, .int v4_20), (0, .int v0_19), (2, .int v2_19), (3, .int v3_19)] (by decide) rfl ?_
  refine x_iload_n hC dX4_leap_22 rfl 1 rfl ?_
  refine x_bipush (v := (81 : Int32)) hC dX4_leap_23 kb_81 ?_
  refine x_idiv0 hC dX4_leap_25 nz_81 ?_
  refine x_bipush (v := (40 : Int32)) hC dX4_leap_26 kb_40 ?_
  refine x_isub hC dX4_leap_28 ?_
  refine x_iload_n hC dX4_leap_29 rfl 3 rfl ?_
  refine x_iconst (v := (2 : Int32)) hC dX4_leap_30 ki_2 ?_
  refine x_iand hC dX4_leap_31 ?_
  refine x_si ?_
  refine x_if_ne (tgt := 39) hC dX4_leap_32 (by decide) ?_ ?_
  · refine x_iload_n hC dX4_leap_35 rfl 2 rfl ?_
    refine x_goto (tgt := 41) hC dX4_leap_36 (by decide) ?_
    refine x_sub [0] rfl ?_
    exact j_X4_leap_41_ok hB hd M hR
  · refine x_iload_n hC dX4_leap_39 rfl 2 rfl ?_
    refine x_ineg hC dX4_leap_40 ?_
    refine x_sub [0] rfl ?_
    exact j_X4_leap_41_ok hB hd M hR
def f_X4_leap (p0 : Int32) (p1 : Int32) (p2 : Int32) (p3 : Int32) : Int32 :=
  if (p3 &&& (1 : Int32)) = 0 then (j_X4_leap_19 p0 p2 p3 ((irem p0 (81 : Int32)) - (40 : Int32)) p1)
  else (j_X4_leap_19 p0 p2 p3 ((irem p0 (81 : Int32)) - (40 : Int32)) (-p1))
set_option maxRecDepth 100000 in
theorem f_X4_leap_ok {C : zC} {d : Nat} {g : zG} {l : Launch} {w : zW} {r : Int32} {p0 : Int32} {p1 : Int32} {p2 : Int32} {p3 : Int32} (hB : bOK C cX4_leap 6 RX4 d g l w true) (hd : 3 ≤ d) (M : zM) (hR : RtI C cX4_leap w r M) : Sg C w (0, 0) 0 [(0, .int p0), (1, .int p1), (2, .int p2), (3, .int p3)] [] M (some (f_X4_leap p0 p1 p2 p3)) (fun q => q = r) := by
  have hC := hB.1.1
  have hq1 : 1 ≤ d := by omega
  unfold f_X4_leap
  refine x_iload_n hC dX4_leap_0 rfl 0 rfl ?_
  refine x_bipush (v := (81 : Int32)) hC dX4_leap_1 kb_81 ?_
  refine x_irem0 hC dX4_leap_3 nz_81 ?_
  refine x_bipush (v := (40 : Int32)) hC dX4_leap_4 kb_40 ?_
  refine x_isub hC dX4_leap_6 ?_
  refine x_iload_n hC dX4_leap_7 rfl 3 rfl ?_
  refine x_iconst (v := (1 : Int32)) hC dX4_leap_8 ki_1 ?_
  refine x_iand hC dX4_leap_9 ?_
  refine x_si ?_
  refine x_if_ne (tgt := 17) hC dX4_leap_10 (by decide) ?_ ?_
  · refine x_iload_n hC dX4_leap_13 rfl 1 rfl ?_
    refine x_goto (tgt := 19) hC dX4_leap_14 (by decide) ?_
    refine x_sub [0, 2, 3] rfl ?_
    exact j_X4_leap_19_ok hB hd M hR
  · refine x_iload_n hC dX4_leap_17 rfl 1 rfl ?_
    refine x_ineg hC dX4_leap_18 ?_
    refine x_sub [0, 2, 3] rfl ?_
    exact j_X4_leap_19_ok hB hd M hR
theorem f_X4_leap_met {l : Launch} {d : Nat} {g : zG} {w : zW} {M0 : zM} {p0 : Int32} {p1 : Int32} {p2 : Int32} {p3 : Int32} {M : zM} (hw : wS w) (hd : 3 ≤ d) : zMet l yX4_leap cX4_leap 6 (some .int) d g w (zin true) M0 [.int p0, .int p1, .int p2, .int p3] M (some (.int (f_X4_leap p0 p1 p2 p3))) M :=
  met_i (by decide +kernel) (Nat.le_of_ble_eq_true rfl) rfl (fun C hB0 hR => f_X4_leap_ok ⟨hB0, hw⟩ hd M hR _ rfl rfl)
/-! WindingSquare$Rows.alike()Z -/
noncomputable def f_X6_alike (a0 : Nat) (M : zM) : Option (Int32) :=
  if (M (a0 + 2) (ix (0 : Int32))) = (M (a0 + 2) (ix (1 : Int32))) then ((f_X6_goesRoundTo a0 (12 : Int32) (0 : Int32) M).bind fun u19 =>
  if u19 = 0 then ((f_X6_goesRoundTo a0 (12 : Int32) (1 : Int32) M).bind fun u29 =>
  if u29 = 0 then (some (0 : Int32))
  else (some (1 : Int32)))
  else (some (1 : Int32)))
  else (some (0 : Int32))
set_option maxRecDepth 100000 in
theorem f_X6_alike_ok {C : zC} {d : Nat} {g : zG} {l : Launch} {w : zW} {r : Int32} {a0 : Nat} (hB : bOK C cX6_alike 1 RX6 d g l w true) (h0 : tO true 6 a0) (hd : 3 ≤ d) (M : zM) (hR : RtZ C cX6_alike w r M) : Sg C w (0, 0) 0 [(0, zr w a0)] [] M (f_X6_alike a0 M) (fun q => q = r) := by
  have hC := hB.1.1
  have hq1 : 1 ≤ d := by omega
  unfold f_X6_alike
  refine x_aload_n hC dX6_alike_0 rfl 0 rfl ?_
  refine r_getR hB dX6_alike_1 kf_X6_15 rfl h0 (nv_6_1 h0).1 ?_
  refine x_iconst (v := (0 : Int32)) hC dX6_alike_4 ki_0 ?_
  refine r_iald0 hB dX6_alike_5 (nv_6_1 h0).2 ib_0_2 ?_
  refine x_aload_n hC dX6_alike_6 rfl 0 rfl ?_
  refine r_getR hB dX6_alike_7 kf_X6_15 rfl h0 (nv_6_1 h0).1 ?_
  refine x_iconst (v := (1 : Int32)) hC dX6_alike_10 ki_1 ?_
  refine r_iald0 hB dX6_alike_11 (nv_6_1 h0).2 ib_1_2 ?_
  refine x_icmp_ne (tgt := 39) hC dX6_alike_12 (by decide) ?_ ?_
  · refine x_aload_n hC dX6_alike_15 rfl 0 rfl ?_
    refine x_bipush (v := (12 : Int32)) hC dX6_alike_16 kb_12 ?_
    refine x_iconst (v := (0 : Int32)) hC dX6_alike_18 ki_0 ?_
    refine r_cV1 (as := [.int (12 : Int32), .int (0 : Int32)]) (rest := []) hB dX6_alike_19 kv_X6_40 h0 hq1 rfl rfl (Nat.le_of_ble_eq_true rfl) (fun v hv => f_X6_goesRoundTo_met hB.2 h0 (by omega) hv) (fun u19 => ?_)
    refine x_if_ne (tgt := 35) hC dX6_alike_22 (by decide) ?_ ?_
    · refine x_aload_n hC dX6_alike_25 rfl 0 rfl ?_
      refine x_bipush (v := (12 : Int32)) hC dX6_alike_26 kb_12 ?_
      refine x_iconst (v := (1 : Int32)) hC dX6_alike_28 ki_1 ?_
      refine r_cV1 (as := [.int (12 : Int32), .int (1 : Int32)]) (rest := []) hB dX6_alike_29 kv_X6_40 h0 hq1 rfl rfl (Nat.le_of_ble_eq_true rfl) (fun v hv => f_X6_goesRoundTo_met hB.2 h0 (by omega) hv) (fun u29 => ?_)
      refine x_if_eq (tgt := 39) hC dX6_alike_32 (by decide) ?_ ?_
      · refine x_iconst (v := (0 : Int32)) hC dX6_alike_39 ki_0 ?_
        exact r_retZ hR dX6_alike_40 (Or.inl rfl) (fun h => congrArg (fun q => (q, M)) h)
      · refine x_iconst (v := (1 : Int32)) hC dX6_alike_35 ki_1 ?_
        refine x_goto (tgt := 40) hC dX6_alike_36 (by decide) ?_
        exact r_retZ hR dX6_alike_40 (Or.inr rfl) (fun h => congrArg (fun q => (q, M)) h)
    · refine x_iconst (v := (1 : Int32)) hC dX6_alike_35 ki_1 ?_
      refine x_goto (tgt := 40) hC dX6_alike_36 (by decide) ?_
      exact r_retZ hR dX6_alike_40 (Or.inr rfl) (fun h => congrArg (fun q => (q, M)) h)
  · refine x_iconst (v := (0 : Int32)) hC dX6_alike_39 ki_0 ?_
    exact r_retZ hR dX6_alike_40 (Or.inl rfl) (fun h => congrArg (fun q => (q, M)) h)
theorem f_X6_alike_met {l : Launch} {d : Nat} {g : zG} {w : zW} {M0 : zM} {a0 : Nat} {M : zM} (hw : wS w) (h0 : tO true 6 a0) (hd : 3 ≤ d) {v : Int32} (h : f_X6_alike a0 M = some v) : zMet l yX6_alike cX6_alike 1 (some .boolean) d g w (zin true) M0 [zr w a0] M (some (.int v)) M :=
  met_z (by decide +kernel) (Nat.le_of_ble_eq_true rfl) (fun C hB0 hR => f_X6_alike_ok ⟨hB0, hw⟩ h0 hd M hR _ h rfl)
/-! WindingSquare$Rows.unlikeRows()I -/
noncomputable def b_X6_unlikeRows_2 (a0 : Nat) (v1_2 : Int32) (M : zM) : Option ((Int32) ⊕ (Int32)) :=
  if (M (a0 + 2) (ix (0 : Int32))) ≤ v1_2 then (some (.inr v1_2))
  else ((f_X6_isRotation a0 v1_2 (0 : Int32) (0 : Int32) M).bind fun u16_2 =>
  if u16_2 = 0 then (some (.inl (v1_2 + (1 : Int32))))
  else (some (.inr v1_2)))
set_option maxRecDepth 100000 in
theorem b_X6_unlikeRows_2_ok {C : zC} {d : Nat} {g : zG} {l : Launch} {w : zW} {r : Int32} {a0 : Nat} {v1_2 : Int32} (hB : bOK C cX6_unlikeRows 2 RX6 d g l w true) (h0 : tO true 6 a0) (hd : 3 ≤ d) (M : zM) (hR : RtI C cX6_unlikeRows w r M) : Sg C w (0, 0) 2 [(0, zr w a0), (1, .int v1_2)] [] M (b_X6_unlikeRows_2 a0 v1_2 M) (fun o => Sum.elim (fun (s : (Int32)) => Zs C w (0, 0) 2 [(0, zr w a0), (1, .int s)] [] M) (fun (s : (Int32)) => Zs C w (0, 0) 28 [(0, zr w a0), (1, .int s)] [] M) o) := by
  have hC := hB.1.1
  have hq1 : 1 ≤ d := by omega
  unfold b_X6_unlikeRows_2
  refine x_iload_n hC dX6_unlikeRows_2 rfl 1 rfl ?_
  refine x_aload_n hC dX6_unlikeRows_3 rfl 0 rfl ?_
  refine r_getR hB dX6_unlikeRows_4 kf_X6_15 rfl h0 (nv_6_1 h0).1 ?_
  refine x_iconst (v := (0 : Int32)) hC dX6_unlikeRows_7 ki_0 ?_
  refine r_iald0 hB dX6_unlikeRows_8 (nv_6_1 h0).2 ib_0_2 ?_
  refine x_icmp_ge (tgt := 28) hC dX6_unlikeRows_9 (by decide) ?_ ?_
  · exact x_done (fun h => h)
  · refine x_aload_n hC dX6_unlikeRows_12 rfl 0 rfl ?_
    refine x_iload_n hC dX6_unlikeRows_13 rfl 1 rfl ?_
    refine x_iconst (v := (0 : Int32)) hC dX6_unlikeRows_14 ki_0 ?_
    refine x_iconst (v := (0 : Int32)) hC dX6_unlikeRows_15 ki_0 ?_
    refine r_cV1 (as := [.int v1_2, .int (0 : Int32), .int (0 : Int32)]) (rest := []) hB dX6_unlikeRows_16 kv_X6_44 h0 hq1 rfl rfl (Nat.le_of_ble_eq_true rfl) (fun v hv => f_X6_isRotation_met hB.2 h0 (by omega) hv) (fun u16_2 => ?_)
    refine x_if_ne (tgt := 28) hC dX6_unlikeRows_19 (by decide) ?_ ?_
    · refine x_iinc hC dX6_unlikeRows_22 ki_1 [(1, .int (v1_2 + (1 : Int32))), (0, zr w a0)] 1 rfl (by decide) rfl ?_
      refine x_goto (tgt := 2) hC dX6_unlikeRows_25 (by decide) ?_
      refine x_sub [1, 0] rfl ?_
      exact x_done (fun h => h)
    · exact x_done (fun h => h)
noncomputable def j_X6_unlikeRows_28 (a0 : Nat) (v1_28 : Int32) (M : zM) : Option (Int32) :=
  if (M (a0 + 2) (ix (0 : Int32))) = 0 then (some v1_28)
  else ((f_X6_goesRoundTo a0 (0 : Int32) (1 : Int32) M).bind fun u40 =>
  if u40 = 0 then (some ((2 : Int32) * v1_28))
  else (some v1_28))
set_option maxRecDepth 100000 in
theorem j_X6_unlikeRows_28_ok {C : zC} {d : Nat} {g : zG} {l : Launch} {w : zW} {r : Int32} {a0 : Nat} {v1_28 : Int32} (hB : bOK C cX6_unlikeRows 2 RX6 d g l w true) (h0 : tO true 6 a0) (hd : 3 ≤ d) (M : zM) (hR : RtI C cX6_unlikeRows w r M) : Sg C w (0, 0) 28 [(0, zr w a0), (1, .int v1_28)] [] M (j_X6_unlikeRows_28 a0 v1_28 M) (fun q => q = r) := by
  have hC := hB.1.1
  have hq1 : 1 ≤ d := by omega
  unfold j_X6_unlikeRows_28
  refine x_aload_n hC dX6_unlikeRows_28 rfl 0 rfl ?_
  refine r_getR hB dX6_unlikeRows_29 kf_X6_15 rfl h0 (nv_6_1 h0).1 ?_
  refine x_iconst (v := (0 : Int32)) hC dX6_unlikeRows_32 ki_0 ?_
  refine r_iald0 hB dX6_unlikeRows_33 (nv_6_1 h0).2 ib_0_2 ?_
  refine x_if_eq (tgt := 46) hC dX6_unlikeRows_34 (by decide) ?_ ?_
  · refine x_iload_n hC dX6_unlikeRows_46 rfl 1 rfl ?_
    refine x_goto (tgt := 53) hC dX6_unlikeRows_47 (by decide) ?_
    exact r_retI hR dX6_unlikeRows_53 (fun h => congrArg (fun q => (q, M)) h)
  · refine x_aload_n hC dX6_unlikeRows_37 rfl 0 rfl ?_
    refine x_iconst (v := (0 : Int32)) hC dX6_unlikeRows_38 ki_0 ?_
    refine x_iconst (v := (1 : Int32)) hC dX6_unlikeRows_39 ki_1 ?_
    refine r_cV1 (as := [.int (0 : Int32), .int (1 : Int32)]) (rest := []) hB dX6_unlikeRows_40 kv_X6_40 h0 hq1 rfl rfl (Nat.le_of_ble_eq_true rfl) (fun v hv => f_X6_goesRoundTo_met hB.2 h0 (by omega) hv) (fun u40 => ?_)
    refine x_if_eq (tgt := 50) hC dX6_unlikeRows_43 (by decide) ?_ ?_
    · refine x_iconst (v := (2 : Int32)) hC dX6_unlikeRows_50 ki_2 ?_
      refine x_iload_n hC dX6_unlikeRows_51 rfl 1 rfl ?_
      refine x_imul hC dX6_unlikeRows_52 ?_
      exact r_retI hR dX6_unlikeRows_53 (fun h => congrArg (fun q => (q, M)) h)
    · refine x_iload_n hC dX6_unlikeRows_46 rfl 1 rfl ?_
      refine x_goto (tgt := 53) hC dX6_unlikeRows_47 (by decide) ?_
      exact r_retI hR dX6_unlikeRows_53 (fun h => congrArg (fun q => (q, M)) h)
noncomputable def f_X6_unlikeRows (a0 : Nat) (M : zM) : Option (Int32) :=
  (loopW (fun s => b_X6_unlikeRows_2 a0 s M) (1 : Int32)).bind (fun r => j_X6_unlikeRows_28 a0 r M)
set_option maxRecDepth 100000 in
theorem f_X6_unlikeRows_ok {C : zC} {d : Nat} {g : zG} {l : Launch} {w : zW} {r : Int32} {a0 : Nat} (hB : bOK C cX6_unlikeRows 2 RX6 d g l w true) (h0 : tO true 6 a0) (hd : 3 ≤ d) (M : zM) (hR : RtI C cX6_unlikeRows w r M) : Sg C w (0, 0) 0 [(0, zr w a0)] [] M (f_X6_unlikeRows a0 M) (fun q => q = r) := by
  have hC := hB.1.1
  have hq1 : 1 ≤ d := by omega
  unfold f_X6_unlikeRows
  refine x_iconst (v := (1 : Int32)) hC dX6_unlikeRows_0 ki_1 ?_
  refine x_istore_n hC dX6_unlikeRows_1 rfl [(1, .int (1 : Int32)), (0, zr w a0)] (by decide) rfl ?_
  refine x_sub [1, 0] rfl ?_
  refine x_loopB (pc2 := 28) (fun (s : (Int32)) => [(0, zr w a0), (1, .int s)]) (fun (s : (Int32)) => M) (fun (s : (Int32)) => [(0, zr w a0), (1, .int s)]) (fun (s : (Int32)) => M) (1 : Int32) ?_ ?_
  · exact fun s => b_X6_unlikeRows_2_ok hB h0 hd M hR
  · intro r9
    exact j_X6_unlikeRows_28_ok hB h0 hd M hR
theorem f_X6_unlikeRows_met {l : Launch} {d : Nat} {g : zG} {w : zW} {M0 : zM} {a0 : Nat} {M : zM} (hw : wS w) (h0 : tO true 6 a0) (hd : 3 ≤ d) {v : Int32} (h : f_X6_unlikeRows a0 M = some v) : zMet l yX6_unlikeRows cX6_unlikeRows 2 (some .int) d g w (zin true) M0 [zr w a0] M (some (.int v)) M :=
  met_i (by decide +kernel) (Nat.le_of_ble_eq_true rfl) rfl (fun C hB0 hR => f_X6_unlikeRows_ok ⟨hB0, hw⟩ h0 hd M hR _ h rfl)
/-! WindingSquare$Rows.sideways()I -/
noncomputable def j_X6_sideways_56_4_15 (a0 : Nat) (v1_15_4 : Int32) (v2_15_4 : Int32) (v3_56_4_15 : Int32) (v4_56_4_15 : Int32) (M : zM) : Option ((Int32 × Int32 × zM) ⊕ (Int32 × zM)) :=
  some (.inl (v3_56_4_15, (v4_56_4_15 + (1 : Int32)), M))
set_option maxRecDepth 100000 in
theorem j_X6_sideways_56_4_15_ok {C : zC} {d : Nat} {g : zG} {l : Launch} {w : zW} {r : Int32 × zM} {a0 : Nat} {v1_15_4 : Int32} {v2_15_4 : Int32} {v3_56_4_15 : Int32} {v4_56_4_15 : Int32} (hB : bOK C cX6_sideways 5 RX6 d g l w true) (h0 : tO true 6 a0) (hd : 3 ≤ d) (M : zM) (hR : RtI C cX6_sideways w r.1 r.2) : Sg C w (0, 0) 56 [(0, zr w a0), (1, .int v1_15_4), (2, .int v2_15_4), (3, .int v3_56_4_15), (4, .int v4_56_4_15)] [] M (j_X6_sideways_56_4_15 a0 v1_15_4 v2_15_4 v3_56_4_15 v4_56_4_15 M) (fun o => Sum.elim (fun (s : (Int32 × Int32 × zM)) => Zs C w (0, 0) 15 [(0, zr w a0), (1, .int v1_15_4), (2, .int v2_15_4), (3, .int s.1), (4, .int s.2.1)] [] s.2.2) (fun (s : (Int32 × zM)) => Zs C w (0, 0) 62 [(0, zr w a0), (1, .int v1_15_4), (2, .int v2_15_4), (3, .int s.1)] [] s.2) o) := by
  have hC := hB.1.1
  have hq1 : 1 ≤ d := by omega
  unfold j_X6_sideways_56_4_15
  refine x_iinc hC dX6_sideways_56 ki_1 [(4, .int (v4_56_4_15 + (1 : Int32))), (0, zr w a0), (1, .int v1_15_4), (2, .int v2_15_4), (3, .int v3_56_4_15)] 4 rfl (by decide) rfl ?_
  refine x_goto (tgt := 15) hC dX6_sideways_59 (by decide) ?_
  refine x_sub [1, 2, 3, 4, 0] rfl ?_
  exact x_done (fun h => h)
noncomputable def b_X6_sideways_15_4 (a0 : Nat) (v1_15_4 : Int32) (v2_15_4 : Int32) (v3_15_4 : Int32) (v4_15_4 : Int32) (M : zM) : Option ((Int32 × Int32 × zM) ⊕ (Int32 × zM)) :=
  if (M a0 6) ≤ v4_15_4 then (some (.inr (v3_15_4, M)))
  else (grd (inb v4_15_4 8) (
  if (M (a0 + 4) (ix v4_15_4)) = v2_15_4 then (grd (inb v4_15_4 8) (
  (f_X6_fewestTo a0 (M (a0 + 5) (ix v4_15_4)) v1_15_4 M).bind fun u50_4_15 =>
  grd (inb v4_15_4 8) (
  nm (mset M (a0 + 6) (ix v4_15_4) u50_4_15) fun M53_4_15 =>
  j_X6_sideways_56_4_15 a0 v1_15_4 v2_15_4 (1 : Int32) v4_15_4 M53_4_15)))
  else (j_X6_sideways_56_4_15 a0 v1_15_4 v2_15_4 v3_15_4 v4_15_4 M)))
set_option maxRecDepth 100000 in
theorem b_X6_sideways_15_4_ok {C : zC} {d : Nat} {g : zG} {l : Launch} {w : zW} {r : Int32 × zM} {a0 : Nat} {v1_15_4 : Int32} {v2_15_4 : Int32} {v3_15_4 : Int32} {v4_15_4 : Int32} (hB : bOK C cX6_sideways 5 RX6 d g l w true) (h0 : tO true 6 a0) (hd : 3 ≤ d) (M : zM) (hR : RtI C cX6_sideways w r.1 r.2) : Sg C w (0, 0) 15 [(0, zr w a0), (1, .int v1_15_4), (2, .int v2_15_4), (3, .int v3_15_4), (4, .int v4_15_4)] [] M (b_X6_sideways_15_4 a0 v1_15_4 v2_15_4 v3_15_4 v4_15_4 M) (fun o => Sum.elim (fun (s : (Int32 × Int32 × zM)) => Zs C w (0, 0) 15 [(0, zr w a0), (1, .int v1_15_4), (2, .int v2_15_4), (3, .int s.1), (4, .int s.2.1)] [] s.2.2) (fun (s : (Int32 × zM)) => Zs C w (0, 0) 62 [(0, zr w a0), (1, .int v1_15_4), (2, .int v2_15_4), (3, .int s.1)] [] s.2) o) := by
  have hC := hB.1.1
  have hq1 : 1 ≤ d := by omega
  unfold b_X6_sideways_15_4
  refine x_iload hC dX6_sideways_15 4 rfl ?_
  refine x_aload_n hC dX6_sideways_17 rfl 0 rfl ?_
  refine r_getI hB dX6_sideways_18 kf_X6_37 rfl h0 ?_
  refine x_icmp_ge (tgt := 62) hC dX6_sideways_21 (by decide) ?_ ?_
  · refine x_sub [0, 1, 2, 3] rfl ?_
    exact x_done (fun h => h)
  · refine x_aload_n hC dX6_sideways_24 rfl 0 rfl ?_
    refine r_getR hB dX6_sideways_25 kf_X6_21 rfl h0 (nv_6_4 h0).1 ?_
    refine x_iload hC dX6_sideways_28 4 rfl ?_
    refine r_iald hB dX6_sideways_30 (nv_6_4 h0).2 ?_
    refine x_iload_n hC dX6_sideways_31 rfl 2 rfl ?_
    refine x_icmp_ne (tgt := 56) hC dX6_sideways_32 (by decide) ?_ ?_
    · refine x_aload_n hC dX6_sideways_35 rfl 0 rfl ?_
      refine r_getR hB dX6_sideways_36 kf_X6_27 rfl h0 (nv_6_7 h0).1 ?_
      refine x_iload hC dX6_sideways_39 4 rfl ?_
      refine x_aload_n hC dX6_sideways_41 rfl 0 rfl ?_
      refine x_aload_n hC dX6_sideways_42 rfl 0 rfl ?_
      refine r_getR hB dX6_sideways_43 kf_X6_24 rfl h0 (nv_6_5 h0).1 ?_
      refine x_iload hC dX6_sideways_46 4 rfl ?_
      refine r_iald hB dX6_sideways_48 (nv_6_5 h0).2 ?_
      refine x_iload_n hC dX6_sideways_49 rfl 1 rfl ?_
      refine r_cV1 (as := [.int (M (a0 + 5) (ix v4_15_4)), .int v1_15_4]) (rest := [.int v4_15_4, zr w (a0 + 6)]) hB dX6_sideways_50 kv_X6_75 h0 hq1 rfl rfl (Nat.le_of_ble_eq_true rfl) (fun v hv => f_X6_fewestTo_met hB.2 h0 (by omega) hv) (fun u50_4_15 => ?_)
      refine r_iast hB dX6_sideways_53 (nv_6_7 h0).2 ?_
      refine x_mem (fun M53_4_15 => ?_)
      refine x_iconst (v := (1 : Int32)) hC dX6_sideways_54 ki_1 ?_
      refine x_istore_n hC dX6_sideways_55 rfl [(3, .int (1 : Int32)), (0, zr w a0), (1, .int v1_15_4), (2, .int v2_15_4), (4, .int v4_15_4)] (by decide) rfl ?_
      refine x_sub [1, 2, 3, 0, 4] rfl ?_
      exact j_X6_sideways_56_4_15_ok hB h0 hd M53_4_15 hR
    · exact j_X6_sideways_56_4_15_ok hB h0 hd M hR
noncomputable def j_X6_sideways_68_4 (a0 : Nat) (v1_68_4 : Int32) (v2_68_4 : Int32) (M : zM) : Option ((Int32 × Int32 × zM) ⊕ (Int32 × zM)) :=
  some (.inl (v1_68_4, (v2_68_4 + (1 : Int32)), M))
set_option maxRecDepth 100000 in
theorem j_X6_sideways_68_4_ok {C : zC} {d : Nat} {g : zG} {l : Launch} {w : zW} {r : Int32 × zM} {a0 : Nat} {v1_68_4 : Int32} {v2_68_4 : Int32} (hB : bOK C cX6_sideways 5 RX6 d g l w true) (h0 : tO true 6 a0) (hd : 3 ≤ d) (M : zM) (hR : RtI C cX6_sideways w r.1 r.2) : Sg C w (0, 0) 68 [(0, zr w a0), (1, .int v1_68_4), (2, .int v2_68_4)] [] M (j_X6_sideways_68_4 a0 v1_68_4 v2_68_4 M) (fun o => Sum.elim (fun (s : (Int32 × Int32 × zM)) => Zs C w (0, 0) 4 [(0, zr w a0), (1, .int s.1), (2, .int s.2.1)] [] s.2.2) (fun (s : (Int32 × zM)) => Zs C w (0, 0) 74 [(0, zr w a0), (1, .int s.1)] [] s.2) o) := by
  have hC := hB.1.1
  have hq1 : 1 ≤ d := by omega
  unfold j_X6_sideways_68_4
  refine x_iinc hC dX6_sideways_68 ki_1 [(2, .int (v2_68_4 + (1 : Int32))), (0, zr w a0), (1, .int v1_68_4)] 2 rfl (by decide) rfl ?_
  refine x_goto (tgt := 4) hC dX6_sideways_71 (by decide) ?_
  refine x_sub [1, 2, 0] rfl ?_
  exact x_done (fun h => h)
noncomputable def j_X6_sideways_62_4 (a0 : Nat) (v1_62_4 : Int32) (v2_62_4 : Int32) (v3_62_4 : Int32) (M : zM) : Option ((Int32 × Int32 × zM) ⊕ (Int32 × zM)) :=
  if v3_62_4 = 0 then (j_X6_sideways_68_4 a0 v1_62_4 v2_62_4 M)
  else (j_X6_sideways_68_4 a0 v2_62_4 v2_62_4 M)
set_option maxRecDepth 100000 in
theorem j_X6_sideways_62_4_ok {C : zC} {d : Nat} {g : zG} {l : Launch} {w : zW} {r : Int32 × zM} {a0 : Nat} {v1_62_4 : Int32} {v2_62_4 : Int32} {v3_62_4 : Int32} (hB : bOK C cX6_sideways 5 RX6 d g l w true) (h0 : tO true 6 a0) (hd : 3 ≤ d) (M : zM) (hR : RtI C cX6_sideways w r.1 r.2) : Sg C w (0, 0) 62 [(0, zr w a0), (1, .int v1_62_4), (2, .int v2_62_4), (3, .int v3_62_4)] [] M (j_X6_sideways_62_4 a0 v1_62_4 v2_62_4 v3_62_4 M) (fun o => Sum.elim (fun (s : (Int32 × Int32 × zM)) => Zs C w (0, 0) 4 [(0, zr w a0), (1, .int s.1), (2, .int s.2.1)] [] s.2.2) (fun (s : (Int32 × zM)) => Zs C w (0, 0) 74 [(0, zr w a0), (1, .int s.1)] [] s.2) o) := by
  have hC := hB.1.1
  have hq1 : 1 ≤ d := by omega
  unfold j_X6_sideways_62_4
  refine x_iload_n hC dX6_sideways_62 rfl 3 rfl ?_
  refine x_if_eq (tgt := 68) hC dX6_sideways_63 (by decide) ?_ ?_
  · refine x_sub [0, 1, 2] rfl ?_
    exact j_X6_sideways_68_4_ok hB h0 hd M hR
  · refine x_iload_n hC dX6_sideways_66 rfl 2 rfl ?_
    refine x_istore_n hC dX6_sideways_67 rfl [(1, .int v2_62_4), (0, zr w a0), (2, .int v2_62_4), (3, .int v3_62_4)] (by decide) rfl ?_
    refine x_sub [1, 0, 2] rfl ?_
    exact j_X6_sideways_68_4_ok hB h0 hd M hR
noncomputable def b_X6_sideways_4 (a0 : Nat) (v1_4 : Int32) (v2_4 : Int32) (M : zM) : Option ((Int32 × Int32 × zM) ⊕ (Int32 × zM)) :=
  if (8 : Int32) ≤ v2_4 then (some (.inr (v1_4, M)))
  else ((loopW (fun s => b_X6_sideways_15_4 a0 v1_4 v2_4 s.1 s.2.1 s.2.2) ((0 : Int32), (0 : Int32), M)).bind (fun r => j_X6_sideways_62_4 a0 v1_4 v2_4 r.1 r.2))
set_option maxRecDepth 100000 in
theorem b_X6_sideways_4_ok {C : zC} {d : Nat} {g : zG} {l : Launch} {w : zW} {r : Int32 × zM} {a0 : Nat} {v1_4 : Int32} {v2_4 : Int32} (hB : bOK C cX6_sideways 5 RX6 d g l w true) (h0 : tO true 6 a0) (hd : 3 ≤ d) (M : zM) (hR : RtI C cX6_sideways w r.1 r.2) : Sg C w (0, 0) 4 [(0, zr w a0), (1, .int v1_4), (2, .int v2_4)] [] M (b_X6_sideways_4 a0 v1_4 v2_4 M) (fun o => Sum.elim (fun (s : (Int32 × Int32 × zM)) => Zs C w (0, 0) 4 [(0, zr w a0), (1, .int s.1), (2, .int s.2.1)] [] s.2.2) (fun (s : (Int32 × zM)) => Zs C w (0, 0) 74 [(0, zr w a0), (1, .int s.1)] [] s.2) o) := by
  have hC := hB.1.1
  have hq1 : 1 ≤ d := by omega
  unfold b_X6_sideways_4
  refine x_iload_n hC dX6_sideways_4 rfl 2 rfl ?_
  refine x_bipush (v := (8 : Int32)) hC dX6_sideways_5 kb_8 ?_
  refine x_icmp_ge (tgt := 74) hC dX6_sideways_7 (by decide) ?_ ?_
  · refine x_sub [0, 1] rfl ?_
    exact x_done (fun h => h)
  · refine x_iconst (v := (0 : Int32)) hC dX6_sideways_10 ki_0 ?_
    refine x_istore_n hC dX6_sideways_11 rfl [(3, .int (0 : Int32)), (0, zr w a0), (1, .int v1_4), (2, .int v2_4)] (by decide) rfl ?_
    refine x_iconst (v := (0 : Int32)) hC dX6_sideways_12 ki_0 ?_
    refine x_istore (f := 0) hC dX6_sideways_13 [(4, .int (0 : Int32)), (3, .int (0 : Int32)), (0, zr w a0), (1, .int v1_4), (2, .int v2_4)] (by decide) rfl ?_
    refine x_sub [2, 3, 4, 1, 0] rfl ?_
    refine x_loopB (pc2 := 62) (fun (s : (Int32 × Int32 × zM)) => [(0, zr w a0), (1, .int v1_4), (2, .int v2_4), (3, .int s.1), (4, .int s.2.1)]) (fun (s : (Int32 × Int32 × zM)) => s.2.2) (fun (s : (Int32 × zM)) => [(0, zr w a0), (1, .int v1_4), (2, .int v2_4), (3, .int s.1)]) (fun (s : (Int32 × zM)) => s.2) ((0 : Int32), (0 : Int32), M) ?_ ?_
    · exact fun s => b_X6_sideways_15_4_ok hB h0 hd s.2.2 hR
    · intro r9
      exact j_X6_sideways_62_4_ok hB h0 hd r9.2 hR
noncomputable def j_X6_sideways_74 (a0 : Nat) (v1_74 : Int32) (M : zM) : Option (Int32 × zM) :=
  (f_X6_fewestTo a0 (0 : Int32) v1_74 M).bind fun u77 =>
  some (u77, M)
set_option maxRecDepth 100000 in
theorem j_X6_sideways_74_ok {C : zC} {d : Nat} {g : zG} {l : Launch} {w : zW} {r : Int32 × zM} {a0 : Nat} {v1_74 : Int32} (hB : bOK C cX6_sideways 5 RX6 d g l w true) (h0 : tO true 6 a0) (hd : 3 ≤ d) (M : zM) (hR : RtI C cX6_sideways w r.1 r.2) : Sg C w (0, 0) 74 [(0, zr w a0), (1, .int v1_74)] [] M (j_X6_sideways_74 a0 v1_74 M) (fun q => q = r) := by
  have hC := hB.1.1
  have hq1 : 1 ≤ d := by omega
  unfold j_X6_sideways_74
  refine x_aload_n hC dX6_sideways_74 rfl 0 rfl ?_
  refine x_iconst (v := (0 : Int32)) hC dX6_sideways_75 ki_0 ?_
  refine x_iload_n hC dX6_sideways_76 rfl 1 rfl ?_
  refine r_cV1 (as := [.int (0 : Int32), .int v1_74]) (rest := []) hB dX6_sideways_77 kv_X6_75 h0 hq1 rfl rfl (Nat.le_of_ble_eq_true rfl) (fun v hv => f_X6_fewestTo_met hB.2 h0 (by omega) hv) (fun u77 => ?_)
  exact r_retI hR dX6_sideways_80 (fun h => h)
noncomputable def f_X6_sideways (a0 : Nat) (M : zM) : Option (Int32 × zM) :=
  (loopW (fun s => b_X6_sideways_4 a0 s.1 s.2.1 s.2.2) ((-1 : Int32), (0 : Int32), M)).bind (fun r => j_X6_sideways_74 a0 r.1 r.2)
set_option maxRecDepth 100000 in
theorem f_X6_sideways_ok {C : zC} {d : Nat} {g : zG} {l : Launch} {w : zW} {r : Int32 × zM} {a0 : Nat} (hB : bOK C cX6_sideways 5 RX6 d g l w true) (h0 : tO true 6 a0) (hd : 3 ≤ d) (M : zM) (hR : RtI C cX6_sideways w r.1 r.2) : Sg C w (0, 0) 0 [(0, zr w a0)] [] M (f_X6_sideways a0 M) (fun q => q = r) := by
  have hC := hB.1.1
  have hq1 : 1 ≤ d := by omega
  unfold f_X6_sideways
  refine x_iconst (v := (-1 : Int32)) hC dX6_sideways_0 ki_m1 ?_
  refine x_istore_n hC dX6_sideways_1 rfl [(1, .int (-1 : Int32)), (0, zr w a0)] (by decide) rfl ?_
  refine x_iconst (v := (0 : Int32)) hC dX6_sideways_2 ki_0 ?_
  refine x_istore_n hC dX6_sideways_3 rfl [(2, .int (0 : Int32)), (1, .int (-1 : Int32)), (0, zr w a0)] (by decide) rfl ?_
  refine x_sub [2, 1, 0] rfl ?_
  refine x_loopB (pc2 := 74) (fun (s : (Int32 × Int32 × zM)) => [(0, zr w a0), (1, .int s.1), (2, .int s.2.1)]) (fun (s : (Int32 × Int32 × zM)) => s.2.2) (fun (s : (Int32 × zM)) => [(0, zr w a0), (1, .int s.1)]) (fun (s : (Int32 × zM)) => s.2) ((-1 : Int32), (0 : Int32), M) ?_ ?_
  · exact fun s => b_X6_sideways_4_ok hB h0 hd s.2.2 hR
  · intro r9
    exact j_X6_sideways_74_ok hB h0 hd r9.2 hR
theorem f_X6_sideways_met {l : Launch} {d : Nat} {g : zG} {w : zW} {M0 : zM} {a0 : Nat} {M : zM} (hw : wS w) (h0 : tO true 6 a0) (hd : 3 ≤ d) {v : Int32} {M' : zM} (h : f_X6_sideways a0 M = some (v, M')) : zMet l yX6_sideways cX6_sideways 5 (some .int) d g w (zin true) M0 [zr w a0] M (some (.int v)) M' :=
  met_i (by decide +kernel) (Nat.le_of_ble_eq_true rfl) rfl (fun C hB0 hR => f_X6_sideways_ok (r := (v, M')) ⟨hB0, hw⟩ h0 hd M hR _ h rfl)
/-! WindingSquare$Rows.copyFrom(LWindingSquare$Rows;)V -/
noncomputable def f_X6_copyFrom (a0 : Nat) (a1 : Nat) (M : zM) : Option (zM) :=
  nm (mrow M (a0 + 1) (va_cpy (M (a1 + 1)) (M (a0 + 1)) (ix (0 : Int32)) (ix (0 : Int32)) (ix (24 : Int32)))) fun M12 =>
  nm (mrow M12 (a0 + 2) (va_cpy (M12 (a1 + 2)) (M12 (a0 + 2)) (ix (0 : Int32)) (ix (0 : Int32)) (ix (2 : Int32)))) fun M26 =>
  nm (mrow M26 (a0 + 3) (va_cpy (M26 (a1 + 3)) (M26 (a0 + 3)) (ix (0 : Int32)) (ix (0 : Int32)) (ix (24 : Int32)))) fun M41 =>
  nm (mrow M41 (a0 + 4) (va_cpy (M41 (a1 + 4)) (M41 (a0 + 4)) (ix (0 : Int32)) (ix (0 : Int32)) (ix (8 : Int32)))) fun M56 =>
  nm (mrow M56 (a0 + 5) (va_cpy (M56 (a1 + 5)) (M56 (a0 + 5)) (ix (0 : Int32)) (ix (0 : Int32)) (ix (8 : Int32)))) fun M71 =>
  nm (mset M71 a0 3 (M71 a1 3)) fun M79 =>
  nm (mset M79 a0 6 (M79 a1 6)) fun M87 =>
  some M87
set_option maxRecDepth 100000 in
theorem f_X6_copyFrom_ok {C : zC} {d : Nat} {g : zG} {l : Launch} {w : zW} {r : zM} {a0 : Nat} {a1 : Nat} (hB : bOK C cX6_copyFrom 2 RX6 d g l w true) (h0 : tO true 6 a0) (h1 : tO true 6 a1) (hd : 3 ≤ d) (M : zM) (hR : RtV C cX6_copyFrom w r) : Sg C w (0, 0) 0 [(0, zr w a0), (1, zr w a1)] [] M (f_X6_copyFrom a0 a1 M) (fun q => q = r) := by
  have hC := hB.1.1
  have hq1 : 1 ≤ d := by omega
  unfold f_X6_copyFrom
  refine x_aload_n hC dX6_copyFrom_0 rfl 1 rfl ?_
  refine r_getR hB dX6_copyFrom_1 kf_X6_11 rfl h1 (nv_6_0 h1).1 ?_
  refine x_iconst (v := (0 : Int32)) hC dX6_copyFrom_4 ki_0 ?_
  refine x_aload_n hC dX6_copyFrom_5 rfl 0 rfl ?_
  refine r_getR hB dX6_copyFrom_6 kf_X6_11 rfl h0 (nv_6_0 h0).1 ?_
  refine x_iconst (v := (0 : Int32)) hC dX6_copyFrom_9 ki_0 ?_
  refine x_bipush (v := (24 : Int32)) hC dX6_copyFrom_10 kb_24 ?_
  refine r_acp hB dX6_copyFrom_12 kac_X6_79 (Nat.le_trans (by decide) hd) (nv_6_0 h1).2 (nv_6_0 h0).2 (by decide) (by decide) (by decide) (by decide +kernel) (by decide +kernel) (Nat.le_of_ble_eq_true rfl) ?_
  refine x_mem (fun M12 => ?_)
  refine x_aload_n hC dX6_copyFrom_15 rfl 1 rfl ?_
  refine r_getR hB dX6_copyFrom_16 kf_X6_15 rfl h1 (nv_6_1 h1).1 ?_
  refine x_iconst (v := (0 : Int32)) hC dX6_copyFrom_19 ki_0 ?_
  refine x_aload_n hC dX6_copyFrom_20 rfl 0 rfl ?_
  refine r_getR hB dX6_copyFrom_21 kf_X6_15 rfl h0 (nv_6_1 h0).1 ?_
  refine x_iconst (v := (0 : Int32)) hC dX6_copyFrom_24 ki_0 ?_
  refine x_iconst (v := (2 : Int32)) hC dX6_copyFrom_25 ki_2 ?_
  refine r_acp hB dX6_copyFrom_26 kac_X6_79 (Nat.le_trans (by decide) hd) (nv_6_1 h1).2 (nv_6_1 h0).2 (by decide) (by decide) (by decide) (by decide +kernel) (by decide +kernel) (Nat.le_of_ble_eq_true rfl) ?_
  refine x_mem (fun M26 => ?_)
  refine x_aload_n hC dX6_copyFrom_29 rfl 1 rfl ?_
  refine r_getR hB dX6_copyFrom_30 kf_X6_18 rfl h1 (nv_6_2 h1).1 ?_
  refine x_iconst (v := (0 : Int32)) hC dX6_copyFrom_33 ki_0 ?_
  refine x_aload_n hC dX6_copyFrom_34 rfl 0 rfl ?_
  refine r_getR hB dX6_copyFrom_35 kf_X6_18 rfl h0 (nv_6_2 h0).1 ?_
  refine x_iconst (v := (0 : Int32)) hC dX6_copyFrom_38 ki_0 ?_
  refine x_bipush (v := (24 : Int32)) hC dX6_copyFrom_39 kb_24 ?_
  refine r_acp hB dX6_copyFrom_41 kac_X6_79 (Nat.le_trans (by decide) hd) (nv_6_2 h1).2 (nv_6_2 h0).2 (by decide) (by decide) (by decide) (by decide +kernel) (by decide +kernel) (Nat.le_of_ble_eq_true rfl) ?_
  refine x_mem (fun M41 => ?_)
  refine x_aload_n hC dX6_copyFrom_44 rfl 1 rfl ?_
  refine r_getR hB dX6_copyFrom_45 kf_X6_21 rfl h1 (nv_6_4 h1).1 ?_
  refine x_iconst (v := (0 : Int32)) hC dX6_copyFrom_48 ki_0 ?_
  refine x_aload_n hC dX6_copyFrom_49 rfl 0 rfl ?_
  refine r_getR hB dX6_copyFrom_50 kf_X6_21 rfl h0 (nv_6_4 h0).1 ?_
  refine x_iconst (v := (0 : Int32)) hC dX6_copyFrom_53 ki_0 ?_
  refine x_bipush (v := (8 : Int32)) hC dX6_copyFrom_54 kb_8 ?_
  refine r_acp hB dX6_copyFrom_56 kac_X6_79 (Nat.le_trans (by decide) hd) (nv_6_4 h1).2 (nv_6_4 h0).2 (by decide) (by decide) (by decide) (by decide +kernel) (by decide +kernel) (Nat.le_of_ble_eq_true rfl) ?_
  refine x_mem (fun M56 => ?_)
  refine x_aload_n hC dX6_copyFrom_59 rfl 1 rfl ?_
  refine r_getR hB dX6_copyFrom_60 kf_X6_24 rfl h1 (nv_6_5 h1).1 ?_
  refine x_iconst (v := (0 : Int32)) hC dX6_copyFrom_63 ki_0 ?_
  refine x_aload_n hC dX6_copyFrom_64 rfl 0 rfl ?_
  refine r_getR hB dX6_copyFrom_65 kf_X6_24 rfl h0 (nv_6_5 h0).1 ?_
  refine x_iconst (v := (0 : Int32)) hC dX6_copyFrom_68 ki_0 ?_
  refine x_bipush (v := (8 : Int32)) hC dX6_copyFrom_69 kb_8 ?_
  refine r_acp hB dX6_copyFrom_71 kac_X6_79 (Nat.le_trans (by decide) hd) (nv_6_5 h1).2 (nv_6_5 h0).2 (by decide) (by decide) (by decide) (by decide +kernel) (by decide +kernel) (Nat.le_of_ble_eq_true rfl) ?_
  refine x_mem (fun M71 => ?_)
  refine x_aload_n hC dX6_copyFrom_74 rfl 0 rfl ?_
  refine x_aload_n hC dX6_copyFrom_75 rfl 1 rfl ?_
  refine r_getI hB dX6_copyFrom_76 kf_X6_33 rfl h1 ?_
  refine r_putI hB dX6_copyFrom_79 kf_X6_33 rfl h0 ?_
  refine x_mem (fun M79 => ?_)
  refine x_aload_n hC dX6_copyFrom_82 rfl 0 rfl ?_
  refine x_aload_n hC dX6_copyFrom_83 rfl 1 rfl ?_
  refine r_getI hB dX6_copyFrom_84 kf_X6_37 rfl h1 ?_
  refine r_putI hB dX6_copyFrom_87 kf_X6_37 rfl h0 ?_
  refine x_mem (fun M87 => ?_)
  exact r_retV hR dX6_copyFrom_90 (fun h => h)
theorem f_X6_copyFrom_met {l : Launch} {d : Nat} {g : zG} {w : zW} {M0 : zM} {a0 : Nat} {a1 : Nat} {M : zM} (hw : wS w) (h0 : tO true 6 a0) (h1 : tO true 6 a1) (hd : 3 ≤ d) {M' : zM} (h : f_X6_copyFrom a0 a1 M = some M') : zMet l yX6_copyFrom cX6_copyFrom 2 none d g w (zin true) M0 [zr w a0, zr w a1] M none M' :=
  met_v (by decide +kernel) (Nat.le_of_ble_eq_true rfl) (fun C hB0 hR => f_X6_copyFrom_ok ⟨hB0, hw⟩ h0 h1 hd M hR _ h rfl)
/-! WindingSquare$Square.copyFrom(LWindingSquare$Square;)V -/
noncomputable def b_X7_copyFrom_18 (a0 : Nat) (a1 : Nat) (v2_18 : Int32) (M : zM) : Option ((Int32 × zM) ⊕ (zM)) :=
  if (M a1 2) ≤ v2_18 then (some (.inr M))
  else (grd (inb v2_18 16) (
  grd (inb v2_18 16) (
  (f_X9_copyFrom (a0 + 3 + ix v2_18) (a1 + 3 + ix v2_18) M).bind fun M38_18 =>
  some (.inl ((v2_18 + (1 : Int32)), M38_18)))))
set_option maxRecDepth 100000 in
theorem b_X7_copyFrom_18_ok {C : zC} {d : Nat} {g : zG} {l : Launch} {w : zW} {r : zM} {a0 : Nat} {a1 : Nat} {v2_18 : Int32} (hB : bOK C cX7_copyFrom 3 RX7 d g l w true) (h0 : tO true 7 a0) (h1 : tO true 7 a1) (hd : 3 ≤ d) (M : zM) (hR : RtV C cX7_copyFrom w r) : Sg C w (0, 0) 18 [(0, zr w a0), (1, zr w a1), (2, .int v2_18)] [] M (b_X7_copyFrom_18 a0 a1 v2_18 M) (fun o => Sum.elim (fun (s : (Int32 × zM)) => Zs C w (0, 0) 18 [(0, zr w a0), (1, zr w a1), (2, .int s.1)] [] s.2) (fun (s : (zM)) => Zs C w (0, 0) 47 [(0, zr w a0), (1, zr w a1)] [] s) o) := by
  have hC := hB.1.1
  have hq1 : 1 ≤ d := by omega
  unfold b_X7_copyFrom_18
  refine x_iload_n hC dX7_copyFrom_18 rfl 2 rfl ?_
  refine x_aload_n hC dX7_copyFrom_19 rfl 1 rfl ?_
  refine r_getI hB dX7_copyFrom_20 kf_X7_28 rfl h1 ?_
  refine x_icmp_ge (tgt := 47) hC dX7_copyFrom_23 (by decide) ?_ ?_
  · refine x_sub [0, 1] rfl ?_
    exact x_done (fun h => h)
  · refine x_aload_n hC dX7_copyFrom_26 rfl 0 rfl ?_
    refine r_getR hB dX7_copyFrom_27 kf_X7_11 rfl h0 (nv_7_0 h0).1 ?_
    refine x_iload_n hC dX7_copyFrom_30 rfl 2 rfl ?_
    refine r_aaW (a := a0) hB dX7_copyFrom_31 h0 (fun hg31 => ?_)
    refine x_aload_n hC dX7_copyFrom_32 rfl 1 rfl ?_
    refine r_getR hB dX7_copyFrom_33 kf_X7_11 rfl h1 (nv_7_0 h1).1 ?_
    refine x_iload_n hC dX7_copyFrom_36 rfl 2 rfl ?_
    refine r_aaW (a := a1) hB dX7_copyFrom_37 h1 (fun hg37 => ?_)
    refine r_cVv (as := [zr w (a1 + 3 + ix v2_18)]) (rest := []) hB dX7_copyFrom_38 kv_X7_32 (nv_wk h0 hg31).2 hq1 rfl rfl (Nat.le_of_ble_eq_true rfl) (fun M' hv => f_X9_copyFrom_met hB.2 (nv_wk h0 hg31).2 (nv_wk h1 hg37).2 (by omega) hv) (fun M38_18 => ?_)
    refine x_iinc hC dX7_copyFrom_41 ki_1 [(2, .int (v2_18 + (1 : Int32))), (0, zr w a0), (1, zr w a1)] 2 rfl (by decide) rfl ?_
    refine x_goto (tgt := 18) hC dX7_copyFrom_44 (by decide) ?_
    refine x_sub [1, 2, 0] rfl ?_
    exact x_done (fun h => h)
noncomputable def j_X7_copyFrom_47 (a0 : Nat) (a1 : Nat) (M : zM) : Option (zM) :=
  nm (mset M a0 2 (M a1 2)) fun M52 =>
  nm (mset M52 a0 3 (M52 a1 3)) fun M60 =>
  nm (mset M60 a0 4 (M60 a1 4)) fun M68 =>
  nm (mset M68 a0 5 (M68 a1 5)) fun M76 =>
  nm (mset M76 a0 6 (M76 a1 6)) fun M84 =>
  some M84
set_option maxRecDepth 100000 in
theorem j_X7_copyFrom_47_ok {C : zC} {d : Nat} {g : zG} {l : Launch} {w : zW} {r : zM} {a0 : Nat} {a1 : Nat} (hB : bOK C cX7_copyFrom 3 RX7 d g l w true) (h0 : tO true 7 a0) (h1 : tO true 7 a1) (hd : 3 ≤ d) (M : zM) (hR : RtV C cX7_copyFrom w r) : Sg C w (0, 0) 47 [(0, zr w a0), (1, zr w a1)] [] M (j_X7_copyFrom_47 a0 a1 M) (fun q => q = r) := by
  have hC := hB.1.1
  have hq1 : 1 ≤ d := by omega
  unfold j_X7_copyFrom_47
  refine x_aload_n hC dX7_copyFrom_47 rfl 0 rfl ?_
  refine x_aload_n hC dX7_copyFrom_48 rfl 1 rfl ?_
  refine r_getI hB dX7_copyFrom_49 kf_X7_28 rfl h1 ?_
  refine r_putI hB dX7_copyFrom_52 kf_X7_28 rfl h0 ?_
  refine x_mem (fun M52 => ?_)
  refine x_aload_n hC dX7_copyFrom_55 rfl 0 rfl ?_
  refine x_aload_n hC dX7_copyFrom_56 rfl 1 rfl ?_
  refine r_getI hB dX7_copyFrom_57 kf_X7_36 rfl h1 ?_
  refine r_putI hB dX7_copyFrom_60 kf_X7_36 rfl h0 ?_
  refine x_mem (fun M60 => ?_)
  refine x_aload_n hC dX7_copyFrom_63 rfl 0 rfl ?_
  refine x_aload_n hC dX7_copyFrom_64 rfl 1 rfl ?_
  refine r_getI hB dX7_copyFrom_65 kf_X7_39 rfl h1 ?_
  refine r_putI hB dX7_copyFrom_68 kf_X7_39 rfl h0 ?_
  refine x_mem (fun M68 => ?_)
  refine x_aload_n hC dX7_copyFrom_71 rfl 0 rfl ?_
  refine x_aload_n hC dX7_copyFrom_72 rfl 1 rfl ?_
  refine r_getI hB dX7_copyFrom_73 kf_X7_42 rfl h1 ?_
  refine r_putI hB dX7_copyFrom_76 kf_X7_42 rfl h0 ?_
  refine x_mem (fun M76 => ?_)
  refine x_aload_n hC dX7_copyFrom_79 rfl 0 rfl ?_
  refine x_aload_n hC dX7_copyFrom_80 rfl 1 rfl ?_
  refine r_getI hB dX7_copyFrom_81 kf_X7_45 rfl h1 ?_
  refine r_putI hB dX7_copyFrom_84 kf_X7_45 rfl h0 ?_
  refine x_mem (fun M84 => ?_)
  exact r_retV hR dX7_copyFrom_87 (fun h => h)
noncomputable def f_X7_copyFrom (a0 : Nat) (a1 : Nat) (M : zM) : Option (zM) :=
  nm (mrow M (a0 + 2) (va_cpy (M (a1 + 2)) (M (a0 + 2)) (ix (0 : Int32)) (ix (0 : Int32)) (ix (144 : Int32)))) fun M13 =>
  (loopW (fun s => b_X7_copyFrom_18 a0 a1 s.1 s.2) ((0 : Int32), M13)).bind (fun r => j_X7_copyFrom_47 a0 a1 r)
set_option maxRecDepth 100000 in
theorem f_X7_copyFrom_ok {C : zC} {d : Nat} {g : zG} {l : Launch} {w : zW} {r : zM} {a0 : Nat} {a1 : Nat} (hB : bOK C cX7_copyFrom 3 RX7 d g l w true) (h0 : tO true 7 a0) (h1 : tO true 7 a1) (hd : 3 ≤ d) (M : zM) (hR : RtV C cX7_copyFrom w r) : Sg C w (0, 0) 0 [(0, zr w a0), (1, zr w a1)] [] M (f_X7_copyFrom a0 a1 M) (fun q => q = r) := by
  have hC := hB.1.1
  have hq1 : 1 ≤ d := by omega
  unfold f_X7_copyFrom
  refine x_aload_n hC dX7_copyFrom_0 rfl 1 rfl ?_
  refine r_getR hB dX7_copyFrom_1 kf_X7_17 rfl h1 (nv_7_1 h1).1 ?_
  refine x_iconst (v := (0 : Int32)) hC dX7_copyFrom_4 ki_0 ?_
  refine x_aload_n hC dX7_copyFrom_5 rfl 0 rfl ?_
  refine r_getR hB dX7_copyFrom_6 kf_X7_17 rfl h0 (nv_7_1 h0).1 ?_
  refine x_iconst (v := (0 : Int32)) hC dX7_copyFrom_9 ki_0 ?_
  refine x_sipush (v := (144 : Int32)) hC dX7_copyFrom_10 kh_144 ?_
  refine r_acp hB dX7_copyFrom_13 kac_X7_22 (Nat.le_trans (by decide) hd) (nv_7_1 h1).2 (nv_7_1 h0).2 (by decide) (by decide) (by decide) (by decide +kernel) (by decide +kernel) (Nat.le_of_ble_eq_true rfl) ?_
  refine x_mem (fun M13 => ?_)
  refine x_iconst (v := (0 : Int32)) hC dX7_copyFrom_16 ki_0 ?_
  refine x_istore_n hC dX7_copyFrom_17 rfl [(2, .int (0 : Int32)), (0, zr w a0), (1, zr w a1)] (by decide) rfl ?_
  refine x_sub [1, 2, 0] rfl ?_
  refine x_loopB (pc2 := 47) (fun (s : (Int32 × zM)) => [(0, zr w a0), (1, zr w a1), (2, .int s.1)]) (fun (s : (Int32 × zM)) => s.2) (fun (s : (zM)) => [(0, zr w a0), (1, zr w a1)]) (fun (s : (zM)) => s) ((0 : Int32), M13) ?_ ?_
  · exact fun s => b_X7_copyFrom_18_ok hB h0 h1 hd s.2 hR
  · intro r9
    exact j_X7_copyFrom_47_ok hB h0 h1 hd r9 hR
theorem f_X7_copyFrom_met {l : Launch} {d : Nat} {g : zG} {w : zW} {M0 : zM} {a0 : Nat} {a1 : Nat} {M : zM} (hw : wS w) (h0 : tO true 7 a0) (h1 : tO true 7 a1) (hd : 3 ≤ d) {M' : zM} (h : f_X7_copyFrom a0 a1 M = some M') : zMet l yX7_copyFrom cX7_copyFrom 3 none d g w (zin true) M0 [zr w a0, zr w a1] M none M' :=
  met_v (by decide +kernel) (Nat.le_of_ble_eq_true rfl) (fun C hB0 hR => f_X7_copyFrom_ok ⟨hB0, hw⟩ h0 h1 hd M hR _ h rfl)
