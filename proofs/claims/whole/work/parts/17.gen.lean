def f_J0_coder_7d493 (a0 : Nat) : Int32 :=
  if (1 : Int32) = 0 then ((1 : Int32))
  else ((0 : Int32))
set_option maxRecDepth 100000 in
theorem f_J0_coder_7d493_ok {C : zC} {d : Nat} {g : zG} {l : Launch} {w : zW} {z : Bool} {r : Int32} {a0 : Nat} (hB : bOK C cJ0_coder_7d493 1 RJ0 d g l w z) (h0 : a0 < 2) (hd : 1 ≤ d) (M : zM) (hR : RtN C cJ0_coder_7d493 w .byte r M) : Sg C w (0, 0) 0 [(0, .ref (g.2.2.2 (4 + a0)))] [] M (some (f_J0_coder_7d493 a0)) (fun q => q = r) := by
  have hC := hB.1.1
  have hq1 : 1 ≤ d := by omega
  unfold f_J0_coder_7d493
  refine r_scmp hB dJ0_coder_7d493_0 wd_771 ?_
  refine x_si ?_
  refine x_if_eq (tgt := 13) hC dJ0_coder_7d493_3 (by decide) ?_ ?_
  · refine x_iconst (v := (1 : Int32)) hC dJ0_coder_7d493_13 ki_1 ?_
    exact r_retN hR dJ0_coder_7d493_14 rfl (fun h => congrArg (fun q => (q, M)) h)
  · refine x_aload_n hC dJ0_coder_7d493_6 rfl 0 rfl ?_
    refine r_scod hB dJ0_coder_7d493_7 wd_1964 h0 ?_
    refine x_goto (tgt := 14) hC dJ0_coder_7d493_10 (by decide) ?_
    exact r_retN hR dJ0_coder_7d493_14 rfl (fun h => congrArg (fun q => (q, M)) h)
theorem f_J0_coder_7d493_met {l : Launch} {d : Nat} {g : zG} {w : zW} {M0 : zM} {z : Bool} {a0 : Nat} {M : zM} (hw : wS w) (h0 : a0 < 2) (hd : 1 ≤ d) : zMet l yJ0_coder_7d493 cJ0_coder_7d493 1 (some .byte) d g w (zin z) M0 [.ref (g.2.2.2 (4 + a0))] M (some (.int (f_J0_coder_7d493 a0))) M :=
  met_nF (by decide +kernel) (Nat.le_of_ble_eq_true rfl) (fun C hB0 hR => f_J0_coder_7d493_ok ⟨hB0, hw⟩ h0 hd M hR _ rfl rfl)
def f_J0_isLatin1_aae02 (a0 : Nat) : Int32 :=
  if (1 : Int32) = 0 then ((0 : Int32))
  else (if (0 : Int32) = 0 then ((1 : Int32))
  else ((0 : Int32)))
set_option maxRecDepth 100000 in
theorem f_J0_isLatin1_aae02_ok {C : zC} {d : Nat} {g : zG} {l : Launch} {w : zW} {z : Bool} {r : Int32} {a0 : Nat} (hB : bOK C cJ0_isLatin1_aae02 1 RJ0 d g l w z) (h0 : a0 < 2) (hd : 1 ≤ d) (M : zM) (hR : RtN C cJ0_isLatin1_aae02 w .boolean r M) : Sg C w (0, 0) 0 [(0, .ref (g.2.2.2 (4 + a0)))] [] M (some (f_J0_isLatin1_aae02 a0)) (fun q => q = r) := by
  have hC := hB.1.1
  have hq1 : 1 ≤ d := by omega
  unfold f_J0_isLatin1_aae02
  refine r_scmp hB dJ0_isLatin1_aae02_0 wd_771 ?_
  refine x_si ?_
  refine x_if_eq (tgt := 17) hC dJ0_isLatin1_aae02_3 (by decide) ?_ ?_
  · refine x_iconst (v := (0 : Int32)) hC dJ0_isLatin1_aae02_17 ki_0 ?_
    exact r_retN hR dJ0_isLatin1_aae02_18 rfl (fun h => congrArg (fun q => (q, M)) h)
  · refine x_aload_n hC dJ0_isLatin1_aae02_6 rfl 0 rfl ?_
    refine r_scod hB dJ0_isLatin1_aae02_7 wd_1964 h0 ?_
    refine x_si ?_
    refine x_if_ne (tgt := 17) hC dJ0_isLatin1_aae02_10 (by decide) ?_ ?_
    · refine x_iconst (v := (1 : Int32)) hC dJ0_isLatin1_aae02_13 ki_1 ?_
      refine x_goto (tgt := 18) hC dJ0_isLatin1_aae02_14 (by decide) ?_
      exact r_retN hR dJ0_isLatin1_aae02_18 rfl (fun h => congrArg (fun q => (q, M)) h)
    · refine x_iconst (v := (0 : Int32)) hC dJ0_isLatin1_aae02_17 ki_0 ?_
      exact r_retN hR dJ0_isLatin1_aae02_18 rfl (fun h => congrArg (fun q => (q, M)) h)
theorem f_J0_isLatin1_aae02_met {l : Launch} {d : Nat} {g : zG} {w : zW} {M0 : zM} {z : Bool} {a0 : Nat} {M : zM} (hw : wS w) (h0 : a0 < 2) (hd : 1 ≤ d) : zMet l yJ0_isLatin1_aae02 cJ0_isLatin1_aae02 1 (some .boolean) d g w (zin z) M0 [.ref (g.2.2.2 (4 + a0))] M (some (.int (f_J0_isLatin1_aae02 a0))) M :=
  met_nF (by decide +kernel) (Nat.le_of_ble_eq_true rfl) (fun C hB0 hR => f_J0_isLatin1_aae02_ok ⟨hB0, hw⟩ h0 hd M hR _ rfl rfl)
def f_J1_canEncode_9a6ad (p0 : Int32) : Int32 :=
  if p0 < 0 then ((0 : Int32))
  else (if (255 : Int32) < p0 then ((0 : Int32))
  else ((1 : Int32)))
set_option maxRecDepth 100000 in
theorem f_J1_canEncode_9a6ad_ok {C : zC} {d : Nat} {g : zG} {l : Launch} {w : zW} {z : Bool} {r : Int32} {p0 : Int32} (hB : bOK C cJ1_canEncode_9a6ad 1 RJ1 d g l w z) (hd : 1 ≤ d) (M : zM) (hR : RtN C cJ1_canEncode_9a6ad w .boolean r M) : Sg C w (0, 0) 0 [(0, .int p0)] [] M (some (f_J1_canEncode_9a6ad p0)) (fun q => q = r) := by
  have hC := hB.1.1
  have hq1 : 1 ≤ d := by omega
  unfold f_J1_canEncode_9a6ad
  refine x_iload_n hC dJ1_canEncode_9a6ad_0 rfl 0 rfl ?_
  refine x_si ?_
  refine x_if_lt (tgt := 15) hC dJ1_canEncode_9a6ad_1 (by decide) ?_ ?_
  · refine x_iconst (v := (0 : Int32)) hC dJ1_canEncode_9a6ad_15 ki_0 ?_
    exact r_retN hR dJ1_canEncode_9a6ad_16 rfl (fun h => congrArg (fun q => (q, M)) h)
  · refine x_iload_n hC dJ1_canEncode_9a6ad_4 rfl 0 rfl ?_
    refine x_sipush (v := (255 : Int32)) hC dJ1_canEncode_9a6ad_5 kh_255 ?_
    refine x_si ?_
    refine x_icmp_gt (tgt := 15) hC dJ1_canEncode_9a6ad_8 (by decide) ?_ ?_
    · refine x_iconst (v := (0 : Int32)) hC dJ1_canEncode_9a6ad_15 ki_0 ?_
      exact r_retN hR dJ1_canEncode_9a6ad_16 rfl (fun h => congrArg (fun q => (q, M)) h)
    · refine x_iconst (v := (1 : Int32)) hC dJ1_canEncode_9a6ad_11 ki_1 ?_
      refine x_goto (tgt := 16) hC dJ1_canEncode_9a6ad_12 (by decide) ?_
      exact r_retN hR dJ1_canEncode_9a6ad_16 rfl (fun h => congrArg (fun q => (q, M)) h)
theorem f_J1_canEncode_9a6ad_met {l : Launch} {d : Nat} {g : zG} {w : zW} {M0 : zM} {z : Bool} {p0 : Int32} {M : zM} (hw : wS w) (hd : 1 ≤ d) : zMet l yJ1_canEncode_9a6ad cJ1_canEncode_9a6ad 1 (some .boolean) d g w (zin z) M0 [.int p0] M (some (.int (f_J1_canEncode_9a6ad p0))) M :=
  met_nF (by decide +kernel) (Nat.le_of_ble_eq_true rfl) (fun C hB0 hR => f_J1_canEncode_9a6ad_ok ⟨hB0, hw⟩ hd M hR _ rfl rfl)
noncomputable def b_J1_indexOfChar_4cfef_7 (a0 : Nat) (v3_7 : Int32) (v4_7 : Int32) (v5_7 : Int32) : Option ((Int32) ⊕ (Unit ⊕ (Int32))) :=
  if v3_7 ≤ v5_7 then (some (.inr (.inl ())))
  else (grd (inb v5_7 (zKl.getD a0 0)) (
  if ((zKb.getD a0 []).getD (ix v5_7) 0) = v4_7 then (some (.inr (.inr v5_7)))
  else (some (.inl (v5_7 + (1 : Int32))))))
set_option maxRecDepth 100000 in
theorem b_J1_indexOfChar_4cfef_7_ok {C : zC} {d : Nat} {g : zG} {l : Launch} {w : zW} {z : Bool} {r : Int32} {a0 : Nat} {v3_7 : Int32} {v4_7 : Int32} {v5_7 : Int32} (hB : bOK C cJ1_indexOfChar_4cfef 6 RJ1 d g l w z) (h0 : a0 < 2) (hd : 1 ≤ d) (M : zM) (hR : RtI C cJ1_indexOfChar_4cfef w r M) : Sg C w (0, 0) 7 [(0, .ref (g.2.2.2 (6 + a0))), (3, .int v3_7), (4, .int v4_7), (5, .int v5_7)] [] M (b_J1_indexOfChar_4cfef_7 a0 v3_7 v4_7 v5_7) (fun o => Sum.elim (fun (s : (Int32)) => Zs C w (0, 0) 7 [(0, .ref (g.2.2.2 (6 + a0))), (3, .int v3_7), (4, .int v4_7), (5, .int s)] [] M) (fun q => Sum.elim (fun (s : Unit) => Zs C w (0, 0) 31 [] [] M) (fun q => q = r) q) o) := by
  have hC := hB.1.1
  have hq1 : 1 ≤ d := by omega
  unfold b_J1_indexOfChar_4cfef_7
  refine x_iload hC dJ1_indexOfChar_4cfef_7 3 rfl ?_
  refine x_iload_n hC dJ1_indexOfChar_4cfef_9 rfl 1 rfl ?_
  refine x_icmp_ge (tgt := 31) hC dJ1_indexOfChar_4cfef_10 (by decide) ?_ ?_
  · refine x_sub [] rfl ?_
    exact x_done (fun h => h)
  · refine x_aload_n hC dJ1_indexOfChar_4cfef_13 rfl 0 rfl ?_
    refine x_iload hC dJ1_indexOfChar_4cfef_14 3 rfl ?_
    refine r_sbal hB dJ1_indexOfChar_4cfef_16 h0 ?_
    refine x_iload hC dJ1_indexOfChar_4cfef_17 2 rfl ?_
    refine x_icmp_ne (tgt := 25) hC dJ1_indexOfChar_4cfef_19 (by decide) ?_ ?_
    · refine x_iload hC dJ1_indexOfChar_4cfef_22 3 rfl ?_
      exact r_retI hR dJ1_indexOfChar_4cfef_24 (fun h => congrArg (fun q => (q, M)) h)
    · refine x_iinc hC dJ1_indexOfChar_4cfef_25 ki_1 [(5, .int (v5_7 + (1 : Int32))), (0, .ref (g.2.2.2 (6 + a0))), (3, .int v3_7), (4, .int v4_7)] 3 rfl (by decide) rfl ?_
      refine x_goto (tgt := 7) hC dJ1_indexOfChar_4cfef_28 (by decide) ?_
      refine x_sub [1, 2, 3, 0] rfl ?_
      exact x_done (fun h => h)
noncomputable def j_J1_indexOfChar_4cfef_31 (a0 : Nat) : Option (Int32) :=
  some (-1 : Int32)
set_option maxRecDepth 100000 in
theorem j_J1_indexOfChar_4cfef_31_ok {C : zC} {d : Nat} {g : zG} {l : Launch} {w : zW} {z : Bool} {r : Int32} {a0 : Nat} (hB : bOK C cJ1_indexOfChar_4cfef 6 RJ1 d g l w z) (h0 : a0 < 2) (hd : 1 ≤ d) (M : zM) (hR : RtI C cJ1_indexOfChar_4cfef w r M) : Sg C w (0, 0) 31 [] [] M (j_J1_indexOfChar_4cfef_31 a0) (fun q => q = r) := by
  have hC := hB.1.1
  have hq1 : 1 ≤ d := by omega
  unfold j_J1_indexOfChar_4cfef_31
  refine x_iconst (v := (-1 : Int32)) hC dJ1_indexOfChar_4cfef_31 ki_m1 ?_
  exact r_retI hR dJ1_indexOfChar_4cfef_32 (fun h => congrArg (fun q => (q, M)) h)
noncomputable def f_J1_indexOfChar_4cfef (a0 : Nat) (p1 : Int32) (p2 : Int32) (p3 : Int32) : Option (Int32) :=
  nm (p1).toInt8.toInt32 fun v4_2 =>
  (loopW (fun s => b_J1_indexOfChar_4cfef_7 a0 p3 v4_2 s) p2).bind (fun q => Sum.elim (fun r => j_J1_indexOfChar_4cfef_31 a0) some q)
set_option maxRecDepth 100000 in
theorem f_J1_indexOfChar_4cfef_ok {C : zC} {d : Nat} {g : zG} {l : Launch} {w : zW} {z : Bool} {r : Int32} {a0 : Nat} {p1 : Int32} {p2 : Int32} {p3 : Int32} (hB : bOK C cJ1_indexOfChar_4cfef 6 RJ1 d g l w z) (h0 : a0 < 2) (hd : 1 ≤ d) (M : zM) (hR : RtI C cJ1_indexOfChar_4cfef w r M) : Sg C w (0, 0) 0 [(0, .ref (g.2.2.2 (6 + a0))), (1, .int p1), (2, .int p2), (3, .int p3)] [] M (f_J1_indexOfChar_4cfef a0 p1 p2 p3) (fun q => q = r) := by
  have hC := hB.1.1
  have hq1 : 1 ≤ d := by omega
  unfold f_J1_indexOfChar_4cfef
  refine x_iload_n hC dJ1_indexOfChar_4cfef_0 rfl 1 rfl ?_
  refine x_i2b hC dJ1_indexOfChar_4cfef_1 ?_
  refine x_top (fun v4_2 => ?_)
  refine x_istore (f := 0) hC dJ1_indexOfChar_4cfef_2 [(4, .int v4_2), (0, .ref (g.2.2.2 (6 + a0))), (1, .int p1), (2, .int p2), (3, .int p3)] (by decide) rfl ?_
  refine x_iload_n hC dJ1_indexOfChar_4cfef_4 rfl 3 rfl ?_
  refine x_istore (f := 0) hC dJ1_indexOfChar_4cfef_5 [(5, .int p2), (4, .int v4_2), (0, .ref (g.2.2.2 (6 + a0))), (1, .int p1), (2, .int p2), (3, .int p3)] (by decide) rfl ?_
  refine x_sub [2, 5, 1, 0] rfl ?_
  refine x_loopR (pc2 := 31) (fun (s : (Int32)) => [(0, .ref (g.2.2.2 (6 + a0))), (3, .int p3), (4, .int v4_2), (5, .int s)]) (fun (s : (Int32)) => M) (fun (s : Unit) => []) (fun (s : Unit) => M) p2 ?_ ?_
  · exact fun s => b_J1_indexOfChar_4cfef_7_ok hB h0 hd M hR
  · intro r9
    exact j_J1_indexOfChar_4cfef_31_ok hB h0 hd M hR
theorem f_J1_indexOfChar_4cfef_met {l : Launch} {d : Nat} {g : zG} {w : zW} {M0 : zM} {z : Bool} {a0 : Nat} {p1 : Int32} {p2 : Int32} {p3 : Int32} {M : zM} (hw : wS w) (h0 : a0 < 2) (hd : 1 ≤ d) {v : Int32} (h : f_J1_indexOfChar_4cfef a0 p1 p2 p3 = some v) : zMet l yJ1_indexOfChar_4cfef cJ1_indexOfChar_4cfef 6 (some .int) d g w (zin z) M0 [.ref (g.2.2.2 (6 + a0)), .int p1, .int p2, .int p3] M (some (.int v)) M :=
  met_iF (by decide +kernel) (Nat.le_of_ble_eq_true rfl) rfl (fun C hB0 hR => f_J1_indexOfChar_4cfef_ok ⟨hB0, hw⟩ h0 hd M hR _ h rfl)
noncomputable def f_J3_checkIndex_8e157 (p0 : Int32) (p1 : Int32) : Option (Int32) :=
  if p0 < 0 then (none)
  else (if p0 < p1 then (some p0)
  else (none))
set_option maxRecDepth 100000 in
theorem f_J3_checkIndex_8e157_ok {C : zC} {d : Nat} {g : zG} {l : Launch} {w : zW} {z : Bool} {r : Int32} {p0 : Int32} {p1 : Int32} (hB : bOK C cJ3_checkIndex_8e157 3 RJ3 d g l w z) (hd : 1 ≤ d) (M : zM) (hR : RtI C cJ3_checkIndex_8e157 w r M) : Sg C w (0, 0) 0 [(0, .int p0), (1, .int p1), (2, zFv g)] [] M (f_J3_checkIndex_8e157 p0 p1) (fun q => q = r) := by
  have hC := hB.1.1
  have hq1 : 1 ≤ d := by omega
  unfold f_J3_checkIndex_8e157
  refine x_iload_n hC dJ3_checkIndex_8e157_0 rfl 0 rfl ?_
  refine x_if_lt (tgt := 9) hC dJ3_checkIndex_8e157_1 (by decide) ?_ ?_
  · exact x_none
  · refine x_iload_n hC dJ3_checkIndex_8e157_4 rfl 0 rfl ?_
    refine x_iload_n hC dJ3_checkIndex_8e157_5 rfl 1 rfl ?_
    refine x_icmp_lt (tgt := 16) hC dJ3_checkIndex_8e157_6 (by decide) ?_ ?_
    · refine x_iload_n hC dJ3_checkIndex_8e157_16 rfl 0 rfl ?_
      exact r_retI hR dJ3_checkIndex_8e157_17 (fun h => congrArg (fun q => (q, M)) h)
    · exact x_none
theorem f_J3_checkIndex_8e157_met {l : Launch} {d : Nat} {g : zG} {w : zW} {M0 : zM} {z : Bool} {p0 : Int32} {p1 : Int32} {M : zM} (hw : wS w) (hd : 1 ≤ d) {v : Int32} (h : f_J3_checkIndex_8e157 p0 p1 = some v) : zMet l yJ3_checkIndex_8e157 cJ3_checkIndex_8e157 3 (some .int) d g w (zin z) M0 [.int p0, .int p1, zFv g] M (some (.int v)) M :=
  met_iF (by decide +kernel) (by unfold zFv; split <;> exact Nat.le_of_ble_eq_true rfl) rfl (fun C hB0 hR => f_J3_checkIndex_8e157_ok ⟨hB0, hw⟩ hd M hR _ h rfl)
def f_J0_length_8abf5 (a0 : Nat) : Int32 :=
  ((nI (zKl.getD a0 0)) >>> ((f_J0_coder_7d493 a0) &&& 31))
set_option maxRecDepth 100000 in
theorem f_J0_length_8abf5_ok {C : zC} {d : Nat} {g : zG} {l : Launch} {w : zW} {z : Bool} {r : Int32} {a0 : Nat} (hB : bOK C cJ0_length_8abf5 1 RJ0 d g l w z) (h0 : a0 < 2) (hd : 2 ≤ d) (M : zM) (hR : RtI C cJ0_length_8abf5 w r M) : Sg C w (0, 0) 0 [(0, .ref (g.2.2.2 (4 + a0)))] [] M (some (f_J0_length_8abf5 a0)) (fun q => q = r) := by
  have hC := hB.1.1
  have hq1 : 1 ≤ d := by omega
  unfold f_J0_length_8abf5
  refine x_aload_n hC dJ0_length_8abf5_0 rfl 0 rfl ?_
  refine r_sval hB dJ0_length_8abf5_1 wd_1963 h0 ?_
  refine r_slen hB dJ0_length_8abf5_4 h0 ?_
  refine x_aload_n hC dJ0_length_8abf5_5 rfl 0 rfl ?_
  refine r_cT0 (as := []) (rest := [.int (nI (zKl.getD a0 0))]) hB dJ0_length_8abf5_6 kt_J0_335 h0 hq1 rfl rfl (Nat.le_of_ble_eq_true rfl) (f_J0_coder_7d493_met hB.2 h0 (by omega)) ?_
  refine x_ishr hC dJ0_length_8abf5_9 ?_
  exact r_retI hR dJ0_length_8abf5_10 (fun h => congrArg (fun q => (q, M)) h)
theorem f_J0_length_8abf5_met {l : Launch} {d : Nat} {g : zG} {w : zW} {M0 : zM} {z : Bool} {a0 : Nat} {M : zM} (hw : wS w) (h0 : a0 < 2) (hd : 2 ≤ d) : zMet l yJ0_length_8abf5 cJ0_length_8abf5 1 (some .int) d g w (zin z) M0 [.ref (g.2.2.2 (4 + a0))] M (some (.int (f_J0_length_8abf5 a0))) M :=
  met_iF (by decide +kernel) (Nat.le_of_ble_eq_true rfl) rfl (fun C hB0 hR => f_J0_length_8abf5_ok ⟨hB0, hw⟩ h0 hd M hR _ rfl rfl)
noncomputable def f_J0_checkIndex_df160 (p0 : Int32) (p1 : Int32) : Option (Unit) :=
  (f_J3_checkIndex_8e157 p0 p1).bind fun u5 =>
  some ()
set_option maxRecDepth 100000 in
theorem f_J0_checkIndex_df160_ok {C : zC} {d : Nat} {g : zG} {l : Launch} {w : zW} {z : Bool} {r : Unit} {p0 : Int32} {p1 : Int32} (hB : bOK C cJ0_checkIndex_df160 2 RJ0 d g l w z) (hd : 2 ≤ d) (M : zM) (hR : RtV C cJ0_checkIndex_df160 w M) : Sg C w (0, 0) 0 [(0, .int p0), (1, .int p1)] [] M (f_J0_checkIndex_df160 p0 p1) (fun q => q = r) := by
  have hC := hB.1.1
  have hq1 : 1 ≤ d := by omega
  unfold f_J0_checkIndex_df160
  refine x_iload_n hC dJ0_checkIndex_df160_0 rfl 0 rfl ?_
  refine x_iload_n hC dJ0_checkIndex_df160_1 rfl 1 rfl ?_
  refine r_sfmt hB dJ0_checkIndex_df160_2 wd_787 ?_
  refine r_cS1 (as := [.int p0, .int p1, zFv g]) (rest := []) hB dJ0_checkIndex_df160_5 ks_J0_1059 hq1 rfl rfl (Nat.le_of_ble_eq_true rfl) (fun v hv => f_J3_checkIndex_8e157_met hB.2 (by omega) hv) (fun u5 => ?_)
  refine x_pop hC dJ0_checkIndex_df160_8 rfl ?_
  exact r_retV hR dJ0_checkIndex_df160_9 (fun _ => rfl)
theorem f_J0_checkIndex_df160_met {l : Launch} {d : Nat} {g : zG} {w : zW} {M0 : zM} {z : Bool} {p0 : Int32} {p1 : Int32} {M : zM} (hw : wS w) (hd : 2 ≤ d) {v : Unit} (h : f_J0_checkIndex_df160 p0 p1 = some v) : zMet l yJ0_checkIndex_df160 cJ0_checkIndex_df160 2 none d g w (zin z) M0 [.int p0, .int p1] M none M :=
  met_vF (by decide +kernel) (Nat.le_of_ble_eq_true rfl) (fun C hB0 hR => f_J0_checkIndex_df160_ok ⟨hB0, hw⟩ hd M hR _ h rfl)
noncomputable def f_J1_indexOf_4cfef (a0 : Nat) (p1 : Int32) (p2 : Int32) (p3 : Int32) : Option (Int32) :=
  if (f_J1_canEncode_9a6ad p1) = 0 then (some (-1 : Int32))
  else (nm (f_J9_max_7cf53 p2 (0 : Int32)) fun v2_14 =>
  nm (f_J9_min_7cf53 p3 (nI (zKl.getD a0 0))) fun v3_21 =>
  if v2_14 < v3_21 then ((f_J1_indexOfChar_4cfef a0 p1 v2_14 v3_21).bind fun u33 =>
  some u33)
  else (some (-1 : Int32)))
set_option maxRecDepth 100000 in
theorem f_J1_indexOf_4cfef_ok {C : zC} {d : Nat} {g : zG} {l : Launch} {w : zW} {z : Bool} {r : Int32} {a0 : Nat} {p1 : Int32} {p2 : Int32} {p3 : Int32} (hB : bOK C cJ1_indexOf_4cfef 4 RJ1 d g l w z) (h0 : a0 < 2) (hd : 2 ≤ d) (M : zM) (hR : RtI C cJ1_indexOf_4cfef w r M) : Sg C w (0, 0) 0 [(0, .ref (g.2.2.2 (6 + a0))), (1, .int p1), (2, .int p2), (3, .int p3)] [] M (f_J1_indexOf_4cfef a0 p1 p2 p3) (fun q => q = r) := by
  have hC := hB.1.1
  have hq1 : 1 ≤ d := by omega
  unfold f_J1_indexOf_4cfef
  refine x_iload_n hC dJ1_indexOf_4cfef_0 rfl 1 rfl ?_
  refine r_cS0 (as := [.int p1]) (rest := []) hB dJ1_indexOf_4cfef_1 ks_J1_88 hq1 rfl rfl (Nat.le_of_ble_eq_true rfl) (f_J1_canEncode_9a6ad_met hB.2 (by omega)) ?_
  refine x_if_ne (tgt := 9) hC dJ1_indexOf_4cfef_4 (by decide) ?_ ?_
  · refine x_iconst (v := (-1 : Int32)) hC dJ1_indexOf_4cfef_7 ki_m1 ?_
    exact r_retI hR dJ1_indexOf_4cfef_8 (fun h => congrArg (fun q => (q, M)) h)
  · refine x_iload_n hC dJ1_indexOf_4cfef_9 rfl 2 rfl ?_
    refine x_iconst (v := (0 : Int32)) hC dJ1_indexOf_4cfef_10 ki_0 ?_
    refine r_cS0 (as := [.int p2, .int (0 : Int32)]) (rest := []) hB dJ1_indexOf_4cfef_11 ks_J1_92 hq1 rfl rfl (Nat.le_of_ble_eq_true rfl) (f_J9_max_7cf53_met hB.2 (by omega)) ?_
    refine x_top (fun v2_14 => ?_)
    refine x_istore_n hC dJ1_indexOf_4cfef_14 rfl [(2, .int v2_14), (0, .ref (g.2.2.2 (6 + a0))), (1, .int p1), (3, .int p3)] (by decide) rfl ?_
    refine x_iload_n hC dJ1_indexOf_4cfef_15 rfl 3 rfl ?_
    refine x_aload_n hC dJ1_indexOf_4cfef_16 rfl 1 rfl ?_
    refine r_slen hB dJ1_indexOf_4cfef_17 h0 ?_
    refine r_cS0 (as := [.int p3, .int (nI (zKl.getD a0 0))]) (rest := []) hB dJ1_indexOf_4cfef_18 ks_J1_38 hq1 rfl rfl (Nat.le_of_ble_eq_true rfl) (f_J9_min_7cf53_met hB.2 (by omega)) ?_
    refine x_top (fun v3_21 => ?_)
    refine x_istore_n hC dJ1_indexOf_4cfef_21 rfl [(3, .int v3_21), (2, .int v2_14), (0, .ref (g.2.2.2 (6 + a0))), (1, .int p1)] (by decide) rfl ?_
    refine x_iload_n hC dJ1_indexOf_4cfef_22 rfl 1 rfl ?_
    refine x_iload_n hC dJ1_indexOf_4cfef_23 rfl 0 rfl ?_
    refine x_icmp_lt (tgt := 29) hC dJ1_indexOf_4cfef_24 (by decide) ?_ ?_
    · refine x_aload_n hC dJ1_indexOf_4cfef_29 rfl 2 rfl ?_
      refine x_iload_n hC dJ1_indexOf_4cfef_30 rfl 3 rfl ?_
      refine x_iload_n hC dJ1_indexOf_4cfef_31 rfl 1 rfl ?_
      refine x_iload_n hC dJ1_indexOf_4cfef_32 rfl 0 rfl ?_
      refine r_cS1 (as := [.ref (g.2.2.2 (6 + a0)), .int p1, .int v2_14, .int v3_21]) (rest := []) hB dJ1_indexOf_4cfef_33 ks_J1_95 hq1 rfl rfl (Nat.le_of_ble_eq_true rfl) (fun v hv => f_J1_indexOfChar_4cfef_met hB.2 h0 (by omega) hv) (fun u33 => ?_)
      exact r_retI hR dJ1_indexOf_4cfef_36 (fun h => congrArg (fun q => (q, M)) h)
    · refine x_iconst (v := (-1 : Int32)) hC dJ1_indexOf_4cfef_27 ki_m1 ?_
      exact r_retI hR dJ1_indexOf_4cfef_28 (fun h => congrArg (fun q => (q, M)) h)
theorem f_J1_indexOf_4cfef_met {l : Launch} {d : Nat} {g : zG} {w : zW} {M0 : zM} {z : Bool} {a0 : Nat} {p1 : Int32} {p2 : Int32} {p3 : Int32} {M : zM} (hw : wS w) (h0 : a0 < 2) (hd : 2 ≤ d) {v : Int32} (h : f_J1_indexOf_4cfef a0 p1 p2 p3 = some v) : zMet l yJ1_indexOf_4cfef cJ1_indexOf_4cfef 4 (some .int) d g w (zin z) M0 [.ref (g.2.2.2 (6 + a0)), .int p1, .int p2, .int p3] M (some (.int v)) M :=
  met_iF (by decide +kernel) (Nat.le_of_ble_eq_true rfl) rfl (fun C hB0 hR => f_J1_indexOf_4cfef_ok ⟨hB0, hw⟩ h0 hd M hR _ h rfl)
noncomputable def f_J0_indexOf_7cf53 (a0 : Nat) (p1 : Int32) (p2 : Int32) : Option (Int32) :=
  if (f_J0_isLatin1_aae02 a0) = 0 then (none)
  else ((f_J1_indexOf_4cfef a0 p1 p2 (f_J0_length_8abf5 a0)).bind fun u17 =>
  some u17)
set_option maxRecDepth 100000 in
theorem f_J0_indexOf_7cf53_ok {C : zC} {d : Nat} {g : zG} {l : Launch} {w : zW} {z : Bool} {r : Int32} {a0 : Nat} {p1 : Int32} {p2 : Int32} (hB : bOK C cJ0_indexOf_7cf53 3 RJ0 d g l w z) (h0 : a0 < 2) (hd : 3 ≤ d) (M : zM) (hR : RtI C cJ0_indexOf_7cf53 w r M) : Sg C w (0, 0) 0 [(0, .ref (g.2.2.2 (4 + a0))), (1, .int p1), (2, .int p2)] [] M (f_J0_indexOf_7cf53 a0 p1 p2) (fun q => q = r) := by
  have hC := hB.1.1
  have hq1 : 1 ≤ d := by omega
  unfold f_J0_indexOf_7cf53
  refine x_aload_n hC dJ0_indexOf_7cf53_0 rfl 0 rfl ?_
  refine r_cT0 (as := []) (rest := []) hB dJ0_indexOf_7cf53_1 kt_J0_492 h0 hq1 rfl rfl (Nat.le_of_ble_eq_true rfl) (f_J0_isLatin1_aae02_met hB.2 h0 (by omega)) ?_
  refine x_if_eq (tgt := 23) hC dJ0_indexOf_7cf53_4 (by decide) ?_ ?_
  · exact x_none
  · refine x_aload_n hC dJ0_indexOf_7cf53_7 rfl 0 rfl ?_
    refine r_sval hB dJ0_indexOf_7cf53_8 wd_1963 h0 ?_
    refine x_iload_n hC dJ0_indexOf_7cf53_11 rfl 1 rfl ?_
    refine x_iload_n hC dJ0_indexOf_7cf53_12 rfl 2 rfl ?_
    refine x_aload_n hC dJ0_indexOf_7cf53_13 rfl 0 rfl ?_
    refine r_cT0 (as := []) (rest := [.int p2, .int p1, .ref (g.2.2.2 (6 + a0))]) hB dJ0_indexOf_7cf53_14 kt_J0_505 h0 hq1 rfl rfl (Nat.le_of_ble_eq_true rfl) (f_J0_length_8abf5_met hB.2 h0 (by omega)) ?_
    refine r_cS1 (as := [.ref (g.2.2.2 (6 + a0)), .int p1, .int p2, .int (f_J0_length_8abf5 a0)]) (rest := []) hB dJ0_indexOf_7cf53_17 ks_J0_637 hq1 rfl rfl (Nat.le_of_ble_eq_true rfl) (fun v hv => f_J1_indexOf_4cfef_met hB.2 h0 (by omega) hv) (fun u17 => ?_)
    refine x_goto (tgt := 36) hC dJ0_indexOf_7cf53_20 (by decide) ?_
    exact r_retI hR dJ0_indexOf_7cf53_36 (fun h => congrArg (fun q => (q, M)) h)
theorem f_J0_indexOf_7cf53_met {l : Launch} {d : Nat} {g : zG} {w : zW} {M0 : zM} {z : Bool} {a0 : Nat} {p1 : Int32} {p2 : Int32} {M : zM} (hw : wS w) (h0 : a0 < 2) (hd : 3 ≤ d) {v : Int32} (h : f_J0_indexOf_7cf53 a0 p1 p2 = some v) : zMet l yJ0_indexOf_7cf53 cJ0_indexOf_7cf53 3 (some .int) d g w (zin z) M0 [.ref (g.2.2.2 (4 + a0)), .int p1, .int p2] M (some (.int v)) M :=
  met_iF (by decide +kernel) (Nat.le_of_ble_eq_true rfl) rfl (fun C hB0 hR => f_J0_indexOf_7cf53_ok ⟨hB0, hw⟩ h0 hd M hR _ h rfl)
noncomputable def f_J1_charAt_3b067 (a0 : Nat) (p1 : Int32) : Option (Int32) :=
  (f_J0_checkIndex_df160 p1 (nI (zKl.getD a0 0))).bind fun _ =>
  grd (inb p1 (zKl.getD a0 0)) (
  some (i2c (((zKb.getD a0 []).getD (ix p1) 0) &&& (255 : Int32))))
set_option maxRecDepth 100000 in
theorem f_J1_charAt_3b067_ok {C : zC} {d : Nat} {g : zG} {l : Launch} {w : zW} {z : Bool} {r : Int32} {a0 : Nat} {p1 : Int32} (hB : bOK C cJ1_charAt_3b067 2 RJ1 d g l w z) (h0 : a0 < 2) (hd : 3 ≤ d) (M : zM) (hR : RtN C cJ1_charAt_3b067 w .char r M) : Sg C w (0, 0) 0 [(0, .ref (g.2.2.2 (6 + a0))), (1, .int p1)] [] M (f_J1_charAt_3b067 a0 p1) (fun q => q = r) := by
  have hC := hB.1.1
  have hq1 : 1 ≤ d := by omega
  unfold f_J1_charAt_3b067
  refine x_iload_n hC dJ1_charAt_3b067_0 rfl 1 rfl ?_
  refine x_aload_n hC dJ1_charAt_3b067_1 rfl 0 rfl ?_
  refine r_slen hB dJ1_charAt_3b067_2 h0 ?_
  refine r_cSu (as := [.int p1, .int (nI (zKl.getD a0 0))]) (rest := []) hB dJ1_charAt_3b067_3 ks_J1_9 hq1 rfl rfl (Nat.le_of_ble_eq_true rfl) (fun v hv => f_J0_checkIndex_df160_met hB.2 (by omega) hv) (fun _ => ?_)
  refine x_aload_n hC dJ1_charAt_3b067_6 rfl 0 rfl ?_
  refine x_iload_n hC dJ1_charAt_3b067_7 rfl 1 rfl ?_
  refine r_sbal hB dJ1_charAt_3b067_8 h0 ?_
  refine x_sipush (v := (255 : Int32)) hC dJ1_charAt_3b067_9 kh_255 ?_
  refine x_iand hC dJ1_charAt_3b067_12 ?_
  refine x_i2c hC dJ1_charAt_3b067_13 ?_
  exact r_retN hR dJ1_charAt_3b067_14 nar_c0 (fun h => congrArg (fun q => (q, M)) h)
theorem f_J1_charAt_3b067_met {l : Launch} {d : Nat} {g : zG} {w : zW} {M0 : zM} {z : Bool} {a0 : Nat} {p1 : Int32} {M : zM} (hw : wS w) (h0 : a0 < 2) (hd : 3 ≤ d) {v : Int32} (h : f_J1_charAt_3b067 a0 p1 = some v) : zMet l yJ1_charAt_3b067 cJ1_charAt_3b067 2 (some .char) d g w (zin z) M0 [.ref (g.2.2.2 (6 + a0)), .int p1] M (some (.int v)) M :=
  met_nF (by decide +kernel) (Nat.le_of_ble_eq_true rfl) (fun C hB0 hR => f_J1_charAt_3b067_ok ⟨hB0, hw⟩ h0 hd M hR _ h rfl)
noncomputable def f_J0_charAt_5068e (a0 : Nat) (p1 : Int32) : Option (Int32) :=
  if (f_J0_isLatin1_aae02 a0) = 0 then (none)
  else ((f_J1_charAt_3b067 a0 p1).bind fun u12 =>
  grd (i2c u12 = u12) (some u12))
set_option maxRecDepth 100000 in
theorem f_J0_charAt_5068e_ok {C : zC} {d : Nat} {g : zG} {l : Launch} {w : zW} {z : Bool} {r : Int32} {a0 : Nat} {p1 : Int32} (hB : bOK C cJ0_charAt_5068e 2 RJ0 d g l w z) (h0 : a0 < 2) (hd : 4 ≤ d) (M : zM) (hR : RtN C cJ0_charAt_5068e w .char r M) : Sg C w (0, 0) 0 [(0, .ref (g.2.2.2 (4 + a0))), (1, .int p1)] [] M (f_J0_charAt_5068e a0 p1) (fun q => q = r) := by
  have hC := hB.1.1
  have hq1 : 1 ≤ d := by omega
  unfold f_J0_charAt_5068e
  refine x_aload_n hC dJ0_charAt_5068e_0 rfl 0 rfl ?_
  refine r_cT0 (as := []) (rest := []) hB dJ0_charAt_5068e_1 kt_J0_492 h0 hq1 rfl rfl (Nat.le_of_ble_eq_true rfl) (f_J0_isLatin1_aae02_met hB.2 h0 (by omega)) ?_
  refine x_if_eq (tgt := 16) hC dJ0_charAt_5068e_4 (by decide) ?_ ?_
  · exact x_none
  · refine x_aload_n hC dJ0_charAt_5068e_7 rfl 0 rfl ?_
    refine r_sval hB dJ0_charAt_5068e_8 wd_1963 h0 ?_
    refine x_iload_n hC dJ0_charAt_5068e_11 rfl 1 rfl ?_
    refine r_cS1 (as := [.ref (g.2.2.2 (6 + a0)), .int p1]) (rest := []) hB dJ0_charAt_5068e_12 ks_J0_495 hq1 rfl rfl (Nat.le_of_ble_eq_true rfl) (fun v hv => f_J1_charAt_3b067_met hB.2 h0 (by omega) hv) (fun u12 => ?_)
    refine x_grd (fun hb => ?_)
    exact r_retN hR dJ0_charAt_5068e_15 (nar_c1 hb) (fun h => congrArg (fun q => (q, M)) h)
theorem f_J0_charAt_5068e_met {l : Launch} {d : Nat} {g : zG} {w : zW} {M0 : zM} {z : Bool} {a0 : Nat} {p1 : Int32} {M : zM} (hw : wS w) (h0 : a0 < 2) (hd : 4 ≤ d) {v : Int32} (h : f_J0_charAt_5068e a0 p1 = some v) : zMet l yJ0_charAt_5068e cJ0_charAt_5068e 2 (some .char) d g w (zin z) M0 [.ref (g.2.2.2 (4 + a0)), .int p1] M (some (.int v)) M :=
  met_nF (by decide +kernel) (Nat.le_of_ble_eq_true rfl) (fun C hB0 hR => f_J0_charAt_5068e_ok ⟨hB0, hw⟩ h0 hd M hR _ h rfl)
noncomputable def f_J0_indexOf_0f7a4 (a0 : Nat) (p1 : Int32) : Option (Int32) :=
  (f_J0_indexOf_7cf53 a0 p1 (0 : Int32)).bind fun u3 =>
  some u3
set_option maxRecDepth 100000 in
theorem f_J0_indexOf_0f7a4_ok {C : zC} {d : Nat} {g : zG} {l : Launch} {w : zW} {z : Bool} {r : Int32} {a0 : Nat} {p1 : Int32} (hB : bOK C cJ0_indexOf_0f7a4 2 RJ0 d g l w z) (h0 : a0 < 2) (hd : 4 ≤ d) (M : zM) (hR : RtI C cJ0_indexOf_0f7a4 w r M) : Sg C w (0, 0) 0 [(0, .ref (g.2.2.2 (4 + a0))), (1, .int p1)] [] M (f_J0_indexOf_0f7a4 a0 p1) (fun q => q = r) := by
  have hC := hB.1.1
  have hq1 : 1 ≤ d := by omega
  unfold f_J0_indexOf_0f7a4
  refine x_aload_n hC dJ0_indexOf_0f7a4_0 rfl 0 rfl ?_
  refine x_iload_n hC dJ0_indexOf_0f7a4_1 rfl 1 rfl ?_
  refine x_iconst (v := (0 : Int32)) hC dJ0_indexOf_0f7a4_2 ki_0 ?_
  refine r_cT1 (as := [.int p1, .int (0 : Int32)]) (rest := []) hB dJ0_indexOf_0f7a4_3 kt_J0_633 h0 hq1 rfl rfl (Nat.le_of_ble_eq_true rfl) (fun v hv => f_J0_indexOf_7cf53_met hB.2 h0 (by omega) hv) (fun u3 => ?_)
  exact r_retI hR dJ0_indexOf_0f7a4_6 (fun h => congrArg (fun q => (q, M)) h)
theorem f_J0_indexOf_0f7a4_met {l : Launch} {d : Nat} {g : zG} {w : zW} {M0 : zM} {z : Bool} {a0 : Nat} {p1 : Int32} {M : zM} (hw : wS w) (h0 : a0 < 2) (hd : 4 ≤ d) {v : Int32} (h : f_J0_indexOf_0f7a4 a0 p1 = some v) : zMet l yJ0_indexOf_0f7a4 cJ0_indexOf_0f7a4 2 (some .int) d g w (zin z) M0 [.ref (g.2.2.2 (4 + a0)), .int p1] M (some (.int v)) M :=
  met_iF (by decide +kernel) (Nat.le_of_ble_eq_true rfl) rfl (fun C hB0 hR => f_J0_indexOf_0f7a4_ok ⟨hB0, hw⟩ h0 hd M hR _ h rfl)
noncomputable def j_X5_keyword_97_13 (v1_13 : Int32) (v2_13 : Int32) (v3_97_13 : Int32) (v4_97_13 : Int32) (v5_97_13 : Int32) (v6_97_13 : Int32) (M : zM) : Option ((Int32 × Int32 × Int32 × Int32) ⊕ (Unit ⊕ (Int32))) :=
  some (.inl (v3_97_13, v4_97_13, v5_97_13, (v6_97_13 + (1 : Int32))))
set_option maxRecDepth 100000 in
theorem j_X5_keyword_97_13_ok {C : zC} {d : Nat} {g : zG} {l : Launch} {w : zW} {r : Int32} {v1_13 : Int32} {v2_13 : Int32} {v3_97_13 : Int32} {v4_97_13 : Int32} {v5_97_13 : Int32} {v6_97_13 : Int32} (hB : bOK C cX5_keyword 8 RX5 d g l w true) (hd : 5 ≤ d) (M : zM) (hR : RtI C cX5_keyword w r M) : Sg C w (0, 0) 97 [(0, zr w 78), (1, .int v1_13), (2, .int v2_13), (3, .int v3_97_13), (4, .int v4_97_13), (5, .int v5_97_13), (6, .int v6_97_13)] [] M (j_X5_keyword_97_13 v1_13 v2_13 v3_97_13 v4_97_13 v5_97_13 v6_97_13 M) (fun o => Sum.elim (fun (s : (Int32 × Int32 × Int32 × Int32)) => Zs C w (0, 0) 13 [(0, zr w 78), (1, .int v1_13), (2, .int v2_13), (3, .int s.1), (4, .int s.2.1), (5, .int s.2.2.1), (6, .int s.2.2.2)] [] M) (fun q => Sum.elim (fun (s : Unit) => Zs C w (0, 0) 103 [] [] M) (fun q => q = r) q) o) := by
  have hC := hB.1.1
  have hq1 : 1 ≤ d := by omega
  unfold j_X5_keyword_97_13
  refine x_iinc hC dX5_keyword_97 ki_1 [(6, .int (v6_97_13 + (1 : Int32))), (0, zr w 78), (1, .int v1_13), (2, .int v2_13), (3, .int v3_97_13), (4, .int v4_97_13), (5, .int v5_97_13)] 6 rfl (by decide) rfl ?_
  refine x_goto (tgt := 13) hC dX5_keyword_100 (by decide) ?_
  refine x_sub [1, 2, 3, 4, 5, 6, 0] rfl ?_
  exact x_done (fun h => h)
noncomputable def j_X5_keyword_88_13 (v1_13 : Int32) (v2_13 : Int32) (v3_88_13 : Int32) (v6_88_13 : Int32) (M : zM) : Option ((Int32 × Int32 × Int32 × Int32) ⊕ (Unit ⊕ (Int32))) :=
  j_X5_keyword_97_13 v1_13 v2_13 (v3_88_13 + (1 : Int32)) v1_13 (1 : Int32) v6_88_13 M
set_option maxRecDepth 100000 in
theorem j_X5_keyword_88_13_ok {C : zC} {d : Nat} {g : zG} {l : Launch} {w : zW} {r : Int32} {v1_13 : Int32} {v2_13 : Int32} {v3_88_13 : Int32} {v6_88_13 : Int32} (hB : bOK C cX5_keyword 8 RX5 d g l w true) (hd : 5 ≤ d) (M : zM) (hR : RtI C cX5_keyword w r M) : Sg C w (0, 0) 88 [(0, zr w 78), (1, .int v1_13), (2, .int v2_13), (3, .int v3_88_13), (6, .int v6_88_13)] [] M (j_X5_keyword_88_13 v1_13 v2_13 v3_88_13 v6_88_13 M) (fun o => Sum.elim (fun (s : (Int32 × Int32 × Int32 × Int32)) => Zs C w (0, 0) 13 [(0, zr w 78), (1, .int v1_13), (2, .int v2_13), (3, .int s.1), (4, .int s.2.1), (5, .int s.2.2.1), (6, .int s.2.2.2)] [] M) (fun q => Sum.elim (fun (s : Unit) => Zs C w (0, 0) 103 [] [] M) (fun q => q = r) q) o) := by
  have hC := hB.1.1
  have hq1 : 1 ≤ d := by omega
  unfold j_X5_keyword_88_13
  refine x_iinc hC dX5_keyword_88 ki_1 [(3, .int (v3_88_13 + (1 : Int32))), (0, zr w 78), (1, .int v1_13), (2, .int v2_13), (6, .int v6_88_13)] 3 rfl (by decide) rfl ?_
  refine x_iload_n hC dX5_keyword_91 rfl 2 rfl ?_
  refine x_istore (f := 0) hC dX5_keyword_92 [(4, .int v1_13), (3, .int (v3_88_13 + (1 : Int32))), (0, zr w 78), (1, .int v1_13), (2, .int v2_13), (6, .int v6_88_13)] (by decide) rfl ?_
  refine x_iconst (v := (1 : Int32)) hC dX5_keyword_94 ki_1 ?_
  refine x_istore (f := 0) hC dX5_keyword_95 [(5, .int (1 : Int32)), (4, .int v1_13), (3, .int (v3_88_13 + (1 : Int32))), (0, zr w 78), (1, .int v1_13), (2, .int v2_13), (6, .int v6_88_13)] (by decide) rfl ?_
  refine x_sub [3, 4, 5, 2, 1, 0, 6] rfl ?_
  exact j_X5_keyword_97_13_ok hB hd M hR
noncomputable def j_X5_keyword_67_13 (v1_13 : Int32) (v2_13 : Int32) (v3_67_13 : Int32) (v4_67_13 : Int32) (v6_67_13 : Int32) (s0_67_13 : Int32) (M : zM) : Option ((Int32 × Int32 × Int32 × Int32) ⊕ (Unit ⊕ (Int32))) :=
  j_X5_keyword_97_13 v1_13 v2_13 v3_67_13 (v4_67_13 + (1 : Int32)) s0_67_13 v6_67_13 M
set_option maxRecDepth 100000 in
theorem j_X5_keyword_67_13_ok {C : zC} {d : Nat} {g : zG} {l : Launch} {w : zW} {r : Int32} {v1_13 : Int32} {v2_13 : Int32} {v3_67_13 : Int32} {v4_67_13 : Int32} {v6_67_13 : Int32} {s0_67_13 : Int32} (hB : bOK C cX5_keyword 8 RX5 d g l w true) (hd : 5 ≤ d) (M : zM) (hR : RtI C cX5_keyword w r M) : Sg C w (0, 0) 67 [(0, zr w 78), (1, .int v1_13), (2, .int v2_13), (3, .int v3_67_13), (4, .int v4_67_13), (6, .int v6_67_13)] [.int s0_67_13] M (j_X5_keyword_67_13 v1_13 v2_13 v3_67_13 v4_67_13 v6_67_13 s0_67_13 M) (fun o => Sum.elim (fun (s : (Int32 × Int32 × Int32 × Int32)) => Zs C w (0, 0) 13 [(0, zr w 78), (1, .int v1_13), (2, .int v2_13), (3, .int s.1), (4, .int s.2.1), (5, .int s.2.2.1), (6, .int s.2.2.2)] [] M) (fun q => Sum.elim (fun (s : Unit) => Zs C w (0, 0) 103 [] [] M) (fun q => q = r) q) o) := by
  have hC := hB.1.1
  have hq1 : 1 ≤ d := by omega
  unfold j_X5_keyword_67_13
  refine x_istore (f := 0) hC dX5_keyword_67 [(5, .int s0_67_13), (0, zr w 78), (1, .int v1_13), (2, .int v2_13), (3, .int v3_67_13), (4, .int v4_67_13), (6, .int v6_67_13)] (by decide) rfl ?_
  refine x_iinc hC dX5_keyword_69 ki_1 [(4, .int (v4_67_13 + (1 : Int32))), (5, .int s0_67_13), (0, zr w 78), (1, .int v1_13), (2, .int v2_13), (3, .int v3_67_13), (6, .int v6_67_13)] 5 rfl (by decide) rfl ?_
  refine x_goto (tgt := 97) hC dX5_keyword_72 (by decide) ?_
  refine x_sub [2, 3, 4, 5, 0, 1, 6] rfl ?_
  exact j_X5_keyword_97_13_ok hB hd M hR
noncomputable def j_X5_keyword_66_13 (v1_13 : Int32) (v2_13 : Int32) (v3_66_13 : Int32) (v4_66_13 : Int32) (v6_66_13 : Int32) (M : zM) : Option ((Int32 × Int32 × Int32 × Int32) ⊕ (Unit ⊕ (Int32))) :=
  j_X5_keyword_67_13 v1_13 v2_13 v3_66_13 v4_66_13 v6_66_13 (0 : Int32) M
set_option maxRecDepth 100000 in
theorem j_X5_keyword_66_13_ok {C : zC} {d : Nat} {g : zG} {l : Launch} {w : zW} {r : Int32} {v1_13 : Int32} {v2_13 : Int32} {v3_66_13 : Int32} {v4_66_13 : Int32} {v6_66_13 : Int32} (hB : bOK C cX5_keyword 8 RX5 d g l w true) (hd : 5 ≤ d) (M : zM) (hR : RtI C cX5_keyword w r M) : Sg C w (0, 0) 66 [(0, zr w 78), (1, .int v1_13), (2, .int v2_13), (3, .int v3_66_13), (4, .int v4_66_13), (6, .int v6_66_13)] [] M (j_X5_keyword_66_13 v1_13 v2_13 v3_66_13 v4_66_13 v6_66_13 M) (fun o => Sum.elim (fun (s : (Int32 × Int32 × Int32 × Int32)) => Zs C w (0, 0) 13 [(0, zr w 78), (1, .int v1_13), (2, .int v2_13), (3, .int s.1), (4, .int s.2.1), (5, .int s.2.2.1), (6, .int s.2.2.2)] [] M) (fun q => Sum.elim (fun (s : Unit) => Zs C w (0, 0) 103 [] [] M) (fun q => q = r) q) o) := by
  have hC := hB.1.1
  have hq1 : 1 ≤ d := by omega
  unfold j_X5_keyword_66_13
  refine x_iconst (v := (0 : Int32)) hC dX5_keyword_66 ki_0 ?_
  exact j_X5_keyword_67_13_ok hB hd M hR
noncomputable def b_X5_keyword_13 (v1_13 : Int32) (v2_13 : Int32) (v3_13 : Int32) (v4_13 : Int32) (v5_13 : Int32) (v6_13 : Int32) (M : zM) : Option ((Int32 × Int32 × Int32 × Int32) ⊕ (Unit ⊕ (Int32))) :=
  if (f_J0_length_8abf5 0) ≤ v6_13 then (some (.inr (.inl ())))
  else ((f_J0_charAt_5068e 0 v6_13).bind fun u27_13 =>
  if u27_13 = (32 : Int32) then (if v5_13 = 0 then (j_X5_keyword_88_13 v1_13 v2_13 v3_13 v6_13 M)
  else (if v4_13 = v2_13 then (some (.inr (.inr v3_13)))
  else (j_X5_keyword_88_13 v1_13 v2_13 v3_13 v6_13 M)))
  else (if v5_13 = 0 then (j_X5_keyword_66_13 v1_13 v2_13 v3_13 v4_13 v6_13 M)
  else (if v2_13 ≤ v4_13 then (j_X5_keyword_66_13 v1_13 v2_13 v3_13 v4_13 v6_13 M)
  else (grd (inb v4_13 400) (
  if (M 79 (ix v4_13)) = u27_13 then (j_X5_keyword_67_13 v1_13 v2_13 v3_13 v4_13 v6_13 (1 : Int32) M)
  else (j_X5_keyword_66_13 v1_13 v2_13 v3_13 v4_13 v6_13 M))))))
set_option maxRecDepth 100000 in
theorem b_X5_keyword_13_ok {C : zC} {d : Nat} {g : zG} {l : Launch} {w : zW} {r : Int32} {v1_13 : Int32} {v2_13 : Int32} {v3_13 : Int32} {v4_13 : Int32} {v5_13 : Int32} {v6_13 : Int32} (hB : bOK C cX5_keyword 8 RX5 d g l w true) (hd : 5 ≤ d) (M : zM) (hR : RtI C cX5_keyword w r M) : Sg C w (0, 0) 13 [(0, zr w 78), (1, .int v1_13), (2, .int v2_13), (3, .int v3_13), (4, .int v4_13), (5, .int v5_13), (6, .int v6_13)] [] M (b_X5_keyword_13 v1_13 v2_13 v3_13 v4_13 v5_13 v6_13 M) (fun o => Sum.elim (fun (s : (Int32 × Int32 × Int32 × Int32)) => Zs C w (0, 0) 13 [(0, zr w 78), (1, .int v1_13), (2, .int v2_13), (3, .int s.1), (4, .int s.2.1), (5, .int s.2.2.1), (6, .int s.2.2.2)] [] M) (fun q => Sum.elim (fun (s : Unit) => Zs C w (0, 0) 103 [] [] M) (fun q => q = r) q) o) := by
  have hC := hB.1.1
  have hq1 : 1 ≤ d := by omega
  unfold b_X5_keyword_13
  refine x_iload hC dX5_keyword_13 6 rfl ?_
  refine r_ldcS (k0 := 0) hB dX5_keyword_15 (by decide) rfl ?_
  refine r_cT0 (as := []) (rest := [.int v6_13]) hB dX5_keyword_17 kt_X5_78 (by decide) hq1 rfl rfl (Nat.le_of_ble_eq_true rfl) (f_J0_length_8abf5_met hB.2 (by decide) (by omega)) ?_
  refine x_icmp_ge (tgt := 103) hC dX5_keyword_20 (by decide) ?_ ?_
  · refine x_sub [] rfl ?_
    exact x_done (fun h => h)
  · refine r_ldcS (k0 := 0) hB dX5_keyword_23 (by decide) rfl ?_
    refine x_iload hC dX5_keyword_25 6 rfl ?_
    refine r_cT1 (as := [.int v6_13]) (rest := []) hB dX5_keyword_27 kt_X5_81 (by decide) hq1 rfl rfl (Nat.le_of_ble_eq_true rfl) (fun v hv => f_J0_charAt_5068e_met hB.2 (by decide) (by omega) hv) (fun u27_13 => ?_)
    refine x_istore (f := 0) hC dX5_keyword_30 [(7, .int u27_13), (0, zr w 78), (1, .int v1_13), (2, .int v2_13), (3, .int v3_13), (4, .int v4_13), (5, .int v5_13), (6, .int v6_13)] (by decide) rfl ?_
    refine x_iload hC dX5_keyword_32 0 rfl ?_
    refine x_bipush (v := (32 : Int32)) hC dX5_keyword_34 kb_32 ?_
    refine x_icmp_eq (tgt := 75) hC dX5_keyword_36 (by decide) ?_ ?_
    · refine x_iload hC dX5_keyword_75 6 rfl ?_
      refine x_if_eq (tgt := 88) hC dX5_keyword_77 (by decide) ?_ ?_
      · refine x_sub [1, 2, 3, 4, 7] rfl ?_
        exact j_X5_keyword_88_13_ok hB hd M hR
      · refine x_iload hC dX5_keyword_80 5 rfl ?_
        refine x_iload_n hC dX5_keyword_82 rfl 3 rfl ?_
        refine x_icmp_ne (tgt := 88) hC dX5_keyword_83 (by decide) ?_ ?_
        · refine x_iload_n hC dX5_keyword_86 rfl 4 rfl ?_
          exact r_retI hR dX5_keyword_87 (fun h => congrArg (fun q => (q, M)) h)
        · refine x_sub [1, 2, 3, 4, 7] rfl ?_
          exact j_X5_keyword_88_13_ok hB hd M hR
    · refine x_iload hC dX5_keyword_39 6 rfl ?_
      refine x_if_eq (tgt := 66) hC dX5_keyword_41 (by decide) ?_ ?_
      · refine x_sub [1, 2, 3, 4, 5, 7] rfl ?_
        exact j_X5_keyword_66_13_ok hB hd M hR
      · refine x_iload hC dX5_keyword_44 5 rfl ?_
        refine x_iload_n hC dX5_keyword_46 rfl 3 rfl ?_
        refine x_icmp_ge (tgt := 66) hC dX5_keyword_47 (by decide) ?_ ?_
        · refine x_sub [1, 2, 3, 4, 5, 7] rfl ?_
          exact j_X5_keyword_66_13_ok hB hd M hR
        · refine x_aload_n hC dX5_keyword_50 rfl 1 rfl ?_
          refine r_getR hB dX5_keyword_51 kf_X5_15 rfl th_78 rf_78_3 ?_
          refine x_iload hC dX5_keyword_54 5 rfl ?_
          refine r_iald hB dX5_keyword_56 th_79 ?_
          refine x_iload hC dX5_keyword_57 0 rfl ?_
          refine x_icmp_ne (tgt := 66) hC dX5_keyword_59 (by decide) ?_ ?_
          · refine x_iconst (v := (1 : Int32)) hC dX5_keyword_62 ki_1 ?_
            refine x_goto (tgt := 67) hC dX5_keyword_63 (by decide) ?_
            refine x_sub [1, 2, 3, 4, 5, 7] rfl ?_
            exact j_X5_keyword_67_13_ok hB hd M hR
          · refine x_sub [1, 2, 3, 4, 5, 7] rfl ?_
            exact j_X5_keyword_66_13_ok hB hd M hR
noncomputable def j_X5_keyword_103 (M : zM) : Option (Int32) :=
  some (1 : Int32)
set_option maxRecDepth 100000 in
theorem j_X5_keyword_103_ok {C : zC} {d : Nat} {g : zG} {l : Launch} {w : zW} {r : Int32} (hB : bOK C cX5_keyword 8 RX5 d g l w true) (hd : 5 ≤ d) (M : zM) (hR : RtI C cX5_keyword w r M) : Sg C w (0, 0) 103 [] [] M (j_X5_keyword_103 M) (fun q => q = r) := by
  have hC := hB.1.1
  have hq1 : 1 ≤ d := by omega
  unfold j_X5_keyword_103
  refine x_iconst (v := (1 : Int32)) hC dX5_keyword_103 ki_1 ?_
  exact r_retI hR dX5_keyword_104 (fun h => congrArg (fun q => (q, M)) h)
noncomputable def f_X5_keyword (p1 : Int32) (p2 : Int32) (M : zM) : Option (Int32) :=
  (loopW (fun s => b_X5_keyword_13 p1 p2 s.1 s.2.1 s.2.2.1 s.2.2.2 M) ((128 : Int32), p1, (1 : Int32), (0 : Int32))).bind (fun q => Sum.elim (fun r => j_X5_keyword_103 M) some q)
set_option maxRecDepth 100000 in
theorem f_X5_keyword_ok {C : zC} {d : Nat} {g : zG} {l : Launch} {w : zW} {r : Int32} {p1 : Int32} {p2 : Int32} (hB : bOK C cX5_keyword 8 RX5 d g l w true) (hd : 5 ≤ d) (M : zM) (hR : RtI C cX5_keyword w r M) : Sg C w (0, 0) 0 [(0, zr w 78), (1, .int p1), (2, .int p2)] [] M (f_X5_keyword p1 p2 M) (fun q => q = r) := by
  have hC := hB.1.1
  have hq1 : 1 ≤ d := by omega
  unfold f_X5_keyword
  refine x_sipush (v := (128 : Int32)) hC dX5_keyword_0 kh_128 ?_
  refine x_istore_n hC dX5_keyword_3 rfl [(3, .int (128 : Int32)), (0, zr w 78), (1, .int p1), (2, .int p2)] (by decide) rfl ?_
  refine x_iload_n hC dX5_keyword_4 rfl 2 rfl ?_
  refine x_istore (f := 0) hC dX5_keyword_5 [(4, .int p1), (3, .int (128 : Int32)), (0, zr w 78), (1, .int p1), (2, .int p2)] (by decide) rfl ?_
  refine x_iconst (v := (1 : Int32)) hC dX5_keyword_7 ki_1 ?_
  refine x_istore (f := 0) hC dX5_keyword_8 [(5, .int (1 : Int32)), (4, .int p1), (3, .int (128 : Int32)), (0, zr w 78), (1, .int p1), (2, .int p2)] (by decide) rfl ?_
  refine x_iconst (v := (0 : Int32)) hC dX5_keyword_10 ki_0 ?_
  refine x_istore (f := 0) hC dX5_keyword_11 [(6, .int (0 : Int32)), (5, .int (1 : Int32)), (4, .int p1), (3, .int (128 : Int32)), (0, zr w 78), (1, .int p1), (2, .int p2)] (by decide) rfl ?_
  refine x_sub [4, 5, 6, 3, 2, 1, 0] rfl ?_
  refine x_loopR (pc2 := 103) (fun (s : (Int32 × Int32 × Int32 × Int32)) => [(0, zr w 78), (1, .int p1), (2, .int p2), (3, .int s.1), (4, .int s.2.1), (5, .int s.2.2.1), (6, .int s.2.2.2)]) (fun (s : (Int32 × Int32 × Int32 × Int32)) => M) (fun (s : Unit) => []) (fun (s : Unit) => M) ((128 : Int32), p1, (1 : Int32), (0 : Int32)) ?_ ?_
  · exact fun s => b_X5_keyword_13_ok hB hd M hR
  · intro r9
    exact j_X5_keyword_103_ok hB hd M hR
theorem f_X5_keyword_met {l : Launch} {d : Nat} {g : zG} {w : zW} {M0 : zM} {p1 : Int32} {p2 : Int32} {M : zM} (hw : wS w) (hd : 5 ≤ d) {v : Int32} (h : f_X5_keyword p1 p2 M = some v) : zMet l yX5_keyword cX5_keyword 8 (some .int) d g w (zin true) M0 [zr w 78, .int p1, .int p2] M (some (.int v)) M :=
  met_i (by decide +kernel) (Nat.le_of_ble_eq_true rfl) rfl (fun C hB0 hR => f_X5_keyword_ok ⟨hB0, hw⟩ hd M hR _ h rfl)
noncomputable def j_X5_scan_173_19 (v1_173_19 : Int32) (v2_173_19 : Int32) (M : zM) : Option ((Int32 × Int32 × zM) ⊕ (Int32 × zM)) :=
  some (.inl (v1_173_19, v2_173_19, M))
set_option maxRecDepth 100000 in
theorem j_X5_scan_173_19_ok {C : zC} {d : Nat} {g : zG} {l : Launch} {w : zW} {r : zM} {v1_173_19 : Int32} {v2_173_19 : Int32} (hB : bOK C cX5_scan 5 RX5 d g l w true) (hd : 6 ≤ d) (M : zM) (hR : RtV C cX5_scan w r) : Sg C w (0, 0) 173 [(0, zr w 78), (1, .int v1_173_19), (2, .int v2_173_19)] [] M (j_X5_scan_173_19 v1_173_19 v2_173_19 M) (fun o => Sum.elim (fun (s : (Int32 × Int32 × zM)) => Zs C w (0, 0) 19 [(0, zr w 78), (1, .int s.1), (3, .int s.2.1)] [] s.2.2) (fun (s : (Int32 × zM)) => Zs C w (0, 0) 178 [(0, zr w 78), (1, .int s.1)] [] s.2) o) := by
  have hC := hB.1.1
  have hq1 : 1 ≤ d := by omega
  unfold j_X5_scan_173_19
  refine x_iload_n hC dX5_scan_173 rfl 2 rfl ?_
  refine x_istore_n hC dX5_scan_174 rfl [(3, .int v2_173_19), (0, zr w 78), (1, .int v1_173_19), (2, .int v2_173_19)] (by decide) rfl ?_
  refine x_goto (tgt := 19) hC dX5_scan_175 (by decide) ?_
  refine x_sub [1, 2, 0] rfl ?_
  exact x_done (fun h => h)
noncomputable def j_X5_scan_170_19 (v1_170_19 : Int32) (v2_170_19 : Int32) (M : zM) : Option ((Int32 × Int32 × zM) ⊕ (Int32 × zM)) :=
  j_X5_scan_173_19 (v1_170_19 + (1 : Int32)) v2_170_19 M
set_option maxRecDepth 100000 in
theorem j_X5_scan_170_19_ok {C : zC} {d : Nat} {g : zG} {l : Launch} {w : zW} {r : zM} {v1_170_19 : Int32} {v2_170_19 : Int32} (hB : bOK C cX5_scan 5 RX5 d g l w true) (hd : 6 ≤ d) (M : zM) (hR : RtV C cX5_scan w r) : Sg C w (0, 0) 170 [(0, zr w 78), (1, .int v1_170_19), (2, .int v2_170_19)] [] M (j_X5_scan_170_19 v1_170_19 v2_170_19 M) (fun o => Sum.elim (fun (s : (Int32 × Int32 × zM)) => Zs C w (0, 0) 19 [(0, zr w 78), (1, .int s.1), (3, .int s.2.1)] [] s.2.2) (fun (s : (Int32 × zM)) => Zs C w (0, 0) 178 [(0, zr w 78), (1, .int s.1)] [] s.2) o) := by
  have hC := hB.1.1
  have hq1 : 1 ≤ d := by omega
  unfold j_X5_scan_170_19
  refine x_iinc hC dX5_scan_170 ki_1 [(1, .int (v1_170_19 + (1 : Int32))), (0, zr w 78), (2, .int v2_170_19)] 1 rfl (by decide) rfl ?_
  refine x_sub [1, 0, 2] rfl ?_
  exact j_X5_scan_173_19_ok hB hd M hR
noncomputable def j_X5_scan_169_19 (v1_169_19 : Int32) (v2_169_19 : Int32) (s1_169_19 : Int32) (s2_169_19 : Int32) (M : zM) : Option ((Int32 × Int32 × zM) ⊕ (Int32 × zM)) :=
  grd (inb s1_169_19 401) (
  nm (mset M 80 (ix s1_169_19) s2_169_19) fun M169_19 =>
  j_X5_scan_170_19 v1_169_19 v2_169_19 M169_19)
set_option maxRecDepth 100000 in
theorem j_X5_scan_169_19_ok {C : zC} {d : Nat} {g : zG} {l : Launch} {w : zW} {r : zM} {v1_169_19 : Int32} {v2_169_19 : Int32} {s1_169_19 : Int32} {s2_169_19 : Int32} (hB : bOK C cX5_scan 5 RX5 d g l w true) (hd : 6 ≤ d) (M : zM) (hR : RtV C cX5_scan w r) : Sg C w (0, 0) 169 [(0, zr w 78), (1, .int v1_169_19), (2, .int v2_169_19)] [.int s2_169_19, .int s1_169_19, zr w 80] M (j_X5_scan_169_19 v1_169_19 v2_169_19 s1_169_19 s2_169_19 M) (fun o => Sum.elim (fun (s : (Int32 × Int32 × zM)) => Zs C w (0, 0) 19 [(0, zr w 78), (1, .int s.1), (3, .int s.2.1)] [] s.2.2) (fun (s : (Int32 × zM)) => Zs C w (0, 0) 178 [(0, zr w 78), (1, .int s.1)] [] s.2) o) := by
  have hC := hB.1.1
  have hq1 : 1 ≤ d := by omega
  unfold j_X5_scan_169_19
  refine r_iast hB dX5_scan_169 th_80 ?_
  refine x_mem (fun M169_19 => ?_)
  exact j_X5_scan_170_19_ok hB hd M169_19 hR
noncomputable def j_X5_scan_131_19 (v1_131_19 : Int32) (v2_131_19 : Int32) (v3_131_19 : Int32) (s1_131_19 : Int32) (s2_131_19 : Int32) (M : zM) : Option ((Int32 × Int32 × zM) ⊕ (Int32 × zM)) :=
  grd (inb s1_131_19 401) (
  nm (mset M 80 (ix s1_131_19) s2_131_19) fun M131_19 =>
  (f_X5_valueOf v3_131_19 v2_131_19 M131_19).bind fun u140_19 =>
  grd (inb v1_131_19 401) (
  nm (mset M131_19 81 (ix v1_131_19) u140_19) fun M143_19 =>
  j_X5_scan_170_19 v1_131_19 v2_131_19 M143_19))
set_option maxRecDepth 100000 in
theorem j_X5_scan_131_19_ok {C : zC} {d : Nat} {g : zG} {l : Launch} {w : zW} {r : zM} {v1_131_19 : Int32} {v2_131_19 : Int32} {v3_131_19 : Int32} {s1_131_19 : Int32} {s2_131_19 : Int32} (hB : bOK C cX5_scan 5 RX5 d g l w true) (hd : 6 ≤ d) (M : zM) (hR : RtV C cX5_scan w r) : Sg C w (0, 0) 131 [(0, zr w 78), (1, .int v1_131_19), (2, .int v2_131_19), (3, .int v3_131_19)] [.int s2_131_19, .int s1_131_19, zr w 80] M (j_X5_scan_131_19 v1_131_19 v2_131_19 v3_131_19 s1_131_19 s2_131_19 M) (fun o => Sum.elim (fun (s : (Int32 × Int32 × zM)) => Zs C w (0, 0) 19 [(0, zr w 78), (1, .int s.1), (3, .int s.2.1)] [] s.2.2) (fun (s : (Int32 × zM)) => Zs C w (0, 0) 178 [(0, zr w 78), (1, .int s.1)] [] s.2) o) := by
  have hC := hB.1.1
  have hq1 : 1 ≤ d := by omega
  unfold j_X5_scan_131_19
  refine r_iast hB dX5_scan_131 th_80 ?_
  refine x_mem (fun M131_19 => ?_)
  refine x_aload_n hC dX5_scan_132 rfl 0 rfl ?_
  refine r_getR hB dX5_scan_133 kf_X5_22 rfl th_78 rf_78_5 ?_
  refine x_iload_n hC dX5_scan_136 rfl 1 rfl ?_
  refine x_aload_n hC dX5_scan_137 rfl 0 rfl ?_
  refine x_iload_n hC dX5_scan_138 rfl 3 rfl ?_
  refine x_iload_n hC dX5_scan_139 rfl 2 rfl ?_
  refine r_cV1 (as := [.int v3_131_19, .int v2_131_19]) (rest := [.int v1_131_19, zr w 81]) hB dX5_scan_140 kv_X5_60 th_78 hq1 rfl rfl (Nat.le_of_ble_eq_true rfl) (fun v hv => f_X5_valueOf_met hB.2 (by omega) hv) (fun u140_19 => ?_)
  refine r_iast hB dX5_scan_143 th_81 ?_
  refine x_mem (fun M143_19 => ?_)
  refine x_goto (tgt := 170) hC dX5_scan_144 (by decide) ?_
  refine x_sub [0, 1, 2] rfl ?_
  exact j_X5_scan_170_19_ok hB hd M143_19 hR
noncomputable def b_X5_scan_19 (v1_19 : Int32) (v3_19 : Int32) (M : zM) : Option ((Int32 × Int32 × zM) ⊕ (Int32 × zM)) :=
  if (M 78 0) ≤ v3_19 then (some (.inr (v1_19, M)))
  else (nm (v3_19 + (1 : Int32)) fun v2_30_19 =>
  grd (inb v3_19 400) (
  nm (M 79 (ix v3_19)) fun v4_37_19 =>
  if v4_37_19 = (32 : Int32) then (j_X5_scan_173_19 v1_19 v2_30_19 M)
  else (if v4_37_19 = (10 : Int32) then (j_X5_scan_173_19 v1_19 v2_30_19 M)
  else (grd (inb v1_19 401) (
  nm (mset M 82 (ix v1_19) v3_19) fun M62_19 =>
  if (f_X5_isLetter v4_37_19) = 0 then (if (f_X5_isDigit v4_37_19) = 0 then ((f_J0_indexOf_0f7a4 1 (i2c v4_37_19)).bind fun u157_19 =>
  if 0 ≤ u157_19 then (j_X5_scan_169_19 v1_19 v2_30_19 v1_19 v4_37_19 M62_19)
  else (j_X5_scan_169_19 v1_19 v2_30_19 v1_19 (1 : Int32) M62_19))
  else ((f_X5_behindDigits v3_19 M62_19).bind fun u107_19 =>
  nm (f_J9_max_7cf53 v2_30_19 u107_19) fun v2_113_19 =>
  if (v2_113_19 - v3_19) ≤ (4 : Int32) then (j_X5_scan_131_19 v1_19 v2_113_19 v3_19 v1_19 (2 : Int32) M62_19)
  else (j_X5_scan_131_19 v1_19 v2_113_19 v3_19 v1_19 (1 : Int32) M62_19)))
  else ((f_X5_behindLetters v3_19 M62_19).bind fun u74_19 =>
  nm (f_J9_max_7cf53 v2_30_19 u74_19) fun v2_80_19 =>
  (f_X5_keyword v3_19 v2_80_19 M62_19).bind fun u89_19 =>
  grd (inb v1_19 401) (
  nm (mset M62_19 80 (ix v1_19) u89_19) fun M92_19 =>
  j_X5_scan_170_19 v1_19 v2_80_19 M92_19)))))))
set_option maxRecDepth 100000 in
theorem b_X5_scan_19_ok {C : zC} {d : Nat} {g : zG} {l : Launch} {w : zW} {r : zM} {v1_19 : Int32} {v3_19 : Int32} (hB : bOK C cX5_scan 5 RX5 d g l w true) (hd : 6 ≤ d) (M : zM) (hR : RtV C cX5_scan w r) : Sg C w (0, 0) 19 [(0, zr w 78), (1, .int v1_19), (3, .int v3_19)] [] M (b_X5_scan_19 v1_19 v3_19 M) (fun o => Sum.elim (fun (s : (Int32 × Int32 × zM)) => Zs C w (0, 0) 19 [(0, zr w 78), (1, .int s.1), (3, .int s.2.1)] [] s.2.2) (fun (s : (Int32 × zM)) => Zs C w (0, 0) 178 [(0, zr w 78), (1, .int s.1)] [] s.2) o) := by
  have hC := hB.1.1
  have hq1 : 1 ≤ d := by omega
  unfold b_X5_scan_19
  refine x_iload_n hC dX5_scan_19 rfl 2 rfl ?_
  refine x_aload_n hC dX5_scan_20 rfl 0 rfl ?_
  refine r_getI hB dX5_scan_21 kf_X5_28 rfl th_78 ?_
  refine x_icmp_ge (tgt := 178) hC dX5_scan_24 (by decide) ?_ ?_
  · refine x_sub [0, 1] rfl ?_
    exact x_done (fun h => h)
  · refine x_iload_n hC dX5_scan_27 rfl 2 rfl ?_
    refine x_iconst (v := (1 : Int32)) hC dX5_scan_28 ki_1 ?_
    refine x_iadd hC dX5_scan_29 ?_
    refine x_top (fun v2_30_19 => ?_)
    refine x_istore_n hC dX5_scan_30 rfl [(2, .int v2_30_19), (0, zr w 78), (1, .int v1_19), (3, .int v3_19)] (by decide) rfl ?_
    refine x_aload_n hC dX5_scan_31 rfl 1 rfl ?_
    refine r_getR hB dX5_scan_32 kf_X5_15 rfl th_78 rf_78_3 ?_
    refine x_iload_n hC dX5_scan_35 rfl 3 rfl ?_
    refine r_iald hB dX5_scan_36 th_79 ?_
    refine x_top (fun v4_37_19 => ?_)
    refine x_istore (f := 0) hC dX5_scan_37 [(4, .int v4_37_19), (2, .int v2_30_19), (0, zr w 78), (1, .int v1_19), (3, .int v3_19)] (by decide) rfl ?_
    refine x_iload hC dX5_scan_39 0 rfl ?_
    refine x_bipush (v := (32 : Int32)) hC dX5_scan_41 kb_32 ?_
    refine x_icmp_eq (tgt := 173) hC dX5_scan_43 (by decide) ?_ ?_
    · refine x_sub [2, 3, 1] rfl ?_
      exact j_X5_scan_173_19_ok hB hd M hR
    · refine x_iload hC dX5_scan_46 0 rfl ?_
      refine x_bipush (v := (10 : Int32)) hC dX5_scan_48 kb_10 ?_
      refine x_icmp_ne (tgt := 56) hC dX5_scan_50 (by decide) ?_ ?_
      · refine x_goto (tgt := 173) hC dX5_scan_53 (by decide) ?_
        refine x_sub [2, 3, 1] rfl ?_
        exact j_X5_scan_173_19_ok hB hd M hR
      · refine x_aload_n hC dX5_scan_56 rfl 2 rfl ?_
        refine r_getR hB dX5_scan_57 kf_X5_25 rfl th_78 rf_78_6 ?_
        refine x_iload_n hC dX5_scan_60 rfl 3 rfl ?_
        refine x_iload_n hC dX5_scan_61 rfl 4 rfl ?_
        refine r_iast hB dX5_scan_62 th_82 ?_
        refine x_mem (fun M62_19 => ?_)
        refine x_iload hC dX5_scan_63 0 rfl ?_
        refine r_cS0 (as := [.int v4_37_19]) (rest := []) hB dX5_scan_65 ks_X5_37 hq1 rfl rfl (Nat.le_of_ble_eq_true rfl) (f_X5_isLetter_met hB.2 (by omega)) ?_
        refine x_if_eq (tgt := 96) hC dX5_scan_68 (by decide) ?_ ?_
        · refine x_iload hC dX5_scan_96 0 rfl ?_
          refine r_cS0 (as := [.int v4_37_19]) (rest := []) hB dX5_scan_98 ks_X5_54 hq1 rfl rfl (Nat.le_of_ble_eq_true rfl) (f_X5_isDigit_met hB.2 (by omega)) ?_
          refine x_if_eq (tgt := 147) hC dX5_scan_101 (by decide) ?_ ?_
          · refine x_aload_n hC dX5_scan_147 rfl 2 rfl ?_
            refine r_getR hB dX5_scan_148 kf_X5_19 rfl th_78 rf_78_4 ?_
            refine x_iload_n hC dX5_scan_151 rfl 3 rfl ?_
            refine r_ldcS (k0 := 1) hB dX5_scan_152 (by decide) rfl ?_
            refine x_iload hC dX5_scan_154 0 rfl ?_
            refine x_i2c hC dX5_scan_156 ?_
            refine r_cT1 (as := [.int (i2c v4_37_19)]) (rest := [.int v1_19, zr w 80]) hB dX5_scan_157 kt_X5_65 (by decide) hq1 rfl rfl (Nat.le_of_ble_eq_true rfl) (fun v hv => f_J0_indexOf_0f7a4_met hB.2 (by decide) (by omega) hv) (fun u157_19 => ?_)
            refine x_if_ge (tgt := 167) hC dX5_scan_160 (by decide) ?_ ?_
            · refine x_iload hC dX5_scan_167 0 rfl ?_
              refine x_sub [2, 3, 1] rfl ?_
              exact j_X5_scan_169_19_ok hB hd M62_19 hR
            · refine x_iconst (v := (1 : Int32)) hC dX5_scan_163 ki_1 ?_
              refine x_goto (tgt := 169) hC dX5_scan_164 (by decide) ?_
              refine x_sub [2, 3, 1] rfl ?_
              exact j_X5_scan_169_19_ok hB hd M62_19 hR
          · refine x_iload_n hC dX5_scan_104 rfl 1 rfl ?_
            refine x_aload_n hC dX5_scan_105 rfl 2 rfl ?_
            refine x_iload_n hC dX5_scan_106 rfl 4 rfl ?_
            refine r_cV1 (as := [.int v3_19]) (rest := [.int v2_30_19]) hB dX5_scan_107 kv_X5_57 th_78 hq1 rfl rfl (Nat.le_of_ble_eq_true rfl) (fun v hv => f_X5_behindDigits_met hB.2 (by omega) hv) (fun u107_19 => ?_)
            refine r_cS0 (as := [.int v2_30_19, .int u107_19]) (rest := []) hB dX5_scan_110 ks_X5_45 hq1 rfl rfl (Nat.le_of_ble_eq_true rfl) (f_J9_max_7cf53_met hB.2 (by omega)) ?_
            refine x_top (fun v2_113_19 => ?_)
            refine x_istore_n hC dX5_scan_113 rfl [(2, .int v2_113_19), (4, .int v4_37_19), (0, zr w 78), (1, .int v1_19), (3, .int v3_19)] (by decide) rfl ?_
            refine x_aload_n hC dX5_scan_114 rfl 2 rfl ?_
            refine r_getR hB dX5_scan_115 kf_X5_19 rfl th_78 rf_78_4 ?_
            refine x_iload_n hC dX5_scan_118 rfl 3 rfl ?_
            refine x_iload_n hC dX5_scan_119 rfl 0 rfl ?_
            refine x_iload_n hC dX5_scan_120 rfl 4 rfl ?_
            refine x_isub hC dX5_scan_121 ?_
            refine x_iconst (v := (4 : Int32)) hC dX5_scan_122 ki_4 ?_
            refine x_icmp_le (tgt := 130) hC dX5_scan_123 (by decide) ?_ ?_
            · refine x_iconst (v := (2 : Int32)) hC dX5_scan_130 ki_2 ?_
              refine x_sub [2, 3, 0, 4] rfl ?_
              exact j_X5_scan_131_19_ok hB hd M62_19 hR
            · refine x_iconst (v := (1 : Int32)) hC dX5_scan_126 ki_1 ?_
              refine x_goto (tgt := 131) hC dX5_scan_127 (by decide) ?_
              refine x_sub [2, 3, 0, 4] rfl ?_
              exact j_X5_scan_131_19_ok hB hd M62_19 hR
        · refine x_iload_n hC dX5_scan_71 rfl 1 rfl ?_
          refine x_aload_n hC dX5_scan_72 rfl 2 rfl ?_
          refine x_iload_n hC dX5_scan_73 rfl 4 rfl ?_
          refine r_cV1 (as := [.int v3_19]) (rest := [.int v2_30_19]) hB dX5_scan_74 kv_X5_41 th_78 hq1 rfl rfl (Nat.le_of_ble_eq_true rfl) (fun v hv => f_X5_behindLetters_met hB.2 (by omega) hv) (fun u74_19 => ?_)
          refine r_cS0 (as := [.int v2_30_19, .int u74_19]) (rest := []) hB dX5_scan_77 ks_X5_45 hq1 rfl rfl (Nat.le_of_ble_eq_true rfl) (f_J9_max_7cf53_met hB.2 (by omega)) ?_
          refine x_top (fun v2_80_19 => ?_)
          refine x_istore_n hC dX5_scan_80 rfl [(2, .int v2_80_19), (4, .int v4_37_19), (0, zr w 78), (1, .int v1_19), (3, .int v3_19)] (by decide) rfl ?_
          refine x_aload_n hC dX5_scan_81 rfl 2 rfl ?_
          refine r_getR hB dX5_scan_82 kf_X5_19 rfl th_78 rf_78_4 ?_
          refine x_iload_n hC dX5_scan_85 rfl 3 rfl ?_
          refine x_aload_n hC dX5_scan_86 rfl 2 rfl ?_
          refine x_iload_n hC dX5_scan_87 rfl 4 rfl ?_
          refine x_iload_n hC dX5_scan_88 rfl 0 rfl ?_
          refine r_cV1 (as := [.int v3_19, .int v2_80_19]) (rest := [.int v1_19, zr w 80]) hB dX5_scan_89 kv_X5_51 th_78 hq1 rfl rfl (Nat.le_of_ble_eq_true rfl) (fun v hv => f_X5_keyword_met hB.2 (by omega) hv) (fun u89_19 => ?_)
          refine r_iast hB dX5_scan_92 th_80 ?_
          refine x_mem (fun M92_19 => ?_)
          refine x_goto (tgt := 170) hC dX5_scan_93 (by decide) ?_
          refine x_sub [2, 3, 0] rfl ?_
          exact j_X5_scan_170_19_ok hB hd M92_19 hR
noncomputable def j_X5_scan_178 (v1_178 : Int32) (M : zM) : Option (zM) :=
  grd (inb v1_178 401) (
  nm (mset M 80 (ix v1_178) (0 : Int32)) fun M184 =>
  grd (inb v1_178 401) (
  nm (mset M184 82 (ix v1_178) (M184 78 0)) fun M194 =>
  some M194))
set_option maxRecDepth 100000 in
theorem j_X5_scan_178_ok {C : zC} {d : Nat} {g : zG} {l : Launch} {w : zW} {r : zM} {v1_178 : Int32} (hB : bOK C cX5_scan 5 RX5 d g l w true) (hd : 6 ≤ d) (M : zM) (hR : RtV C cX5_scan w r) : Sg C w (0, 0) 178 [(0, zr w 78), (1, .int v1_178)] [] M (j_X5_scan_178 v1_178 M) (fun q => q = r) := by
  have hC := hB.1.1
  have hq1 : 1 ≤ d := by omega
  unfold j_X5_scan_178
  refine x_aload_n hC dX5_scan_178 rfl 0 rfl ?_
  refine r_getR hB dX5_scan_179 kf_X5_19 rfl th_78 rf_78_4 ?_
  refine x_iload_n hC dX5_scan_182 rfl 1 rfl ?_
  refine x_iconst (v := (0 : Int32)) hC dX5_scan_183 ki_0 ?_
  refine r_iast hB dX5_scan_184 th_80 ?_
  refine x_mem (fun M184 => ?_)
  refine x_aload_n hC dX5_scan_185 rfl 0 rfl ?_
  refine r_getR hB dX5_scan_186 kf_X5_25 rfl th_78 rf_78_6 ?_
  refine x_iload_n hC dX5_scan_189 rfl 1 rfl ?_
  refine x_aload_n hC dX5_scan_190 rfl 0 rfl ?_
  refine r_getI hB dX5_scan_191 kf_X5_28 rfl th_78 ?_
  refine r_iast hB dX5_scan_194 th_82 ?_
  refine x_mem (fun M194 => ?_)
  exact r_retV hR dX5_scan_195 (fun h => h)
noncomputable def f_X5_scan (M : zM) : Option (zM) :=
  nm (mset M 78 1 (0 : Int32)) fun M2 =>
  nm (mset M2 78 2 (-1 : Int32)) fun M7 =>
  nm (mset M7 78 7 (0 : Int32)) fun M12 =>
  (loopW (fun s => b_X5_scan_19 s.1 s.2.1 s.2.2) ((0 : Int32), (0 : Int32), M12)).bind (fun r => j_X5_scan_178 r.1 r.2)
set_option maxRecDepth 100000 in
theorem f_X5_scan_ok {C : zC} {d : Nat} {g : zG} {l : Launch} {w : zW} {r : zM} (hB : bOK C cX5_scan 5 RX5 d g l w true) (hd : 6 ≤ d) (M : zM) (hR : RtV C cX5_scan w r) : Sg C w (0, 0) 0 [(0, zr w 78)] [] M (f_X5_scan M) (fun q => q = r) := by
  have hC := hB.1.1
  have hq1 : 1 ≤ d := by omega
  unfold f_X5_scan
  refine x_aload_n hC dX5_scan_0 rfl 0 rfl ?_
  refine x_iconst (v := (0 : Int32)) hC dX5_scan_1 ki_0 ?_
  refine r_putI hB dX5_scan_2 kf_X5_31 rfl th_78 ?_
  refine x_mem (fun M2 => ?_)
  refine x_aload_n hC dX5_scan_5 rfl 0 rfl ?_
  refine x_iconst (v := (-1 : Int32)) hC dX5_scan_6 ki_m1 ?_
  refine r_putI hB dX5_scan_7 kf_X5_9 rfl th_78 ?_
  refine x_mem (fun M7 => ?_)
  refine x_aload_n hC dX5_scan_10 rfl 0 rfl ?_
  refine x_iconst (v := (0 : Int32)) hC dX5_scan_11 ki_0 ?_
  refine r_putI hB dX5_scan_12 kf_X5_34 rfl th_78 ?_
  refine x_mem (fun M12 => ?_)
  refine x_iconst (v := (0 : Int32)) hC dX5_scan_15 ki_0 ?_
  refine x_istore_n hC dX5_scan_16 rfl [(1, .int (0 : Int32)), (0, zr w 78)] (by decide) rfl ?_
  refine x_iconst (v := (0 : Int32)) hC dX5_scan_17 ki_0 ?_
  refine x_istore_n hC dX5_scan_18 rfl [(3, .int (0 : Int32)), (1, .int (0 : Int32)), (0, zr w 78)] (by decide) rfl ?_
  refine x_sub [2, 1, 0] rfl ?_
  refine x_loopB (pc2 := 178) (fun (s : (Int32 × Int32 × zM)) => [(0, zr w 78), (1, .int s.1), (3, .int s.2.1)]) (fun (s : (Int32 × Int32 × zM)) => s.2.2) (fun (s : (Int32 × zM)) => [(0, zr w 78), (1, .int s.1)]) (fun (s : (Int32 × zM)) => s.2) ((0 : Int32), (0 : Int32), M12) ?_ ?_
  · exact fun s => b_X5_scan_19_ok hB hd s.2.2 hR
  · intro r9
    exact j_X5_scan_178_ok hB hd r9.2 hR
theorem f_X5_scan_met {l : Launch} {d : Nat} {g : zG} {w : zW} {M0 : zM} {M : zM} (hw : wS w) (hd : 6 ≤ d) {M' : zM} (h : f_X5_scan M = some M') : zMet l yX5_scan cX5_scan 5 none d g w (zin true) M0 [zr w 78] M none M' :=
  met_v (by decide +kernel) (Nat.le_of_ble_eq_true rfl) (fun C hB0 hR => f_X5_scan_ok ⟨hB0, hw⟩ hd M hR _ h rfl)
noncomputable def j_X3_readCondition_101_13 (rS : Nat → Int32 → zM → Option (Int32 × zM)) (a0 : Nat) (v2_13 : Int32) (v3_101_13 : Int32) (v4_101_13 : Int32) (v5_101_13 : Int32) (M : zM) : Option ((Int32 × Int32 × Int32 × zM) ⊕ ((zM) ⊕ (Int32 × zM))) :=
  some (.inl (v3_101_13, v4_101_13, (v5_101_13 + (1 : Int32)), M))
set_option maxRecDepth 100000 in
theorem j_X3_readCondition_101_13_ok {C : zC} {d : Nat} {g : zG} {l : Launch} {w : zW} {r : Int32 × zM} {rS : Nat → Int32 → zM → Option (Int32 × zM)} {a0 : Nat} {v2_13 : Int32} {v3_101_13 : Int32} {v4_101_13 : Int32} {v5_101_13 : Int32} (hB : bOK C cX3_readCondition 7 RX3 d g l w true) (hrS : ∀ (a : Nat) (p : Int32) (N N' : zM) (v : Int32), tO true 3 a → rS a p N = some (v, N') → zMet l yX3_readSingle cX3_readSingle 5 (some .boolean) (d - 1) g w (zin true) C.2.2.2.2 [zr w a, zr w 78, .int p] N (some (.int v)) N') (h0 : tO true 3 a0) (hd : 10 ≤ d) (M : zM) (hR : RtZ C cX3_readCondition w r.1 r.2) : Sg C w (0, 0) 101 [(0, zr w a0), (1, zr w 78), (2, .int v2_13), (3, .int v3_101_13), (4, .int v4_101_13), (5, .int v5_101_13)] [] M (j_X3_readCondition_101_13 rS a0 v2_13 v3_101_13 v4_101_13 v5_101_13 M) (fun o => Sum.elim (fun (s : (Int32 × Int32 × Int32 × zM)) => Zs C w (0, 0) 13 [(0, zr w a0), (1, zr w 78), (2, .int v2_13), (3, .int s.1), (4, .int s.2.1), (5, .int s.2.2.1)] [] s.2.2.2) (fun q => Sum.elim (fun (s : (zM)) => Zs C w (0, 0) 107 [] [] s) (fun q => q = r) q) o) := by
  have hC := hB.1.1
  have hq1 : 1 ≤ d := by omega
  unfold j_X3_readCondition_101_13
  refine x_iinc hC dX3_readCondition_101 ki_1 [(5, .int (v5_101_13 + (1 : Int32))), (0, zr w a0), (1, zr w 78), (2, .int v2_13), (3, .int v3_101_13), (4, .int v4_101_13)] 5 rfl (by decide) rfl ?_
  refine x_goto (tgt := 13) hC dX3_readCondition_104 (by decide) ?_
  refine x_sub [1, 2, 3, 4, 5, 0] rfl ?_
  exact x_done (fun h => h)
noncomputable def j_X3_readCondition_69_13 (rS : Nat → Int32 → zM → Option (Int32 × zM)) (a0 : Nat) (v2_13 : Int32) (v3_69_13 : Int32) (v5_69_13 : Int32) (v6_69_13 : Int32) (M : zM) : Option ((Int32 × Int32 × Int32 × zM) ⊕ ((zM) ⊕ (Int32 × zM))) :=
  (f_X5_next M).bind fun M70_13 =>
  bnd2 (rS a0 v2_13 M70_13) fun u76_13 M76_13 =>
  if v6_69_13 = (133 : Int32) then ((f_X3_emit a0 (10133 : Int32) M76_13).bind fun M93_13 =>
  j_X3_readCondition_101_13 rS a0 v2_13 v3_69_13 u76_13 v5_69_13 M93_13)
  else (j_X3_readCondition_101_13 rS a0 v2_13 (1 : Int32) u76_13 v5_69_13 M76_13)
set_option maxRecDepth 100000 in
theorem j_X3_readCondition_69_13_ok {C : zC} {d : Nat} {g : zG} {l : Launch} {w : zW} {r : Int32 × zM} {rS : Nat → Int32 → zM → Option (Int32 × zM)} {a0 : Nat} {v2_13 : Int32} {v3_69_13 : Int32} {v5_69_13 : Int32} {v6_69_13 : Int32} (hB : bOK C cX3_readCondition 7 RX3 d g l w true) (hrS : ∀ (a : Nat) (p : Int32) (N N' : zM) (v : Int32), tO true 3 a → rS a p N = some (v, N') → zMet l yX3_readSingle cX3_readSingle 5 (some .boolean) (d - 1) g w (zin true) C.2.2.2.2 [zr w a, zr w 78, .int p] N (some (.int v)) N') (h0 : tO true 3 a0) (hd : 10 ≤ d) (M : zM) (hR : RtZ C cX3_readCondition w r.1 r.2) : Sg C w (0, 0) 69 [(0, zr w a0), (1, zr w 78), (2, .int v2_13), (3, .int v3_69_13), (5, .int v5_69_13), (6, .int v6_69_13)] [] M (j_X3_readCondition_69_13 rS a0 v2_13 v3_69_13 v5_69_13 v6_69_13 M) (fun o => Sum.elim (fun (s : (Int32 × Int32 × Int32 × zM)) => Zs C w (0, 0) 13 [(0, zr w a0), (1, zr w 78), (2, .int v2_13), (3, .int s.1), (4, .int s.2.1), (5, .int s.2.2.1)] [] s.2.2.2) (fun q => Sum.elim (fun (s : (zM)) => Zs C w (0, 0) 107 [] [] s) (fun q => q = r) q) o) := by
  have hC := hB.1.1
  have hq1 : 1 ≤ d := by omega
  unfold j_X3_readCondition_69_13
  refine x_aload_n hC dX3_readCondition_69 rfl 1 rfl ?_
  refine r_cVv (as := []) (rest := []) hB dX3_readCondition_70 kv_X3_44 th_78 hq1 rfl rfl (Nat.le_of_ble_eq_true rfl) (fun M' hv => f_X5_next_met hB.2 (by omega) hv) (fun M70_13 => ?_)
  refine x_aload_n hC dX3_readCondition_73 rfl 0 rfl ?_
  refine x_aload_n hC dX3_readCondition_74 rfl 1 rfl ?_
  refine x_iload_n hC dX3_readCondition_75 rfl 2 rfl ?_
  refine r_cV2 (as := [zr w 78, .int v2_13]) (rest := []) hB dX3_readCondition_76 kv_X3_82 h0 hq1 rfl rfl (Nat.le_of_ble_eq_true rfl) (fun v M' hv => hrS _ _ _ M' v h0 hv) (fun u76_13 M76_13 => ?_)
  refine x_istore (f := 0) hC dX3_readCondition_79 [(4, .int u76_13), (0, zr w a0), (1, zr w 78), (2, .int v2_13), (3, .int v3_69_13), (5, .int v5_69_13), (6, .int v6_69_13)] (by decide) rfl ?_
  refine x_iload hC dX3_readCondition_81 6 rfl ?_
  refine x_sipush (v := (133 : Int32)) hC dX3_readCondition_83 kh_133 ?_
  refine x_icmp_ne (tgt := 99) hC dX3_readCondition_86 (by decide) ?_ ?_
  · refine x_aload_n hC dX3_readCondition_89 rfl 1 rfl ?_
    refine x_sipush (v := (10133 : Int32)) hC dX3_readCondition_90 kh_10133 ?_
    refine r_cVv (as := [.int (10133 : Int32)]) (rest := []) hB dX3_readCondition_93 kv_X3_85 h0 hq1 rfl rfl (Nat.le_of_ble_eq_true rfl) (fun M' hv => f_X3_emit_met hB.2 h0 (by omega) hv) (fun M93_13 => ?_)
    refine x_goto (tgt := 101) hC dX3_readCondition_96 (by decide) ?_
    refine x_sub [1, 2, 3, 4, 0, 5] rfl ?_
    exact j_X3_readCondition_101_13_ok hB hrS h0 hd M93_13 hR
  · refine x_iconst (v := (1 : Int32)) hC dX3_readCondition_99 ki_1 ?_
    refine x_istore_n hC dX3_readCondition_100 rfl [(3, .int (1 : Int32)), (4, .int u76_13), (0, zr w a0), (1, zr w 78), (2, .int v2_13), (5, .int v5_69_13), (6, .int v6_69_13)] (by decide) rfl ?_
    refine x_sub [2, 3, 4, 0, 1, 5] rfl ?_
    exact j_X3_readCondition_101_13_ok hB hrS h0 hd M76_13 hR
noncomputable def j_X3_readCondition_51_13 (rS : Nat → Int32 → zM → Option (Int32 × zM)) (a0 : Nat) (v2_13 : Int32) (v3_51_13 : Int32) (v5_51_13 : Int32) (v6_51_13 : Int32) (M : zM) : Option ((Int32 × Int32 × Int32 × zM) ⊕ ((zM) ⊕ (Int32 × zM))) :=
  if v6_51_13 = (133 : Int32) then (j_X3_readCondition_69_13 rS a0 v2_13 v3_51_13 v5_51_13 v6_51_13 M)
  else (if v6_51_13 = (132 : Int32) then (j_X3_readCondition_69_13 rS a0 v2_13 v3_51_13 v5_51_13 v6_51_13 M)
  else (some (.inr (.inr ((1 : Int32), M)))))
set_option maxRecDepth 100000 in
theorem j_X3_readCondition_51_13_ok {C : zC} {d : Nat} {g : zG} {l : Launch} {w : zW} {r : Int32 × zM} {rS : Nat → Int32 → zM → Option (Int32 × zM)} {a0 : Nat} {v2_13 : Int32} {v3_51_13 : Int32} {v5_51_13 : Int32} {v6_51_13 : Int32} (hB : bOK C cX3_readCondition 7 RX3 d g l w true) (hrS : ∀ (a : Nat) (p : Int32) (N N' : zM) (v : Int32), tO true 3 a → rS a p N = some (v, N') → zMet l yX3_readSingle cX3_readSingle 5 (some .boolean) (d - 1) g w (zin true) C.2.2.2.2 [zr w a, zr w 78, .int p] N (some (.int v)) N') (h0 : tO true 3 a0) (hd : 10 ≤ d) (M : zM) (hR : RtZ C cX3_readCondition w r.1 r.2) : Sg C w (0, 0) 51 [(0, zr w a0), (1, zr w 78), (2, .int v2_13), (3, .int v3_51_13), (5, .int v5_51_13), (6, .int v6_51_13)] [] M (j_X3_readCondition_51_13 rS a0 v2_13 v3_51_13 v5_51_13 v6_51_13 M) (fun o => Sum.elim (fun (s : (Int32 × Int32 × Int32 × zM)) => Zs C w (0, 0) 13 [(0, zr w a0), (1, zr w 78), (2, .int v2_13), (3, .int s.1), (4, .int s.2.1), (5, .int s.2.2.1)] [] s.2.2.2) (fun q => Sum.elim (fun (s : (zM)) => Zs C w (0, 0) 107 [] [] s) (fun q => q = r) q) o) := by
  have hC := hB.1.1
  have hq1 : 1 ≤ d := by omega
  unfold j_X3_readCondition_51_13
  refine x_iload hC dX3_readCondition_51 5 rfl ?_
  refine x_sipush (v := (133 : Int32)) hC dX3_readCondition_53 kh_133 ?_
  refine x_icmp_eq (tgt := 69) hC dX3_readCondition_56 (by decide) ?_ ?_
  · exact j_X3_readCondition_69_13_ok hB hrS h0 hd M hR
  · refine x_iload hC dX3_readCondition_59 5 rfl ?_
    refine x_sipush (v := (132 : Int32)) hC dX3_readCondition_61 kh_132 ?_
    refine x_icmp_eq (tgt := 69) hC dX3_readCondition_64 (by decide) ?_ ?_
    · exact j_X3_readCondition_69_13_ok hB hrS h0 hd M hR
    · refine x_iconst (v := (1 : Int32)) hC dX3_readCondition_67 ki_1 ?_
      exact r_retZ hR dX3_readCondition_68 (Or.inr rfl) (fun h => h)
noncomputable def b_X3_readCondition_13 (rS : Nat → Int32 → zM → Option (Int32 × zM)) (a0 : Nat) (v2_13 : Int32) (v3_13 : Int32) (v4_13 : Int32) (v5_13 : Int32) (M : zM) : Option ((Int32 × Int32 × Int32 × zM) ⊕ ((zM) ⊕ (Int32 × zM))) :=
  if (400 : Int32) ≤ v5_13 then (some (.inr (.inl M)))
  else (if v4_13 = 0 then (some (.inr (.inl M)))
  else ((f_X5_kind M).bind fun u27_13 =>
  if u27_13 = (133 : Int32) then (j_X3_readCondition_51_13 rS a0 v2_13 v3_13 v5_13 u27_13 M)
  else (if v3_13 = 0 then (j_X3_readCondition_51_13 rS a0 v2_13 v3_13 v5_13 u27_13 M)
  else ((f_X3_emit a0 (10132 : Int32) M).bind fun M48_13 =>
  j_X3_readCondition_51_13 rS a0 v2_13 v3_13 v5_13 u27_13 M48_13))))
set_option maxRecDepth 100000 in
theorem b_X3_readCondition_13_ok {C : zC} {d : Nat} {g : zG} {l : Launch} {w : zW} {r : Int32 × zM} {rS : Nat → Int32 → zM → Option (Int32 × zM)} {a0 : Nat} {v2_13 : Int32} {v3_13 : Int32} {v4_13 : Int32} {v5_13 : Int32} (hB : bOK C cX3_readCondition 7 RX3 d g l w true) (hrS : ∀ (a : Nat) (p : Int32) (N N' : zM) (v : Int32), tO true 3 a → rS a p N = some (v, N') → zMet l yX3_readSingle cX3_readSingle 5 (some .boolean) (d - 1) g w (zin true) C.2.2.2.2 [zr w a, zr w 78, .int p] N (some (.int v)) N') (h0 : tO true 3 a0) (hd : 10 ≤ d) (M : zM) (hR : RtZ C cX3_readCondition w r.1 r.2) : Sg C w (0, 0) 13 [(0, zr w a0), (1, zr w 78), (2, .int v2_13), (3, .int v3_13), (4, .int v4_13), (5, .int v5_13)] [] M (b_X3_readCondition_13 rS a0 v2_13 v3_13 v4_13 v5_13 M) (fun o => Sum.elim (fun (s : (Int32 × Int32 × Int32 × zM)) => Zs C w (0, 0) 13 [(0, zr w a0), (1, zr w 78), (2, .int v2_13), (3, .int s.1), (4, .int s.2.1), (5, .int s.2.2.1)] [] s.2.2.2) (fun q => Sum.elim (fun (s : (zM)) => Zs C w (0, 0) 107 [] [] s) (fun q => q = r) q) o) := by
  have hC := hB.1.1
  have hq1 : 1 ≤ d := by omega
  unfold b_X3_readCondition_13
  refine x_iload hC dX3_readCondition_13 5 rfl ?_
  refine x_sipush (v := (400 : Int32)) hC dX3_readCondition_15 kh_400 ?_
  refine x_icmp_ge (tgt := 107) hC dX3_readCondition_18 (by decide) ?_ ?_
  · refine x_sub [] rfl ?_
    exact x_done (fun h => h)
  · refine x_iload hC dX3_readCondition_21 4 rfl ?_
    refine x_if_eq (tgt := 107) hC dX3_readCondition_23 (by decide) ?_ ?_
    · refine x_sub [] rfl ?_
      exact x_done (fun h => h)
    · refine x_aload_n hC dX3_readCondition_26 rfl 1 rfl ?_
      refine r_cV1 (as := []) (rest := []) hB dX3_readCondition_27 kv_X3_34 th_78 hq1 rfl rfl (Nat.le_of_ble_eq_true rfl) (fun v hv => f_X5_kind_met hB.2 (by omega) hv) (fun u27_13 => ?_)
      refine x_istore (f := 0) hC dX3_readCondition_30 [(6, .int u27_13), (0, zr w a0), (1, zr w 78), (2, .int v2_13), (3, .int v3_13), (4, .int v4_13), (5, .int v5_13)] (by decide) rfl ?_
      refine x_iload hC dX3_readCondition_32 0 rfl ?_
      refine x_sipush (v := (133 : Int32)) hC dX3_readCondition_34 kh_133 ?_
      refine x_icmp_eq (tgt := 51) hC dX3_readCondition_37 (by decide) ?_ ?_
      · refine x_sub [1, 2, 3, 4, 6, 0] rfl ?_
        exact j_X3_readCondition_51_13_ok hB hrS h0 hd M hR
      · refine x_iload_n hC dX3_readCondition_40 rfl 4 rfl ?_
        refine x_if_eq (tgt := 51) hC dX3_readCondition_41 (by decide) ?_ ?_
        · refine x_sub [1, 2, 3, 4, 6, 0] rfl ?_
          exact j_X3_readCondition_51_13_ok hB hrS h0 hd M hR
        · refine x_aload_n hC dX3_readCondition_44 rfl 1 rfl ?_
          refine x_sipush (v := (10132 : Int32)) hC dX3_readCondition_45 kh_10132 ?_
          refine r_cVv (as := [.int (10132 : Int32)]) (rest := []) hB dX3_readCondition_48 kv_X3_85 h0 hq1 rfl rfl (Nat.le_of_ble_eq_true rfl) (fun M' hv => f_X3_emit_met hB.2 h0 (by omega) hv) (fun M48_13 => ?_)
          refine x_sub [1, 2, 3, 4, 6, 0] rfl ?_
          exact j_X3_readCondition_51_13_ok hB hrS h0 hd M48_13 hR
noncomputable def j_X3_readCondition_107 (rS : Nat → Int32 → zM → Option (Int32 × zM)) (a0 : Nat) (M : zM) : Option (Int32 × zM) :=
  some ((0 : Int32), M)
set_option maxRecDepth 100000 in
theorem j_X3_readCondition_107_ok {C : zC} {d : Nat} {g : zG} {l : Launch} {w : zW} {r : Int32 × zM} {rS : Nat → Int32 → zM → Option (Int32 × zM)} {a0 : Nat} (hB : bOK C cX3_readCondition 7 RX3 d g l w true) (hrS : ∀ (a : Nat) (p : Int32) (N N' : zM) (v : Int32), tO true 3 a → rS a p N = some (v, N') → zMet l yX3_readSingle cX3_readSingle 5 (some .boolean) (d - 1) g w (zin true) C.2.2.2.2 [zr w a, zr w 78, .int p] N (some (.int v)) N') (h0 : tO true 3 a0) (hd : 10 ≤ d) (M : zM) (hR : RtZ C cX3_readCondition w r.1 r.2) : Sg C w (0, 0) 107 [] [] M (j_X3_readCondition_107 rS a0 M) (fun q => q = r) := by
  have hC := hB.1.1
  have hq1 : 1 ≤ d := by omega
  unfold j_X3_readCondition_107
  refine x_iconst (v := (0 : Int32)) hC dX3_readCondition_107 ki_0 ?_
  exact r_retZ hR dX3_readCondition_108 (Or.inl rfl) (fun h => h)
noncomputable def g_X3_readCondition (rS : Nat → Int32 → zM → Option (Int32 × zM)) (a0 : Nat) (p2 : Int32) (M : zM) : Option (Int32 × zM) :=
  bnd2 (rS a0 p2 M) fun u5 M5 =>
  (loopW (fun s => b_X3_readCondition_13 rS a0 p2 s.1 s.2.1 s.2.2.1 s.2.2.2) ((0 : Int32), u5, (0 : Int32), M5)).bind (fun q => Sum.elim (fun r => j_X3_readCondition_107 rS a0 r) some q)
set_option maxRecDepth 100000 in
theorem g_X3_readCondition_ok {C : zC} {d : Nat} {g : zG} {l : Launch} {w : zW} {r : Int32 × zM} {rS : Nat → Int32 → zM → Option (Int32 × zM)} {a0 : Nat} {p2 : Int32} (hB : bOK C cX3_readCondition 7 RX3 d g l w true) (hrS : ∀ (a : Nat) (p : Int32) (N N' : zM) (v : Int32), tO true 3 a → rS a p N = some (v, N') → zMet l yX3_readSingle cX3_readSingle 5 (some .boolean) (d - 1) g w (zin true) C.2.2.2.2 [zr w a, zr w 78, .int p] N (some (.int v)) N') (h0 : tO true 3 a0) (hd : 10 ≤ d) (M : zM) (hR : RtZ C cX3_readCondition w r.1 r.2) : Sg C w (0, 0) 0 [(0, zr w a0), (1, zr w 78), (2, .int p2)] [] M (g_X3_readCondition rS a0 p2 M) (fun q => q = r) := by
  have hC := hB.1.1
  have hq1 : 1 ≤ d := by omega
  unfold g_X3_readCondition
  refine x_iconst (v := (0 : Int32)) hC dX3_readCondition_0 ki_0 ?_
  refine x_istore_n hC dX3_readCondition_1 rfl [(3, .int (0 : Int32)), (0, zr w a0), (1, zr w 78), (2, .int p2)] (by decide) rfl ?_
  refine x_aload_n hC dX3_readCondition_2 rfl 1 rfl ?_
  refine x_aload_n hC dX3_readCondition_3 rfl 2 rfl ?_
  refine x_iload_n hC dX3_readCondition_4 rfl 3 rfl ?_
  refine r_cV2 (as := [zr w 78, .int p2]) (rest := []) hB dX3_readCondition_5 kv_X3_82 h0 hq1 rfl rfl (Nat.le_of_ble_eq_true rfl) (fun v M' hv => hrS _ _ _ M' v h0 hv) (fun u5 M5 => ?_)
  refine x_istore (f := 0) hC dX3_readCondition_8 [(4, .int u5), (3, .int (0 : Int32)), (0, zr w a0), (1, zr w 78), (2, .int p2)] (by decide) rfl ?_
  refine x_iconst (v := (0 : Int32)) hC dX3_readCondition_10 ki_0 ?_
  refine x_istore (f := 0) hC dX3_readCondition_11 [(5, .int (0 : Int32)), (4, .int u5), (3, .int (0 : Int32)), (0, zr w a0), (1, zr w 78), (2, .int p2)] (by decide) rfl ?_
  refine x_sub [3, 4, 5, 2, 1, 0] rfl ?_
  refine x_loopR (pc2 := 107) (fun (s : (Int32 × Int32 × Int32 × zM)) => [(0, zr w a0), (1, zr w 78), (2, .int p2), (3, .int s.1), (4, .int s.2.1), (5, .int s.2.2.1)]) (fun (s : (Int32 × Int32 × Int32 × zM)) => s.2.2.2) (fun (s : (zM)) => []) (fun (s : (zM)) => s) ((0 : Int32), u5, (0 : Int32), M5) ?_ ?_
  · exact fun s => b_X3_readCondition_13_ok hB hrS h0 hd s.2.2.2 hR
  · intro r9
    exact j_X3_readCondition_107_ok hB hrS h0 hd r9 hR
noncomputable def j_X3_readSingle_18 (rC : Nat → Int32 → zM → Option (Int32 × zM)) (rS : Nat → Int32 → zM → Option (Int32 × zM)) (a0 : Nat) (v2_18 : Int32) (v3_18 : Int32) (M : zM) : Option (Int32 × zM) :=
  bnd2 (f_X5_opens (1 : Int32) v2_18 (8 : Int32) M) fun u23 M23 =>
  if u23 = 0 then (some ((0 : Int32), M23))
  else ((f_X5_next M23).bind fun M32 =>
  if v3_18 = (40 : Int32) then (bnd2 (rC a0 (v2_18 + (1 : Int32)) M32) fun u46 M46 =>
  if u46 = 0 then (some ((0 : Int32), M46))
  else (bnd2 (f_X5_take (41 : Int32) M46) fun u55 M55 =>
  if u55 = 0 then (some ((0 : Int32), M55))
  else (some ((1 : Int32), M55))))
  else (bnd2 (rS a0 (v2_18 + (1 : Int32)) M32) fun u72 M72 =>
  if u72 = 0 then (some ((0 : Int32), M72))
  else ((f_X3_emit a0 (10134 : Int32) M72).bind fun M84 =>
  some ((1 : Int32), M84))))
set_option maxRecDepth 100000 in
theorem j_X3_readSingle_18_ok {C : zC} {d : Nat} {g : zG} {l : Launch} {w : zW} {r : Int32 × zM} {rC : Nat → Int32 → zM → Option (Int32 × zM)} {rS : Nat → Int32 → zM → Option (Int32 × zM)} {a0 : Nat} {v2_18 : Int32} {v3_18 : Int32} (hB : bOK C cX3_readSingle 5 RX3 d g l w true) (hrC : ∀ (a : Nat) (p : Int32) (N N' : zM) (v : Int32), tO true 3 a → rC a p N = some (v, N') → zMet l yX3_readCondition cX3_readCondition 7 (some .boolean) (d - 1) g w (zin true) C.2.2.2.2 [zr w a, zr w 78, .int p] N (some (.int v)) N') (hrS : ∀ (a : Nat) (p : Int32) (N N' : zM) (v : Int32), tO true 3 a → rS a p N = some (v, N') → zMet l yX3_readSingle cX3_readSingle 5 (some .boolean) (d - 1) g w (zin true) C.2.2.2.2 [zr w a, zr w 78, .int p] N (some (.int v)) N') (h0 : tO true 3 a0) (hd : 10 ≤ d) (M : zM) (hR : RtZ C cX3_readSingle w r.1 r.2) : Sg C w (0, 0) 18 [(0, zr w a0), (1, zr w 78), (2, .int v2_18), (3, .int v3_18)] [] M (j_X3_readSingle_18 rC rS a0 v2_18 v3_18 M) (fun q => q = r) := by
  have hC := hB.1.1
  have hq1 : 1 ≤ d := by omega
  unfold j_X3_readSingle_18
  refine x_aload_n hC dX3_readSingle_18 rfl 1 rfl ?_
  refine x_iconst (v := (1 : Int32)) hC dX3_readSingle_19 ki_1 ?_
  refine x_iload_n hC dX3_readSingle_20 rfl 2 rfl ?_
  refine x_bipush (v := (8 : Int32)) hC dX3_readSingle_21 kb_8 ?_
  refine r_cV2 (as := [.int (1 : Int32), .int v2_18, .int (8 : Int32)]) (rest := []) hB dX3_readSingle_23 kv_X3_40 th_78 hq1 rfl rfl (Nat.le_of_ble_eq_true rfl) (fun v M' hv => f_X5_opens_met hB.2 (by omega) hv) (fun u23 M23 => ?_)
  refine x_if_ne (tgt := 31) hC dX3_readSingle_26 (by decide) ?_ ?_
  · refine x_iconst (v := (0 : Int32)) hC dX3_readSingle_29 ki_0 ?_
    exact r_retZ hR dX3_readSingle_30 (Or.inl rfl) (fun h => h)
  · refine x_aload_n hC dX3_readSingle_31 rfl 1 rfl ?_
    refine r_cVv (as := []) (rest := []) hB dX3_readSingle_32 kv_X3_44 th_78 hq1 rfl rfl (Nat.le_of_ble_eq_true rfl) (fun M' hv => f_X5_next_met hB.2 (by omega) hv) (fun M32 => ?_)
    refine x_iload_n hC dX3_readSingle_35 rfl 3 rfl ?_
    refine x_bipush (v := (40 : Int32)) hC dX3_readSingle_36 kb_40 ?_
    refine x_icmp_ne (tgt := 67) hC dX3_readSingle_38 (by decide) ?_ ?_
    · refine x_aload_n hC dX3_readSingle_41 rfl 0 rfl ?_
      refine x_aload_n hC dX3_readSingle_42 rfl 1 rfl ?_
      refine x_iload_n hC dX3_readSingle_43 rfl 2 rfl ?_
      refine x_iconst (v := (1 : Int32)) hC dX3_readSingle_44 ki_1 ?_
      refine x_iadd hC dX3_readSingle_45 ?_
      refine r_cV2 (as := [zr w 78, .int (v2_18 + (1 : Int32))]) (rest := []) hB dX3_readSingle_46 kv_X3_51 h0 hq1 rfl rfl (Nat.le_of_ble_eq_true rfl) (fun v M' hv => hrC _ _ _ M' v h0 hv) (fun u46 M46 => ?_)
      refine x_if_eq (tgt := 65) hC dX3_readSingle_49 (by decide) ?_ ?_
      · refine x_iconst (v := (0 : Int32)) hC dX3_readSingle_65 ki_0 ?_
        exact r_retZ hR dX3_readSingle_66 (Or.inl rfl) (fun h => h)
      · refine x_aload_n hC dX3_readSingle_52 rfl 1 rfl ?_
        refine x_bipush (v := (41 : Int32)) hC dX3_readSingle_53 kb_41 ?_
        refine r_cV2 (as := [.int (41 : Int32)]) (rest := []) hB dX3_readSingle_55 kv_X3_55 th_78 hq1 rfl rfl (Nat.le_of_ble_eq_true rfl) (fun v M' hv => f_X5_take_met hB.2 (by omega) hv) (fun u55 M55 => ?_)
        refine x_if_eq (tgt := 65) hC dX3_readSingle_58 (by decide) ?_ ?_
        · refine x_iconst (v := (0 : Int32)) hC dX3_readSingle_65 ki_0 ?_
          exact r_retZ hR dX3_readSingle_66 (Or.inl rfl) (fun h => h)
        · refine x_iconst (v := (1 : Int32)) hC dX3_readSingle_61 ki_1 ?_
          refine x_goto (tgt := 66) hC dX3_readSingle_62 (by decide) ?_
          exact r_retZ hR dX3_readSingle_66 (Or.inr rfl) (fun h => h)
    · refine x_aload_n hC dX3_readSingle_67 rfl 0 rfl ?_
      refine x_aload_n hC dX3_readSingle_68 rfl 1 rfl ?_
      refine x_iload_n hC dX3_readSingle_69 rfl 2 rfl ?_
      refine x_iconst (v := (1 : Int32)) hC dX3_readSingle_70 ki_1 ?_
      refine x_iadd hC dX3_readSingle_71 ?_
      refine r_cV2 (as := [zr w 78, .int (v2_18 + (1 : Int32))]) (rest := []) hB dX3_readSingle_72 kv_X3_82 h0 hq1 rfl rfl (Nat.le_of_ble_eq_true rfl) (fun v M' hv => hrS _ _ _ M' v h0 hv) (fun u72 M72 => ?_)
      refine x_if_ne (tgt := 80) hC dX3_readSingle_75 (by decide) ?_ ?_
      · refine x_iconst (v := (0 : Int32)) hC dX3_readSingle_78 ki_0 ?_
        exact r_retZ hR dX3_readSingle_79 (Or.inl rfl) (fun h => h)
      · refine x_aload_n hC dX3_readSingle_80 rfl 0 rfl ?_
        refine x_sipush (v := (10134 : Int32)) hC dX3_readSingle_81 kh_10134 ?_
        refine r_cVv (as := [.int (10134 : Int32)]) (rest := []) hB dX3_readSingle_84 kv_X3_85 h0 hq1 rfl rfl (Nat.le_of_ble_eq_true rfl) (fun M' hv => f_X3_emit_met hB.2 h0 (by omega) hv) (fun M84 => ?_)
        refine x_iconst (v := (1 : Int32)) hC dX3_readSingle_87 ki_1 ?_
        exact r_retZ hR dX3_readSingle_88 (Or.inr rfl) (fun h => h)
noncomputable def j_X3_readSingle_132 (rC : Nat → Int32 → zM → Option (Int32 × zM)) (rS : Nat → Int32 → zM → Option (Int32 × zM)) (a0 : Nat) (v4_132 : Int32) (M : zM) : Option (Int32 × zM) :=
  (f_X5_next M).bind fun M133 =>
  bnd2 (f_X3_readSum a0 M133) fun u138 M138 =>
  if u138 = 0 then (some ((0 : Int32), M138))
  else ((f_X3_emit a0 ((10000 : Int32) + v4_132) M138).bind fun M153 =>
  some ((1 : Int32), M153))
set_option maxRecDepth 100000 in
theorem j_X3_readSingle_132_ok {C : zC} {d : Nat} {g : zG} {l : Launch} {w : zW} {r : Int32 × zM} {rC : Nat → Int32 → zM → Option (Int32 × zM)} {rS : Nat → Int32 → zM → Option (Int32 × zM)} {a0 : Nat} {v4_132 : Int32} (hB : bOK C cX3_readSingle 5 RX3 d g l w true) (hrC : ∀ (a : Nat) (p : Int32) (N N' : zM) (v : Int32), tO true 3 a → rC a p N = some (v, N') → zMet l yX3_readCondition cX3_readCondition 7 (some .boolean) (d - 1) g w (zin true) C.2.2.2.2 [zr w a, zr w 78, .int p] N (some (.int v)) N') (hrS : ∀ (a : Nat) (p : Int32) (N N' : zM) (v : Int32), tO true 3 a → rS a p N = some (v, N') → zMet l yX3_readSingle cX3_readSingle 5 (some .boolean) (d - 1) g w (zin true) C.2.2.2.2 [zr w a, zr w 78, .int p] N (some (.int v)) N') (h0 : tO true 3 a0) (hd : 10 ≤ d) (M : zM) (hR : RtZ C cX3_readSingle w r.1 r.2) : Sg C w (0, 0) 132 [(0, zr w a0), (1, zr w 78), (4, .int v4_132)] [] M (j_X3_readSingle_132 rC rS a0 v4_132 M) (fun q => q = r) := by
  have hC := hB.1.1
  have hq1 : 1 ≤ d := by omega
  unfold j_X3_readSingle_132
  refine x_aload_n hC dX3_readSingle_132 rfl 1 rfl ?_
  refine r_cVv (as := []) (rest := []) hB dX3_readSingle_133 kv_X3_44 th_78 hq1 rfl rfl (Nat.le_of_ble_eq_true rfl) (fun M' hv => f_X5_next_met hB.2 (by omega) hv) (fun M133 => ?_)
  refine x_aload_n hC dX3_readSingle_136 rfl 0 rfl ?_
  refine x_aload_n hC dX3_readSingle_137 rfl 1 rfl ?_
  refine r_cV2 (as := [zr w 78]) (rest := []) hB dX3_readSingle_138 kv_X3_47 h0 hq1 rfl rfl (Nat.le_of_ble_eq_true rfl) (fun v M' hv => f_X3_readSum_met hB.2 h0 (by omega) hv) (fun u138 M138 => ?_)
  refine x_if_ne (tgt := 146) hC dX3_readSingle_141 (by decide) ?_ ?_
  · refine x_iconst (v := (0 : Int32)) hC dX3_readSingle_144 ki_0 ?_
    exact r_retZ hR dX3_readSingle_145 (Or.inl rfl) (fun h => h)
  · refine x_aload_n hC dX3_readSingle_146 rfl 0 rfl ?_
    refine x_sipush (v := (10000 : Int32)) hC dX3_readSingle_147 kh_10000 ?_
    refine x_iload hC dX3_readSingle_150 2 rfl ?_
    refine x_iadd hC dX3_readSingle_152 ?_
    refine r_cVv (as := [.int ((10000 : Int32) + v4_132)]) (rest := []) hB dX3_readSingle_153 kv_X3_85 h0 hq1 rfl rfl (Nat.le_of_ble_eq_true rfl) (fun M' hv => f_X3_emit_met hB.2 h0 (by omega) hv) (fun M153 => ?_)
    refine x_iconst (v := (1 : Int32)) hC dX3_readSingle_156 ki_1 ?_
    exact r_retZ hR dX3_readSingle_157 (Or.inr rfl) (fun h => h)
noncomputable def g_X3_readSingle (rC : Nat → Int32 → zM → Option (Int32 × zM)) (rS : Nat → Int32 → zM → Option (Int32 × zM)) (a0 : Nat) (p2 : Int32) (M : zM) : Option (Int32 × zM) :=
  (f_X5_kind M).bind fun u1 =>
  if u1 = (134 : Int32) then (j_X3_readSingle_18 rC rS a0 p2 u1 M)
  else (if u1 = (40 : Int32) then (j_X3_readSingle_18 rC rS a0 p2 u1 M)
  else (bnd2 (f_X3_readSum a0 M) fun u91 M91 =>
  if u91 = 0 then (some ((0 : Int32), M91))
  else ((f_X5_kind M91).bind fun u100 =>
  if u100 = (60 : Int32) then (j_X3_readSingle_132 rC rS a0 u100 M91)
  else (if u100 = (61 : Int32) then (j_X3_readSingle_132 rC rS a0 u100 M91)
  else (if u100 = (62 : Int32) then (j_X3_readSingle_132 rC rS a0 u100 M91)
  else (bnd2 (f_X5_fail (1 : Int32) M91) fun u128 M128 =>
  grd (isB u128) (some (u128, M128))))))))
set_option maxRecDepth 100000 in
theorem g_X3_readSingle_ok {C : zC} {d : Nat} {g : zG} {l : Launch} {w : zW} {r : Int32 × zM} {rC : Nat → Int32 → zM → Option (Int32 × zM)} {rS : Nat → Int32 → zM → Option (Int32 × zM)} {a0 : Nat} {p2 : Int32} (hB : bOK C cX3_readSingle 5 RX3 d g l w true) (hrC : ∀ (a : Nat) (p : Int32) (N N' : zM) (v : Int32), tO true 3 a → rC a p N = some (v, N') → zMet l yX3_readCondition cX3_readCondition 7 (some .boolean) (d - 1) g w (zin true) C.2.2.2.2 [zr w a, zr w 78, .int p] N (some (.int v)) N') (hrS : ∀ (a : Nat) (p : Int32) (N N' : zM) (v : Int32), tO true 3 a → rS a p N = some (v, N') → zMet l yX3_readSingle cX3_readSingle 5 (some .boolean) (d - 1) g w (zin true) C.2.2.2.2 [zr w a, zr w 78, .int p] N (some (.int v)) N') (h0 : tO true 3 a0) (hd : 10 ≤ d) (M : zM) (hR : RtZ C cX3_readSingle w r.1 r.2) : Sg C w (0, 0) 0 [(0, zr w a0), (1, zr w 78), (2, .int p2)] [] M (g_X3_readSingle rC rS a0 p2 M) (fun q => q = r) := by
  have hC := hB.1.1
  have hq1 : 1 ≤ d := by omega
  unfold g_X3_readSingle
  refine x_aload_n hC dX3_readSingle_0 rfl 1 rfl ?_
  refine r_cV1 (as := []) (rest := []) hB dX3_readSingle_1 kv_X3_34 th_78 hq1 rfl rfl (Nat.le_of_ble_eq_true rfl) (fun v hv => f_X5_kind_met hB.2 (by omega) hv) (fun u1 => ?_)
  refine x_istore_n hC dX3_readSingle_4 rfl [(3, .int u1), (0, zr w a0), (1, zr w 78), (2, .int p2)] (by decide) rfl ?_
  refine x_iload_n hC dX3_readSingle_5 rfl 0 rfl ?_
  refine x_sipush (v := (134 : Int32)) hC dX3_readSingle_6 kh_134 ?_
  refine x_icmp_eq (tgt := 18) hC dX3_readSingle_9 (by decide) ?_ ?_
  · refine x_sub [1, 2, 3, 0] rfl ?_
    exact j_X3_readSingle_18_ok hB hrC hrS h0 hd M hR
  · refine x_iload_n hC dX3_readSingle_12 rfl 0 rfl ?_
    refine x_bipush (v := (40 : Int32)) hC dX3_readSingle_13 kb_40 ?_
    refine x_icmp_ne (tgt := 89) hC dX3_readSingle_15 (by decide) ?_ ?_
    · refine x_sub [1, 2, 3, 0] rfl ?_
      exact j_X3_readSingle_18_ok hB hrC hrS h0 hd M hR
    · refine x_aload_n hC dX3_readSingle_89 rfl 1 rfl ?_
      refine x_aload_n hC dX3_readSingle_90 rfl 2 rfl ?_
      refine r_cV2 (as := [zr w 78]) (rest := []) hB dX3_readSingle_91 kv_X3_47 h0 hq1 rfl rfl (Nat.le_of_ble_eq_true rfl) (fun v M' hv => f_X3_readSum_met hB.2 h0 (by omega) hv) (fun u91 M91 => ?_)
      refine x_if_ne (tgt := 99) hC dX3_readSingle_94 (by decide) ?_ ?_
      · refine x_iconst (v := (0 : Int32)) hC dX3_readSingle_97 ki_0 ?_
        exact r_retZ hR dX3_readSingle_98 (Or.inl rfl) (fun h => h)
      · refine x_aload_n hC dX3_readSingle_99 rfl 2 rfl ?_
        refine r_cV1 (as := []) (rest := []) hB dX3_readSingle_100 kv_X3_34 th_78 hq1 rfl rfl (Nat.le_of_ble_eq_true rfl) (fun v hv => f_X5_kind_met hB.2 (by omega) hv) (fun u100 => ?_)
        refine x_istore (f := 0) hC dX3_readSingle_103 [(4, .int u100), (3, .int u1), (0, zr w a0), (1, zr w 78), (2, .int p2)] (by decide) rfl ?_
        refine x_iload hC dX3_readSingle_105 0 rfl ?_
        refine x_bipush (v := (60 : Int32)) hC dX3_readSingle_107 kb_60 ?_
        refine x_icmp_eq (tgt := 132) hC dX3_readSingle_109 (by decide) ?_ ?_
        · refine x_sub [2, 3, 0] rfl ?_
          exact j_X3_readSingle_132_ok hB hrC hrS h0 hd M91 hR
        · refine x_iload hC dX3_readSingle_112 0 rfl ?_
          refine x_bipush (v := (61 : Int32)) hC dX3_readSingle_114 kb_61 ?_
          refine x_icmp_eq (tgt := 132) hC dX3_readSingle_116 (by decide) ?_ ?_
          · refine x_sub [2, 3, 0] rfl ?_
            exact j_X3_readSingle_132_ok hB hrC hrS h0 hd M91 hR
          · refine x_iload hC dX3_readSingle_119 0 rfl ?_
            refine x_bipush (v := (62 : Int32)) hC dX3_readSingle_121 kb_62 ?_
            refine x_icmp_eq (tgt := 132) hC dX3_readSingle_123 (by decide) ?_ ?_
            · refine x_sub [2, 3, 0] rfl ?_
              exact j_X3_readSingle_132_ok hB hrC hrS h0 hd M91 hR
            · refine x_aload_n hC dX3_readSingle_126 rfl 3 rfl ?_
              refine x_iconst (v := (1 : Int32)) hC dX3_readSingle_127 ki_1 ?_
              refine r_cV2 (as := [.int (1 : Int32)]) (rest := []) hB dX3_readSingle_128 kv_X3_89 th_78 hq1 rfl rfl (Nat.le_of_ble_eq_true rfl) (fun v M' hv => f_X5_fail_met hB.2 (by omega) hv) (fun u128 M128 => ?_)
              refine x_grd (fun hb => ?_)
              exact r_retZ hR dX3_readSingle_131 hb (fun h => h)
/-! the two that call each other: by how deep they may go -/
noncomputable def rcs : Nat → (Nat → Int32 → zM → Option (Int32 × zM)) × (Nat → Int32 → zM → Option (Int32 × zM))
  | 0 => (fun _ _ _ => none, fun _ _ _ => none)
  | n + 1 => (fun a p M => g_X3_readCondition (rcs n).2 a p M, fun a p M => g_X3_readSingle (rcs n).1 (rcs n).2 a p M)
theorem rcs_met {l : Launch} {g : zG} {w : zW} {M0 : zM} (hw : wS w) : ∀ (n d : Nat), 10 + n ≤ d → (∀ (a : Nat) (p : Int32) (M M' : zM) (v : Int32), tO true 3 a → (rcs n).1 a p M = some (v, M') → zMet l yX3_readCondition cX3_readCondition 7 (some .boolean) d g w (zin true) M0 [zr w a, zr w 78, .int p] M (some (.int v)) M') ∧ (∀ (a : Nat) (p : Int32) (M M' : zM) (v : Int32), tO true 3 a → (rcs n).2 a p M = some (v, M') → zMet l yX3_readSingle cX3_readSingle 5 (some .boolean) d g w (zin true) M0 [zr w a, zr w 78, .int p] M (some (.int v)) M') := by
  intro n
  induction n with
  | zero => intro d _; exact ⟨fun _ _ _ _ _ _ h => (by cases h), fun _ _ _ _ _ _ h => (by cases h)⟩
  | succ n ih =>
    intro d hd
    obtain ⟨i1, i2⟩ := ih (d - 1) (by omega)
    refine ⟨fun a p M M' v ha h => ?_, fun a p M M' v ha h => ?_⟩
    · exact met_zM (by decide +kernel) (Nat.le_of_ble_eq_true rfl) (fun C hB0 hM0 hR => g_X3_readCondition_ok (r := (v, M')) ⟨hB0, hw⟩ (by rw [hM0]; exact i2) ha (by omega) M hR _ h rfl)
    · exact met_zM (by decide +kernel) (Nat.le_of_ble_eq_true rfl) (fun C hB0 hM0 hR => g_X3_readSingle_ok (r := (v, M')) ⟨hB0, hw⟩ (by rw [hM0]; exact i1) (by rw [hM0]; exact i2) ha (by omega) M hR _ h rfl)
noncomputable def f_X3_readCondition (a : Nat) (p : Int32) (M : zM) : Option (Int32 × zM) := (rcs 29).1 a p M
theorem f_X3_readCondition_met {l : Launch} {d : Nat} {g : zG} {w : zW} {M0 : zM} {a : Nat} {p : Int32} {M : zM} (hw : wS w) (h0 : tO true 3 a) (hd : 39 ≤ d) {v : Int32} {M' : zM} (h : f_X3_readCondition a p M = some (v, M')) : zMet l yX3_readCondition cX3_readCondition 7 (some .boolean) d g w (zin true) M0 [zr w a, zr w 78, .int p] M (some (.int v)) M' :=
  (rcs_met hw 29 d (by omega)).1 a p M M' v h0 h
noncomputable def j_X3_read_127_10 (a0 : Nat) (M : zM) : Option ((zM) ⊕ ((zM) ⊕ (Int32 × zM))) :=
  grd (inb (M a0 0) 16) (
  nm (mset M (a0 + 3) (ix (M a0 0)) (M a0 5)) fun M139_10 =>
  bnd2 (f_X5_take (59 : Int32) M139_10) fun u143_10 M143_10 =>
  if u143_10 = 0 then (some (.inr (.inr ((-1 : Int32), M143_10))))
  else (nm (mset M143_10 a0 0 ((M143_10 a0 0) + (1 : Int32))) fun M158_10 =>
  some (.inl M158_10)))
set_option maxRecDepth 100000 in
theorem j_X3_read_127_10_ok {C : zC} {d : Nat} {g : zG} {l : Launch} {w : zW} {r : Int32 × zM} {a0 : Nat} (hB : bOK C cX3_read 3 RX3 d g l w true) (h0 : tO true 3 a0) (hd : 40 ≤ d) (M : zM) (hR : RtI C cX3_read w r.1 r.2) : Sg C w (0, 0) 127 [(0, zr w a0), (1, zr w 78)] [] M (j_X3_read_127_10 a0 M) (fun o => Sum.elim (fun (s : (zM)) => Zs C w (0, 0) 10 [(0, zr w a0), (1, zr w 78)] [] s) (fun q => Sum.elim (fun (s : (zM)) => Zs C w (0, 0) 164 [(0, zr w a0)] [] s) (fun q => q = r) q) o) := by
  have hC := hB.1.1
  have hq1 : 1 ≤ d := by omega
  unfold j_X3_read_127_10
  refine x_aload_n hC dX3_read_127 rfl 0 rfl ?_
  refine r_getR hB dX3_read_128 kf_X3_18 rfl h0 (nv_3_3 h0).1 ?_
  refine x_aload_n hC dX3_read_131 rfl 0 rfl ?_
  refine r_getI hB dX3_read_132 kf_X3_31 rfl h0 ?_
  refine x_aload_n hC dX3_read_135 rfl 0 rfl ?_
  refine r_getI hB dX3_read_136 kf_X3_27 rfl h0 ?_
  refine r_iast hB dX3_read_139 (nv_3_3 h0).2 ?_
  refine x_mem (fun M139_10 => ?_)
  refine x_aload_n hC dX3_read_140 rfl 1 rfl ?_
  refine x_bipush (v := (59 : Int32)) hC dX3_read_141 kb_59 ?_
  refine r_cV2 (as := [.int (59 : Int32)]) (rest := []) hB dX3_read_143 kv_X3_55 th_78 hq1 rfl rfl (Nat.le_of_ble_eq_true rfl) (fun v M' hv => f_X5_take_met hB.2 (by omega) hv) (fun u143_10 M143_10 => ?_)
  refine x_if_ne (tgt := 151) hC dX3_read_146 (by decide) ?_ ?_
  · refine x_iconst (v := (-1 : Int32)) hC dX3_read_149 ki_m1 ?_
    exact r_retI hR dX3_read_150 (fun h => h)
  · refine x_aload_n hC dX3_read_151 rfl 0 rfl ?_
    refine x_dup hC dX3_read_152 rfl ?_
    refine r_getI hB dX3_read_153 kf_X3_31 rfl h0 ?_
    refine x_iconst (v := (1 : Int32)) hC dX3_read_156 ki_1 ?_
    refine x_iadd hC dX3_read_157 ?_
    refine r_putI hB dX3_read_158 kf_X3_31 rfl h0 ?_
    refine x_mem (fun M158_10 => ?_)
    refine x_goto (tgt := 10) hC dX3_read_161 (by decide) ?_
    exact x_done (fun h => h)
noncomputable def j_X3_read_51_10 (a0 : Nat) (v2_51_10 : Int32) (s1_51_10 : Int32) (M : zM) : Option ((zM) ⊕ ((zM) ⊕ (Int32 × zM))) :=
  bnd2 (f_X5_opens s1_51_10 (M a0 0) (16 : Int32) M) fun u57_10 M57_10 =>
  if u57_10 = 0 then (some (.inr (.inr ((-1 : Int32), M57_10))))
  else ((f_X5_next M57_10).bind fun M66_10 =>
  bnd2 (f_X3_readSum a0 M66_10) fun u71_10 M71_10 =>
  if u71_10 = 0 then (some (.inr (.inr ((-1 : Int32), M71_10))))
  else (grd (inb (M71_10 a0 0) 16) (
  nm (mset M71_10 (a0 + 1) (ix (M71_10 a0 0)) v2_51_10) fun M88_10 =>
  grd (inb (M88_10 a0 0) 16) (
  nm (mset M88_10 (a0 + 2) (ix (M88_10 a0 0)) (M88_10 a0 5)) fun M101_10 =>
  (f_X5_kind M101_10).bind fun u103_10 =>
  if u103_10 = (131 : Int32) then ((f_X5_next M101_10).bind fun M113_10 =>
  bnd2 (f_X3_readCondition a0 (0 : Int32) M113_10) fun u119_10 M119_10 =>
  if u119_10 = 0 then (some (.inr (.inr ((-1 : Int32), M119_10))))
  else (j_X3_read_127_10 a0 M119_10))
  else (j_X3_read_127_10 a0 M101_10)))))
set_option maxRecDepth 100000 in
theorem j_X3_read_51_10_ok {C : zC} {d : Nat} {g : zG} {l : Launch} {w : zW} {r : Int32 × zM} {a0 : Nat} {v2_51_10 : Int32} {s1_51_10 : Int32} (hB : bOK C cX3_read 3 RX3 d g l w true) (h0 : tO true 3 a0) (hd : 40 ≤ d) (M : zM) (hR : RtI C cX3_read w r.1 r.2) : Sg C w (0, 0) 51 [(0, zr w a0), (1, zr w 78), (2, .int v2_51_10)] [.int s1_51_10, zr w 78] M (j_X3_read_51_10 a0 v2_51_10 s1_51_10 M) (fun o => Sum.elim (fun (s : (zM)) => Zs C w (0, 0) 10 [(0, zr w a0), (1, zr w 78)] [] s) (fun q => Sum.elim (fun (s : (zM)) => Zs C w (0, 0) 164 [(0, zr w a0)] [] s) (fun q => q = r) q) o) := by
  have hC := hB.1.1
  have hq1 : 1 ≤ d := by omega
  unfold j_X3_read_51_10
  refine x_aload_n hC dX3_read_51 rfl 0 rfl ?_
  refine r_getI hB dX3_read_52 kf_X3_31 rfl h0 ?_
  refine x_bipush (v := (16 : Int32)) hC dX3_read_55 kb_16 ?_
  refine r_cV2 (as := [.int s1_51_10, .int (M a0 0), .int (16 : Int32)]) (rest := []) hB dX3_read_57 kv_X3_40 th_78 hq1 rfl rfl (Nat.le_of_ble_eq_true rfl) (fun v M' hv => f_X5_opens_met hB.2 (by omega) hv) (fun u57_10 M57_10 => ?_)
  refine x_if_ne (tgt := 65) hC dX3_read_60 (by decide) ?_ ?_
  · refine x_iconst (v := (-1 : Int32)) hC dX3_read_63 ki_m1 ?_
    exact r_retI hR dX3_read_64 (fun h => h)
  · refine x_aload_n hC dX3_read_65 rfl 1 rfl ?_
    refine r_cVv (as := []) (rest := []) hB dX3_read_66 kv_X3_44 th_78 hq1 rfl rfl (Nat.le_of_ble_eq_true rfl) (fun M' hv => f_X5_next_met hB.2 (by omega) hv) (fun M66_10 => ?_)
    refine x_aload_n hC dX3_read_69 rfl 0 rfl ?_
    refine x_aload_n hC dX3_read_70 rfl 1 rfl ?_
    refine r_cV2 (as := [zr w 78]) (rest := []) hB dX3_read_71 kv_X3_47 h0 hq1 rfl rfl (Nat.le_of_ble_eq_true rfl) (fun v M' hv => f_X3_readSum_met hB.2 h0 (by omega) hv) (fun u71_10 M71_10 => ?_)
    refine x_if_ne (tgt := 79) hC dX3_read_74 (by decide) ?_ ?_
    · refine x_iconst (v := (-1 : Int32)) hC dX3_read_77 ki_m1 ?_
      exact r_retI hR dX3_read_78 (fun h => h)
    · refine x_aload_n hC dX3_read_79 rfl 0 rfl ?_
      refine r_getR hB dX3_read_80 kf_X3_9 rfl h0 (nv_3_1 h0).1 ?_
      refine x_aload_n hC dX3_read_83 rfl 0 rfl ?_
      refine r_getI hB dX3_read_84 kf_X3_31 rfl h0 ?_
      refine x_iload_n hC dX3_read_87 rfl 2 rfl ?_
      refine r_iast hB dX3_read_88 (nv_3_1 h0).2 ?_
      refine x_mem (fun M88_10 => ?_)
      refine x_aload_n hC dX3_read_89 rfl 0 rfl ?_
      refine r_getR hB dX3_read_90 kf_X3_15 rfl h0 (nv_3_2 h0).1 ?_
      refine x_aload_n hC dX3_read_93 rfl 0 rfl ?_
      refine r_getI hB dX3_read_94 kf_X3_31 rfl h0 ?_
      refine x_aload_n hC dX3_read_97 rfl 0 rfl ?_
      refine r_getI hB dX3_read_98 kf_X3_27 rfl h0 ?_
      refine r_iast hB dX3_read_101 (nv_3_2 h0).2 ?_
      refine x_mem (fun M101_10 => ?_)
      refine x_aload_n hC dX3_read_102 rfl 1 rfl ?_
      refine r_cV1 (as := []) (rest := []) hB dX3_read_103 kv_X3_34 th_78 hq1 rfl rfl (Nat.le_of_ble_eq_true rfl) (fun v hv => f_X5_kind_met hB.2 (by omega) hv) (fun u103_10 => ?_)
      refine x_sipush (v := (131 : Int32)) hC dX3_read_106 kh_131 ?_
      refine x_icmp_ne (tgt := 127) hC dX3_read_109 (by decide) ?_ ?_
      · refine x_aload_n hC dX3_read_112 rfl 1 rfl ?_
        refine r_cVv (as := []) (rest := []) hB dX3_read_113 kv_X3_44 th_78 hq1 rfl rfl (Nat.le_of_ble_eq_true rfl) (fun M' hv => f_X5_next_met hB.2 (by omega) hv) (fun M113_10 => ?_)
        refine x_aload_n hC dX3_read_116 rfl 0 rfl ?_
        refine x_aload_n hC dX3_read_117 rfl 1 rfl ?_
        refine x_iconst (v := (0 : Int32)) hC dX3_read_118 ki_0 ?_
        refine r_cV2 (as := [zr w 78, .int (0 : Int32)]) (rest := []) hB dX3_read_119 kv_X3_51 h0 hq1 rfl rfl (Nat.le_of_ble_eq_true rfl) (fun v M' hv => f_X3_readCondition_met hB.2 h0 (by omega) hv) (fun u119_10 M119_10 => ?_)
        refine x_if_ne (tgt := 127) hC dX3_read_122 (by decide) ?_ ?_
        · refine x_iconst (v := (-1 : Int32)) hC dX3_read_125 ki_m1 ?_
          exact r_retI hR dX3_read_126 (fun h => h)
        · refine x_sub [0, 1] rfl ?_
          exact j_X3_read_127_10_ok hB h0 hd M119_10 hR
      · refine x_sub [0, 1] rfl ?_
        exact j_X3_read_127_10_ok hB h0 hd M101_10 hR
noncomputable def j_X3_read_50_10 (a0 : Nat) (v2_50_10 : Int32) (M : zM) : Option ((zM) ⊕ ((zM) ⊕ (Int32 × zM))) :=
  j_X3_read_51_10 a0 v2_50_10 (0 : Int32) M
set_option maxRecDepth 100000 in
theorem j_X3_read_50_10_ok {C : zC} {d : Nat} {g : zG} {l : Launch} {w : zW} {r : Int32 × zM} {a0 : Nat} {v2_50_10 : Int32} (hB : bOK C cX3_read 3 RX3 d g l w true) (h0 : tO true 3 a0) (hd : 40 ≤ d) (M : zM) (hR : RtI C cX3_read w r.1 r.2) : Sg C w (0, 0) 50 [(0, zr w a0), (1, zr w 78), (2, .int v2_50_10)] [zr w 78] M (j_X3_read_50_10 a0 v2_50_10 M) (fun o => Sum.elim (fun (s : (zM)) => Zs C w (0, 0) 10 [(0, zr w a0), (1, zr w 78)] [] s) (fun q => Sum.elim (fun (s : (zM)) => Zs C w (0, 0) 164 [(0, zr w a0)] [] s) (fun q => q = r) q) o) := by
  have hC := hB.1.1
  have hq1 : 1 ≤ d := by omega
  unfold j_X3_read_50_10
  refine x_iconst (v := (0 : Int32)) hC dX3_read_50 ki_0 ?_
  exact j_X3_read_51_10_ok hB h0 hd M hR
noncomputable def b_X3_read_10 (a0 : Nat) (M : zM) : Option ((zM) ⊕ ((zM) ⊕ (Int32 × zM))) :=
  if (16 : Int32) < (M a0 0) then (some (.inr (.inl M)))
  else ((f_X5_kind M).bind fun u20_10 =>
  if u20_10 = 0 then (some (.inr (.inl M)))
  else ((f_X5_kind M).bind fun u27_10 =>
  if u27_10 < (128 : Int32) then (j_X3_read_50_10 a0 u27_10 M)
  else (if (130 : Int32) < u27_10 then (j_X3_read_50_10 a0 u27_10 M)
  else (j_X3_read_51_10 a0 u27_10 (1 : Int32) M))))
set_option maxRecDepth 100000 in
theorem b_X3_read_10_ok {C : zC} {d : Nat} {g : zG} {l : Launch} {w : zW} {r : Int32 × zM} {a0 : Nat} (hB : bOK C cX3_read 3 RX3 d g l w true) (h0 : tO true 3 a0) (hd : 40 ≤ d) (M : zM) (hR : RtI C cX3_read w r.1 r.2) : Sg C w (0, 0) 10 [(0, zr w a0), (1, zr w 78)] [] M (b_X3_read_10 a0 M) (fun o => Sum.elim (fun (s : (zM)) => Zs C w (0, 0) 10 [(0, zr w a0), (1, zr w 78)] [] s) (fun q => Sum.elim (fun (s : (zM)) => Zs C w (0, 0) 164 [(0, zr w a0)] [] s) (fun q => q = r) q) o) := by
  have hC := hB.1.1
  have hq1 : 1 ≤ d := by omega
  unfold b_X3_read_10
  refine x_aload_n hC dX3_read_10 rfl 0 rfl ?_
  refine r_getI hB dX3_read_11 kf_X3_31 rfl h0 ?_
  refine x_bipush (v := (16 : Int32)) hC dX3_read_14 kb_16 ?_
  refine x_icmp_gt (tgt := 164) hC dX3_read_16 (by decide) ?_ ?_
  · refine x_sub [0] rfl ?_
    exact x_done (fun h => h)
  · refine x_aload_n hC dX3_read_19 rfl 1 rfl ?_
    refine r_cV1 (as := []) (rest := []) hB dX3_read_20 kv_X3_34 th_78 hq1 rfl rfl (Nat.le_of_ble_eq_true rfl) (fun v hv => f_X5_kind_met hB.2 (by omega) hv) (fun u20_10 => ?_)
    refine x_if_eq (tgt := 164) hC dX3_read_23 (by decide) ?_ ?_
    · refine x_sub [0] rfl ?_
      exact x_done (fun h => h)
    · refine x_aload_n hC dX3_read_26 rfl 1 rfl ?_
      refine r_cV1 (as := []) (rest := []) hB dX3_read_27 kv_X3_34 th_78 hq1 rfl rfl (Nat.le_of_ble_eq_true rfl) (fun v hv => f_X5_kind_met hB.2 (by omega) hv) (fun u27_10 => ?_)
      refine x_istore_n hC dX3_read_30 rfl [(2, .int u27_10), (0, zr w a0), (1, zr w 78)] (by decide) rfl ?_
      refine x_aload_n hC dX3_read_31 rfl 2 rfl ?_
      refine x_iload_n hC dX3_read_32 rfl 0 rfl ?_
      refine x_sipush (v := (128 : Int32)) hC dX3_read_33 kh_128 ?_
      refine x_icmp_lt (tgt := 50) hC dX3_read_36 (by decide) ?_ ?_
      · refine x_sub [1, 2, 0] rfl ?_
        exact j_X3_read_50_10_ok hB h0 hd M hR
      · refine x_iload_n hC dX3_read_39 rfl 0 rfl ?_
        refine x_sipush (v := (130 : Int32)) hC dX3_read_40 kh_130 ?_
        refine x_icmp_gt (tgt := 50) hC dX3_read_43 (by decide) ?_ ?_
        · refine x_sub [1, 2, 0] rfl ?_
          exact j_X3_read_50_10_ok hB h0 hd M hR
        · refine x_iconst (v := (1 : Int32)) hC dX3_read_46 ki_1 ?_
          refine x_goto (tgt := 51) hC dX3_read_47 (by decide) ?_
          refine x_sub [1, 2, 0] rfl ?_
          exact j_X3_read_51_10_ok hB h0 hd M hR
noncomputable def j_X3_read_164 (a0 : Nat) (M : zM) : Option (Int32 × zM) :=
  some ((M a0 0), M)
set_option maxRecDepth 100000 in
theorem j_X3_read_164_ok {C : zC} {d : Nat} {g : zG} {l : Launch} {w : zW} {r : Int32 × zM} {a0 : Nat} (hB : bOK C cX3_read 3 RX3 d g l w true) (h0 : tO true 3 a0) (hd : 40 ≤ d) (M : zM) (hR : RtI C cX3_read w r.1 r.2) : Sg C w (0, 0) 164 [(0, zr w a0)] [] M (j_X3_read_164 a0 M) (fun q => q = r) := by
  have hC := hB.1.1
  have hq1 : 1 ≤ d := by omega
  unfold j_X3_read_164
  refine x_aload_n hC dX3_read_164 rfl 0 rfl ?_
  refine r_getI hB dX3_read_165 kf_X3_31 rfl h0 ?_
  exact r_retI hR dX3_read_168 (fun h => h)
noncomputable def f_X3_read (a0 : Nat) (M : zM) : Option (Int32 × zM) :=
  nm (mset M a0 5 (0 : Int32)) fun M2 =>
  nm (mset M2 a0 0 (0 : Int32)) fun M7 =>
  (loopW (fun s => b_X3_read_10 a0 s) M7).bind (fun q => Sum.elim (fun r => j_X3_read_164 a0 r) some q)
set_option maxRecDepth 100000 in
theorem f_X3_read_ok {C : zC} {d : Nat} {g : zG} {l : Launch} {w : zW} {r : Int32 × zM} {a0 : Nat} (hB : bOK C cX3_read 3 RX3 d g l w true) (h0 : tO true 3 a0) (hd : 40 ≤ d) (M : zM) (hR : RtI C cX3_read w r.1 r.2) : Sg C w (0, 0) 0 [(0, zr w a0), (1, zr w 78)] [] M (f_X3_read a0 M) (fun q => q = r) := by
  have hC := hB.1.1
  have hq1 : 1 ≤ d := by omega
  unfold f_X3_read
  refine x_aload_n hC dX3_read_0 rfl 0 rfl ?_
  refine x_iconst (v := (0 : Int32)) hC dX3_read_1 ki_0 ?_
  refine r_putI hB dX3_read_2 kf_X3_27 rfl h0 ?_
  refine x_mem (fun M2 => ?_)
  refine x_aload_n hC dX3_read_5 rfl 0 rfl ?_
  refine x_iconst (v := (0 : Int32)) hC dX3_read_6 ki_0 ?_
  refine r_putI hB dX3_read_7 kf_X3_31 rfl h0 ?_
  refine x_mem (fun M7 => ?_)
  refine x_loopR (pc2 := 164) (fun (s : (zM)) => [(0, zr w a0), (1, zr w 78)]) (fun (s : (zM)) => s) (fun (s : (zM)) => [(0, zr w a0)]) (fun (s : (zM)) => s) M7 ?_ ?_
  · exact fun s => b_X3_read_10_ok hB h0 hd s hR
  · intro r9
    exact j_X3_read_164_ok hB h0 hd r9 hR
theorem f_X3_read_met {l : Launch} {d : Nat} {g : zG} {w : zW} {M0 : zM} {a0 : Nat} {M : zM} (hw : wS w) (h0 : tO true 3 a0) (hd : 40 ≤ d) {v : Int32} {M' : zM} (h : f_X3_read a0 M = some (v, M')) : zMet l yX3_read cX3_read 3 (some .int) d g w (zin true) M0 [zr w a0, zr w 78] M (some (.int v)) M' :=
  met_i (by decide +kernel) (Nat.le_of_ble_eq_true rfl) rfl (fun C hB0 hR => f_X3_read_ok (r := (v, M')) ⟨hB0, hw⟩ h0 hd M hR _ h rfl)
noncomputable def f_X10_text (p1 : Int32) (M : zM) : Option (Int32 × zM) :=
  (f_X5_scan M).bind fun M4 =>
  nm (mset M4 78 0 (0 : Int32)) fun M12 =>
  if p1 = (0 : Int32) then (bnd2 (f_X3_read 55 M12) fun u61 M61 =>
  bnd2 (f_X10_settle (0 : Int32) u61 M61) fun u64 M64 =>
  some (u64, M64))
  else (if p1 = (1 : Int32) then (bnd2 (f_X8_readStones 54 M12) fun u78 M78 =>
  bnd2 (f_X10_settle (1 : Int32) u78 M78) fun u81 M81 =>
  some (u81, M81))
  else (if p1 = (2 : Int32) then (bnd2 (f_X8_readWays 54 (M12 1 2) M12) fun u102 M102 =>
  bnd2 (f_X10_settle (2 : Int32) u102 M102) fun u105 M105 =>
  some (u105, M105))
  else (if p1 = (3 : Int32) then (bnd2 (f_X8_readWatch 54 M12) fun u119 M119 =>
  bnd2 (f_X10_settle (3 : Int32) u119 M119) fun u122 M122 =>
  some (u122, M122))
  else (some ((-1 : Int32), M12)))))
set_option maxRecDepth 100000 in
theorem f_X10_text_ok {C : zC} {d : Nat} {g : zG} {l : Launch} {w : zW} {r : Int32 × zM} {p1 : Int32} (hB : bOK C cX10_text 2 RX10 d g l w true) (hd : 41 ≤ d) (M : zM) (hR : RtI C cX10_text w r.1 r.2) : Sg C w (0, 0) 0 [(0, zr w 0), (1, .int p1)] [] M (f_X10_text p1 M) (fun q => q = r) := by
  have hC := hB.1.1
  have hq1 : 1 ≤ d := by omega
  unfold f_X10_text
  refine x_aload_n hC dX10_text_0 rfl 0 rfl ?_
  refine r_getR hB dX10_text_1 kf_X10_50 rfl th_0 rf_0_9 ?_
  refine r_cVv (as := []) (rest := []) hB dX10_text_4 kv_X10_166 th_78 hq1 rfl rfl (Nat.le_of_ble_eq_true rfl) (fun M' hv => f_X5_scan_met hB.2 (by omega) hv) (fun M4 => ?_)
  refine x_aload_n hC dX10_text_7 rfl 0 rfl ?_
  refine r_getR hB dX10_text_8 kf_X10_50 rfl th_0 rf_0_9 ?_
  refine x_iconst (v := (0 : Int32)) hC dX10_text_11 ki_0 ?_
  refine r_putI hB dX10_text_12 kf_X10_160 rfl th_78 ?_
  refine x_mem (fun M12 => ?_)
  refine x_iload_n hC dX10_text_15 rfl 1 rfl ?_
  refine x_ite (fun hs => ?_) (fun hs0 => ?_)
  · refine x_tsI (tgt := 48) (off := 32) hC dX10_text_16 (by rw [hs]; decide +kernel) (by rw [hs]; decide +kernel) (by rw [hs]; decide +kernel) (by decide) ?_
    refine x_aload_n hC dX10_text_48 rfl 0 rfl ?_
    refine x_iconst (v := (0 : Int32)) hC dX10_text_49 ki_0 ?_
    refine x_aload_n hC dX10_text_50 rfl 0 rfl ?_
    refine r_getR hB dX10_text_51 kf_X10_30 rfl th_0 rf_0_6 ?_
    refine r_getR hB dX10_text_54 kf_X10_169 rfl th_54 rf_54_0 ?_
    refine x_aload_n hC dX10_text_57 rfl 0 rfl ?_
    refine r_getR hB dX10_text_58 kf_X10_50 rfl th_0 rf_0_9 ?_
    refine r_cV2 (as := [zr w 78]) (rest := [.int (0 : Int32), zr w 0]) hB dX10_text_61 kv_X10_173 th_55 hq1 rfl rfl (Nat.le_of_ble_eq_true rfl) (fun v M' hv => f_X3_read_met hB.2 th_55 (by omega) hv) (fun u61 M61 => ?_)
    refine r_cV2 (as := [.int (0 : Int32), .int u61]) (rest := []) hB dX10_text_64 kv_X10_179 th_0 hq1 rfl rfl (Nat.le_of_ble_eq_true rfl) (fun v M' hv => f_X10_settle_met hB.2 (by omega) hv) (fun u64 M64 => ?_)
    exact r_retI hR dX10_text_67 (fun h => h)
  · skip
    refine x_ite (fun hs => ?_) (fun hs1 => ?_)
    · refine x_tsI (tgt := 68) (off := 52) hC dX10_text_16 (by rw [hs]; decide +kernel) (by rw [hs]; decide +kernel) (by rw [hs]; decide +kernel) (by decide) ?_
      refine x_aload_n hC dX10_text_68 rfl 0 rfl ?_
      refine x_iconst (v := (1 : Int32)) hC dX10_text_69 ki_1 ?_
      refine x_aload_n hC dX10_text_70 rfl 0 rfl ?_
      refine r_getR hB dX10_text_71 kf_X10_30 rfl th_0 rf_0_6 ?_
      refine x_aload_n hC dX10_text_74 rfl 0 rfl ?_
      refine r_getR hB dX10_text_75 kf_X10_50 rfl th_0 rf_0_9 ?_
      refine r_cV2 (as := [zr w 78]) (rest := [.int (1 : Int32), zr w 0]) hB dX10_text_78 kv_X10_182 th_54 hq1 rfl rfl (Nat.le_of_ble_eq_true rfl) (fun v M' hv => f_X8_readStones_met hB.2 th_54 (by omega) hv) (fun u78 M78 => ?_)
      refine r_cV2 (as := [.int (1 : Int32), .int u78]) (rest := []) hB dX10_text_81 kv_X10_179 th_0 hq1 rfl rfl (Nat.le_of_ble_eq_true rfl) (fun v M' hv => f_X10_settle_met hB.2 (by omega) hv) (fun u81 M81 => ?_)
      exact r_retI hR dX10_text_84 (fun h => h)
    · skip
      refine x_ite (fun hs => ?_) (fun hs2 => ?_)
      · refine x_tsI (tgt := 85) (off := 69) hC dX10_text_16 (by rw [hs]; decide +kernel) (by rw [hs]; decide +kernel) (by rw [hs]; decide +kernel) (by decide) ?_
        refine x_aload_n hC dX10_text_85 rfl 0 rfl ?_
        refine x_iconst (v := (2 : Int32)) hC dX10_text_86 ki_2 ?_
        refine x_aload_n hC dX10_text_87 rfl 0 rfl ?_
        refine r_getR hB dX10_text_88 kf_X10_30 rfl th_0 rf_0_6 ?_
        refine x_aload_n hC dX10_text_91 rfl 0 rfl ?_
        refine r_getR hB dX10_text_92 kf_X10_50 rfl th_0 rf_0_9 ?_
        refine x_aload_n hC dX10_text_95 rfl 0 rfl ?_
        refine r_getR hB dX10_text_96 kf_X10_10 rfl th_0 rf_0_0 ?_
        refine r_getI hB dX10_text_99 kf_X10_102 rfl th_1 ?_
        refine r_cV2 (as := [zr w 78, .int (M12 1 2)]) (rest := [.int (2 : Int32), zr w 0]) hB dX10_text_102 kv_X10_185 th_54 hq1 rfl rfl (Nat.le_of_ble_eq_true rfl) (fun v M' hv => f_X8_readWays_met hB.2 th_54 (by omega) hv) (fun u102 M102 => ?_)
        refine r_cV2 (as := [.int (2 : Int32), .int u102]) (rest := []) hB dX10_text_105 kv_X10_179 th_0 hq1 rfl rfl (Nat.le_of_ble_eq_true rfl) (fun v M' hv => f_X10_settle_met hB.2 (by omega) hv) (fun u105 M105 => ?_)
        exact r_retI hR dX10_text_108 (fun h => h)
      · skip
        refine x_ite (fun hs => ?_) (fun hs3 => ?_)
        · refine x_tsI (tgt := 109) (off := 93) hC dX10_text_16 (by rw [hs]; decide +kernel) (by rw [hs]; decide +kernel) (by rw [hs]; decide +kernel) (by decide) ?_
          refine x_aload_n hC dX10_text_109 rfl 0 rfl ?_
          refine x_iconst (v := (3 : Int32)) hC dX10_text_110 ki_3 ?_
          refine x_aload_n hC dX10_text_111 rfl 0 rfl ?_
          refine r_getR hB dX10_text_112 kf_X10_30 rfl th_0 rf_0_6 ?_
          refine x_aload_n hC dX10_text_115 rfl 0 rfl ?_
          refine r_getR hB dX10_text_116 kf_X10_50 rfl th_0 rf_0_9 ?_
          refine r_cV2 (as := [zr w 78]) (rest := [.int (3 : Int32), zr w 0]) hB dX10_text_119 kv_X10_189 th_54 hq1 rfl rfl (Nat.le_of_ble_eq_true rfl) (fun v M' hv => f_X8_readWatch_met hB.2 th_54 (by omega) hv) (fun u119 M119 => ?_)
          refine r_cV2 (as := [.int (3 : Int32), .int u119]) (rest := []) hB dX10_text_122 kv_X10_179 th_0 hq1 rfl rfl (Nat.le_of_ble_eq_true rfl) (fun v M' hv => f_X10_settle_met hB.2 (by omega) hv) (fun u122 M122 => ?_)
          exact r_retI hR dX10_text_125 (fun h => h)
        · skip
          refine x_tsO (tgt := 126) hC dX10_text_16 (by have q0 := x_ne (k := 0) hs0 (by decide); have q1 := x_ne (k := 1) hs1 (by decide); have q2 := x_ne (k := 2) hs2 (by decide); have q3 := x_ne (k := 3) hs3 (by decide); omega) (by decide) ?_
          refine x_iconst (v := (-1 : Int32)) hC dX10_text_126 ki_m1 ?_
          exact r_retI hR dX10_text_127 (fun h => h)
theorem f_X10_text_met {l : Launch} {d : Nat} {g : zG} {w : zW} {M0 : zM} {p1 : Int32} {M : zM} (hw : wS w) (hd : 41 ≤ d) {v : Int32} {M' : zM} (h : f_X10_text p1 M = some (v, M')) : zMet l yX10_text cX10_text 2 (some .int) d g w (zin true) M0 [zr w 0, .int p1] M (some (.int v)) M' :=
  met_i (by decide +kernel) (Nat.le_of_ble_eq_true rfl) rfl (fun C hB0 hR => f_X10_text_ok (r := (v, M')) ⟨hB0, hw⟩ hd M hR _ h rfl)
