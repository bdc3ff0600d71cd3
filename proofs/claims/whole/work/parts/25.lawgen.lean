noncomputable def j_L_law_1309_18 (L : Nat) (xs : Nat → Int32) (v3_1309_18 : Int32) (M : zM) : Option ((Int32 × zM) ⊕ ((zM) ⊕ (Int32))) :=
  some (.inl ((v3_1309_18 + (6 : Int32)), M))
set_option maxRecDepth 100000 in
theorem j_L_law_1309_18_ok {C : zC} {g : zG} {l : Launch} {w : zW} {n9 : Nat × Nat} {b : Nat} {L : Nat} {xs : Nat → Int32} {v3_1309_18 : Int32} (hB : lOK C g l w b L xs) (hn9 : n9.1 ≤ 600000 ∧ n9.2 ≤ 7302250) (M : zM) (hR : RtL C w n9) : Sg C w n9 1309 [(0, .ref b), (1, zr w 0), (2, zr w 257), (3, .int v3_1309_18)] [] M (j_L_law_1309_18 L xs v3_1309_18 M) (fun o => Sum.elim (fun (s : (Int32 × zM)) => Zs C w n9 18 [(0, .ref b), (1, zr w 0), (2, zr w 257), (3, .int s.1)] [] s.2) (fun q => Sum.elim (fun (s : (zM)) => Zs C w n9 1315 [] [] s) (fun q => q = (1 : Int32)) q) o) := by
  have hC := hB.1
  unfold j_L_law_1309_18
  refine x_iinc hC dL_law_1309 ki_6 [(3, .int (v3_1309_18 + (6 : Int32))), (0, .ref b), (1, zr w 0), (2, zr w 257)] 3 rfl (by decide) rfl ?_
  refine x_goto (tgt := 18) hC dL_law_1312 (by decide) ?_
  refine x_sub [1, 2, 3, 0] rfl ?_
  exact x_done (fun h => h)
noncomputable def j_L_law_1278_18 (L : Nat) (xs : Nat → Int32) (v3_1278_18 : Int32) (s0_1278_18 : Int32) (s2_1278_18 : Int32) (M : zM) : Option ((Int32 × zM) ⊕ ((zM) ⊕ (Int32))) :=
  bndZ false M (f_X11_image s2_1278_18 M) fun u1278_18 M1278_18 =>
  if s0_1278_18 = u1278_18 then (j_L_law_1309_18 L xs v3_1278_18 M1278_18)
  else (some (.inr (.inr (0 : Int32))))
set_option maxRecDepth 100000 in
theorem j_L_law_1278_18_ok {C : zC} {g : zG} {l : Launch} {w : zW} {n9 : Nat × Nat} {b : Nat} {L : Nat} {xs : Nat → Int32} {v3_1278_18 : Int32} {s0_1278_18 : Int32} {s2_1278_18 : Int32} (hB : lOK C g l w b L xs) (hn9 : n9.1 ≤ 600000 ∧ n9.2 ≤ 7302250) (M : zM) (hR : RtL C w n9) : Sg C w n9 1278 [(0, .ref b), (1, zr w 0), (2, zr w 257), (3, .int v3_1278_18)] [.int s2_1278_18, zr w 257, .int s0_1278_18] M (j_L_law_1278_18 L xs v3_1278_18 s0_1278_18 s2_1278_18 M) (fun o => Sum.elim (fun (s : (Int32 × zM)) => Zs C w n9 18 [(0, .ref b), (1, zr w 0), (2, zr w 257), (3, .int s.1)] [] s.2) (fun q => Sum.elim (fun (s : (zM)) => Zs C w n9 1315 [] [] s) (fun q => q = (1 : Int32)) q) o) := by
  have hC := hB.1
  unfold j_L_law_1278_18
  refine r_L2 (as := [.int s2_1278_18]) (rest := [.int s0_1278_18]) (z := false) hB dL_law_1278 kv_L_159 th_257 rfl rfl (Nat.le_of_ble_eq_true rfl) hn9 (fun v M' hv => f_X11_image_met hB.2.2.2.2.2.1 (by decide) hv) (fun u1278_18 M1278_18 => ?_)
  refine x_icmp_eq (tgt := 1309) hC dL_law_1281 (by decide) ?_ ?_
  · exact j_L_law_1309_18_ok hB hn9 M1278_18 hR
  · refine x_iconst (v := (0 : Int32)) hC dL_law_1284 ki_0 ?_
    exact x_done (fun h => absurd (show (0 : Int32) = 1 from h) (by decide))
noncomputable def j_L_law_1261_18 (L : Nat) (xs : Nat → Int32) (v3_1261_18 : Int32) (s1_1261_18 : Int32) (M : zM) : Option ((Int32 × zM) ⊕ ((zM) ⊕ (Int32))) :=
  bndZ true M (f_X10_image s1_1261_18 M) fun u1261_18 M1261_18 =>
  grd (inb (v3_1261_18 + (1 : Int32)) L) (
  if (xs (ix (v3_1261_18 + (1 : Int32)))) = 0 then (j_L_law_1278_18 L xs v3_1261_18 u1261_18 (0 : Int32) M1261_18)
  else (j_L_law_1278_18 L xs v3_1261_18 u1261_18 (1 : Int32) M1261_18))
set_option maxRecDepth 100000 in
theorem j_L_law_1261_18_ok {C : zC} {g : zG} {l : Launch} {w : zW} {n9 : Nat × Nat} {b : Nat} {L : Nat} {xs : Nat → Int32} {v3_1261_18 : Int32} {s1_1261_18 : Int32} (hB : lOK C g l w b L xs) (hn9 : n9.1 ≤ 600000 ∧ n9.2 ≤ 7302250) (M : zM) (hR : RtL C w n9) : Sg C w n9 1261 [(0, .ref b), (1, zr w 0), (2, zr w 257), (3, .int v3_1261_18)] [.int s1_1261_18, zr w 0] M (j_L_law_1261_18 L xs v3_1261_18 s1_1261_18 M) (fun o => Sum.elim (fun (s : (Int32 × zM)) => Zs C w n9 18 [(0, .ref b), (1, zr w 0), (2, zr w 257), (3, .int s.1)] [] s.2) (fun q => Sum.elim (fun (s : (zM)) => Zs C w n9 1315 [] [] s) (fun q => q = (1 : Int32)) q) o) := by
  have hC := hB.1
  unfold j_L_law_1261_18
  refine r_L2 (as := [.int s1_1261_18]) (rest := []) (z := true) hB dL_law_1261 kv_L_155 th_0 rfl rfl (Nat.le_of_ble_eq_true rfl) hn9 (fun v M' hv => f_X10_image_met hB.2.2.2.2.2.1 (by decide) hv) (fun u1261_18 M1261_18 => ?_)
  refine x_aload_n hC dL_law_1264 rfl 2 rfl ?_
  refine x_aload_n hC dL_law_1265 rfl 0 rfl ?_
  refine x_iload_n hC dL_law_1266 rfl 3 rfl ?_
  refine x_iconst (v := (1 : Int32)) hC dL_law_1267 ki_1 ?_
  refine x_iadd hC dL_law_1268 ?_
  refine r_sld hB dL_law_1269 ?_
  refine x_if_eq (tgt := 1277) hC dL_law_1270 (by decide) ?_ ?_
  · refine x_iconst (v := (0 : Int32)) hC dL_law_1277 ki_0 ?_
    exact j_L_law_1278_18_ok hB hn9 M1261_18 hR
  · refine x_iconst (v := (1 : Int32)) hC dL_law_1273 ki_1 ?_
    refine x_goto (tgt := 1278) hC dL_law_1274 (by decide) ?_
    exact j_L_law_1278_18_ok hB hn9 M1261_18 hR
noncomputable def b_L_law_18 (L : Nat) (xs : Nat → Int32) (v3_18 : Int32) (M : zM) : Option ((Int32 × zM) ⊕ ((zM) ⊕ (Int32))) :=
  if ((nI L) - (6 : Int32)) < v3_18 then (some (.inr (.inl M)))
  else (grd (inb v3_18 L) (
  if ((xs (ix v3_18)) &&& (63 : Int32)) = (0 : Int32) then (grd (inb (v3_18 + (1 : Int32)) L) (
  bndZ true M (f_X10_state (xs (ix (v3_18 + (1 : Int32)))) M) fun u194_18 M194_18 =>
  grd (inb (v3_18 + (1 : Int32)) L) (
  bndZ false M194_18 (f_X11_state (xs (ix (v3_18 + (1 : Int32)))) M194_18) fun u203_18 M203_18 =>
  if u194_18 = u203_18 then (j_L_law_1309_18 L xs v3_18 M203_18)
  else (some (.inr (.inr (0 : Int32)))))))
  else (if ((xs (ix v3_18)) &&& (63 : Int32)) = (1 : Int32) then (grd (inb (v3_18 + (1 : Int32)) L) (
  bndZ true M (f_X10_walker (xs (ix (v3_18 + (1 : Int32)))) M) fun u217_18 M217_18 =>
  grd (inb (v3_18 + (1 : Int32)) L) (
  bndZ false M217_18 (f_X11_walker (xs (ix (v3_18 + (1 : Int32)))) M217_18) fun u226_18 M226_18 =>
  if u217_18 = u226_18 then (j_L_law_1309_18 L xs v3_18 M226_18)
  else (some (.inr (.inr (0 : Int32)))))))
  else (if ((xs (ix v3_18)) &&& (63 : Int32)) = (2 : Int32) then (grd (inb (v3_18 + (1 : Int32)) L) (
  grd (inb (v3_18 + (2 : Int32)) L) (
  grd (inb (v3_18 + (3 : Int32)) L) (
  bndZ true M (f_X10_comes (xs (ix (v3_18 + (1 : Int32)))) (xs (ix (v3_18 + (2 : Int32)))) (xs (ix (v3_18 + (3 : Int32)))) M) fun u250_18 M250_18 =>
  grd (inb (v3_18 + (1 : Int32)) L) (
  grd (inb (v3_18 + (2 : Int32)) L) (
  grd (inb (v3_18 + (3 : Int32)) L) (
  bndZ false M250_18 (f_X11_comes (xs (ix (v3_18 + (1 : Int32)))) (xs (ix (v3_18 + (2 : Int32)))) (xs (ix (v3_18 + (3 : Int32)))) M250_18) fun u269_18 M269_18 =>
  if u250_18 = u269_18 then (j_L_law_1309_18 L xs v3_18 M269_18)
  else (some (.inr (.inr (0 : Int32)))))))))))
  else (if ((xs (ix v3_18)) &&& (63 : Int32)) = (3 : Int32) then (grd (inb (v3_18 + (1 : Int32)) L) (
  grd (inb (v3_18 + (2 : Int32)) L) (
  bndZ true M (f_X10_turn (xs (ix (v3_18 + (1 : Int32)))) (xs (ix (v3_18 + (2 : Int32)))) M) fun u288_18 M288_18 =>
  grd (inb (v3_18 + (1 : Int32)) L) (
  grd (inb (v3_18 + (2 : Int32)) L) (
  bndZ false M288_18 (f_X11_turn (xs (ix (v3_18 + (1 : Int32)))) (xs (ix (v3_18 + (2 : Int32)))) M288_18) fun u302_18 M302_18 =>
  if u288_18 = u302_18 then (j_L_law_1309_18 L xs v3_18 M302_18)
  else (some (.inr (.inr (0 : Int32)))))))))
  else (if ((xs (ix v3_18)) &&& (63 : Int32)) = (4 : Int32) then (grd (inb (v3_18 + (1 : Int32)) L) (
  grd (inb (v3_18 + (2 : Int32)) L) (
  grd (inb (v3_18 + (3 : Int32)) L) (
  bndZ true M (f_X10_lay (xs (ix (v3_18 + (1 : Int32)))) (xs (ix (v3_18 + (2 : Int32)))) (xs (ix (v3_18 + (3 : Int32)))) M) fun u326_18 M326_18 =>
  grd (inb (v3_18 + (1 : Int32)) L) (
  grd (inb (v3_18 + (2 : Int32)) L) (
  grd (inb (v3_18 + (3 : Int32)) L) (
  bndZ false M326_18 (f_X11_lay (xs (ix (v3_18 + (1 : Int32)))) (xs (ix (v3_18 + (2 : Int32)))) (xs (ix (v3_18 + (3 : Int32)))) M326_18) fun u345_18 M345_18 =>
  if u326_18 = u345_18 then (j_L_law_1309_18 L xs v3_18 M345_18)
  else (some (.inr (.inr (0 : Int32)))))))))))
  else (if ((xs (ix v3_18)) &&& (63 : Int32)) = (5 : Int32) then (grd (inb (v3_18 + (1 : Int32)) L) (
  bndZ true M (f_X10_minutes (xs (ix (v3_18 + (1 : Int32)))) M) fun u359_18 M359_18 =>
  grd (inb (v3_18 + (1 : Int32)) L) (
  bndZ false M359_18 (f_X11_minutes (xs (ix (v3_18 + (1 : Int32)))) M359_18) fun u368_18 M368_18 =>
  if u359_18 = u368_18 then (j_L_law_1309_18 L xs v3_18 M368_18)
  else (some (.inr (.inr (0 : Int32)))))))
  else (if ((xs (ix v3_18)) &&& (63 : Int32)) = (6 : Int32) then (grd (inb (v3_18 + (1 : Int32)) L) (
  grd (inb (v3_18 + (2 : Int32)) L) (
  grd (inb (v3_18 + (3 : Int32)) L) (
  grd (inb (v3_18 + (4 : Int32)) L) (
  grd (inb (v3_18 + (5 : Int32)) L) (
  bndZ true M (f_X10_feed (xs (ix (v3_18 + (1 : Int32)))) (xs (ix (v3_18 + (2 : Int32)))) (xs (ix (v3_18 + (3 : Int32)))) (xs (ix (v3_18 + (4 : Int32)))) (xs (ix (v3_18 + (5 : Int32)))) M) fun u402_18 M402_18 =>
  grd (inb (v3_18 + (1 : Int32)) L) (
  grd (inb (v3_18 + (2 : Int32)) L) (
  grd (inb (v3_18 + (3 : Int32)) L) (
  grd (inb (v3_18 + (4 : Int32)) L) (
  grd (inb (v3_18 + (5 : Int32)) L) (
  bndZ false M402_18 (f_X11_feed (xs (ix (v3_18 + (1 : Int32)))) (xs (ix (v3_18 + (2 : Int32)))) (xs (ix (v3_18 + (3 : Int32)))) (xs (ix (v3_18 + (4 : Int32)))) (xs (ix (v3_18 + (5 : Int32)))) M402_18) fun u431_18 M431_18 =>
  if u402_18 = u431_18 then (j_L_law_1309_18 L xs v3_18 M431_18)
  else (some (.inr (.inr (0 : Int32)))))))))))))))
  else (if ((xs (ix v3_18)) &&& (63 : Int32)) = (7 : Int32) then (grd (inb (v3_18 + (1 : Int32)) L) (
  bndZ true M (f_X10_end (xs (ix (v3_18 + (1 : Int32)))) M) fun u445_18 M445_18 =>
  grd (inb (v3_18 + (1 : Int32)) L) (
  bndZ false M445_18 (f_X11_end (xs (ix (v3_18 + (1 : Int32)))) M445_18) fun u454_18 M454_18 =>
  if u445_18 = u454_18 then (j_L_law_1309_18 L xs v3_18 M454_18)
  else (some (.inr (.inr (0 : Int32)))))))
  else (if ((xs (ix v3_18)) &&& (63 : Int32)) = (8 : Int32) then (grd (inb (v3_18 + (1 : Int32)) L) (
  bndZ true M (f_X10_text (xs (ix (v3_18 + (1 : Int32)))) M) fun u468_18 M468_18 =>
  grd (inb (v3_18 + (1 : Int32)) L) (
  bndZ false M468_18 (f_X11_text (xs (ix (v3_18 + (1 : Int32)))) M468_18) fun u477_18 M477_18 =>
  if u468_18 = u477_18 then (j_L_law_1309_18 L xs v3_18 M477_18)
  else (some (.inr (.inr (0 : Int32)))))))
  else (if ((xs (ix v3_18)) &&& (63 : Int32)) = (9 : Int32) then (grd (inb (v3_18 + (1 : Int32)) L) (
  grd (inb (v3_18 + (1 : Int32)) L) (
  if (f_X10_fault (xs (ix (v3_18 + (1 : Int32)))) M) = (f_X11_fault (xs (ix (v3_18 + (1 : Int32)))) M) then (j_L_law_1309_18 L xs v3_18 M)
  else (some (.inr (.inr (0 : Int32)))))))
  else (if ((xs (ix v3_18)) &&& (63 : Int32)) = (10 : Int32) then (grd (inb (v3_18 + (1 : Int32)) L) (
  grd (inb (v3_18 + (2 : Int32)) L) (
  bndZ true M (f_X10_of (xs (ix (v3_18 + (1 : Int32)))) (xs (ix (v3_18 + (2 : Int32)))) M) fun u519_18 M519_18 =>
  grd (inb (v3_18 + (1 : Int32)) L) (
  grd (inb (v3_18 + (2 : Int32)) L) (
  bndZ false M519_18 (f_X11_of (xs (ix (v3_18 + (1 : Int32)))) (xs (ix (v3_18 + (2 : Int32)))) M519_18) fun u533_18 M533_18 =>
  if u519_18 = u533_18 then (j_L_law_1309_18 L xs v3_18 M533_18)
  else (some (.inr (.inr (0 : Int32)))))))))
  else (if ((xs (ix v3_18)) &&& (63 : Int32)) = (11 : Int32) then (grd (inb (v3_18 + (1 : Int32)) L) (
  grd (inb (v3_18 + (2 : Int32)) L) (
  grd (inb (v3_18 + (3 : Int32)) L) (
  (f_X10_cell (xs (ix (v3_18 + (1 : Int32)))) (xs (ix (v3_18 + (2 : Int32)))) (xs (ix (v3_18 + (3 : Int32)))) M).bind fun u557_18 =>
  grd (inb (v3_18 + (1 : Int32)) L) (
  grd (inb (v3_18 + (2 : Int32)) L) (
  grd (inb (v3_18 + (3 : Int32)) L) (
  bndZ false M (f_X11_cell (xs (ix (v3_18 + (1 : Int32)))) (xs (ix (v3_18 + (2 : Int32)))) (xs (ix (v3_18 + (3 : Int32)))) M) fun u576_18 M576_18 =>
  if u557_18 = u576_18 then (j_L_law_1309_18 L xs v3_18 M576_18)
  else (some (.inr (.inr (0 : Int32)))))))))))
  else (if ((xs (ix v3_18)) &&& (63 : Int32)) = (12 : Int32) then (grd (inb (v3_18 + (1 : Int32)) L) (
  grd (inb (v3_18 + (2 : Int32)) L) (
  (f_X10_book (xs (ix (v3_18 + (1 : Int32)))) (xs (ix (v3_18 + (2 : Int32)))) M).bind fun u595_18 =>
  grd (inb (v3_18 + (1 : Int32)) L) (
  grd (inb (v3_18 + (2 : Int32)) L) (
  (f_X11_book (xs (ix (v3_18 + (1 : Int32)))) (xs (ix (v3_18 + (2 : Int32)))) M).bind fun u609_18 =>
  if u595_18 = u609_18 then (j_L_law_1309_18 L xs v3_18 M)
  else (some (.inr (.inr (0 : Int32)))))))))
  else (if ((xs (ix v3_18)) &&& (63 : Int32)) = (13 : Int32) then (grd (inb (v3_18 + (1 : Int32)) L) (
  grd (inb (v3_18 + (2 : Int32)) L) (
  bndZ true M (f_X10_goes (xs (ix (v3_18 + (1 : Int32)))) (xs (ix (v3_18 + (2 : Int32)))) M) fun u628_18 M628_18 =>
  grd (inb (v3_18 + (1 : Int32)) L) (
  grd (inb (v3_18 + (2 : Int32)) L) (
  bndZ false M628_18 (f_X11_goes (xs (ix (v3_18 + (1 : Int32)))) (xs (ix (v3_18 + (2 : Int32)))) M628_18) fun u642_18 M642_18 =>
  if u628_18 = u642_18 then (j_L_law_1309_18 L xs v3_18 M642_18)
  else (some (.inr (.inr (0 : Int32)))))))))
  else (if ((xs (ix v3_18)) &&& (63 : Int32)) = (14 : Int32) then (grd (inb (v3_18 + (1 : Int32)) L) (
  bndZ true M (f_X10_over (xs (ix (v3_18 + (1 : Int32)))) M) fun u656_18 M656_18 =>
  grd (inb (v3_18 + (1 : Int32)) L) (
  bndZ false M656_18 (f_X11_over (xs (ix (v3_18 + (1 : Int32)))) M656_18) fun u665_18 M665_18 =>
  if u656_18 = u665_18 then (j_L_law_1309_18 L xs v3_18 M665_18)
  else (some (.inr (.inr (0 : Int32)))))))
  else (if ((xs (ix v3_18)) &&& (63 : Int32)) = (15 : Int32) then (grd (inb (v3_18 + (1 : Int32)) L) (
  grd (inb (v3_18 + (2 : Int32)) L) (
  grd (inb (v3_18 + (3 : Int32)) L) (
  grd (inb (v3_18 + (4 : Int32)) L) (
  bndZ true M (f_X10_far (xs (ix (v3_18 + (1 : Int32)))) (xs (ix (v3_18 + (2 : Int32)))) (xs (ix (v3_18 + (3 : Int32)))) (xs (ix (v3_18 + (4 : Int32)))) M) fun u694_18 M694_18 =>
  grd (inb (v3_18 + (1 : Int32)) L) (
  grd (inb (v3_18 + (2 : Int32)) L) (
  grd (inb (v3_18 + (3 : Int32)) L) (
  grd (inb (v3_18 + (4 : Int32)) L) (
  bndZ false M694_18 (f_X11_far (xs (ix (v3_18 + (1 : Int32)))) (xs (ix (v3_18 + (2 : Int32)))) (xs (ix (v3_18 + (3 : Int32)))) (xs (ix (v3_18 + (4 : Int32)))) M694_18) fun u718_18 M718_18 =>
  if u694_18 = u718_18 then (j_L_law_1309_18 L xs v3_18 M718_18)
  else (some (.inr (.inr (0 : Int32)))))))))))))
  else (if ((xs (ix v3_18)) &&& (63 : Int32)) = (16 : Int32) then (grd (inb (v3_18 + (1 : Int32)) L) (
  grd (inb (v3_18 + (2 : Int32)) L) (
  grd (inb (v3_18 + (3 : Int32)) L) (
  grd (inb (v3_18 + (4 : Int32)) L) (
  bndZ true M (f_X10_with (xs (ix (v3_18 + (1 : Int32)))) (xs (ix (v3_18 + (2 : Int32)))) (xs (ix (v3_18 + (3 : Int32)))) (xs (ix (v3_18 + (4 : Int32)))) M) fun u747_18 M747_18 =>
  grd (inb (v3_18 + (1 : Int32)) L) (
  grd (inb (v3_18 + (2 : Int32)) L) (
  grd (inb (v3_18 + (3 : Int32)) L) (
  grd (inb (v3_18 + (4 : Int32)) L) (
  bndZ false M747_18 (f_X11_with (xs (ix (v3_18 + (1 : Int32)))) (xs (ix (v3_18 + (2 : Int32)))) (xs (ix (v3_18 + (3 : Int32)))) (xs (ix (v3_18 + (4 : Int32)))) M747_18) fun u771_18 M771_18 =>
  if u747_18 = u771_18 then (j_L_law_1309_18 L xs v3_18 M771_18)
  else (some (.inr (.inr (0 : Int32)))))))))))))
  else (if ((xs (ix v3_18)) &&& (63 : Int32)) = (17 : Int32) then (grd (inb (v3_18 + (1 : Int32)) L) (
  grd (inb (v3_18 + (2 : Int32)) L) (
  (f_X10_seen (xs (ix (v3_18 + (1 : Int32)))) (xs (ix (v3_18 + (2 : Int32)))) M).bind fun u790_18 =>
  grd (inb (v3_18 + (1 : Int32)) L) (
  grd (inb (v3_18 + (2 : Int32)) L) (
  (f_X11_seen (xs (ix (v3_18 + (1 : Int32)))) (xs (ix (v3_18 + (2 : Int32)))) M).bind fun u804_18 =>
  if u790_18 = u804_18 then (j_L_law_1309_18 L xs v3_18 M)
  else (some (.inr (.inr (0 : Int32)))))))))
  else (if ((xs (ix v3_18)) &&& (63 : Int32)) = (18 : Int32) then (grd (inb (v3_18 + (1 : Int32)) L) (
  grd (inb (v3_18 + (2 : Int32)) L) (
  bndZ true M (f_X10_known (xs (ix (v3_18 + (1 : Int32)))) (xs (ix (v3_18 + (2 : Int32)))) M) fun u823_18 M823_18 =>
  grd (inb (v3_18 + (1 : Int32)) L) (
  grd (inb (v3_18 + (2 : Int32)) L) (
  bndZ false M823_18 (f_X11_known (xs (ix (v3_18 + (1 : Int32)))) (xs (ix (v3_18 + (2 : Int32)))) M823_18) fun u837_18 M837_18 =>
  if u823_18 = u837_18 then (j_L_law_1309_18 L xs v3_18 M837_18)
  else (some (.inr (.inr (0 : Int32)))))))))
  else (if ((xs (ix v3_18)) &&& (63 : Int32)) = (19 : Int32) then (grd (inb (v3_18 + (1 : Int32)) L) (
  (f_X10_one (xs (ix (v3_18 + (1 : Int32)))) M).bind fun u851_18 =>
  grd (inb (v3_18 + (1 : Int32)) L) (
  (f_X11_one (xs (ix (v3_18 + (1 : Int32)))) M).bind fun u860_18 =>
  if u851_18 = u860_18 then (j_L_law_1309_18 L xs v3_18 M)
  else (some (.inr (.inr (0 : Int32)))))))
  else (if ((xs (ix v3_18)) &&& (63 : Int32)) = (20 : Int32) then (grd (inb (v3_18 + (1 : Int32)) L) (
  bndZ true M (f_X10_move (xs (ix (v3_18 + (1 : Int32)))) M) fun u874_18 M874_18 =>
  grd (inb (v3_18 + (1 : Int32)) L) (
  bndZ false M874_18 (f_X11_move (xs (ix (v3_18 + (1 : Int32)))) M874_18) fun u883_18 M883_18 =>
  if u874_18 = u883_18 then (j_L_law_1309_18 L xs v3_18 M883_18)
  else (some (.inr (.inr (0 : Int32)))))))
  else (if ((xs (ix v3_18)) &&& (63 : Int32)) = (21 : Int32) then (grd (inb (v3_18 + (1 : Int32)) L) (
  bndZ true M (f_X10_round (xs (ix (v3_18 + (1 : Int32)))) M) fun u897_18 M897_18 =>
  grd (inb (v3_18 + (1 : Int32)) L) (
  bndZ false M897_18 (f_X11_round (xs (ix (v3_18 + (1 : Int32)))) M897_18) fun u906_18 M906_18 =>
  if u897_18 = u906_18 then (j_L_law_1309_18 L xs v3_18 M906_18)
  else (some (.inr (.inr (0 : Int32)))))))
  else (if ((xs (ix v3_18)) &&& (63 : Int32)) = (22 : Int32) then (grd (inb (v3_18 + (1 : Int32)) L) (
  grd (inb (v3_18 + (2 : Int32)) L) (
  grd (inb (v3_18 + (3 : Int32)) L) (
  (f_X10_folded (xs (ix (v3_18 + (1 : Int32)))) (xs (ix (v3_18 + (2 : Int32)))) (xs (ix (v3_18 + (3 : Int32)))) M).bind fun u930_18 =>
  grd (inb (v3_18 + (1 : Int32)) L) (
  grd (inb (v3_18 + (2 : Int32)) L) (
  grd (inb (v3_18 + (3 : Int32)) L) (
  (f_X11_folded (xs (ix (v3_18 + (1 : Int32)))) (xs (ix (v3_18 + (2 : Int32)))) (xs (ix (v3_18 + (3 : Int32))))).bind fun u949_18 =>
  if u930_18 = u949_18 then (j_L_law_1309_18 L xs v3_18 M)
  else (some (.inr (.inr (0 : Int32)))))))))))
  else (if ((xs (ix v3_18)) &&& (63 : Int32)) = (23 : Int32) then (grd (inb (v3_18 + (1 : Int32)) L) (
  grd (inb (v3_18 + (2 : Int32)) L) (
  grd (inb (v3_18 + (3 : Int32)) L) (
  bndZ true M (f_X10_duel (xs (ix (v3_18 + (1 : Int32)))) (xs (ix (v3_18 + (2 : Int32)))) (xs (ix (v3_18 + (3 : Int32)))) M) fun u973_18 M973_18 =>
  grd (inb (v3_18 + (1 : Int32)) L) (
  grd (inb (v3_18 + (2 : Int32)) L) (
  grd (inb (v3_18 + (3 : Int32)) L) (
  bndZ false M973_18 (f_X11_duel (xs (ix (v3_18 + (1 : Int32)))) (xs (ix (v3_18 + (2 : Int32)))) (xs (ix (v3_18 + (3 : Int32)))) M973_18) fun u992_18 M992_18 =>
  if u973_18 = u992_18 then (j_L_law_1309_18 L xs v3_18 M992_18)
  else (some (.inr (.inr (0 : Int32)))))))))))
  else (if ((xs (ix v3_18)) &&& (63 : Int32)) = (24 : Int32) then (grd (inb (v3_18 + (1 : Int32)) L) (
  grd (inb (v3_18 + (2 : Int32)) L) (
  bndZ true M (f_X10_ant (xs (ix (v3_18 + (1 : Int32)))) (xs (ix (v3_18 + (2 : Int32)))) M) fun u1011_18 M1011_18 =>
  grd (inb (v3_18 + (1 : Int32)) L) (
  grd (inb (v3_18 + (2 : Int32)) L) (
  bndZ false M1011_18 (f_X11_ant (xs (ix (v3_18 + (1 : Int32)))) (xs (ix (v3_18 + (2 : Int32)))) M1011_18) fun u1025_18 M1025_18 =>
  if u1011_18 = u1025_18 then (j_L_law_1309_18 L xs v3_18 M1025_18)
  else (some (.inr (.inr (0 : Int32)))))))))
  else (if ((xs (ix v3_18)) &&& (63 : Int32)) = (25 : Int32) then (grd (inb (v3_18 + (1 : Int32)) L) (
  grd (inb (v3_18 + (2 : Int32)) L) (
  bndZ true M (f_X10_hooks (xs (ix (v3_18 + (1 : Int32)))) (xs (ix (v3_18 + (2 : Int32)))) M) fun u1044_18 M1044_18 =>
  grd (inb (v3_18 + (1 : Int32)) L) (
  grd (inb (v3_18 + (2 : Int32)) L) (
  bndZ false M1044_18 (f_X11_hooks (xs (ix (v3_18 + (1 : Int32)))) (xs (ix (v3_18 + (2 : Int32)))) M1044_18) fun u1058_18 M1058_18 =>
  if u1044_18 = u1058_18 then (j_L_law_1309_18 L xs v3_18 M1058_18)
  else (some (.inr (.inr (0 : Int32)))))))))
  else (if ((xs (ix v3_18)) &&& (63 : Int32)) = (26 : Int32) then (grd (inb (v3_18 + (1 : Int32)) L) (
  bndZ true M (f_X10_apart (xs (ix (v3_18 + (1 : Int32)))) M) fun u1072_18 M1072_18 =>
  grd (inb (v3_18 + (1 : Int32)) L) (
  bndZ false M1072_18 (f_X11_apart (xs (ix (v3_18 + (1 : Int32)))) M1072_18) fun u1081_18 M1081_18 =>
  if u1072_18 = u1081_18 then (j_L_law_1309_18 L xs v3_18 M1081_18)
  else (some (.inr (.inr (0 : Int32)))))))
  else (if ((xs (ix v3_18)) &&& (63 : Int32)) = (27 : Int32) then (grd (inb (v3_18 + (1 : Int32)) L) (
  grd (inb (v3_18 + (2 : Int32)) L) (
  bndZ true M (f_X10_gap (xs (ix (v3_18 + (1 : Int32)))) (xs (ix (v3_18 + (2 : Int32)))) M) fun u1100_18 M1100_18 =>
  grd (inb (v3_18 + (1 : Int32)) L) (
  grd (inb (v3_18 + (2 : Int32)) L) (
  bndZ false M1100_18 (f_X11_gap (xs (ix (v3_18 + (1 : Int32)))) (xs (ix (v3_18 + (2 : Int32)))) M1100_18) fun u1114_18 M1114_18 =>
  if u1100_18 = u1114_18 then (j_L_law_1309_18 L xs v3_18 M1114_18)
  else (some (.inr (.inr (0 : Int32)))))))))
  else (if ((xs (ix v3_18)) &&& (63 : Int32)) = (28 : Int32) then (bndZ true M (f_X10_hedge M) fun u1123_18 M1123_18 =>
  bndZ false M1123_18 (f_X11_hedge M1123_18) fun u1127_18 M1127_18 =>
  if u1123_18 = u1127_18 then (j_L_law_1309_18 L xs v3_18 M1127_18)
  else (some (.inr (.inr (0 : Int32)))))
  else (if ((xs (ix v3_18)) &&& (63 : Int32)) = (29 : Int32) then (grd (inb (v3_18 + (1 : Int32)) L) (
  grd (inb (v3_18 + (2 : Int32)) L) (
  bndZ true M (f_X10_meets (xs (ix (v3_18 + (1 : Int32)))) (xs (ix (v3_18 + (2 : Int32)))) M) fun u1146_18 M1146_18 =>
  grd (inb (v3_18 + (1 : Int32)) L) (
  grd (inb (v3_18 + (2 : Int32)) L) (
  bndZ false M1146_18 (f_X11_meets (xs (ix (v3_18 + (1 : Int32)))) (xs (ix (v3_18 + (2 : Int32)))) M1146_18) fun u1160_18 M1160_18 =>
  if u1146_18 = u1160_18 then (j_L_law_1309_18 L xs v3_18 M1160_18)
  else (some (.inr (.inr (0 : Int32)))))))))
  else (if ((xs (ix v3_18)) &&& (63 : Int32)) = (30 : Int32) then (grd (inb (v3_18 + (1 : Int32)) L) (
  bndZ true M (f_X10_pigeons (xs (ix (v3_18 + (1 : Int32)))) M) fun u1174_18 M1174_18 =>
  grd (inb (v3_18 + (1 : Int32)) L) (
  bndZ false M1174_18 (f_X11_pigeons (xs (ix (v3_18 + (1 : Int32)))) M1174_18) fun u1183_18 M1183_18 =>
  if u1174_18 = u1183_18 then (j_L_law_1309_18 L xs v3_18 M1183_18)
  else (some (.inr (.inr (0 : Int32)))))))
  else (if ((xs (ix v3_18)) &&& (63 : Int32)) = (31 : Int32) then (grd (inb (v3_18 + (1 : Int32)) L) (
  grd (inb (v3_18 + (2 : Int32)) L) (
  grd (inb (v3_18 + (3 : Int32)) L) (
  bndZ true M (f_X10_game (xs (ix (v3_18 + (1 : Int32)))) (xs (ix (v3_18 + (2 : Int32)))) (xs (ix (v3_18 + (3 : Int32)))) M) fun u1207_18 M1207_18 =>
  grd (inb (v3_18 + (1 : Int32)) L) (
  grd (inb (v3_18 + (2 : Int32)) L) (
  grd (inb (v3_18 + (3 : Int32)) L) (
  bndZ false M1207_18 (f_X11_game (xs (ix (v3_18 + (1 : Int32)))) (xs (ix (v3_18 + (2 : Int32)))) (xs (ix (v3_18 + (3 : Int32)))) M1207_18) fun u1226_18 M1226_18 =>
  if u1207_18 = u1226_18 then (j_L_law_1309_18 L xs v3_18 M1226_18)
  else (some (.inr (.inr (0 : Int32)))))))))))
  else (if ((xs (ix v3_18)) &&& (63 : Int32)) = (32 : Int32) then (bndZ true M (f_X10_undo M) fun u1235_18 M1235_18 =>
  bndZ false M1235_18 (f_X11_undo M1235_18) fun u1239_18 M1239_18 =>
  if u1235_18 = u1239_18 then (j_L_law_1309_18 L xs v3_18 M1239_18)
  else (some (.inr (.inr (0 : Int32)))))
  else (if ((xs (ix v3_18)) &&& (63 : Int32)) = (33 : Int32) then (grd (inb (v3_18 + (1 : Int32)) L) (
  if (xs (ix (v3_18 + (1 : Int32)))) = 0 then (j_L_law_1261_18 L xs v3_18 (0 : Int32) M)
  else (j_L_law_1261_18 L xs v3_18 (1 : Int32) M)))
  else (if ((xs (ix v3_18)) &&& (63 : Int32)) = (34 : Int32) then (grd (inb (v3_18 + (1 : Int32)) L) (
  (f_X10_look (xs (ix (v3_18 + (1 : Int32)))) M).bind fun u1292_18 =>
  grd (inb (v3_18 + (1 : Int32)) L) (
  bndZ false M (f_X11_look (xs (ix (v3_18 + (1 : Int32)))) M) fun u1301_18 M1301_18 =>
  if u1292_18 = u1301_18 then (j_L_law_1309_18 L xs v3_18 M1301_18)
  else (some (.inr (.inr (0 : Int32)))))))
  else (j_L_law_1309_18 L xs v3_18 M)))))))))))))))))))))))))))))))))))))
set_option maxRecDepth 100000 in
theorem b_L_law_18_ok {C : zC} {g : zG} {l : Launch} {w : zW} {n9 : Nat × Nat} {b : Nat} {L : Nat} {xs : Nat → Int32} {v3_18 : Int32} (hB : lOK C g l w b L xs) (hn9 : n9.1 ≤ 600000 ∧ n9.2 ≤ 7302250) (M : zM) (hR : RtL C w n9) : Sg C w n9 18 [(0, .ref b), (1, zr w 0), (2, zr w 257), (3, .int v3_18)] [] M (b_L_law_18 L xs v3_18 M) (fun o => Sum.elim (fun (s : (Int32 × zM)) => Zs C w n9 18 [(0, .ref b), (1, zr w 0), (2, zr w 257), (3, .int s.1)] [] s.2) (fun q => Sum.elim (fun (s : (zM)) => Zs C w n9 1315 [] [] s) (fun q => q = (1 : Int32)) q) o) := by
  have hC := hB.1
  unfold b_L_law_18
  refine x_iload_n hC dL_law_18 rfl 3 rfl ?_
  refine x_aload_n hC dL_law_19 rfl 0 rfl ?_
  refine r_slX hB dL_law_20 ?_
  refine x_bipush (v := (6 : Int32)) hC dL_law_21 kb_6 ?_
  refine x_isub hC dL_law_23 ?_
  refine x_icmp_gt (tgt := 1315) hC dL_law_24 (by decide) ?_ ?_
  · refine x_sub [] rfl ?_
    exact x_done (fun h => h)
  · refine x_aload_n hC dL_law_27 rfl 0 rfl ?_
    refine x_iload_n hC dL_law_28 rfl 3 rfl ?_
    refine r_sld hB dL_law_29 ?_
    refine x_bipush (v := (63 : Int32)) hC dL_law_30 kb_63 ?_
    refine x_iand hC dL_law_32 ?_
    refine x_ite (fun hs => ?_) (fun hs0 => ?_)
    · refine x_tsI (tgt := 188) (off := 155) hC dL_law_33 (by rw [hs]; decide +kernel) (by rw [hs]; decide +kernel) (by rw [hs]; decide +kernel) (by decide) ?_
      refine x_aload_n hC dL_law_188 rfl 1 rfl ?_
      refine x_aload_n hC dL_law_189 rfl 0 rfl ?_
      refine x_iload_n hC dL_law_190 rfl 3 rfl ?_
      refine x_iconst (v := (1 : Int32)) hC dL_law_191 ki_1 ?_
      refine x_iadd hC dL_law_192 ?_
      refine r_sld hB dL_law_193 ?_
      refine r_L2 (as := [.int (xs (ix (v3_18 + (1 : Int32))))]) (rest := []) (z := true) hB dL_law_194 kv_L_13 th_0 rfl rfl (Nat.le_of_ble_eq_true rfl) hn9 (fun v M' hv => f_X10_state_met hB.2.2.2.2.2.1 (by decide) hv) (fun u194_18 M194_18 => ?_)
      refine x_aload_n hC dL_law_197 rfl 2 rfl ?_
      refine x_aload_n hC dL_law_198 rfl 0 rfl ?_
      refine x_iload_n hC dL_law_199 rfl 3 rfl ?_
      refine x_iconst (v := (1 : Int32)) hC dL_law_200 ki_1 ?_
      refine x_iadd hC dL_law_201 ?_
      refine r_sld hB dL_law_202 ?_
      refine r_L2 (as := [.int (xs (ix (v3_18 + (1 : Int32))))]) (rest := [.int u194_18]) (z := false) hB dL_law_203 kv_L_17 th_257 rfl rfl (Nat.le_of_ble_eq_true rfl) hn9 (fun v M' hv => f_X11_state_met hB.2.2.2.2.2.1 (by decide) hv) (fun u203_18 M203_18 => ?_)
      refine x_icmp_eq (tgt := 1309) hC dL_law_206 (by decide) ?_ ?_
      · exact j_L_law_1309_18_ok hB hn9 M203_18 hR
      · refine x_iconst (v := (0 : Int32)) hC dL_law_209 ki_0 ?_
        exact x_done (fun h => absurd (show (0 : Int32) = 1 from h) (by decide))
    · skip
      refine x_ite (fun hs => ?_) (fun hs1 => ?_)
      · refine x_tsI (tgt := 211) (off := 178) hC dL_law_33 (by rw [hs]; decide +kernel) (by rw [hs]; decide +kernel) (by rw [hs]; decide +kernel) (by decide) ?_
        refine x_aload_n hC dL_law_211 rfl 1 rfl ?_
        refine x_aload_n hC dL_law_212 rfl 0 rfl ?_
        refine x_iload_n hC dL_law_213 rfl 3 rfl ?_
        refine x_iconst (v := (1 : Int32)) hC dL_law_214 ki_1 ?_
        refine x_iadd hC dL_law_215 ?_
        refine r_sld hB dL_law_216 ?_
        refine r_L2 (as := [.int (xs (ix (v3_18 + (1 : Int32))))]) (rest := []) (z := true) hB dL_law_217 kv_L_18 th_0 rfl rfl (Nat.le_of_ble_eq_true rfl) hn9 (fun v M' hv => f_X10_walker_met hB.2.2.2.2.2.1 (by decide) hv) (fun u217_18 M217_18 => ?_)
        refine x_aload_n hC dL_law_220 rfl 2 rfl ?_
        refine x_aload_n hC dL_law_221 rfl 0 rfl ?_
        refine x_iload_n hC dL_law_222 rfl 3 rfl ?_
        refine x_iconst (v := (1 : Int32)) hC dL_law_223 ki_1 ?_
        refine x_iadd hC dL_law_224 ?_
        refine r_sld hB dL_law_225 ?_
        refine r_L2 (as := [.int (xs (ix (v3_18 + (1 : Int32))))]) (rest := [.int u217_18]) (z := false) hB dL_law_226 kv_L_21 th_257 rfl rfl (Nat.le_of_ble_eq_true rfl) hn9 (fun v M' hv => f_X11_walker_met hB.2.2.2.2.2.1 (by decide) hv) (fun u226_18 M226_18 => ?_)
        refine x_icmp_eq (tgt := 1309) hC dL_law_229 (by decide) ?_ ?_
        · exact j_L_law_1309_18_ok hB hn9 M226_18 hR
        · refine x_iconst (v := (0 : Int32)) hC dL_law_232 ki_0 ?_
          exact x_done (fun h => absurd (show (0 : Int32) = 1 from h) (by decide))
      · skip
        refine x_ite (fun hs => ?_) (fun hs2 => ?_)
        · refine x_tsI (tgt := 234) (off := 201) hC dL_law_33 (by rw [hs]; decide +kernel) (by rw [hs]; decide +kernel) (by rw [hs]; decide +kernel) (by decide) ?_
          refine x_aload_n hC dL_law_234 rfl 1 rfl ?_
          refine x_aload_n hC dL_law_235 rfl 0 rfl ?_
          refine x_iload_n hC dL_law_236 rfl 3 rfl ?_
          refine x_iconst (v := (1 : Int32)) hC dL_law_237 ki_1 ?_
          refine x_iadd hC dL_law_238 ?_
          refine r_sld hB dL_law_239 ?_
          refine x_aload_n hC dL_law_240 rfl 0 rfl ?_
          refine x_iload_n hC dL_law_241 rfl 3 rfl ?_
          refine x_iconst (v := (2 : Int32)) hC dL_law_242 ki_2 ?_
          refine x_iadd hC dL_law_243 ?_
          refine r_sld hB dL_law_244 ?_
          refine x_aload_n hC dL_law_245 rfl 0 rfl ?_
          refine x_iload_n hC dL_law_246 rfl 3 rfl ?_
          refine x_iconst (v := (3 : Int32)) hC dL_law_247 ki_3 ?_
          refine x_iadd hC dL_law_248 ?_
          refine r_sld hB dL_law_249 ?_
          refine r_L2 (as := [.int (xs (ix (v3_18 + (1 : Int32)))), .int (xs (ix (v3_18 + (2 : Int32)))), .int (xs (ix (v3_18 + (3 : Int32))))]) (rest := []) (z := true) hB dL_law_250 kv_L_22 th_0 rfl rfl (Nat.le_of_ble_eq_true rfl) hn9 (fun v M' hv => f_X10_comes_met hB.2.2.2.2.2.1 (by decide) hv) (fun u250_18 M250_18 => ?_)
          refine x_aload_n hC dL_law_253 rfl 2 rfl ?_
          refine x_aload_n hC dL_law_254 rfl 0 rfl ?_
          refine x_iload_n hC dL_law_255 rfl 3 rfl ?_
          refine x_iconst (v := (1 : Int32)) hC dL_law_256 ki_1 ?_
          refine x_iadd hC dL_law_257 ?_
          refine r_sld hB dL_law_258 ?_
          refine x_aload_n hC dL_law_259 rfl 0 rfl ?_
          refine x_iload_n hC dL_law_260 rfl 3 rfl ?_
          refine x_iconst (v := (2 : Int32)) hC dL_law_261 ki_2 ?_
          refine x_iadd hC dL_law_262 ?_
          refine r_sld hB dL_law_263 ?_
          refine x_aload_n hC dL_law_264 rfl 0 rfl ?_
          refine x_iload_n hC dL_law_265 rfl 3 rfl ?_
          refine x_iconst (v := (3 : Int32)) hC dL_law_266 ki_3 ?_
          refine x_iadd hC dL_law_267 ?_
          refine r_sld hB dL_law_268 ?_
          refine r_L2 (as := [.int (xs (ix (v3_18 + (1 : Int32)))), .int (xs (ix (v3_18 + (2 : Int32)))), .int (xs (ix (v3_18 + (3 : Int32))))]) (rest := [.int u250_18]) (z := false) hB dL_law_269 kv_L_26 th_257 rfl rfl (Nat.le_of_ble_eq_true rfl) hn9 (fun v M' hv => f_X11_comes_met hB.2.2.2.2.2.1 (by decide) hv) (fun u269_18 M269_18 => ?_)
          refine x_icmp_eq (tgt := 1309) hC dL_law_272 (by decide) ?_ ?_
          · exact j_L_law_1309_18_ok hB hn9 M269_18 hR
          · refine x_iconst (v := (0 : Int32)) hC dL_law_275 ki_0 ?_
            exact x_done (fun h => absurd (show (0 : Int32) = 1 from h) (by decide))
        · skip
          refine x_ite (fun hs => ?_) (fun hs3 => ?_)
          · refine x_tsI (tgt := 277) (off := 244) hC dL_law_33 (by rw [hs]; decide +kernel) (by rw [hs]; decide +kernel) (by rw [hs]; decide +kernel) (by decide) ?_
            refine x_aload_n hC dL_law_277 rfl 1 rfl ?_
            refine x_aload_n hC dL_law_278 rfl 0 rfl ?_
            refine x_iload_n hC dL_law_279 rfl 3 rfl ?_
            refine x_iconst (v := (1 : Int32)) hC dL_law_280 ki_1 ?_
            refine x_iadd hC dL_law_281 ?_
            refine r_sld hB dL_law_282 ?_
            refine x_aload_n hC dL_law_283 rfl 0 rfl ?_
            refine x_iload_n hC dL_law_284 rfl 3 rfl ?_
            refine x_iconst (v := (2 : Int32)) hC dL_law_285 ki_2 ?_
            refine x_iadd hC dL_law_286 ?_
            refine r_sld hB dL_law_287 ?_
            refine r_L2 (as := [.int (xs (ix (v3_18 + (1 : Int32)))), .int (xs (ix (v3_18 + (2 : Int32))))]) (rest := []) (z := true) hB dL_law_288 kv_L_27 th_0 rfl rfl (Nat.le_of_ble_eq_true rfl) hn9 (fun v M' hv => f_X10_turn_met hB.2.2.2.2.2.1 (by decide) hv) (fun u288_18 M288_18 => ?_)
            refine x_aload_n hC dL_law_291 rfl 2 rfl ?_
            refine x_aload_n hC dL_law_292 rfl 0 rfl ?_
            refine x_iload_n hC dL_law_293 rfl 3 rfl ?_
            refine x_iconst (v := (1 : Int32)) hC dL_law_294 ki_1 ?_
            refine x_iadd hC dL_law_295 ?_
            refine r_sld hB dL_law_296 ?_
            refine x_aload_n hC dL_law_297 rfl 0 rfl ?_
            refine x_iload_n hC dL_law_298 rfl 3 rfl ?_
            refine x_iconst (v := (2 : Int32)) hC dL_law_299 ki_2 ?_
            refine x_iadd hC dL_law_300 ?_
            refine r_sld hB dL_law_301 ?_
            refine r_L2 (as := [.int (xs (ix (v3_18 + (1 : Int32)))), .int (xs (ix (v3_18 + (2 : Int32))))]) (rest := [.int u288_18]) (z := false) hB dL_law_302 kv_L_31 th_257 rfl rfl (Nat.le_of_ble_eq_true rfl) hn9 (fun v M' hv => f_X11_turn_met hB.2.2.2.2.2.1 (by decide) hv) (fun u302_18 M302_18 => ?_)
            refine x_icmp_eq (tgt := 1309) hC dL_law_305 (by decide) ?_ ?_
            · exact j_L_law_1309_18_ok hB hn9 M302_18 hR
            · refine x_iconst (v := (0 : Int32)) hC dL_law_308 ki_0 ?_
              exact x_done (fun h => absurd (show (0 : Int32) = 1 from h) (by decide))
          · skip
            refine x_ite (fun hs => ?_) (fun hs4 => ?_)
            · refine x_tsI (tgt := 310) (off := 277) hC dL_law_33 (by rw [hs]; decide +kernel) (by rw [hs]; decide +kernel) (by rw [hs]; decide +kernel) (by decide) ?_
              refine x_aload_n hC dL_law_310 rfl 1 rfl ?_
              refine x_aload_n hC dL_law_311 rfl 0 rfl ?_
              refine x_iload_n hC dL_law_312 rfl 3 rfl ?_
              refine x_iconst (v := (1 : Int32)) hC dL_law_313 ki_1 ?_
              refine x_iadd hC dL_law_314 ?_
              refine r_sld hB dL_law_315 ?_
              refine x_aload_n hC dL_law_316 rfl 0 rfl ?_
              refine x_iload_n hC dL_law_317 rfl 3 rfl ?_
              refine x_iconst (v := (2 : Int32)) hC dL_law_318 ki_2 ?_
              refine x_iadd hC dL_law_319 ?_
              refine r_sld hB dL_law_320 ?_
              refine x_aload_n hC dL_law_321 rfl 0 rfl ?_
              refine x_iload_n hC dL_law_322 rfl 3 rfl ?_
              refine x_iconst (v := (3 : Int32)) hC dL_law_323 ki_3 ?_
              refine x_iadd hC dL_law_324 ?_
              refine r_sld hB dL_law_325 ?_
              refine r_L2 (as := [.int (xs (ix (v3_18 + (1 : Int32)))), .int (xs (ix (v3_18 + (2 : Int32)))), .int (xs (ix (v3_18 + (3 : Int32))))]) (rest := []) (z := true) hB dL_law_326 kv_L_32 th_0 rfl rfl (Nat.le_of_ble_eq_true rfl) hn9 (fun v M' hv => f_X10_lay_met hB.2.2.2.2.2.1 (by decide) hv) (fun u326_18 M326_18 => ?_)
              refine x_aload_n hC dL_law_329 rfl 2 rfl ?_
              refine x_aload_n hC dL_law_330 rfl 0 rfl ?_
              refine x_iload_n hC dL_law_331 rfl 3 rfl ?_
              refine x_iconst (v := (1 : Int32)) hC dL_law_332 ki_1 ?_
              refine x_iadd hC dL_law_333 ?_
              refine r_sld hB dL_law_334 ?_
              refine x_aload_n hC dL_law_335 rfl 0 rfl ?_
              refine x_iload_n hC dL_law_336 rfl 3 rfl ?_
              refine x_iconst (v := (2 : Int32)) hC dL_law_337 ki_2 ?_
              refine x_iadd hC dL_law_338 ?_
              refine r_sld hB dL_law_339 ?_
              refine x_aload_n hC dL_law_340 rfl 0 rfl ?_
              refine x_iload_n hC dL_law_341 rfl 3 rfl ?_
              refine x_iconst (v := (3 : Int32)) hC dL_law_342 ki_3 ?_
              refine x_iadd hC dL_law_343 ?_
              refine r_sld hB dL_law_344 ?_
              refine r_L2 (as := [.int (xs (ix (v3_18 + (1 : Int32)))), .int (xs (ix (v3_18 + (2 : Int32)))), .int (xs (ix (v3_18 + (3 : Int32))))]) (rest := [.int u326_18]) (z := false) hB dL_law_345 kv_L_35 th_257 rfl rfl (Nat.le_of_ble_eq_true rfl) hn9 (fun v M' hv => f_X11_lay_met hB.2.2.2.2.2.1 (by decide) hv) (fun u345_18 M345_18 => ?_)
              refine x_icmp_eq (tgt := 1309) hC dL_law_348 (by decide) ?_ ?_
              · exact j_L_law_1309_18_ok hB hn9 M345_18 hR
              · refine x_iconst (v := (0 : Int32)) hC dL_law_351 ki_0 ?_
                exact x_done (fun h => absurd (show (0 : Int32) = 1 from h) (by decide))
            · skip
              refine x_ite (fun hs => ?_) (fun hs5 => ?_)
              · refine x_tsI (tgt := 353) (off := 320) hC dL_law_33 (by rw [hs]; decide +kernel) (by rw [hs]; decide +kernel) (by rw [hs]; decide +kernel) (by decide) ?_
                refine x_aload_n hC dL_law_353 rfl 1 rfl ?_
                refine x_aload_n hC dL_law_354 rfl 0 rfl ?_
                refine x_iload_n hC dL_law_355 rfl 3 rfl ?_
                refine x_iconst (v := (1 : Int32)) hC dL_law_356 ki_1 ?_
                refine x_iadd hC dL_law_357 ?_
                refine r_sld hB dL_law_358 ?_
                refine r_L2 (as := [.int (xs (ix (v3_18 + (1 : Int32))))]) (rest := []) (z := true) hB dL_law_359 kv_L_36 th_0 rfl rfl (Nat.le_of_ble_eq_true rfl) hn9 (fun v M' hv => f_X10_minutes_met hB.2.2.2.2.2.1 (by decide) hv) (fun u359_18 M359_18 => ?_)
                refine x_aload_n hC dL_law_362 rfl 2 rfl ?_
                refine x_aload_n hC dL_law_363 rfl 0 rfl ?_
                refine x_iload_n hC dL_law_364 rfl 3 rfl ?_
                refine x_iconst (v := (1 : Int32)) hC dL_law_365 ki_1 ?_
                refine x_iadd hC dL_law_366 ?_
                refine r_sld hB dL_law_367 ?_
                refine r_L2 (as := [.int (xs (ix (v3_18 + (1 : Int32))))]) (rest := [.int u359_18]) (z := false) hB dL_law_368 kv_L_39 th_257 rfl rfl (Nat.le_of_ble_eq_true rfl) hn9 (fun v M' hv => f_X11_minutes_met hB.2.2.2.2.2.1 (by decide) hv) (fun u368_18 M368_18 => ?_)
                refine x_icmp_eq (tgt := 1309) hC dL_law_371 (by decide) ?_ ?_
                · exact j_L_law_1309_18_ok hB hn9 M368_18 hR
                · refine x_iconst (v := (0 : Int32)) hC dL_law_374 ki_0 ?_
                  exact x_done (fun h => absurd (show (0 : Int32) = 1 from h) (by decide))
              · skip
                refine x_ite (fun hs => ?_) (fun hs6 => ?_)
                · refine x_tsI (tgt := 376) (off := 343) hC dL_law_33 (by rw [hs]; decide +kernel) (by rw [hs]; decide +kernel) (by rw [hs]; decide +kernel) (by decide) ?_
                  refine x_aload_n hC dL_law_376 rfl 1 rfl ?_
                  refine x_aload_n hC dL_law_377 rfl 0 rfl ?_
                  refine x_iload_n hC dL_law_378 rfl 3 rfl ?_
                  refine x_iconst (v := (1 : Int32)) hC dL_law_379 ki_1 ?_
                  refine x_iadd hC dL_law_380 ?_
                  refine r_sld hB dL_law_381 ?_
                  refine x_aload_n hC dL_law_382 rfl 0 rfl ?_
                  refine x_iload_n hC dL_law_383 rfl 3 rfl ?_
                  refine x_iconst (v := (2 : Int32)) hC dL_law_384 ki_2 ?_
                  refine x_iadd hC dL_law_385 ?_
                  refine r_sld hB dL_law_386 ?_
                  refine x_aload_n hC dL_law_387 rfl 0 rfl ?_
                  refine x_iload_n hC dL_law_388 rfl 3 rfl ?_
                  refine x_iconst (v := (3 : Int32)) hC dL_law_389 ki_3 ?_
                  refine x_iadd hC dL_law_390 ?_
                  refine r_sld hB dL_law_391 ?_
                  refine x_aload_n hC dL_law_392 rfl 0 rfl ?_
                  refine x_iload_n hC dL_law_393 rfl 3 rfl ?_
                  refine x_iconst (v := (4 : Int32)) hC dL_law_394 ki_4 ?_
                  refine x_iadd hC dL_law_395 ?_
                  refine r_sld hB dL_law_396 ?_
                  refine x_aload_n hC dL_law_397 rfl 0 rfl ?_
                  refine x_iload_n hC dL_law_398 rfl 3 rfl ?_
                  refine x_iconst (v := (5 : Int32)) hC dL_law_399 ki_5 ?_
                  refine x_iadd hC dL_law_400 ?_
                  refine r_sld hB dL_law_401 ?_
                  refine r_L2 (as := [.int (xs (ix (v3_18 + (1 : Int32)))), .int (xs (ix (v3_18 + (2 : Int32)))), .int (xs (ix (v3_18 + (3 : Int32)))), .int (xs (ix (v3_18 + (4 : Int32)))), .int (xs (ix (v3_18 + (5 : Int32))))]) (rest := []) (z := true) hB dL_law_402 kv_L_40 th_0 rfl rfl (Nat.le_of_ble_eq_true rfl) hn9 (fun v M' hv => f_X10_feed_met hB.2.2.2.2.2.1 (by decide) hv) (fun u402_18 M402_18 => ?_)
                  refine x_aload_n hC dL_law_405 rfl 2 rfl ?_
                  refine x_aload_n hC dL_law_406 rfl 0 rfl ?_
                  refine x_iload_n hC dL_law_407 rfl 3 rfl ?_
                  refine x_iconst (v := (1 : Int32)) hC dL_law_408 ki_1 ?_
                  refine x_iadd hC dL_law_409 ?_
                  refine r_sld hB dL_law_410 ?_
                  refine x_aload_n hC dL_law_411 rfl 0 rfl ?_
                  refine x_iload_n hC dL_law_412 rfl 3 rfl ?_
                  refine x_iconst (v := (2 : Int32)) hC dL_law_413 ki_2 ?_
                  refine x_iadd hC dL_law_414 ?_
                  refine r_sld hB dL_law_415 ?_
                  refine x_aload_n hC dL_law_416 rfl 0 rfl ?_
                  refine x_iload_n hC dL_law_417 rfl 3 rfl ?_
                  refine x_iconst (v := (3 : Int32)) hC dL_law_418 ki_3 ?_
                  refine x_iadd hC dL_law_419 ?_
                  refine r_sld hB dL_law_420 ?_
                  refine x_aload_n hC dL_law_421 rfl 0 rfl ?_
                  refine x_iload_n hC dL_law_422 rfl 3 rfl ?_
                  refine x_iconst (v := (4 : Int32)) hC dL_law_423 ki_4 ?_
                  refine x_iadd hC dL_law_424 ?_
                  refine r_sld hB dL_law_425 ?_
                  refine x_aload_n hC dL_law_426 rfl 0 rfl ?_
                  refine x_iload_n hC dL_law_427 rfl 3 rfl ?_
                  refine x_iconst (v := (5 : Int32)) hC dL_law_428 ki_5 ?_
                  refine x_iadd hC dL_law_429 ?_
                  refine r_sld hB dL_law_430 ?_
                  refine r_L2 (as := [.int (xs (ix (v3_18 + (1 : Int32)))), .int (xs (ix (v3_18 + (2 : Int32)))), .int (xs (ix (v3_18 + (3 : Int32)))), .int (xs (ix (v3_18 + (4 : Int32)))), .int (xs (ix (v3_18 + (5 : Int32))))]) (rest := [.int u402_18]) (z := false) hB dL_law_431 kv_L_44 th_257 rfl rfl (Nat.le_of_ble_eq_true rfl) hn9 (fun v M' hv => f_X11_feed_met hB.2.2.2.2.2.1 (by decide) hv) (fun u431_18 M431_18 => ?_)
                  refine x_icmp_eq (tgt := 1309) hC dL_law_434 (by decide) ?_ ?_
                  · exact j_L_law_1309_18_ok hB hn9 M431_18 hR
                  · refine x_iconst (v := (0 : Int32)) hC dL_law_437 ki_0 ?_
                    exact x_done (fun h => absurd (show (0 : Int32) = 1 from h) (by decide))
                · skip
                  refine x_ite (fun hs => ?_) (fun hs7 => ?_)
                  · refine x_tsI (tgt := 439) (off := 406) hC dL_law_33 (by rw [hs]; decide +kernel) (by rw [hs]; decide +kernel) (by rw [hs]; decide +kernel) (by decide) ?_
                    refine x_aload_n hC dL_law_439 rfl 1 rfl ?_
                    refine x_aload_n hC dL_law_440 rfl 0 rfl ?_
                    refine x_iload_n hC dL_law_441 rfl 3 rfl ?_
                    refine x_iconst (v := (1 : Int32)) hC dL_law_442 ki_1 ?_
                    refine x_iadd hC dL_law_443 ?_
                    refine r_sld hB dL_law_444 ?_
                    refine r_L2 (as := [.int (xs (ix (v3_18 + (1 : Int32))))]) (rest := []) (z := true) hB dL_law_445 kv_L_45 th_0 rfl rfl (Nat.le_of_ble_eq_true rfl) hn9 (fun v M' hv => f_X10_end_met hB.2.2.2.2.2.1 (by decide) hv) (fun u445_18 M445_18 => ?_)
                    refine x_aload_n hC dL_law_448 rfl 2 rfl ?_
                    refine x_aload_n hC dL_law_449 rfl 0 rfl ?_
                    refine x_iload_n hC dL_law_450 rfl 3 rfl ?_
                    refine x_iconst (v := (1 : Int32)) hC dL_law_451 ki_1 ?_
                    refine x_iadd hC dL_law_452 ?_
                    refine r_sld hB dL_law_453 ?_
                    refine r_L2 (as := [.int (xs (ix (v3_18 + (1 : Int32))))]) (rest := [.int u445_18]) (z := false) hB dL_law_454 kv_L_49 th_257 rfl rfl (Nat.le_of_ble_eq_true rfl) hn9 (fun v M' hv => f_X11_end_met hB.2.2.2.2.2.1 (by decide) hv) (fun u454_18 M454_18 => ?_)
                    refine x_icmp_eq (tgt := 1309) hC dL_law_457 (by decide) ?_ ?_
                    · exact j_L_law_1309_18_ok hB hn9 M454_18 hR
                    · refine x_iconst (v := (0 : Int32)) hC dL_law_460 ki_0 ?_
                      exact x_done (fun h => absurd (show (0 : Int32) = 1 from h) (by decide))
                  · skip
                    refine x_ite (fun hs => ?_) (fun hs8 => ?_)
                    · refine x_tsI (tgt := 462) (off := 429) hC dL_law_33 (by rw [hs]; decide +kernel) (by rw [hs]; decide +kernel) (by rw [hs]; decide +kernel) (by decide) ?_
                      refine x_aload_n hC dL_law_462 rfl 1 rfl ?_
                      refine x_aload_n hC dL_law_463 rfl 0 rfl ?_
                      refine x_iload_n hC dL_law_464 rfl 3 rfl ?_
                      refine x_iconst (v := (1 : Int32)) hC dL_law_465 ki_1 ?_
                      refine x_iadd hC dL_law_466 ?_
                      refine r_sld hB dL_law_467 ?_
                      refine r_L2 (as := [.int (xs (ix (v3_18 + (1 : Int32))))]) (rest := []) (z := true) hB dL_law_468 kv_L_50 th_0 rfl rfl (Nat.le_of_ble_eq_true rfl) hn9 (fun v M' hv => f_X10_text_met hB.2.2.2.2.2.1 (by decide) hv) (fun u468_18 M468_18 => ?_)
                      refine x_aload_n hC dL_law_471 rfl 2 rfl ?_
                      refine x_aload_n hC dL_law_472 rfl 0 rfl ?_
                      refine x_iload_n hC dL_law_473 rfl 3 rfl ?_
                      refine x_iconst (v := (1 : Int32)) hC dL_law_474 ki_1 ?_
                      refine x_iadd hC dL_law_475 ?_
                      refine r_sld hB dL_law_476 ?_
                      refine r_L2 (as := [.int (xs (ix (v3_18 + (1 : Int32))))]) (rest := [.int u468_18]) (z := false) hB dL_law_477 kv_L_53 th_257 rfl rfl (Nat.le_of_ble_eq_true rfl) hn9 (fun v M' hv => f_X11_text_met hB.2.2.2.2.2.1 (by decide) hv) (fun u477_18 M477_18 => ?_)
                      refine x_icmp_eq (tgt := 1309) hC dL_law_480 (by decide) ?_ ?_
                      · exact j_L_law_1309_18_ok hB hn9 M477_18 hR
                      · refine x_iconst (v := (0 : Int32)) hC dL_law_483 ki_0 ?_
                        exact x_done (fun h => absurd (show (0 : Int32) = 1 from h) (by decide))
                    · skip
                      refine x_ite (fun hs => ?_) (fun hs9 => ?_)
                      · refine x_tsI (tgt := 485) (off := 452) hC dL_law_33 (by rw [hs]; decide +kernel) (by rw [hs]; decide +kernel) (by rw [hs]; decide +kernel) (by decide) ?_
                        refine x_aload_n hC dL_law_485 rfl 1 rfl ?_
                        refine x_aload_n hC dL_law_486 rfl 0 rfl ?_
                        refine x_iload_n hC dL_law_487 rfl 3 rfl ?_
                        refine x_iconst (v := (1 : Int32)) hC dL_law_488 ki_1 ?_
                        refine x_iadd hC dL_law_489 ?_
                        refine r_sld hB dL_law_490 ?_
                        refine r_L0 (as := [.int (xs (ix (v3_18 + (1 : Int32))))]) (rest := []) (z := true) hB dL_law_491 kv_L_54 th_0 rfl rfl (Nat.le_of_ble_eq_true rfl) hn9 (f_X10_fault_met hB.2.2.2.2.2.1 (by decide)) ?_
                        refine x_aload_n hC dL_law_494 rfl 2 rfl ?_
                        refine x_aload_n hC dL_law_495 rfl 0 rfl ?_
                        refine x_iload_n hC dL_law_496 rfl 3 rfl ?_
                        refine x_iconst (v := (1 : Int32)) hC dL_law_497 ki_1 ?_
                        refine x_iadd hC dL_law_498 ?_
                        refine r_sld hB dL_law_499 ?_
                        refine r_L0 (as := [.int (xs (ix (v3_18 + (1 : Int32))))]) (rest := [.int (f_X10_fault (xs (ix (v3_18 + (1 : Int32)))) M)]) (z := false) hB dL_law_500 kv_L_57 th_257 rfl rfl (Nat.le_of_ble_eq_true rfl) hn9 (f_X11_fault_met hB.2.2.2.2.2.1 (by decide)) ?_
                        refine x_icmp_eq (tgt := 1309) hC dL_law_503 (by decide) ?_ ?_
                        · exact j_L_law_1309_18_ok hB hn9 M hR
                        · refine x_iconst (v := (0 : Int32)) hC dL_law_506 ki_0 ?_
                          exact x_done (fun h => absurd (show (0 : Int32) = 1 from h) (by decide))
                      · skip
                        refine x_ite (fun hs => ?_) (fun hs10 => ?_)
                        · refine x_tsI (tgt := 508) (off := 475) hC dL_law_33 (by rw [hs]; decide +kernel) (by rw [hs]; decide +kernel) (by rw [hs]; decide +kernel) (by decide) ?_
                          refine x_aload_n hC dL_law_508 rfl 1 rfl ?_
                          refine x_aload_n hC dL_law_509 rfl 0 rfl ?_
                          refine x_iload_n hC dL_law_510 rfl 3 rfl ?_
                          refine x_iconst (v := (1 : Int32)) hC dL_law_511 ki_1 ?_
                          refine x_iadd hC dL_law_512 ?_
                          refine r_sld hB dL_law_513 ?_
                          refine x_aload_n hC dL_law_514 rfl 0 rfl ?_
                          refine x_iload_n hC dL_law_515 rfl 3 rfl ?_
                          refine x_iconst (v := (2 : Int32)) hC dL_law_516 ki_2 ?_
                          refine x_iadd hC dL_law_517 ?_
                          refine r_sld hB dL_law_518 ?_
                          refine r_L2 (as := [.int (xs (ix (v3_18 + (1 : Int32)))), .int (xs (ix (v3_18 + (2 : Int32))))]) (rest := []) (z := true) hB dL_law_519 kv_L_58 th_0 rfl rfl (Nat.le_of_ble_eq_true rfl) hn9 (fun v M' hv => f_X10_of_met hB.2.2.2.2.2.1 (by decide) hv) (fun u519_18 M519_18 => ?_)
                          refine x_aload_n hC dL_law_522 rfl 2 rfl ?_
                          refine x_aload_n hC dL_law_523 rfl 0 rfl ?_
                          refine x_iload_n hC dL_law_524 rfl 3 rfl ?_
                          refine x_iconst (v := (1 : Int32)) hC dL_law_525 ki_1 ?_
                          refine x_iadd hC dL_law_526 ?_
                          refine r_sld hB dL_law_527 ?_
                          refine x_aload_n hC dL_law_528 rfl 0 rfl ?_
                          refine x_iload_n hC dL_law_529 rfl 3 rfl ?_
                          refine x_iconst (v := (2 : Int32)) hC dL_law_530 ki_2 ?_
                          refine x_iadd hC dL_law_531 ?_
                          refine r_sld hB dL_law_532 ?_
                          refine r_L2 (as := [.int (xs (ix (v3_18 + (1 : Int32)))), .int (xs (ix (v3_18 + (2 : Int32))))]) (rest := [.int u519_18]) (z := false) hB dL_law_533 kv_L_62 th_257 rfl rfl (Nat.le_of_ble_eq_true rfl) hn9 (fun v M' hv => f_X11_of_met hB.2.2.2.2.2.1 (by decide) hv) (fun u533_18 M533_18 => ?_)
                          refine x_icmp_eq (tgt := 1309) hC dL_law_536 (by decide) ?_ ?_
                          · exact j_L_law_1309_18_ok hB hn9 M533_18 hR
                          · refine x_iconst (v := (0 : Int32)) hC dL_law_539 ki_0 ?_
                            exact x_done (fun h => absurd (show (0 : Int32) = 1 from h) (by decide))
                        · skip
                          refine x_ite (fun hs => ?_) (fun hs11 => ?_)
                          · refine x_tsI (tgt := 541) (off := 508) hC dL_law_33 (by rw [hs]; decide +kernel) (by rw [hs]; decide +kernel) (by rw [hs]; decide +kernel) (by decide) ?_
                            refine x_aload_n hC dL_law_541 rfl 1 rfl ?_
                            refine x_aload_n hC dL_law_542 rfl 0 rfl ?_
                            refine x_iload_n hC dL_law_543 rfl 3 rfl ?_
                            refine x_iconst (v := (1 : Int32)) hC dL_law_544 ki_1 ?_
                            refine x_iadd hC dL_law_545 ?_
                            refine r_sld hB dL_law_546 ?_
                            refine x_aload_n hC dL_law_547 rfl 0 rfl ?_
                            refine x_iload_n hC dL_law_548 rfl 3 rfl ?_
                            refine x_iconst (v := (2 : Int32)) hC dL_law_549 ki_2 ?_
                            refine x_iadd hC dL_law_550 ?_
                            refine r_sld hB dL_law_551 ?_
                            refine x_aload_n hC dL_law_552 rfl 0 rfl ?_
                            refine x_iload_n hC dL_law_553 rfl 3 rfl ?_
                            refine x_iconst (v := (3 : Int32)) hC dL_law_554 ki_3 ?_
                            refine x_iadd hC dL_law_555 ?_
                            refine r_sld hB dL_law_556 ?_
                            refine r_L1 (as := [.int (xs (ix (v3_18 + (1 : Int32)))), .int (xs (ix (v3_18 + (2 : Int32)))), .int (xs (ix (v3_18 + (3 : Int32))))]) (rest := []) (z := true) hB dL_law_557 kv_L_63 th_0 rfl rfl (Nat.le_of_ble_eq_true rfl) hn9 (fun v hv => f_X10_cell_met hB.2.2.2.2.2.1 (by decide) hv) (fun u557_18 => ?_)
                            refine x_aload_n hC dL_law_560 rfl 2 rfl ?_
                            refine x_aload_n hC dL_law_561 rfl 0 rfl ?_
                            refine x_iload_n hC dL_law_562 rfl 3 rfl ?_
                            refine x_iconst (v := (1 : Int32)) hC dL_law_563 ki_1 ?_
                            refine x_iadd hC dL_law_564 ?_
                            refine r_sld hB dL_law_565 ?_
                            refine x_aload_n hC dL_law_566 rfl 0 rfl ?_
                            refine x_iload_n hC dL_law_567 rfl 3 rfl ?_
                            refine x_iconst (v := (2 : Int32)) hC dL_law_568 ki_2 ?_
                            refine x_iadd hC dL_law_569 ?_
                            refine r_sld hB dL_law_570 ?_
                            refine x_aload_n hC dL_law_571 rfl 0 rfl ?_
                            refine x_iload_n hC dL_law_572 rfl 3 rfl ?_
                            refine x_iconst (v := (3 : Int32)) hC dL_law_573 ki_3 ?_
                            refine x_iadd hC dL_law_574 ?_
                            refine r_sld hB dL_law_575 ?_
                            refine r_L2 (as := [.int (xs (ix (v3_18 + (1 : Int32)))), .int (xs (ix (v3_18 + (2 : Int32)))), .int (xs (ix (v3_18 + (3 : Int32))))]) (rest := [.int u557_18]) (z := false) hB dL_law_576 kv_L_67 th_257 rfl rfl (Nat.le_of_ble_eq_true rfl) hn9 (fun v M' hv => f_X11_cell_met hB.2.2.2.2.2.1 (by decide) hv) (fun u576_18 M576_18 => ?_)
                            refine x_icmp_eq (tgt := 1309) hC dL_law_579 (by decide) ?_ ?_
                            · exact j_L_law_1309_18_ok hB hn9 M576_18 hR
                            · refine x_iconst (v := (0 : Int32)) hC dL_law_582 ki_0 ?_
                              exact x_done (fun h => absurd (show (0 : Int32) = 1 from h) (by decide))
                          · skip
                            refine x_ite (fun hs => ?_) (fun hs12 => ?_)
                            · refine x_tsI (tgt := 584) (off := 551) hC dL_law_33 (by rw [hs]; decide +kernel) (by rw [hs]; decide +kernel) (by rw [hs]; decide +kernel) (by decide) ?_
                              refine x_aload_n hC dL_law_584 rfl 1 rfl ?_
                              refine x_aload_n hC dL_law_585 rfl 0 rfl ?_
                              refine x_iload_n hC dL_law_586 rfl 3 rfl ?_
                              refine x_iconst (v := (1 : Int32)) hC dL_law_587 ki_1 ?_
                              refine x_iadd hC dL_law_588 ?_
                              refine r_sld hB dL_law_589 ?_
                              refine x_aload_n hC dL_law_590 rfl 0 rfl ?_
                              refine x_iload_n hC dL_law_591 rfl 3 rfl ?_
                              refine x_iconst (v := (2 : Int32)) hC dL_law_592 ki_2 ?_
                              refine x_iadd hC dL_law_593 ?_
                              refine r_sld hB dL_law_594 ?_
                              refine r_L1 (as := [.int (xs (ix (v3_18 + (1 : Int32)))), .int (xs (ix (v3_18 + (2 : Int32))))]) (rest := []) (z := true) hB dL_law_595 kv_L_68 th_0 rfl rfl (Nat.le_of_ble_eq_true rfl) hn9 (fun v hv => f_X10_book_met hB.2.2.2.2.2.1 (by decide) hv) (fun u595_18 => ?_)
                              refine x_aload_n hC dL_law_598 rfl 2 rfl ?_
                              refine x_aload_n hC dL_law_599 rfl 0 rfl ?_
                              refine x_iload_n hC dL_law_600 rfl 3 rfl ?_
                              refine x_iconst (v := (1 : Int32)) hC dL_law_601 ki_1 ?_
                              refine x_iadd hC dL_law_602 ?_
                              refine r_sld hB dL_law_603 ?_
                              refine x_aload_n hC dL_law_604 rfl 0 rfl ?_
                              refine x_iload_n hC dL_law_605 rfl 3 rfl ?_
                              refine x_iconst (v := (2 : Int32)) hC dL_law_606 ki_2 ?_
                              refine x_iadd hC dL_law_607 ?_
                              refine r_sld hB dL_law_608 ?_
                              refine r_L1 (as := [.int (xs (ix (v3_18 + (1 : Int32)))), .int (xs (ix (v3_18 + (2 : Int32))))]) (rest := [.int u595_18]) (z := false) hB dL_law_609 kv_L_71 th_257 rfl rfl (Nat.le_of_ble_eq_true rfl) hn9 (fun v hv => f_X11_book_met hB.2.2.2.2.2.1 (by decide) hv) (fun u609_18 => ?_)
                              refine x_icmp_eq (tgt := 1309) hC dL_law_612 (by decide) ?_ ?_
                              · exact j_L_law_1309_18_ok hB hn9 M hR
                              · refine x_iconst (v := (0 : Int32)) hC dL_law_615 ki_0 ?_
                                exact x_done (fun h => absurd (show (0 : Int32) = 1 from h) (by decide))
                            · skip
                              refine x_ite (fun hs => ?_) (fun hs13 => ?_)
                              · refine x_tsI (tgt := 617) (off := 584) hC dL_law_33 (by rw [hs]; decide +kernel) (by rw [hs]; decide +kernel) (by rw [hs]; decide +kernel) (by decide) ?_
                                refine x_aload_n hC dL_law_617 rfl 1 rfl ?_
                                refine x_aload_n hC dL_law_618 rfl 0 rfl ?_
                                refine x_iload_n hC dL_law_619 rfl 3 rfl ?_
                                refine x_iconst (v := (1 : Int32)) hC dL_law_620 ki_1 ?_
                                refine x_iadd hC dL_law_621 ?_
                                refine r_sld hB dL_law_622 ?_
                                refine x_aload_n hC dL_law_623 rfl 0 rfl ?_
                                refine x_iload_n hC dL_law_624 rfl 3 rfl ?_
                                refine x_iconst (v := (2 : Int32)) hC dL_law_625 ki_2 ?_
                                refine x_iadd hC dL_law_626 ?_
                                refine r_sld hB dL_law_627 ?_
                                refine r_L2 (as := [.int (xs (ix (v3_18 + (1 : Int32)))), .int (xs (ix (v3_18 + (2 : Int32))))]) (rest := []) (z := true) hB dL_law_628 kv_L_72 th_0 rfl rfl (Nat.le_of_ble_eq_true rfl) hn9 (fun v M' hv => f_X10_goes_met hB.2.2.2.2.2.1 (by decide) hv) (fun u628_18 M628_18 => ?_)
                                refine x_aload_n hC dL_law_631 rfl 2 rfl ?_
                                refine x_aload_n hC dL_law_632 rfl 0 rfl ?_
                                refine x_iload_n hC dL_law_633 rfl 3 rfl ?_
                                refine x_iconst (v := (1 : Int32)) hC dL_law_634 ki_1 ?_
                                refine x_iadd hC dL_law_635 ?_
                                refine r_sld hB dL_law_636 ?_
                                refine x_aload_n hC dL_law_637 rfl 0 rfl ?_
                                refine x_iload_n hC dL_law_638 rfl 3 rfl ?_
                                refine x_iconst (v := (2 : Int32)) hC dL_law_639 ki_2 ?_
                                refine x_iadd hC dL_law_640 ?_
                                refine r_sld hB dL_law_641 ?_
                                refine r_L2 (as := [.int (xs (ix (v3_18 + (1 : Int32)))), .int (xs (ix (v3_18 + (2 : Int32))))]) (rest := [.int u628_18]) (z := false) hB dL_law_642 kv_L_75 th_257 rfl rfl (Nat.le_of_ble_eq_true rfl) hn9 (fun v M' hv => f_X11_goes_met hB.2.2.2.2.2.1 (by decide) hv) (fun u642_18 M642_18 => ?_)
                                refine x_icmp_eq (tgt := 1309) hC dL_law_645 (by decide) ?_ ?_
                                · exact j_L_law_1309_18_ok hB hn9 M642_18 hR
                                · refine x_iconst (v := (0 : Int32)) hC dL_law_648 ki_0 ?_
                                  exact x_done (fun h => absurd (show (0 : Int32) = 1 from h) (by decide))
                              · skip
                                refine x_ite (fun hs => ?_) (fun hs14 => ?_)
                                · refine x_tsI (tgt := 650) (off := 617) hC dL_law_33 (by rw [hs]; decide +kernel) (by rw [hs]; decide +kernel) (by rw [hs]; decide +kernel) (by decide) ?_
                                  refine x_aload_n hC dL_law_650 rfl 1 rfl ?_
                                  refine x_aload_n hC dL_law_651 rfl 0 rfl ?_
                                  refine x_iload_n hC dL_law_652 rfl 3 rfl ?_
                                  refine x_iconst (v := (1 : Int32)) hC dL_law_653 ki_1 ?_
                                  refine x_iadd hC dL_law_654 ?_
                                  refine r_sld hB dL_law_655 ?_
                                  refine r_L2 (as := [.int (xs (ix (v3_18 + (1 : Int32))))]) (rest := []) (z := true) hB dL_law_656 kv_L_76 th_0 rfl rfl (Nat.le_of_ble_eq_true rfl) hn9 (fun v M' hv => f_X10_over_met hB.2.2.2.2.2.1 (by decide) hv) (fun u656_18 M656_18 => ?_)
                                  refine x_aload_n hC dL_law_659 rfl 2 rfl ?_
                                  refine x_aload_n hC dL_law_660 rfl 0 rfl ?_
                                  refine x_iload_n hC dL_law_661 rfl 3 rfl ?_
                                  refine x_iconst (v := (1 : Int32)) hC dL_law_662 ki_1 ?_
                                  refine x_iadd hC dL_law_663 ?_
                                  refine r_sld hB dL_law_664 ?_
                                  refine r_L2 (as := [.int (xs (ix (v3_18 + (1 : Int32))))]) (rest := [.int u656_18]) (z := false) hB dL_law_665 kv_L_79 th_257 rfl rfl (Nat.le_of_ble_eq_true rfl) hn9 (fun v M' hv => f_X11_over_met hB.2.2.2.2.2.1 (by decide) hv) (fun u665_18 M665_18 => ?_)
                                  refine x_icmp_eq (tgt := 1309) hC dL_law_668 (by decide) ?_ ?_
                                  · exact j_L_law_1309_18_ok hB hn9 M665_18 hR
                                  · refine x_iconst (v := (0 : Int32)) hC dL_law_671 ki_0 ?_
                                    exact x_done (fun h => absurd (show (0 : Int32) = 1 from h) (by decide))
                                · skip
                                  refine x_ite (fun hs => ?_) (fun hs15 => ?_)
                                  · refine x_tsI (tgt := 673) (off := 640) hC dL_law_33 (by rw [hs]; decide +kernel) (by rw [hs]; decide +kernel) (by rw [hs]; decide +kernel) (by decide) ?_
                                    refine x_aload_n hC dL_law_673 rfl 1 rfl ?_
                                    refine x_aload_n hC dL_law_674 rfl 0 rfl ?_
                                    refine x_iload_n hC dL_law_675 rfl 3 rfl ?_
                                    refine x_iconst (v := (1 : Int32)) hC dL_law_676 ki_1 ?_
                                    refine x_iadd hC dL_law_677 ?_
                                    refine r_sld hB dL_law_678 ?_
                                    refine x_aload_n hC dL_law_679 rfl 0 rfl ?_
                                    refine x_iload_n hC dL_law_680 rfl 3 rfl ?_
                                    refine x_iconst (v := (2 : Int32)) hC dL_law_681 ki_2 ?_
                                    refine x_iadd hC dL_law_682 ?_
                                    refine r_sld hB dL_law_683 ?_
                                    refine x_aload_n hC dL_law_684 rfl 0 rfl ?_
                                    refine x_iload_n hC dL_law_685 rfl 3 rfl ?_
                                    refine x_iconst (v := (3 : Int32)) hC dL_law_686 ki_3 ?_
                                    refine x_iadd hC dL_law_687 ?_
                                    refine r_sld hB dL_law_688 ?_
                                    refine x_aload_n hC dL_law_689 rfl 0 rfl ?_
                                    refine x_iload_n hC dL_law_690 rfl 3 rfl ?_
                                    refine x_iconst (v := (4 : Int32)) hC dL_law_691 ki_4 ?_
                                    refine x_iadd hC dL_law_692 ?_
                                    refine r_sld hB dL_law_693 ?_
                                    refine r_L2 (as := [.int (xs (ix (v3_18 + (1 : Int32)))), .int (xs (ix (v3_18 + (2 : Int32)))), .int (xs (ix (v3_18 + (3 : Int32)))), .int (xs (ix (v3_18 + (4 : Int32))))]) (rest := []) (z := true) hB dL_law_694 kv_L_80 th_0 rfl rfl (Nat.le_of_ble_eq_true rfl) hn9 (fun v M' hv => f_X10_far_met hB.2.2.2.2.2.1 (by decide) hv) (fun u694_18 M694_18 => ?_)
                                    refine x_aload_n hC dL_law_697 rfl 2 rfl ?_
                                    refine x_aload_n hC dL_law_698 rfl 0 rfl ?_
                                    refine x_iload_n hC dL_law_699 rfl 3 rfl ?_
                                    refine x_iconst (v := (1 : Int32)) hC dL_law_700 ki_1 ?_
                                    refine x_iadd hC dL_law_701 ?_
                                    refine r_sld hB dL_law_702 ?_
                                    refine x_aload_n hC dL_law_703 rfl 0 rfl ?_
                                    refine x_iload_n hC dL_law_704 rfl 3 rfl ?_
                                    refine x_iconst (v := (2 : Int32)) hC dL_law_705 ki_2 ?_
                                    refine x_iadd hC dL_law_706 ?_
                                    refine r_sld hB dL_law_707 ?_
                                    refine x_aload_n hC dL_law_708 rfl 0 rfl ?_
                                    refine x_iload_n hC dL_law_709 rfl 3 rfl ?_
                                    refine x_iconst (v := (3 : Int32)) hC dL_law_710 ki_3 ?_
                                    refine x_iadd hC dL_law_711 ?_
                                    refine r_sld hB dL_law_712 ?_
                                    refine x_aload_n hC dL_law_713 rfl 0 rfl ?_
                                    refine x_iload_n hC dL_law_714 rfl 3 rfl ?_
                                    refine x_iconst (v := (4 : Int32)) hC dL_law_715 ki_4 ?_
                                    refine x_iadd hC dL_law_716 ?_
                                    refine r_sld hB dL_law_717 ?_
                                    refine r_L2 (as := [.int (xs (ix (v3_18 + (1 : Int32)))), .int (xs (ix (v3_18 + (2 : Int32)))), .int (xs (ix (v3_18 + (3 : Int32)))), .int (xs (ix (v3_18 + (4 : Int32))))]) (rest := [.int u694_18]) (z := false) hB dL_law_718 kv_L_84 th_257 rfl rfl (Nat.le_of_ble_eq_true rfl) hn9 (fun v M' hv => f_X11_far_met hB.2.2.2.2.2.1 (by decide) hv) (fun u718_18 M718_18 => ?_)
                                    refine x_icmp_eq (tgt := 1309) hC dL_law_721 (by decide) ?_ ?_
                                    · exact j_L_law_1309_18_ok hB hn9 M718_18 hR
                                    · refine x_iconst (v := (0 : Int32)) hC dL_law_724 ki_0 ?_
                                      exact x_done (fun h => absurd (show (0 : Int32) = 1 from h) (by decide))
                                  · skip
                                    refine x_ite (fun hs => ?_) (fun hs16 => ?_)
                                    · refine x_tsI (tgt := 726) (off := 693) hC dL_law_33 (by rw [hs]; decide +kernel) (by rw [hs]; decide +kernel) (by rw [hs]; decide +kernel) (by decide) ?_
                                      refine x_aload_n hC dL_law_726 rfl 1 rfl ?_
                                      refine x_aload_n hC dL_law_727 rfl 0 rfl ?_
                                      refine x_iload_n hC dL_law_728 rfl 3 rfl ?_
                                      refine x_iconst (v := (1 : Int32)) hC dL_law_729 ki_1 ?_
                                      refine x_iadd hC dL_law_730 ?_
                                      refine r_sld hB dL_law_731 ?_
                                      refine x_aload_n hC dL_law_732 rfl 0 rfl ?_
                                      refine x_iload_n hC dL_law_733 rfl 3 rfl ?_
                                      refine x_iconst (v := (2 : Int32)) hC dL_law_734 ki_2 ?_
                                      refine x_iadd hC dL_law_735 ?_
                                      refine r_sld hB dL_law_736 ?_
                                      refine x_aload_n hC dL_law_737 rfl 0 rfl ?_
                                      refine x_iload_n hC dL_law_738 rfl 3 rfl ?_
                                      refine x_iconst (v := (3 : Int32)) hC dL_law_739 ki_3 ?_
                                      refine x_iadd hC dL_law_740 ?_
                                      refine r_sld hB dL_law_741 ?_
                                      refine x_aload_n hC dL_law_742 rfl 0 rfl ?_
                                      refine x_iload_n hC dL_law_743 rfl 3 rfl ?_
                                      refine x_iconst (v := (4 : Int32)) hC dL_law_744 ki_4 ?_
                                      refine x_iadd hC dL_law_745 ?_
                                      refine r_sld hB dL_law_746 ?_
                                      refine r_L2 (as := [.int (xs (ix (v3_18 + (1 : Int32)))), .int (xs (ix (v3_18 + (2 : Int32)))), .int (xs (ix (v3_18 + (3 : Int32)))), .int (xs (ix (v3_18 + (4 : Int32))))]) (rest := []) (z := true) hB dL_law_747 kv_L_85 th_0 rfl rfl (Nat.le_of_ble_eq_true rfl) hn9 (fun v M' hv => f_X10_with_met hB.2.2.2.2.2.1 (by decide) hv) (fun u747_18 M747_18 => ?_)
                                      refine x_aload_n hC dL_law_750 rfl 2 rfl ?_
                                      refine x_aload_n hC dL_law_751 rfl 0 rfl ?_
                                      refine x_iload_n hC dL_law_752 rfl 3 rfl ?_
                                      refine x_iconst (v := (1 : Int32)) hC dL_law_753 ki_1 ?_
                                      refine x_iadd hC dL_law_754 ?_
                                      refine r_sld hB dL_law_755 ?_
                                      refine x_aload_n hC dL_law_756 rfl 0 rfl ?_
                                      refine x_iload_n hC dL_law_757 rfl 3 rfl ?_
                                      refine x_iconst (v := (2 : Int32)) hC dL_law_758 ki_2 ?_
                                      refine x_iadd hC dL_law_759 ?_
                                      refine r_sld hB dL_law_760 ?_
                                      refine x_aload_n hC dL_law_761 rfl 0 rfl ?_
                                      refine x_iload_n hC dL_law_762 rfl 3 rfl ?_
                                      refine x_iconst (v := (3 : Int32)) hC dL_law_763 ki_3 ?_
                                      refine x_iadd hC dL_law_764 ?_
                                      refine r_sld hB dL_law_765 ?_
                                      refine x_aload_n hC dL_law_766 rfl 0 rfl ?_
                                      refine x_iload_n hC dL_law_767 rfl 3 rfl ?_
                                      refine x_iconst (v := (4 : Int32)) hC dL_law_768 ki_4 ?_
                                      refine x_iadd hC dL_law_769 ?_
                                      refine r_sld hB dL_law_770 ?_
                                      refine r_L2 (as := [.int (xs (ix (v3_18 + (1 : Int32)))), .int (xs (ix (v3_18 + (2 : Int32)))), .int (xs (ix (v3_18 + (3 : Int32)))), .int (xs (ix (v3_18 + (4 : Int32))))]) (rest := [.int u747_18]) (z := false) hB dL_law_771 kv_L_88 th_257 rfl rfl (Nat.le_of_ble_eq_true rfl) hn9 (fun v M' hv => f_X11_with_met hB.2.2.2.2.2.1 (by decide) hv) (fun u771_18 M771_18 => ?_)
                                      refine x_icmp_eq (tgt := 1309) hC dL_law_774 (by decide) ?_ ?_
                                      · exact j_L_law_1309_18_ok hB hn9 M771_18 hR
                                      · refine x_iconst (v := (0 : Int32)) hC dL_law_777 ki_0 ?_
                                        exact x_done (fun h => absurd (show (0 : Int32) = 1 from h) (by decide))
                                    · skip
                                      refine x_ite (fun hs => ?_) (fun hs17 => ?_)
                                      · refine x_tsI (tgt := 779) (off := 746) hC dL_law_33 (by rw [hs]; decide +kernel) (by rw [hs]; decide +kernel) (by rw [hs]; decide +kernel) (by decide) ?_
                                        refine x_aload_n hC dL_law_779 rfl 1 rfl ?_
                                        refine x_aload_n hC dL_law_780 rfl 0 rfl ?_
                                        refine x_iload_n hC dL_law_781 rfl 3 rfl ?_
                                        refine x_iconst (v := (1 : Int32)) hC dL_law_782 ki_1 ?_
                                        refine x_iadd hC dL_law_783 ?_
                                        refine r_sld hB dL_law_784 ?_
                                        refine x_aload_n hC dL_law_785 rfl 0 rfl ?_
                                        refine x_iload_n hC dL_law_786 rfl 3 rfl ?_
                                        refine x_iconst (v := (2 : Int32)) hC dL_law_787 ki_2 ?_
                                        refine x_iadd hC dL_law_788 ?_
                                        refine r_sld hB dL_law_789 ?_
                                        refine r_L1 (as := [.int (xs (ix (v3_18 + (1 : Int32)))), .int (xs (ix (v3_18 + (2 : Int32))))]) (rest := []) (z := true) hB dL_law_790 kv_L_89 th_0 rfl rfl (Nat.le_of_ble_eq_true rfl) hn9 (fun v hv => f_X10_seen_met hB.2.2.2.2.2.1 (by decide) hv) (fun u790_18 => ?_)
                                        refine x_aload_n hC dL_law_793 rfl 2 rfl ?_
                                        refine x_aload_n hC dL_law_794 rfl 0 rfl ?_
                                        refine x_iload_n hC dL_law_795 rfl 3 rfl ?_
                                        refine x_iconst (v := (1 : Int32)) hC dL_law_796 ki_1 ?_
                                        refine x_iadd hC dL_law_797 ?_
                                        refine r_sld hB dL_law_798 ?_
                                        refine x_aload_n hC dL_law_799 rfl 0 rfl ?_
                                        refine x_iload_n hC dL_law_800 rfl 3 rfl ?_
                                        refine x_iconst (v := (2 : Int32)) hC dL_law_801 ki_2 ?_
                                        refine x_iadd hC dL_law_802 ?_
                                        refine r_sld hB dL_law_803 ?_
                                        refine r_L1 (as := [.int (xs (ix (v3_18 + (1 : Int32)))), .int (xs (ix (v3_18 + (2 : Int32))))]) (rest := [.int u790_18]) (z := false) hB dL_law_804 kv_L_92 th_257 rfl rfl (Nat.le_of_ble_eq_true rfl) hn9 (fun v hv => f_X11_seen_met hB.2.2.2.2.2.1 (by decide) hv) (fun u804_18 => ?_)
                                        refine x_icmp_eq (tgt := 1309) hC dL_law_807 (by decide) ?_ ?_
                                        · exact j_L_law_1309_18_ok hB hn9 M hR
                                        · refine x_iconst (v := (0 : Int32)) hC dL_law_810 ki_0 ?_
                                          exact x_done (fun h => absurd (show (0 : Int32) = 1 from h) (by decide))
                                      · skip
                                        refine x_ite (fun hs => ?_) (fun hs18 => ?_)
                                        · refine x_tsI (tgt := 812) (off := 779) hC dL_law_33 (by rw [hs]; decide +kernel) (by rw [hs]; decide +kernel) (by rw [hs]; decide +kernel) (by decide) ?_
                                          refine x_aload_n hC dL_law_812 rfl 1 rfl ?_
                                          refine x_aload_n hC dL_law_813 rfl 0 rfl ?_
                                          refine x_iload_n hC dL_law_814 rfl 3 rfl ?_
                                          refine x_iconst (v := (1 : Int32)) hC dL_law_815 ki_1 ?_
                                          refine x_iadd hC dL_law_816 ?_
                                          refine r_sld hB dL_law_817 ?_
                                          refine x_aload_n hC dL_law_818 rfl 0 rfl ?_
                                          refine x_iload_n hC dL_law_819 rfl 3 rfl ?_
                                          refine x_iconst (v := (2 : Int32)) hC dL_law_820 ki_2 ?_
                                          refine x_iadd hC dL_law_821 ?_
                                          refine r_sld hB dL_law_822 ?_
                                          refine r_L2 (as := [.int (xs (ix (v3_18 + (1 : Int32)))), .int (xs (ix (v3_18 + (2 : Int32))))]) (rest := []) (z := true) hB dL_law_823 kv_L_93 th_0 rfl rfl (Nat.le_of_ble_eq_true rfl) hn9 (fun v M' hv => f_X10_known_met hB.2.2.2.2.2.1 (by decide) hv) (fun u823_18 M823_18 => ?_)
                                          refine x_aload_n hC dL_law_826 rfl 2 rfl ?_
                                          refine x_aload_n hC dL_law_827 rfl 0 rfl ?_
                                          refine x_iload_n hC dL_law_828 rfl 3 rfl ?_
                                          refine x_iconst (v := (1 : Int32)) hC dL_law_829 ki_1 ?_
                                          refine x_iadd hC dL_law_830 ?_
                                          refine r_sld hB dL_law_831 ?_
                                          refine x_aload_n hC dL_law_832 rfl 0 rfl ?_
                                          refine x_iload_n hC dL_law_833 rfl 3 rfl ?_
                                          refine x_iconst (v := (2 : Int32)) hC dL_law_834 ki_2 ?_
                                          refine x_iadd hC dL_law_835 ?_
                                          refine r_sld hB dL_law_836 ?_
                                          refine r_L2 (as := [.int (xs (ix (v3_18 + (1 : Int32)))), .int (xs (ix (v3_18 + (2 : Int32))))]) (rest := [.int u823_18]) (z := false) hB dL_law_837 kv_L_96 th_257 rfl rfl (Nat.le_of_ble_eq_true rfl) hn9 (fun v M' hv => f_X11_known_met hB.2.2.2.2.2.1 (by decide) hv) (fun u837_18 M837_18 => ?_)
                                          refine x_icmp_eq (tgt := 1309) hC dL_law_840 (by decide) ?_ ?_
                                          · exact j_L_law_1309_18_ok hB hn9 M837_18 hR
                                          · refine x_iconst (v := (0 : Int32)) hC dL_law_843 ki_0 ?_
                                            exact x_done (fun h => absurd (show (0 : Int32) = 1 from h) (by decide))
                                        · skip
                                          refine x_ite (fun hs => ?_) (fun hs19 => ?_)
                                          · refine x_tsI (tgt := 845) (off := 812) hC dL_law_33 (by rw [hs]; decide +kernel) (by rw [hs]; decide +kernel) (by rw [hs]; decide +kernel) (by decide) ?_
                                            refine x_aload_n hC dL_law_845 rfl 1 rfl ?_
                                            refine x_aload_n hC dL_law_846 rfl 0 rfl ?_
                                            refine x_iload_n hC dL_law_847 rfl 3 rfl ?_
                                            refine x_iconst (v := (1 : Int32)) hC dL_law_848 ki_1 ?_
                                            refine x_iadd hC dL_law_849 ?_
                                            refine r_sld hB dL_law_850 ?_
                                            refine r_L1 (as := [.int (xs (ix (v3_18 + (1 : Int32))))]) (rest := []) (z := true) hB dL_law_851 kv_L_97 th_0 rfl rfl (Nat.le_of_ble_eq_true rfl) hn9 (fun v hv => f_X10_one_met hB.2.2.2.2.2.1 (by decide) hv) (fun u851_18 => ?_)
                                            refine x_aload_n hC dL_law_854 rfl 2 rfl ?_
                                            refine x_aload_n hC dL_law_855 rfl 0 rfl ?_
                                            refine x_iload_n hC dL_law_856 rfl 3 rfl ?_
                                            refine x_iconst (v := (1 : Int32)) hC dL_law_857 ki_1 ?_
                                            refine x_iadd hC dL_law_858 ?_
                                            refine r_sld hB dL_law_859 ?_
                                            refine r_L1 (as := [.int (xs (ix (v3_18 + (1 : Int32))))]) (rest := [.int u851_18]) (z := false) hB dL_law_860 kv_L_100 th_257 rfl rfl (Nat.le_of_ble_eq_true rfl) hn9 (fun v hv => f_X11_one_met hB.2.2.2.2.2.1 (by decide) hv) (fun u860_18 => ?_)
                                            refine x_icmp_eq (tgt := 1309) hC dL_law_863 (by decide) ?_ ?_
                                            · exact j_L_law_1309_18_ok hB hn9 M hR
                                            · refine x_iconst (v := (0 : Int32)) hC dL_law_866 ki_0 ?_
                                              exact x_done (fun h => absurd (show (0 : Int32) = 1 from h) (by decide))
                                          · skip
                                            refine x_ite (fun hs => ?_) (fun hs20 => ?_)
                                            · refine x_tsI (tgt := 868) (off := 835) hC dL_law_33 (by rw [hs]; decide +kernel) (by rw [hs]; decide +kernel) (by rw [hs]; decide +kernel) (by decide) ?_
                                              refine x_aload_n hC dL_law_868 rfl 1 rfl ?_
                                              refine x_aload_n hC dL_law_869 rfl 0 rfl ?_
                                              refine x_iload_n hC dL_law_870 rfl 3 rfl ?_
                                              refine x_iconst (v := (1 : Int32)) hC dL_law_871 ki_1 ?_
                                              refine x_iadd hC dL_law_872 ?_
                                              refine r_sld hB dL_law_873 ?_
                                              refine r_L2 (as := [.int (xs (ix (v3_18 + (1 : Int32))))]) (rest := []) (z := true) hB dL_law_874 kv_L_101 th_0 rfl rfl (Nat.le_of_ble_eq_true rfl) hn9 (fun v M' hv => f_X10_move_met hB.2.2.2.2.2.1 (by decide) hv) (fun u874_18 M874_18 => ?_)
                                              refine x_aload_n hC dL_law_877 rfl 2 rfl ?_
                                              refine x_aload_n hC dL_law_878 rfl 0 rfl ?_
                                              refine x_iload_n hC dL_law_879 rfl 3 rfl ?_
                                              refine x_iconst (v := (1 : Int32)) hC dL_law_880 ki_1 ?_
                                              refine x_iadd hC dL_law_881 ?_
                                              refine r_sld hB dL_law_882 ?_
                                              refine r_L2 (as := [.int (xs (ix (v3_18 + (1 : Int32))))]) (rest := [.int u874_18]) (z := false) hB dL_law_883 kv_L_104 th_257 rfl rfl (Nat.le_of_ble_eq_true rfl) hn9 (fun v M' hv => f_X11_move_met hB.2.2.2.2.2.1 (by decide) hv) (fun u883_18 M883_18 => ?_)
                                              refine x_icmp_eq (tgt := 1309) hC dL_law_886 (by decide) ?_ ?_
                                              · exact j_L_law_1309_18_ok hB hn9 M883_18 hR
                                              · refine x_iconst (v := (0 : Int32)) hC dL_law_889 ki_0 ?_
                                                exact x_done (fun h => absurd (show (0 : Int32) = 1 from h) (by decide))
                                            · skip
                                              refine x_ite (fun hs => ?_) (fun hs21 => ?_)
                                              · refine x_tsI (tgt := 891) (off := 858) hC dL_law_33 (by rw [hs]; decide +kernel) (by rw [hs]; decide +kernel) (by rw [hs]; decide +kernel) (by decide) ?_
                                                refine x_aload_n hC dL_law_891 rfl 1 rfl ?_
                                                refine x_aload_n hC dL_law_892 rfl 0 rfl ?_
                                                refine x_iload_n hC dL_law_893 rfl 3 rfl ?_
                                                refine x_iconst (v := (1 : Int32)) hC dL_law_894 ki_1 ?_
                                                refine x_iadd hC dL_law_895 ?_
                                                refine r_sld hB dL_law_896 ?_
                                                refine r_L2 (as := [.int (xs (ix (v3_18 + (1 : Int32))))]) (rest := []) (z := true) hB dL_law_897 kv_L_105 th_0 rfl rfl (Nat.le_of_ble_eq_true rfl) hn9 (fun v M' hv => f_X10_round_met hB.2.2.2.2.2.1 (by decide) hv) (fun u897_18 M897_18 => ?_)
                                                refine x_aload_n hC dL_law_900 rfl 2 rfl ?_
                                                refine x_aload_n hC dL_law_901 rfl 0 rfl ?_
                                                refine x_iload_n hC dL_law_902 rfl 3 rfl ?_
                                                refine x_iconst (v := (1 : Int32)) hC dL_law_903 ki_1 ?_
                                                refine x_iadd hC dL_law_904 ?_
                                                refine r_sld hB dL_law_905 ?_
                                                refine r_L2 (as := [.int (xs (ix (v3_18 + (1 : Int32))))]) (rest := [.int u897_18]) (z := false) hB dL_law_906 kv_L_108 th_257 rfl rfl (Nat.le_of_ble_eq_true rfl) hn9 (fun v M' hv => f_X11_round_met hB.2.2.2.2.2.1 (by decide) hv) (fun u906_18 M906_18 => ?_)
                                                refine x_icmp_eq (tgt := 1309) hC dL_law_909 (by decide) ?_ ?_
                                                · exact j_L_law_1309_18_ok hB hn9 M906_18 hR
                                                · refine x_iconst (v := (0 : Int32)) hC dL_law_912 ki_0 ?_
                                                  exact x_done (fun h => absurd (show (0 : Int32) = 1 from h) (by decide))
                                              · skip
                                                refine x_ite (fun hs => ?_) (fun hs22 => ?_)
                                                · refine x_tsI (tgt := 914) (off := 881) hC dL_law_33 (by rw [hs]; decide +kernel) (by rw [hs]; decide +kernel) (by rw [hs]; decide +kernel) (by decide) ?_
                                                  refine x_aload_n hC dL_law_914 rfl 1 rfl ?_
                                                  refine x_aload_n hC dL_law_915 rfl 0 rfl ?_
                                                  refine x_iload_n hC dL_law_916 rfl 3 rfl ?_
                                                  refine x_iconst (v := (1 : Int32)) hC dL_law_917 ki_1 ?_
                                                  refine x_iadd hC dL_law_918 ?_
                                                  refine r_sld hB dL_law_919 ?_
                                                  refine x_aload_n hC dL_law_920 rfl 0 rfl ?_
                                                  refine x_iload_n hC dL_law_921 rfl 3 rfl ?_
                                                  refine x_iconst (v := (2 : Int32)) hC dL_law_922 ki_2 ?_
                                                  refine x_iadd hC dL_law_923 ?_
                                                  refine r_sld hB dL_law_924 ?_
                                                  refine x_aload_n hC dL_law_925 rfl 0 rfl ?_
                                                  refine x_iload_n hC dL_law_926 rfl 3 rfl ?_
                                                  refine x_iconst (v := (3 : Int32)) hC dL_law_927 ki_3 ?_
                                                  refine x_iadd hC dL_law_928 ?_
                                                  refine r_sld hB dL_law_929 ?_
                                                  refine r_L1 (as := [.int (xs (ix (v3_18 + (1 : Int32)))), .int (xs (ix (v3_18 + (2 : Int32)))), .int (xs (ix (v3_18 + (3 : Int32))))]) (rest := []) (z := true) hB dL_law_930 kv_L_109 th_0 rfl rfl (Nat.le_of_ble_eq_true rfl) hn9 (fun v hv => f_X10_folded_met hB.2.2.2.2.2.1 (by decide) hv) (fun u930_18 => ?_)
                                                  refine x_aload_n hC dL_law_933 rfl 2 rfl ?_
                                                  refine x_aload_n hC dL_law_934 rfl 0 rfl ?_
                                                  refine x_iload_n hC dL_law_935 rfl 3 rfl ?_
                                                  refine x_iconst (v := (1 : Int32)) hC dL_law_936 ki_1 ?_
                                                  refine x_iadd hC dL_law_937 ?_
                                                  refine r_sld hB dL_law_938 ?_
                                                  refine x_aload_n hC dL_law_939 rfl 0 rfl ?_
                                                  refine x_iload_n hC dL_law_940 rfl 3 rfl ?_
                                                  refine x_iconst (v := (2 : Int32)) hC dL_law_941 ki_2 ?_
                                                  refine x_iadd hC dL_law_942 ?_
                                                  refine r_sld hB dL_law_943 ?_
                                                  refine x_aload_n hC dL_law_944 rfl 0 rfl ?_
                                                  refine x_iload_n hC dL_law_945 rfl 3 rfl ?_
                                                  refine x_iconst (v := (3 : Int32)) hC dL_law_946 ki_3 ?_
                                                  refine x_iadd hC dL_law_947 ?_
                                                  refine r_sld hB dL_law_948 ?_
                                                  refine r_L1 (as := [.int (xs (ix (v3_18 + (1 : Int32)))), .int (xs (ix (v3_18 + (2 : Int32)))), .int (xs (ix (v3_18 + (3 : Int32))))]) (rest := [.int u930_18]) (z := false) hB dL_law_949 kv_L_112 th_257 rfl rfl (Nat.le_of_ble_eq_true rfl) hn9 (fun v hv => f_X11_folded_met hB.2.2.2.2.2.1 (by decide) hv) (fun u949_18 => ?_)
                                                  refine x_icmp_eq (tgt := 1309) hC dL_law_952 (by decide) ?_ ?_
                                                  · exact j_L_law_1309_18_ok hB hn9 M hR
                                                  · refine x_iconst (v := (0 : Int32)) hC dL_law_955 ki_0 ?_
                                                    exact x_done (fun h => absurd (show (0 : Int32) = 1 from h) (by decide))
                                                · skip
                                                  refine x_ite (fun hs => ?_) (fun hs23 => ?_)
                                                  · refine x_tsI (tgt := 957) (off := 924) hC dL_law_33 (by rw [hs]; decide +kernel) (by rw [hs]; decide +kernel) (by rw [hs]; decide +kernel) (by decide) ?_
                                                    refine x_aload_n hC dL_law_957 rfl 1 rfl ?_
                                                    refine x_aload_n hC dL_law_958 rfl 0 rfl ?_
                                                    refine x_iload_n hC dL_law_959 rfl 3 rfl ?_
                                                    refine x_iconst (v := (1 : Int32)) hC dL_law_960 ki_1 ?_
                                                    refine x_iadd hC dL_law_961 ?_
                                                    refine r_sld hB dL_law_962 ?_
                                                    refine x_aload_n hC dL_law_963 rfl 0 rfl ?_
                                                    refine x_iload_n hC dL_law_964 rfl 3 rfl ?_
                                                    refine x_iconst (v := (2 : Int32)) hC dL_law_965 ki_2 ?_
                                                    refine x_iadd hC dL_law_966 ?_
                                                    refine r_sld hB dL_law_967 ?_
                                                    refine x_aload_n hC dL_law_968 rfl 0 rfl ?_
                                                    refine x_iload_n hC dL_law_969 rfl 3 rfl ?_
                                                    refine x_iconst (v := (3 : Int32)) hC dL_law_970 ki_3 ?_
                                                    refine x_iadd hC dL_law_971 ?_
                                                    refine r_sld hB dL_law_972 ?_
                                                    refine r_L2 (as := [.int (xs (ix (v3_18 + (1 : Int32)))), .int (xs (ix (v3_18 + (2 : Int32)))), .int (xs (ix (v3_18 + (3 : Int32))))]) (rest := []) (z := true) hB dL_law_973 kv_L_113 th_0 rfl rfl (Nat.le_of_ble_eq_true rfl) hn9 (fun v M' hv => f_X10_duel_met hB.2.2.2.2.2.1 (by decide) hv) (fun u973_18 M973_18 => ?_)
                                                    refine x_aload_n hC dL_law_976 rfl 2 rfl ?_
                                                    refine x_aload_n hC dL_law_977 rfl 0 rfl ?_
                                                    refine x_iload_n hC dL_law_978 rfl 3 rfl ?_
                                                    refine x_iconst (v := (1 : Int32)) hC dL_law_979 ki_1 ?_
                                                    refine x_iadd hC dL_law_980 ?_
                                                    refine r_sld hB dL_law_981 ?_
                                                    refine x_aload_n hC dL_law_982 rfl 0 rfl ?_
                                                    refine x_iload_n hC dL_law_983 rfl 3 rfl ?_
                                                    refine x_iconst (v := (2 : Int32)) hC dL_law_984 ki_2 ?_
                                                    refine x_iadd hC dL_law_985 ?_
                                                    refine r_sld hB dL_law_986 ?_
                                                    refine x_aload_n hC dL_law_987 rfl 0 rfl ?_
                                                    refine x_iload_n hC dL_law_988 rfl 3 rfl ?_
                                                    refine x_iconst (v := (3 : Int32)) hC dL_law_989 ki_3 ?_
                                                    refine x_iadd hC dL_law_990 ?_
                                                    refine r_sld hB dL_law_991 ?_
                                                    refine r_L2 (as := [.int (xs (ix (v3_18 + (1 : Int32)))), .int (xs (ix (v3_18 + (2 : Int32)))), .int (xs (ix (v3_18 + (3 : Int32))))]) (rest := [.int u973_18]) (z := false) hB dL_law_992 kv_L_116 th_257 rfl rfl (Nat.le_of_ble_eq_true rfl) hn9 (fun v M' hv => f_X11_duel_met hB.2.2.2.2.2.1 (by decide) hv) (fun u992_18 M992_18 => ?_)
                                                    refine x_icmp_eq (tgt := 1309) hC dL_law_995 (by decide) ?_ ?_
                                                    · exact j_L_law_1309_18_ok hB hn9 M992_18 hR
                                                    · refine x_iconst (v := (0 : Int32)) hC dL_law_998 ki_0 ?_
                                                      exact x_done (fun h => absurd (show (0 : Int32) = 1 from h) (by decide))
                                                  · skip
                                                    refine x_ite (fun hs => ?_) (fun hs24 => ?_)
                                                    · refine x_tsI (tgt := 1000) (off := 967) hC dL_law_33 (by rw [hs]; decide +kernel) (by rw [hs]; decide +kernel) (by rw [hs]; decide +kernel) (by decide) ?_
                                                      refine x_aload_n hC dL_law_1000 rfl 1 rfl ?_
                                                      refine x_aload_n hC dL_law_1001 rfl 0 rfl ?_
                                                      refine x_iload_n hC dL_law_1002 rfl 3 rfl ?_
                                                      refine x_iconst (v := (1 : Int32)) hC dL_law_1003 ki_1 ?_
                                                      refine x_iadd hC dL_law_1004 ?_
                                                      refine r_sld hB dL_law_1005 ?_
                                                      refine x_aload_n hC dL_law_1006 rfl 0 rfl ?_
                                                      refine x_iload_n hC dL_law_1007 rfl 3 rfl ?_
                                                      refine x_iconst (v := (2 : Int32)) hC dL_law_1008 ki_2 ?_
                                                      refine x_iadd hC dL_law_1009 ?_
                                                      refine r_sld hB dL_law_1010 ?_
                                                      refine r_L2 (as := [.int (xs (ix (v3_18 + (1 : Int32)))), .int (xs (ix (v3_18 + (2 : Int32))))]) (rest := []) (z := true) hB dL_law_1011 kv_L_117 th_0 rfl rfl (Nat.le_of_ble_eq_true rfl) hn9 (fun v M' hv => f_X10_ant_met hB.2.2.2.2.2.1 (by decide) hv) (fun u1011_18 M1011_18 => ?_)
                                                      refine x_aload_n hC dL_law_1014 rfl 2 rfl ?_
                                                      refine x_aload_n hC dL_law_1015 rfl 0 rfl ?_
                                                      refine x_iload_n hC dL_law_1016 rfl 3 rfl ?_
                                                      refine x_iconst (v := (1 : Int32)) hC dL_law_1017 ki_1 ?_
                                                      refine x_iadd hC dL_law_1018 ?_
                                                      refine r_sld hB dL_law_1019 ?_
                                                      refine x_aload_n hC dL_law_1020 rfl 0 rfl ?_
                                                      refine x_iload_n hC dL_law_1021 rfl 3 rfl ?_
                                                      refine x_iconst (v := (2 : Int32)) hC dL_law_1022 ki_2 ?_
                                                      refine x_iadd hC dL_law_1023 ?_
                                                      refine r_sld hB dL_law_1024 ?_
                                                      refine r_L2 (as := [.int (xs (ix (v3_18 + (1 : Int32)))), .int (xs (ix (v3_18 + (2 : Int32))))]) (rest := [.int u1011_18]) (z := false) hB dL_law_1025 kv_L_120 th_257 rfl rfl (Nat.le_of_ble_eq_true rfl) hn9 (fun v M' hv => f_X11_ant_met hB.2.2.2.2.2.1 (by decide) hv) (fun u1025_18 M1025_18 => ?_)
                                                      refine x_icmp_eq (tgt := 1309) hC dL_law_1028 (by decide) ?_ ?_
                                                      · exact j_L_law_1309_18_ok hB hn9 M1025_18 hR
                                                      · refine x_iconst (v := (0 : Int32)) hC dL_law_1031 ki_0 ?_
                                                        exact x_done (fun h => absurd (show (0 : Int32) = 1 from h) (by decide))
                                                    · skip
                                                      refine x_ite (fun hs => ?_) (fun hs25 => ?_)
                                                      · refine x_tsI (tgt := 1033) (off := 1000) hC dL_law_33 (by rw [hs]; decide +kernel) (by rw [hs]; decide +kernel) (by rw [hs]; decide +kernel) (by decide) ?_
                                                        refine x_aload_n hC dL_law_1033 rfl 1 rfl ?_
                                                        refine x_aload_n hC dL_law_1034 rfl 0 rfl ?_
                                                        refine x_iload_n hC dL_law_1035 rfl 3 rfl ?_
                                                        refine x_iconst (v := (1 : Int32)) hC dL_law_1036 ki_1 ?_
                                                        refine x_iadd hC dL_law_1037 ?_
                                                        refine r_sld hB dL_law_1038 ?_
                                                        refine x_aload_n hC dL_law_1039 rfl 0 rfl ?_
                                                        refine x_iload_n hC dL_law_1040 rfl 3 rfl ?_
                                                        refine x_iconst (v := (2 : Int32)) hC dL_law_1041 ki_2 ?_
                                                        refine x_iadd hC dL_law_1042 ?_
                                                        refine r_sld hB dL_law_1043 ?_
                                                        refine r_L2 (as := [.int (xs (ix (v3_18 + (1 : Int32)))), .int (xs (ix (v3_18 + (2 : Int32))))]) (rest := []) (z := true) hB dL_law_1044 kv_L_121 th_0 rfl rfl (Nat.le_of_ble_eq_true rfl) hn9 (fun v M' hv => f_X10_hooks_met hB.2.2.2.2.2.1 (by decide) hv) (fun u1044_18 M1044_18 => ?_)
                                                        refine x_aload_n hC dL_law_1047 rfl 2 rfl ?_
                                                        refine x_aload_n hC dL_law_1048 rfl 0 rfl ?_
                                                        refine x_iload_n hC dL_law_1049 rfl 3 rfl ?_
                                                        refine x_iconst (v := (1 : Int32)) hC dL_law_1050 ki_1 ?_
                                                        refine x_iadd hC dL_law_1051 ?_
                                                        refine r_sld hB dL_law_1052 ?_
                                                        refine x_aload_n hC dL_law_1053 rfl 0 rfl ?_
                                                        refine x_iload_n hC dL_law_1054 rfl 3 rfl ?_
                                                        refine x_iconst (v := (2 : Int32)) hC dL_law_1055 ki_2 ?_
                                                        refine x_iadd hC dL_law_1056 ?_
                                                        refine r_sld hB dL_law_1057 ?_
                                                        refine r_L2 (as := [.int (xs (ix (v3_18 + (1 : Int32)))), .int (xs (ix (v3_18 + (2 : Int32))))]) (rest := [.int u1044_18]) (z := false) hB dL_law_1058 kv_L_124 th_257 rfl rfl (Nat.le_of_ble_eq_true rfl) hn9 (fun v M' hv => f_X11_hooks_met hB.2.2.2.2.2.1 (by decide) hv) (fun u1058_18 M1058_18 => ?_)
                                                        refine x_icmp_eq (tgt := 1309) hC dL_law_1061 (by decide) ?_ ?_
                                                        · exact j_L_law_1309_18_ok hB hn9 M1058_18 hR
                                                        · refine x_iconst (v := (0 : Int32)) hC dL_law_1064 ki_0 ?_
                                                          exact x_done (fun h => absurd (show (0 : Int32) = 1 from h) (by decide))
                                                      · skip
                                                        refine x_ite (fun hs => ?_) (fun hs26 => ?_)
                                                        · refine x_tsI (tgt := 1066) (off := 1033) hC dL_law_33 (by rw [hs]; decide +kernel) (by rw [hs]; decide +kernel) (by rw [hs]; decide +kernel) (by decide) ?_
                                                          refine x_aload_n hC dL_law_1066 rfl 1 rfl ?_
                                                          refine x_aload_n hC dL_law_1067 rfl 0 rfl ?_
                                                          refine x_iload_n hC dL_law_1068 rfl 3 rfl ?_
                                                          refine x_iconst (v := (1 : Int32)) hC dL_law_1069 ki_1 ?_
                                                          refine x_iadd hC dL_law_1070 ?_
                                                          refine r_sld hB dL_law_1071 ?_
                                                          refine r_L2 (as := [.int (xs (ix (v3_18 + (1 : Int32))))]) (rest := []) (z := true) hB dL_law_1072 kv_L_125 th_0 rfl rfl (Nat.le_of_ble_eq_true rfl) hn9 (fun v M' hv => f_X10_apart_met hB.2.2.2.2.2.1 (by decide) hv) (fun u1072_18 M1072_18 => ?_)
                                                          refine x_aload_n hC dL_law_1075 rfl 2 rfl ?_
                                                          refine x_aload_n hC dL_law_1076 rfl 0 rfl ?_
                                                          refine x_iload_n hC dL_law_1077 rfl 3 rfl ?_
                                                          refine x_iconst (v := (1 : Int32)) hC dL_law_1078 ki_1 ?_
                                                          refine x_iadd hC dL_law_1079 ?_
                                                          refine r_sld hB dL_law_1080 ?_
                                                          refine r_L2 (as := [.int (xs (ix (v3_18 + (1 : Int32))))]) (rest := [.int u1072_18]) (z := false) hB dL_law_1081 kv_L_128 th_257 rfl rfl (Nat.le_of_ble_eq_true rfl) hn9 (fun v M' hv => f_X11_apart_met hB.2.2.2.2.2.1 (by decide) hv) (fun u1081_18 M1081_18 => ?_)
                                                          refine x_icmp_eq (tgt := 1309) hC dL_law_1084 (by decide) ?_ ?_
                                                          · exact j_L_law_1309_18_ok hB hn9 M1081_18 hR
                                                          · refine x_iconst (v := (0 : Int32)) hC dL_law_1087 ki_0 ?_
                                                            exact x_done (fun h => absurd (show (0 : Int32) = 1 from h) (by decide))
                                                        · skip
                                                          refine x_ite (fun hs => ?_) (fun hs27 => ?_)
                                                          · refine x_tsI (tgt := 1089) (off := 1056) hC dL_law_33 (by rw [hs]; decide +kernel) (by rw [hs]; decide +kernel) (by rw [hs]; decide +kernel) (by decide) ?_
                                                            refine x_aload_n hC dL_law_1089 rfl 1 rfl ?_
                                                            refine x_aload_n hC dL_law_1090 rfl 0 rfl ?_
                                                            refine x_iload_n hC dL_law_1091 rfl 3 rfl ?_
                                                            refine x_iconst (v := (1 : Int32)) hC dL_law_1092 ki_1 ?_
                                                            refine x_iadd hC dL_law_1093 ?_
                                                            refine r_sld hB dL_law_1094 ?_
                                                            refine x_aload_n hC dL_law_1095 rfl 0 rfl ?_
                                                            refine x_iload_n hC dL_law_1096 rfl 3 rfl ?_
                                                            refine x_iconst (v := (2 : Int32)) hC dL_law_1097 ki_2 ?_
                                                            refine x_iadd hC dL_law_1098 ?_
                                                            refine r_sld hB dL_law_1099 ?_
                                                            refine r_L2 (as := [.int (xs (ix (v3_18 + (1 : Int32)))), .int (xs (ix (v3_18 + (2 : Int32))))]) (rest := []) (z := true) hB dL_law_1100 kv_L_129 th_0 rfl rfl (Nat.le_of_ble_eq_true rfl) hn9 (fun v M' hv => f_X10_gap_met hB.2.2.2.2.2.1 (by decide) hv) (fun u1100_18 M1100_18 => ?_)
                                                            refine x_aload_n hC dL_law_1103 rfl 2 rfl ?_
                                                            refine x_aload_n hC dL_law_1104 rfl 0 rfl ?_
                                                            refine x_iload_n hC dL_law_1105 rfl 3 rfl ?_
                                                            refine x_iconst (v := (1 : Int32)) hC dL_law_1106 ki_1 ?_
                                                            refine x_iadd hC dL_law_1107 ?_
                                                            refine r_sld hB dL_law_1108 ?_
                                                            refine x_aload_n hC dL_law_1109 rfl 0 rfl ?_
                                                            refine x_iload_n hC dL_law_1110 rfl 3 rfl ?_
                                                            refine x_iconst (v := (2 : Int32)) hC dL_law_1111 ki_2 ?_
                                                            refine x_iadd hC dL_law_1112 ?_
                                                            refine r_sld hB dL_law_1113 ?_
                                                            refine r_L2 (as := [.int (xs (ix (v3_18 + (1 : Int32)))), .int (xs (ix (v3_18 + (2 : Int32))))]) (rest := [.int u1100_18]) (z := false) hB dL_law_1114 kv_L_132 th_257 rfl rfl (Nat.le_of_ble_eq_true rfl) hn9 (fun v M' hv => f_X11_gap_met hB.2.2.2.2.2.1 (by decide) hv) (fun u1114_18 M1114_18 => ?_)
                                                            refine x_icmp_eq (tgt := 1309) hC dL_law_1117 (by decide) ?_ ?_
                                                            · exact j_L_law_1309_18_ok hB hn9 M1114_18 hR
                                                            · refine x_iconst (v := (0 : Int32)) hC dL_law_1120 ki_0 ?_
                                                              exact x_done (fun h => absurd (show (0 : Int32) = 1 from h) (by decide))
                                                          · skip
                                                            refine x_ite (fun hs => ?_) (fun hs28 => ?_)
                                                            · refine x_tsI (tgt := 1122) (off := 1089) hC dL_law_33 (by rw [hs]; decide +kernel) (by rw [hs]; decide +kernel) (by rw [hs]; decide +kernel) (by decide) ?_
                                                              refine x_aload_n hC dL_law_1122 rfl 1 rfl ?_
                                                              refine r_L2 (as := []) (rest := []) (z := true) hB dL_law_1123 kv_L_133 th_0 rfl rfl (Nat.le_of_ble_eq_true rfl) hn9 (fun v M' hv => f_X10_hedge_met hB.2.2.2.2.2.1 (by decide) hv) (fun u1123_18 M1123_18 => ?_)
                                                              refine x_aload_n hC dL_law_1126 rfl 2 rfl ?_
                                                              refine r_L2 (as := []) (rest := [.int u1123_18]) (z := false) hB dL_law_1127 kv_L_137 th_257 rfl rfl (Nat.le_of_ble_eq_true rfl) hn9 (fun v M' hv => f_X11_hedge_met hB.2.2.2.2.2.1 (by decide) hv) (fun u1127_18 M1127_18 => ?_)
                                                              refine x_icmp_eq (tgt := 1309) hC dL_law_1130 (by decide) ?_ ?_
                                                              · exact j_L_law_1309_18_ok hB hn9 M1127_18 hR
                                                              · refine x_iconst (v := (0 : Int32)) hC dL_law_1133 ki_0 ?_
                                                                exact x_done (fun h => absurd (show (0 : Int32) = 1 from h) (by decide))
                                                            · skip
                                                              refine x_ite (fun hs => ?_) (fun hs29 => ?_)
                                                              · refine x_tsI (tgt := 1135) (off := 1102) hC dL_law_33 (by rw [hs]; decide +kernel) (by rw [hs]; decide +kernel) (by rw [hs]; decide +kernel) (by decide) ?_
                                                                refine x_aload_n hC dL_law_1135 rfl 1 rfl ?_
                                                                refine x_aload_n hC dL_law_1136 rfl 0 rfl ?_
                                                                refine x_iload_n hC dL_law_1137 rfl 3 rfl ?_
                                                                refine x_iconst (v := (1 : Int32)) hC dL_law_1138 ki_1 ?_
                                                                refine x_iadd hC dL_law_1139 ?_
                                                                refine r_sld hB dL_law_1140 ?_
                                                                refine x_aload_n hC dL_law_1141 rfl 0 rfl ?_
                                                                refine x_iload_n hC dL_law_1142 rfl 3 rfl ?_
                                                                refine x_iconst (v := (2 : Int32)) hC dL_law_1143 ki_2 ?_
                                                                refine x_iadd hC dL_law_1144 ?_
                                                                refine r_sld hB dL_law_1145 ?_
                                                                refine r_L2 (as := [.int (xs (ix (v3_18 + (1 : Int32)))), .int (xs (ix (v3_18 + (2 : Int32))))]) (rest := []) (z := true) hB dL_law_1146 kv_L_138 th_0 rfl rfl (Nat.le_of_ble_eq_true rfl) hn9 (fun v M' hv => f_X10_meets_met hB.2.2.2.2.2.1 (by decide) hv) (fun u1146_18 M1146_18 => ?_)
                                                                refine x_aload_n hC dL_law_1149 rfl 2 rfl ?_
                                                                refine x_aload_n hC dL_law_1150 rfl 0 rfl ?_
                                                                refine x_iload_n hC dL_law_1151 rfl 3 rfl ?_
                                                                refine x_iconst (v := (1 : Int32)) hC dL_law_1152 ki_1 ?_
                                                                refine x_iadd hC dL_law_1153 ?_
                                                                refine r_sld hB dL_law_1154 ?_
                                                                refine x_aload_n hC dL_law_1155 rfl 0 rfl ?_
                                                                refine x_iload_n hC dL_law_1156 rfl 3 rfl ?_
                                                                refine x_iconst (v := (2 : Int32)) hC dL_law_1157 ki_2 ?_
                                                                refine x_iadd hC dL_law_1158 ?_
                                                                refine r_sld hB dL_law_1159 ?_
                                                                refine r_L2 (as := [.int (xs (ix (v3_18 + (1 : Int32)))), .int (xs (ix (v3_18 + (2 : Int32))))]) (rest := [.int u1146_18]) (z := false) hB dL_law_1160 kv_L_141 th_257 rfl rfl (Nat.le_of_ble_eq_true rfl) hn9 (fun v M' hv => f_X11_meets_met hB.2.2.2.2.2.1 (by decide) hv) (fun u1160_18 M1160_18 => ?_)
                                                                refine x_icmp_eq (tgt := 1309) hC dL_law_1163 (by decide) ?_ ?_
                                                                · exact j_L_law_1309_18_ok hB hn9 M1160_18 hR
                                                                · refine x_iconst (v := (0 : Int32)) hC dL_law_1166 ki_0 ?_
                                                                  exact x_done (fun h => absurd (show (0 : Int32) = 1 from h) (by decide))
                                                              · skip
                                                                refine x_ite (fun hs => ?_) (fun hs30 => ?_)
                                                                · refine x_tsI (tgt := 1168) (off := 1135) hC dL_law_33 (by rw [hs]; decide +kernel) (by rw [hs]; decide +kernel) (by rw [hs]; decide +kernel) (by decide) ?_
                                                                  refine x_aload_n hC dL_law_1168 rfl 1 rfl ?_
                                                                  refine x_aload_n hC dL_law_1169 rfl 0 rfl ?_
                                                                  refine x_iload_n hC dL_law_1170 rfl 3 rfl ?_
                                                                  refine x_iconst (v := (1 : Int32)) hC dL_law_1171 ki_1 ?_
                                                                  refine x_iadd hC dL_law_1172 ?_
                                                                  refine r_sld hB dL_law_1173 ?_
                                                                  refine r_L2 (as := [.int (xs (ix (v3_18 + (1 : Int32))))]) (rest := []) (z := true) hB dL_law_1174 kv_L_142 th_0 rfl rfl (Nat.le_of_ble_eq_true rfl) hn9 (fun v M' hv => f_X10_pigeons_met hB.2.2.2.2.2.1 (by decide) hv) (fun u1174_18 M1174_18 => ?_)
                                                                  refine x_aload_n hC dL_law_1177 rfl 2 rfl ?_
                                                                  refine x_aload_n hC dL_law_1178 rfl 0 rfl ?_
                                                                  refine x_iload_n hC dL_law_1179 rfl 3 rfl ?_
                                                                  refine x_iconst (v := (1 : Int32)) hC dL_law_1180 ki_1 ?_
                                                                  refine x_iadd hC dL_law_1181 ?_
                                                                  refine r_sld hB dL_law_1182 ?_
                                                                  refine r_L2 (as := [.int (xs (ix (v3_18 + (1 : Int32))))]) (rest := [.int u1174_18]) (z := false) hB dL_law_1183 kv_L_145 th_257 rfl rfl (Nat.le_of_ble_eq_true rfl) hn9 (fun v M' hv => f_X11_pigeons_met hB.2.2.2.2.2.1 (by decide) hv) (fun u1183_18 M1183_18 => ?_)
                                                                  refine x_icmp_eq (tgt := 1309) hC dL_law_1186 (by decide) ?_ ?_
                                                                  · exact j_L_law_1309_18_ok hB hn9 M1183_18 hR
                                                                  · refine x_iconst (v := (0 : Int32)) hC dL_law_1189 ki_0 ?_
                                                                    exact x_done (fun h => absurd (show (0 : Int32) = 1 from h) (by decide))
                                                                · skip
                                                                  refine x_ite (fun hs => ?_) (fun hs31 => ?_)
                                                                  · refine x_tsI (tgt := 1191) (off := 1158) hC dL_law_33 (by rw [hs]; decide +kernel) (by rw [hs]; decide +kernel) (by rw [hs]; decide +kernel) (by decide) ?_
                                                                    refine x_aload_n hC dL_law_1191 rfl 1 rfl ?_
                                                                    refine x_aload_n hC dL_law_1192 rfl 0 rfl ?_
                                                                    refine x_iload_n hC dL_law_1193 rfl 3 rfl ?_
                                                                    refine x_iconst (v := (1 : Int32)) hC dL_law_1194 ki_1 ?_
                                                                    refine x_iadd hC dL_law_1195 ?_
                                                                    refine r_sld hB dL_law_1196 ?_
                                                                    refine x_aload_n hC dL_law_1197 rfl 0 rfl ?_
                                                                    refine x_iload_n hC dL_law_1198 rfl 3 rfl ?_
                                                                    refine x_iconst (v := (2 : Int32)) hC dL_law_1199 ki_2 ?_
                                                                    refine x_iadd hC dL_law_1200 ?_
                                                                    refine r_sld hB dL_law_1201 ?_
                                                                    refine x_aload_n hC dL_law_1202 rfl 0 rfl ?_
                                                                    refine x_iload_n hC dL_law_1203 rfl 3 rfl ?_
                                                                    refine x_iconst (v := (3 : Int32)) hC dL_law_1204 ki_3 ?_
                                                                    refine x_iadd hC dL_law_1205 ?_
                                                                    refine r_sld hB dL_law_1206 ?_
                                                                    refine r_L2 (as := [.int (xs (ix (v3_18 + (1 : Int32)))), .int (xs (ix (v3_18 + (2 : Int32)))), .int (xs (ix (v3_18 + (3 : Int32))))]) (rest := []) (z := true) hB dL_law_1207 kv_L_146 th_0 rfl rfl (Nat.le_of_ble_eq_true rfl) hn9 (fun v M' hv => f_X10_game_met hB.2.2.2.2.2.1 (by decide) hv) (fun u1207_18 M1207_18 => ?_)
                                                                    refine x_aload_n hC dL_law_1210 rfl 2 rfl ?_
                                                                    refine x_aload_n hC dL_law_1211 rfl 0 rfl ?_
                                                                    refine x_iload_n hC dL_law_1212 rfl 3 rfl ?_
                                                                    refine x_iconst (v := (1 : Int32)) hC dL_law_1213 ki_1 ?_
                                                                    refine x_iadd hC dL_law_1214 ?_
                                                                    refine r_sld hB dL_law_1215 ?_
                                                                    refine x_aload_n hC dL_law_1216 rfl 0 rfl ?_
                                                                    refine x_iload_n hC dL_law_1217 rfl 3 rfl ?_
                                                                    refine x_iconst (v := (2 : Int32)) hC dL_law_1218 ki_2 ?_
                                                                    refine x_iadd hC dL_law_1219 ?_
                                                                    refine r_sld hB dL_law_1220 ?_
                                                                    refine x_aload_n hC dL_law_1221 rfl 0 rfl ?_
                                                                    refine x_iload_n hC dL_law_1222 rfl 3 rfl ?_
                                                                    refine x_iconst (v := (3 : Int32)) hC dL_law_1223 ki_3 ?_
                                                                    refine x_iadd hC dL_law_1224 ?_
                                                                    refine r_sld hB dL_law_1225 ?_
                                                                    refine r_L2 (as := [.int (xs (ix (v3_18 + (1 : Int32)))), .int (xs (ix (v3_18 + (2 : Int32)))), .int (xs (ix (v3_18 + (3 : Int32))))]) (rest := [.int u1207_18]) (z := false) hB dL_law_1226 kv_L_149 th_257 rfl rfl (Nat.le_of_ble_eq_true rfl) hn9 (fun v M' hv => f_X11_game_met hB.2.2.2.2.2.1 (by decide) hv) (fun u1226_18 M1226_18 => ?_)
                                                                    refine x_icmp_eq (tgt := 1309) hC dL_law_1229 (by decide) ?_ ?_
                                                                    · exact j_L_law_1309_18_ok hB hn9 M1226_18 hR
                                                                    · refine x_iconst (v := (0 : Int32)) hC dL_law_1232 ki_0 ?_
                                                                      exact x_done (fun h => absurd (show (0 : Int32) = 1 from h) (by decide))
                                                                  · skip
                                                                    refine x_ite (fun hs => ?_) (fun hs32 => ?_)
                                                                    · refine x_tsI (tgt := 1234) (off := 1201) hC dL_law_33 (by rw [hs]; decide +kernel) (by rw [hs]; decide +kernel) (by rw [hs]; decide +kernel) (by decide) ?_
                                                                      refine x_aload_n hC dL_law_1234 rfl 1 rfl ?_
                                                                      refine r_L2 (as := []) (rest := []) (z := true) hB dL_law_1235 kv_L_150 th_0 rfl rfl (Nat.le_of_ble_eq_true rfl) hn9 (fun v M' hv => f_X10_undo_met hB.2.2.2.2.2.1 (by decide) hv) (fun u1235_18 M1235_18 => ?_)
                                                                      refine x_aload_n hC dL_law_1238 rfl 2 rfl ?_
                                                                      refine r_L2 (as := []) (rest := [.int u1235_18]) (z := false) hB dL_law_1239 kv_L_154 th_257 rfl rfl (Nat.le_of_ble_eq_true rfl) hn9 (fun v M' hv => f_X11_undo_met hB.2.2.2.2.2.1 (by decide) hv) (fun u1239_18 M1239_18 => ?_)
                                                                      refine x_icmp_eq (tgt := 1309) hC dL_law_1242 (by decide) ?_ ?_
                                                                      · exact j_L_law_1309_18_ok hB hn9 M1239_18 hR
                                                                      · refine x_iconst (v := (0 : Int32)) hC dL_law_1245 ki_0 ?_
                                                                        exact x_done (fun h => absurd (show (0 : Int32) = 1 from h) (by decide))
                                                                    · skip
                                                                      refine x_ite (fun hs => ?_) (fun hs33 => ?_)
                                                                      · refine x_tsI (tgt := 1247) (off := 1214) hC dL_law_33 (by rw [hs]; decide +kernel) (by rw [hs]; decide +kernel) (by rw [hs]; decide +kernel) (by decide) ?_
                                                                        refine x_aload_n hC dL_law_1247 rfl 1 rfl ?_
                                                                        refine x_aload_n hC dL_law_1248 rfl 0 rfl ?_
                                                                        refine x_iload_n hC dL_law_1249 rfl 3 rfl ?_
                                                                        refine x_iconst (v := (1 : Int32)) hC dL_law_1250 ki_1 ?_
                                                                        refine x_iadd hC dL_law_1251 ?_
                                                                        refine r_sld hB dL_law_1252 ?_
                                                                        refine x_if_eq (tgt := 1260) hC dL_law_1253 (by decide) ?_ ?_
                                                                        · refine x_iconst (v := (0 : Int32)) hC dL_law_1260 ki_0 ?_
                                                                          exact j_L_law_1261_18_ok hB hn9 M hR
                                                                        · refine x_iconst (v := (1 : Int32)) hC dL_law_1256 ki_1 ?_
                                                                          refine x_goto (tgt := 1261) hC dL_law_1257 (by decide) ?_
                                                                          exact j_L_law_1261_18_ok hB hn9 M hR
                                                                      · skip
                                                                        refine x_ite (fun hs => ?_) (fun hs34 => ?_)
                                                                        · refine x_tsI (tgt := 1286) (off := 1253) hC dL_law_33 (by rw [hs]; decide +kernel) (by rw [hs]; decide +kernel) (by rw [hs]; decide +kernel) (by decide) ?_
                                                                          refine x_aload_n hC dL_law_1286 rfl 1 rfl ?_
                                                                          refine x_aload_n hC dL_law_1287 rfl 0 rfl ?_
                                                                          refine x_iload_n hC dL_law_1288 rfl 3 rfl ?_
                                                                          refine x_iconst (v := (1 : Int32)) hC dL_law_1289 ki_1 ?_
                                                                          refine x_iadd hC dL_law_1290 ?_
                                                                          refine r_sld hB dL_law_1291 ?_
                                                                          refine r_L1 (as := [.int (xs (ix (v3_18 + (1 : Int32))))]) (rest := []) (z := true) hB dL_law_1292 kv_L_160 th_0 rfl rfl (Nat.le_of_ble_eq_true rfl) hn9 (fun v hv => f_X10_look_met hB.2.2.2.2.2.1 (by decide) hv) (fun u1292_18 => ?_)
                                                                          refine x_aload_n hC dL_law_1295 rfl 2 rfl ?_
                                                                          refine x_aload_n hC dL_law_1296 rfl 0 rfl ?_
                                                                          refine x_iload_n hC dL_law_1297 rfl 3 rfl ?_
                                                                          refine x_iconst (v := (1 : Int32)) hC dL_law_1298 ki_1 ?_
                                                                          refine x_iadd hC dL_law_1299 ?_
                                                                          refine r_sld hB dL_law_1300 ?_
                                                                          refine r_L2 (as := [.int (xs (ix (v3_18 + (1 : Int32))))]) (rest := [.int u1292_18]) (z := false) hB dL_law_1301 kv_L_163 th_257 rfl rfl (Nat.le_of_ble_eq_true rfl) hn9 (fun v M' hv => f_X11_look_met hB.2.2.2.2.2.1 (by decide) hv) (fun u1301_18 M1301_18 => ?_)
                                                                          refine x_icmp_eq (tgt := 1309) hC dL_law_1304 (by decide) ?_ ?_
                                                                          · exact j_L_law_1309_18_ok hB hn9 M1301_18 hR
                                                                          · refine x_iconst (v := (0 : Int32)) hC dL_law_1307 ki_0 ?_
                                                                            exact x_done (fun h => absurd (show (0 : Int32) = 1 from h) (by decide))
                                                                        · skip
                                                                          refine x_tsO (tgt := 1309) hC dL_law_33 (by have q0 := x_ne (k := 0) hs0 (by decide); have q1 := x_ne (k := 1) hs1 (by decide); have q2 := x_ne (k := 2) hs2 (by decide); have q3 := x_ne (k := 3) hs3 (by decide); have q4 := x_ne (k := 4) hs4 (by decide); have q5 := x_ne (k := 5) hs5 (by decide); have q6 := x_ne (k := 6) hs6 (by decide); have q7 := x_ne (k := 7) hs7 (by decide); have q8 := x_ne (k := 8) hs8 (by decide); have q9 := x_ne (k := 9) hs9 (by decide); have q10 := x_ne (k := 10) hs10 (by decide); have q11 := x_ne (k := 11) hs11 (by decide); have q12 := x_ne (k := 12) hs12 (by decide); have q13 := x_ne (k := 13) hs13 (by decide); have q14 := x_ne (k := 14) hs14 (by decide); have q15 := x_ne (k := 15) hs15 (by decide); have q16 := x_ne (k := 16) hs16 (by decide); have q17 := x_ne (k := 17) hs17 (by decide); have q18 := x_ne (k := 18) hs18 (by decide); have q19 := x_ne (k := 19) hs19 (by decide); have q20 := x_ne (k := 20) hs20 (by decide); have q21 := x_ne (k := 21) hs21 (by decide); have q22 := x_ne (k := 22) hs22 (by decide); have q23 := x_ne (k := 23) hs23 (by decide); have q24 := x_ne (k := 24) hs24 (by decide); have q25 := x_ne (k := 25) hs25 (by decide); have q26 := x_ne (k := 26) hs26 (by decide); have q27 := x_ne (k := 27) hs27 (by decide); have q28 := x_ne (k := 28) hs28 (by decide); have q29 := x_ne (k := 29) hs29 (by decide); have q30 := x_ne (k := 30) hs30 (by decide); have q31 := x_ne (k := 31) hs31 (by decide); have q32 := x_ne (k := 32) hs32 (by decide); have q33 := x_ne (k := 33) hs33 (by decide); have q34 := x_ne (k := 34) hs34 (by decide); omega) (by decide) ?_
                                                                          exact j_L_law_1309_18_ok hB hn9 M hR
noncomputable def j_L_law_1315 (L : Nat) (xs : Nat → Int32) (M : zM) : Option (Int32) :=
  some (1 : Int32)
set_option maxRecDepth 100000 in
theorem j_L_law_1315_ok {C : zC} {g : zG} {l : Launch} {w : zW} {n9 : Nat × Nat} {b : Nat} {L : Nat} {xs : Nat → Int32} (hB : lOK C g l w b L xs) (hn9 : n9.1 ≤ 600000 ∧ n9.2 ≤ 7302250) (M : zM) (hR : RtL C w n9) : Sg C w n9 1315 [] [] M (j_L_law_1315 L xs M) (fun q => q = (1 : Int32)) := by
  have hC := hB.1
  unfold j_L_law_1315
  refine x_iconst (v := (1 : Int32)) hC dL_law_1315 ki_1 ?_
  exact r_Lret hR dL_law_1316
noncomputable def f_law (L : Nat) (xs : Nat → Int32) (M : zM) : Option Int32 :=
  (loopW (fun s => b_L_law_18 L xs s.1 s.2) ((0 : Int32), M)).bind (fun q => Sum.elim (fun r => j_L_law_1315 L xs r) some q)
set_option maxRecDepth 100000 in
theorem f_law_ok {C : zC} {g : zG} {l : Launch} {w : zW} {n9 : Nat × Nat} {b : Nat} {L : Nat} {xs : Nat → Int32} (hB : lOK C g l w b L xs) (hn9 : n9.1 ≤ 600000 ∧ n9.2 ≤ 7302250) (M : zM) (hR : RtL C w n9) : Sg C w n9 18 [(0, .ref b), (1, zr w 0), (2, zr w 257), (3, .int (0 : Int32))] [] M (f_law L xs M) (fun q => q = (1 : Int32)) := by
  have hC := hB.1
  unfold f_law
  refine x_loopR (pc2 := 1315) (fun (s : (Int32 × zM)) => [(0, .ref b), (1, zr w 0), (2, zr w 257), (3, .int s.1)]) (fun (s : (Int32 × zM)) => s.2) (fun (s : (zM)) => []) (fun (s : (zM)) => s) ((0 : Int32), M) ?_ ?_
  · exact fun s => b_L_law_18_ok hB hn9 s.2 hR
  · intro r9
    exact j_L_law_1315_ok hB hn9 r9 hR
