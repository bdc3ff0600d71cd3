theorem wd_129 : Cond.classLink RL 7 RX10 ∈ lw_g := g_in (t_in 129 (by decide +kernel)) rfl
theorem wd_130 : Cond.instantiable RX10 18 ∈ lw_g := g_in (t_in 130 (by decide +kernel)) rfl
theorem kn2_L_7 : lkC RL 7 10 := ⟨RX10, TX10, 18, tyX10, rfl, ug_10, tyX10_ok, rfl, wd_129, wd_130, wd_108, by decide +kernel⟩
theorem wd_133 : Cond.code yX10_init cX10_init 2 none ∈ lw_g := g_in (t_in 133 (by decide +kernel)) rfl
theorem wd_132 : Cond.instanceMethod yX10_init ∈ lw_g := g_in (t_in 132 (by decide +kernel)) rfl
theorem wd_131 : Cond.methodLink RL 9 yX10_init ∈ lw_g := g_in (t_in 131 (by decide +kernel)) rfl
theorem ki2_L_9 : lkI RL 9 yX10_init cX10_init 2 0 := ⟨wd_133, wd_108, wd_132, rfl, by decide +kernel, by decide, Or.inl wd_131⟩
theorem wd_1365 : Cond.classLink RL 10 RX11 ∈ lw_g := g_in (t_in 1365 (by decide +kernel)) rfl
theorem wd_1366 : Cond.instantiable RX11 40 ∈ lw_g := g_in (t_in 1366 (by decide +kernel)) rfl
theorem kn2_L_10 : lkC RL 10 11 := ⟨RX11, TX11, 40, tyX11, rfl, ug_11, tyX11_ok, rfl, wd_1365, wd_1366, wd_119, by decide +kernel⟩
theorem wd_1369 : Cond.code yX11_init cX11_init 1 none ∈ lw_g := g_in (t_in 1369 (by decide +kernel)) rfl
theorem wd_1368 : Cond.instanceMethod yX11_init ∈ lw_g := g_in (t_in 1368 (by decide +kernel)) rfl
theorem wd_1367 : Cond.methodLink RL 12 yX11_init ∈ lw_g := g_in (t_in 1367 (by decide +kernel)) rfl
theorem ki2_L_12 : lkI RL 12 yX11_init cX11_init 1 0 := ⟨wd_1369, wd_119, wd_1368, rfl, by decide +kernel, by decide, Or.inl wd_1367⟩
theorem tg_0 : TG0 0 = (13, 0) := by decide +kernel
theorem tg_257 : TG0 257 = (14, 0) := by decide +kernel
theorem start_K {s : State} {b : Nat} (hts : ∀ w ∈ lw_tbl, w.before #[Value.ref b] s = true) : ∃ D : va_G, ∀ (k : Nat) (q : vw_C), vwCl[k]? = some q → u_Kn s q.1 q.2.1 q.2.2 (D.1 k) (D.2 k) := by
  have h : ∀ k : Nat, ∃ x : ClassId × (Nat → Nat), ∀ q : vw_C, vwCl[k]? = some q → u_Kn s q.1 q.2.1 q.2.2 x.1 x.2 := by
    intro k
    match k with
    | 0 => obtain ⟨c, i, h⟩ := u_known (C := RX0) (T := TX0) (N := 1) (n := 1) hts inX0 (hts _ (by decide +kernel)); exact ⟨(c, i), fun q hq => by cases hq; exact h⟩
    | 1 => obtain ⟨c, i, h⟩ := u_known (C := RX1) (T := TX1) (N := 8) (n := 8) hts inX1 (hts _ (by decide +kernel)); exact ⟨(c, i), fun q hq => by cases hq; exact h⟩
    | 2 => obtain ⟨c, i, h⟩ := u_known (C := RX2) (T := TX2) (N := 8) (n := 8) hts inX2 (hts _ (by decide +kernel)); exact ⟨(c, i), fun q hq => by cases hq; exact h⟩
    | 3 => obtain ⟨c, i, h⟩ := u_known (C := RX3) (T := TX3) (N := 7) (n := 7) hts inX3 (hts _ (by decide +kernel)); exact ⟨(c, i), fun q hq => by cases hq; exact h⟩
    | 4 => obtain ⟨c, i, h⟩ := u_known (C := RX4) (T := TX4) (N := 5) (n := 5) hts inX4 (hts _ (by decide +kernel)); exact ⟨(c, i), fun q hq => by cases hq; exact h⟩
    | 5 => obtain ⟨c, i, h⟩ := u_known (C := RX5) (T := TX5) (N := 8) (n := 8) hts inX5 (hts _ (by decide +kernel)); exact ⟨(c, i), fun q hq => by cases hq; exact h⟩
    | 6 => obtain ⟨c, i, h⟩ := u_known (C := RX6) (T := TX6) (N := 12) (n := 12) hts inX6 (hts _ (by decide +kernel)); exact ⟨(c, i), fun q hq => by cases hq; exact h⟩
    | 7 => obtain ⟨c, i, h⟩ := u_known (C := RX7) (T := TX7) (N := 7) (n := 7) hts inX7 (hts _ (by decide +kernel)); exact ⟨(c, i), fun q hq => by cases hq; exact h⟩
    | 8 => obtain ⟨c, i, h⟩ := u_known (C := RX8) (T := TX8) (N := 8) (n := 8) hts inX8 (hts _ (by decide +kernel)); exact ⟨(c, i), fun q hq => by cases hq; exact h⟩
    | 9 => obtain ⟨c, i, h⟩ := u_known (C := RX9) (T := TX9) (N := 13) (n := 13) hts inX9 (hts _ (by decide +kernel)); exact ⟨(c, i), fun q hq => by cases hq; exact h⟩
    | 10 => obtain ⟨c, i, h⟩ := u_known (C := RX10) (T := TX10) (N := 18) (n := 18) hts inX10 (hts _ (by decide +kernel)); exact ⟨(c, i), fun q hq => by cases hq; exact h⟩
    | 11 => obtain ⟨c, i, h⟩ := u_known (C := RX11) (T := TX11) (N := 40) (n := 40) hts inX11 (hts _ (by decide +kernel)); exact ⟨(c, i), fun q hq => by cases hq; exact h⟩
    | k + 12 => exact ⟨(0, fun _ => 0), fun q hq => by simp [vwCl] at hq⟩
  obtain ⟨f, hf⟩ := Classical.axiomOfChoice h
  exact ⟨(fun k => (f k).1, fun k => (f k).2), hf⟩
theorem start_A {s : State} {b : Nat} (hts : ∀ w ∈ lw_tbl, w.before #[Value.ref b] s = true) : ∃ ac : Nat → ClassId, ∀ (k : Nat) (q : ClassId × FieldType), ([(ac 0, .int), (ac 1, .object "WindingSquare$Square"), (ac 2, .object "WindingSquare$Walker")] : List (ClassId × FieldType))[k]? = some q → ArrOfT s q.1 q.2 ∧ va_RA s q.1 q.2 := by
  obtain ⟨c0, k0, p0, a1, a2, a3⟩ := Cond.arrayClass_spec (hts _ st_14.2.2)
  obtain ⟨p1, c1, k1, b1, b2, b3, b4, b5⟩ := Cond.arrayOver_spec (hts _ st_14.1)
  obtain ⟨p2, c2, k2, d1, d2, d3, d4, d5⟩ := Cond.arrayOver_spec (hts _ st_14.2.1)
  refine ⟨fun k => if k = 0 then c0 else if k = 1 then c1 else c2, ?_⟩
  intro k q hq
  match k, hq with
  | 0, hq => cases hq; exact ⟨fun n z => ⟨fun k h => (by cases h), k0, a2, p0, a3⟩, a1⟩
  | 1, hq => cases hq; exact ⟨fun n z => ⟨fun k h => (by cases h), k1, b3, p1, b4⟩, k1, p1, b3, b4, b1, b5⟩
  | 2, hq => cases hq; exact ⟨fun n z => ⟨fun k h => (by cases h), k2, d3, p2, d4⟩, k2, p2, d3, d4, d1, d5⟩
  | k + 3, hq => simp at hq
/-- the memory at the start: all 0, but two places -/
def Mst : zM := mset (mset (fun _ _ => 0) 78 2 (-1 : Int32)) 257 14 (-1 : Int32)
theorem end_RF : mkF (fB (fB (fun _ _ => false) 0 257) 257 282) = RF0 := by
  funext k j
  unfold mkF
  cases h : RF0 k j with
  | none => simp
  | some r =>
    have := (RF0_24 h).1
    rw [if_pos]
    simp [fB]
    omega
set_option maxRecDepth 100000 in
set_option maxHeartbeats 4000000 in
theorem whole_open {p : Program} {e : Env} {s : State} {m : MethodId} {below : List Frame} {meth : Method} {c : Code} (l : Launch) {b L : Nat} {xs : Nat → Int32} (C0 : lw_At p s m meth c b L xs) (hpure : f_law L xs Mst = some 1) : W p l e room_1 s m #[Value.ref b] below meth c s.heap [] 0 0 (lw_Z below #[Value.ref b] s) (entryFrame m ([Value.ref b] : List Value).toArray 4) := by
  obtain ⟨hx, hb, hr, hml, hown, hts, hX, hbl, hlocks, hgv⟩ := id C0
  obtain ⟨ad, hst⟩ := start_st hts hgv
  obtain ⟨D, hKc⟩ := start_K hts
  obtain ⟨ac, hac⟩ := start_A hts
  obtain ⟨h1, h2⟩ := hst D ac
  have hao : zAO s := ⟨va_AO.of (hts _ st_14.1), va_AO.of (hts _ st_14.2.1)⟩
  have hl := lv_entry ([Value.ref b]) (n := 4) (Nat.le_of_ble_eq_true rfl)
  rw [lg_entry_eq]
  generalize hCe : (((p, l, e, room_1, s, m, #[Value.ref b], below, meth, c), lw_Z below #[Value.ref b] s, (s.heap.size, D, ac, ad), fun _ => true, fun _ _ => 0) : zC) = C
  have hC : Cok C cL_law 4 RL := by
    rw [← hCe]
    exact ⟨hx, hb, hml, hown, fun w hw => hts w (lw_g_good hw).1, ⟨hKc, hac⟩, h1, Nat.le_refl _, h2⟩
  have hRm : C.1.2.2.2.1 = room_1 := by rw [← hCe]
  have hao' : zAO C.1.2.2.2.2.1 := by rw [← hCe]; exact hao
  have hzn : ∀ k, C.2.2.2.1 k = true := by rw [← hCe]; exact fun _ => rfl
  have hRt : ∀ (w : zW) (n : Nat × Nat), n.1 ≤ 600000 → n.2 ≤ 7302250 → RtL C w n := by
    intro w n hn1 hn2 pc lv M hd
    rw [← hCe]
    intro H locs ls hP hD hS hl
    refine va_forget (fun q hq => hS.2.2 q hq) ?_
    refine W.widen (k := 600000) (n := 7302250) hn1 hn2 ?_
    exact lw_ret hx hb hr hlocks hd
  have hOK : ∀ w, wS w → lOK C C.2.2.1 C.1.2.1 w b L xs := by
    intro w hw
    refine ⟨hC, hRm, rfl, funext hzn, rfl, hw, ?_, ?_, ?_⟩
    · rw [← hCe]; exact hX
    · rw [← hCe]; exact hbl
    · rw [← hCe]; exact Nat.not_le.mpr hbl
  have go : ∀ w0 : zW, cW w0 0 (fun _ _ => false) → Sg C w0 (0, 0) 0 ([(0, .ref b)] ++ lvO w0 []) (stO w0 []) (fun _ _ => 0) (f_law L xs Mst) (fun q => q = (1 : Int32)) := by
    intro w0 hw0
    refine c_newL [(0, .ref b)] hC dL_law_0 kn2_L_7 hw0 (wf_no (by decide +kernel)) tg_0 (fun _ => rfl) (hzn _) rfl (by simp [okC]) (by simp [okC]) (by rw [hRm]; exact Nat.le_of_ble_eq_true rfl) (by rw [hRm]; exact Nat.le_of_ble_eq_true rfl) (fun w1 hw1 _ => ?_)
    refine c_dup hC dL_law_3 ?_
    refine c_callL (as := []) (a := 0) (st := [.inl 0]) (lv := []) (d := 3) (mc := 256) (ms := 36478) [(0, .ref b)] hC hao' dL_law_4 ki2_L_9 hw1 (by rw [hRm]; exact Nat.le_of_ble_eq_true rfl) (by rw [hRm]; exact Nat.le_of_ble_eq_true rfl) (by rw [hRm]; exact Nat.le_of_ble_eq_true rfl) (by rw [hRm]; exact Nat.le_of_ble_eq_true rfl) rfl (Nat.le_of_ble_eq_true rfl) (by simp [okC]) (by simp [okC]) (mk_WindingSquare (fun k _ => hzn k)) (fun w2 hw2 _ => ?_)
    refine x_cs (cs' := (257, 36496)) rfl ?_
    refine x_astore_n hC dL_law_7 rfl [(1, zr w2 0), (0, .ref b)] (by decide) rfl ?_
    refine x_sub [1, 0] (lv' := [(0, .ref b)] ++ lvO w2 [(1, .inl 0)]) rfl ?_
    refine c_newL (st := []) [(0, .ref b)] hC dL_law_8 kn2_L_10 hw2 (wf_no (by decide +kernel)) tg_257 (fun j => by simp [fB]) (hzn _) (by rw [mset_ne (by decide)]) (by simp [okC]) (by simp [okC]) (by rw [hRm]; exact Nat.le_of_ble_eq_true rfl) (by rw [hRm]; exact Nat.le_of_ble_eq_true rfl) (fun w3 hw3 _ => ?_)
    refine c_dup hC dL_law_11 ?_
    refine c_callL (as := []) (a := 257) (st := [.inl 257]) (lv := [(1, .inl 0)]) (d := 1) (mc := 24) (ms := 80544) [(0, .ref b)] hC hao' dL_law_12 ki2_L_12 hw3 (by rw [hRm]; exact Nat.le_of_ble_eq_true rfl) (by rw [hRm]; exact Nat.le_of_ble_eq_true rfl) (by rw [hRm]; exact Nat.le_of_ble_eq_true rfl) (by rw [hRm]; exact Nat.le_of_ble_eq_true rfl) rfl (Nat.le_of_ble_eq_true rfl) (by simp [okC]) (by simp [okC]) (mk_WindingSquareModel (fun k hk j => by simp [fB]; omega) (fun k hk => by rw [mset_ne (by omega)]) (fun k _ _ => hzn k)) (fun w4 hw4 _ => ?_)
    refine x_cs (cs' := (282, 117080)) rfl ?_
    refine x_astore_n hC dL_law_15 rfl [(2, zr w4 257), (0, .ref b), (1, zr w4 0)] (by decide) rfl ?_
    refine x_iconst (v := (0 : Int32)) hC dL_law_16 ki_0 ?_
    refine x_istore_n hC dL_law_17 rfl [(3, .int 0), (2, zr w4 257), (0, .ref b), (1, zr w4 0)] (by decide) rfl ?_
    refine x_sub [2, 3, 1, 0] rfl ?_
    have hw : wS w4 := ⟨hw4.1, hw4.2.1, by rw [hw4.2.2]; exact end_RF⟩
    exact f_law_ok (hOK w4 hw) ⟨by decide, by decide⟩ Mst (hRt w4 _ (by decide) (by decide))
  have := go (0, TG0, mkF (fun _ _ => false), fun _ => 0) ⟨rfl, rfl, rfl⟩ 1 hpure rfl
  rw [← hCe] at this
  refine this s.heap [] _ (fun k q h => (by cases h)) ⟨fun i j x y h => (by cases h), fun k q h => (by cases h)⟩ va_S.rf ?_
  show lv_has _ c.maxLocals _
  rw [hml]
  exact hl
