/-! ===== the law: its own rows ===== -/
theorem zB_self {zn : Nat → Bool} {M : zM} : zB zn M M = M := by
  funext k
  unfold zB
  split <;> rfl
theorem zB_all {M0 M : zM} : zB (fun _ => true) M0 M = M := by
  funext k
  simp [zB]
def lOK (C : zC) (g : zG) (l : Launch) (w : zW) (b L : Nat) (xs : Nat → Int32) : Prop := Cok C cL_law 4 RL ∧ C.1.2.2.2.1 = room_1 ∧ C.2.2.1 = g ∧ C.2.2.2.1 = (fun _ => true) ∧ C.1.2.1 = l ∧ wS w ∧ va_X b L xs C.1.2.2.2.2.1 C.1.2.2.2.2.1.heap ∧ b < C.1.2.2.2.2.1.heap.size ∧ ¬ zA g b
def RtL (C : zC) (w : zW) (n : Nat × Nat) : Prop := ∀ (pc : Nat) (lv : List (Nat × Value)) (M : zM), decode cL_law pc = .ok (.ireturn, 1) → Zs C w n pc lv [.int 1] M
section XLw
variable {α : Type} {C : zC} {w : zW} {n : Nat × Nat} {g : zG} {l : Launch} {b L : Nat} {xs : Nat → Int32} {pc : Nat} {lv : List (Nat × Value)} {st : List Value} {M : zM} {X Y : Option α} {K : α → Prop}
theorem r_Lret (hR : RtL C w n) {a : α} (hd : decode cL_law pc = .ok (.ireturn, 1)) : Sg C w n pc lv [.int 1] M (some a) K := x_done fun _ => hR pc lv M hd
theorem r_sld (hB : lOK C g l w b L xs) {i : Int32} (hd : decode cL_law pc = .ok (.iaload, 1)) (k : Sg C w n (pc + 1) lv (.int (xs (ix i)) :: st) M X K) : Sg C w n pc lv (.int i :: .ref b :: st) M (grd (inb i L) X) K := by
  refine x_grd fun hi => ?_
  obtain ⟨hC, -, rfl, -, -, -, hX, hbl, hbA⟩ := hB
  intro y hy hK H locs ls hP hD hS hv
  exact va_sld hC.1 hC.2.1 hX hbl hbA hS hi hd (k y hy hK H locs ls hP hD hS hv)
theorem r_slX (hB : lOK C g l w b L xs) (hd : decode cL_law pc = .ok (.arraylength, 1)) (k : Sg C w n (pc + 1) lv (.int (nI L) :: st) M X K) : Sg C w n pc lv (.ref b :: st) M X K := by
  obtain ⟨hC, -, rfl, -, -, -, hX, hbl, hbA⟩ := hB
  intro y hy hK H locs ls hP hD hS hv
  exact va_slen hC.1 hC.2.1 hX hbl hbA hS hd (k y hy hK H locs ls hP hD hS hv)
theorem z_law (hB : lOK C g l w b L xs) {i a c na : Nat} {z : Bool} {y : MethodName} {bc : ByteArray} {mL : Nat} {ret : Option FieldType} {as rest st0 : List Value} {r : Option Value} {M' : zM} (hd : decode cL_law pc = .ok (.invokevirtual i, 3)) (lk : lkV RL i y bc mL ret na c) (ha : tO z c a) (hn : as.length = na) (hst : st0 = as.reverse ++ zr w a :: rest) (hrm : (rest.map fun v => v.category).sum ≤ 8) (hc1 : n.1 ≤ 600000) (hc2 : n.2 ≤ 7302250)
    (hM : zMet l y bc mL ret 1000 g w (zin z) M (zr w a :: as) M r M') (k : Zs C w n (pc + 3) lv (r.toList ++ rest) (zB (zin z) M M')) : Zs C w n pc lv st0 M := by
  intro H locs ls hP hD hS hl
  obtain ⟨hC, hR, rfl, hz, rfl, hw, -, -, -⟩ := hB
  obtain ⟨hG, hyd, hmL, T, N, hcl⟩ := lk
  have e := zS_get (g := C.2.2.1) (M := zB C.2.2.2.1 C.2.2.2.2 M) (show a < w.1 by rw [hw.1]; exact zin_lt ha.1)
  rw [zE_obj (show (w.2.1 a).1 = c + 3 by rw [hw.2.1]; exact ha.2)] at e
  subst hst
  have hM2 := hM
  unfold zMet at hM2
  rw [zB_self] at hM2
  have eM : zB C.2.2.2.1 C.2.2.2.2 M = M := by rw [hz]; exact zB_all
  have eM' : zB C.2.2.2.1 C.2.2.2.2 (zB (zin z) M M') = zB (zin z) M M' := by rw [hz]; exact zB_all
  have hP0 := hP
  have hD0 := hD
  rw [eM] at hP0 hD0
  refine x_ran (M' := zB (zin z) M M') (mk := r) (a := (zr w a :: as).toArray) (rest := rest) ?_ hS hl k
  rw [eM']
  exact va_runV (As := as) (rest := rest) (nL := 4) (C := y.cls) (b := w.2.2.2 a) (ret := ret) ⟨hC.1, hC.2.1, hC.2.2.1, hC.2.2.2.1, hC.2.2.2.2.1⟩ hM2 (cwV na hC.2.2.2.2.1 hG rfl rfl rfl ⟨rfl, hyd⟩ (by rw [hR]; simp only [room_1, rmd]; omega)) ⟨zblind, va_recv hC.2.2.2.2.2.1 hP hcl e, fun U hU hW => zready hC hP0 hD0 hS hU hW⟩ rfl hn (by rw [hl.1]; exact hC.2.2.1) rfl (lv_room hrm) hd (by rw [hR]; exact ⟨hc1, hc2⟩)
theorem r_L0 (hB : lOK C g l w b L xs) {i a c na : Nat} {z : Bool} {y : MethodName} {bc : ByteArray} {mL : Nat} {ret : Option FieldType} {as rest st0 : List Value} {v : Int32} (hd : decode cL_law pc = .ok (.invokevirtual i, 3)) (lk : lkV RL i y bc mL ret na c) (ha : tO z c a) (hn : as.length = na) (hst : st0 = as.reverse ++ zr w a :: rest) (hrm : (rest.map fun v => v.category).sum ≤ 8) (hc : n.1 ≤ 600000 ∧ n.2 ≤ 7302250)
    (hM : zMet l y bc mL ret 1000 g w (zin z) M (zr w a :: as) M (some (.int v)) M) (k : Sg C w n (pc + 3) lv (.int v :: rest) M X K) : Sg C w n pc lv st0 M X K := by
  intro q hq hK
  refine z_law hB hd lk ha hn hst hrm hc.1 hc.2 hM ?_
  rw [zB_self]
  exact k q hq hK
theorem r_L1 (hB : lOK C g l w b L xs) {i a c na : Nat} {z : Bool} {y : MethodName} {bc : ByteArray} {mL : Nat} {ret : Option FieldType} {as rest st0 : List Value} {f : Option Int32} {kx : Int32 → Option α} (hd : decode cL_law pc = .ok (.invokevirtual i, 3)) (lk : lkV RL i y bc mL ret na c) (ha : tO z c a) (hn : as.length = na) (hst : st0 = as.reverse ++ zr w a :: rest) (hrm : (rest.map fun v => v.category).sum ≤ 8) (hc : n.1 ≤ 600000 ∧ n.2 ≤ 7302250)
    (hM : ∀ v, f = some v → zMet l y bc mL ret 1000 g w (zin z) M (zr w a :: as) M (some (.int v)) M) (k : ∀ v, Sg C w n (pc + 3) lv (.int v :: rest) M (kx v) K) : Sg C w n pc lv st0 M (f.bind kx) K := by
  intro q hq hK
  cases hf : f with
  | none => rw [hf] at hq; cases hq
  | some v =>
    rw [hf] at hq
    refine z_law hB hd lk ha hn hst hrm hc.1 hc.2 (hM v hf) ?_
    rw [zB_self]
    exact k v q hq hK
/-- a call that changes its own part of the memory alone -/
def bndZ {α : Type} (z : Bool) (M : zM) (x : Option (Int32 × zM)) (k : Int32 → zM → Option α) : Option α := x.bind fun q => k q.1 (zB (zin z) M q.2)
theorem r_L2 (hB : lOK C g l w b L xs) {i a c na : Nat} {z : Bool} {y : MethodName} {bc : ByteArray} {mL : Nat} {ret : Option FieldType} {as rest st0 : List Value} {f : Option (Int32 × zM)} {kx : Int32 → zM → Option α} (hd : decode cL_law pc = .ok (.invokevirtual i, 3)) (lk : lkV RL i y bc mL ret na c) (ha : tO z c a) (hn : as.length = na) (hst : st0 = as.reverse ++ zr w a :: rest) (hrm : (rest.map fun v => v.category).sum ≤ 8) (hc : n.1 ≤ 600000 ∧ n.2 ≤ 7302250)
    (hM : ∀ v M', f = some (v, M') → zMet l y bc mL ret 1000 g w (zin z) M (zr w a :: as) M (some (.int v)) M') (k : ∀ v M', Sg C w n (pc + 3) lv (.int v :: rest) M' (kx v M') K) : Sg C w n pc lv st0 M (bndZ z M f kx) K := by
  intro q hq hK
  cases hf : f with
  | none => rw [hf] at hq; cases hq
  | some x =>
    rw [hf] at hq
    exact z_law hB hd lk ha hn hst hrm hc.1 hc.2 (hM x.1 x.2 hf) (k x.1 _ q hq hK)
end XLw
theorem wd_548 : Cond.methodLink RL 13 yX10_state ∈ lw_g := g_in (t_in 548 (by decide +kernel)) rfl
theorem wd_549 : Cond.instanceMethod yX10_state ∈ lw_g := g_in (t_in 549 (by decide +kernel)) rfl
theorem wd_550 : Cond.selects "WindingSquare" yX10_state yX10_state ∈ lw_g := g_in (t_in 550 (by decide +kernel)) rfl
theorem wd_551 : Cond.code yX10_state cX10_state 3 (some .int) ∈ lw_g := g_in (t_in 551 (by decide +kernel)) rfl
theorem kv_L_13 : lkV RL 13 yX10_state cX10_state 3 (some .int) 1 10 := lkV.of5 wd_548 wd_549 wd_550 wd_108 wd_551 (by decide +kernel) (by decide) ⟨_, _, rfl⟩
theorem wd_1747 : Cond.methodLink RL 17 yX11_state ∈ lw_g := g_in (t_in 1747 (by decide +kernel)) rfl
theorem wd_1748 : Cond.instanceMethod yX11_state ∈ lw_g := g_in (t_in 1748 (by decide +kernel)) rfl
theorem wd_1749 : Cond.selects "WindingSquareModel" yX11_state yX11_state ∈ lw_g := g_in (t_in 1749 (by decide +kernel)) rfl
theorem wd_1750 : Cond.code yX11_state cX11_state 3 (some .int) ∈ lw_g := g_in (t_in 1750 (by decide +kernel)) rfl
theorem kv_L_17 : lkV RL 17 yX11_state cX11_state 3 (some .int) 1 11 := lkV.of5 wd_1747 wd_1748 wd_1749 wd_119 wd_1750 (by decide +kernel) (by decide) ⟨_, _, rfl⟩
theorem ki_6 : Int32.ofInt 6 = (6 : Int32) := by decide +kernel
theorem wd_556 : Cond.methodLink RL 18 yX10_walker ∈ lw_g := g_in (t_in 556 (by decide +kernel)) rfl
theorem wd_557 : Cond.instanceMethod yX10_walker ∈ lw_g := g_in (t_in 557 (by decide +kernel)) rfl
theorem wd_558 : Cond.selects "WindingSquare" yX10_walker yX10_walker ∈ lw_g := g_in (t_in 558 (by decide +kernel)) rfl
theorem wd_559 : Cond.code yX10_walker cX10_walker 3 (some .int) ∈ lw_g := g_in (t_in 559 (by decide +kernel)) rfl
theorem kv_L_18 : lkV RL 18 yX10_walker cX10_walker 3 (some .int) 1 10 := lkV.of5 wd_556 wd_557 wd_558 wd_108 wd_559 (by decide +kernel) (by decide) ⟨_, _, rfl⟩
theorem wd_1751 : Cond.methodLink RL 21 yX11_walker ∈ lw_g := g_in (t_in 1751 (by decide +kernel)) rfl
theorem wd_1752 : Cond.instanceMethod yX11_walker ∈ lw_g := g_in (t_in 1752 (by decide +kernel)) rfl
theorem wd_1753 : Cond.selects "WindingSquareModel" yX11_walker yX11_walker ∈ lw_g := g_in (t_in 1753 (by decide +kernel)) rfl
theorem wd_1754 : Cond.code yX11_walker cX11_walker 2 (some .int) ∈ lw_g := g_in (t_in 1754 (by decide +kernel)) rfl
theorem kv_L_21 : lkV RL 21 yX11_walker cX11_walker 2 (some .int) 1 11 := lkV.of5 wd_1751 wd_1752 wd_1753 wd_119 wd_1754 (by decide +kernel) (by decide) ⟨_, _, rfl⟩
theorem wd_568 : Cond.methodLink RL 22 yX10_comes ∈ lw_g := g_in (t_in 568 (by decide +kernel)) rfl
theorem wd_569 : Cond.instanceMethod yX10_comes ∈ lw_g := g_in (t_in 569 (by decide +kernel)) rfl
theorem wd_570 : Cond.selects "WindingSquare" yX10_comes yX10_comes ∈ lw_g := g_in (t_in 570 (by decide +kernel)) rfl
theorem wd_571 : Cond.code yX10_comes cX10_comes 5 (some .boolean) ∈ lw_g := g_in (t_in 571 (by decide +kernel)) rfl
theorem kv_L_22 : lkV RL 22 yX10_comes cX10_comes 5 (some .boolean) 3 10 := lkV.of5 wd_568 wd_569 wd_570 wd_108 wd_571 (by decide +kernel) (by decide) ⟨_, _, rfl⟩
theorem wd_1755 : Cond.methodLink RL 26 yX11_comes ∈ lw_g := g_in (t_in 1755 (by decide +kernel)) rfl
theorem wd_1756 : Cond.instanceMethod yX11_comes ∈ lw_g := g_in (t_in 1756 (by decide +kernel)) rfl
theorem wd_1757 : Cond.selects "WindingSquareModel" yX11_comes yX11_comes ∈ lw_g := g_in (t_in 1757 (by decide +kernel)) rfl
theorem wd_1758 : Cond.code yX11_comes cX11_comes 7 (some .boolean) ∈ lw_g := g_in (t_in 1758 (by decide +kernel)) rfl
theorem kv_L_26 : lkV RL 26 yX11_comes cX11_comes 7 (some .boolean) 3 11 := lkV.of5 wd_1755 wd_1756 wd_1757 wd_119 wd_1758 (by decide +kernel) (by decide) ⟨_, _, rfl⟩
theorem wd_613 : Cond.methodLink RL 27 yX10_turn ∈ lw_g := g_in (t_in 613 (by decide +kernel)) rfl
theorem wd_614 : Cond.instanceMethod yX10_turn ∈ lw_g := g_in (t_in 614 (by decide +kernel)) rfl
theorem wd_615 : Cond.selects "WindingSquare" yX10_turn yX10_turn ∈ lw_g := g_in (t_in 615 (by decide +kernel)) rfl
theorem wd_616 : Cond.code yX10_turn cX10_turn 3 (some .boolean) ∈ lw_g := g_in (t_in 616 (by decide +kernel)) rfl
theorem kv_L_27 : lkV RL 27 yX10_turn cX10_turn 3 (some .boolean) 2 10 := lkV.of5 wd_613 wd_614 wd_615 wd_108 wd_616 (by decide +kernel) (by decide) ⟨_, _, rfl⟩
theorem wd_1763 : Cond.methodLink RL 31 yX11_turn ∈ lw_g := g_in (t_in 1763 (by decide +kernel)) rfl
theorem wd_1764 : Cond.instanceMethod yX11_turn ∈ lw_g := g_in (t_in 1764 (by decide +kernel)) rfl
theorem wd_1765 : Cond.selects "WindingSquareModel" yX11_turn yX11_turn ∈ lw_g := g_in (t_in 1765 (by decide +kernel)) rfl
theorem wd_1766 : Cond.code yX11_turn cX11_turn 3 (some .boolean) ∈ lw_g := g_in (t_in 1766 (by decide +kernel)) rfl
theorem kv_L_31 : lkV RL 31 yX11_turn cX11_turn 3 (some .boolean) 2 11 := lkV.of5 wd_1763 wd_1764 wd_1765 wd_119 wd_1766 (by decide +kernel) (by decide) ⟨_, _, rfl⟩
theorem wd_632 : Cond.methodLink RL 32 yX10_lay ∈ lw_g := g_in (t_in 632 (by decide +kernel)) rfl
theorem wd_633 : Cond.instanceMethod yX10_lay ∈ lw_g := g_in (t_in 633 (by decide +kernel)) rfl
theorem wd_634 : Cond.selects "WindingSquare" yX10_lay yX10_lay ∈ lw_g := g_in (t_in 634 (by decide +kernel)) rfl
theorem wd_635 : Cond.code yX10_lay cX10_lay 5 (some .boolean) ∈ lw_g := g_in (t_in 635 (by decide +kernel)) rfl
theorem kv_L_32 : lkV RL 32 yX10_lay cX10_lay 5 (some .boolean) 3 10 := lkV.of5 wd_632 wd_633 wd_634 wd_108 wd_635 (by decide +kernel) (by decide) ⟨_, _, rfl⟩
theorem wd_1767 : Cond.methodLink RL 35 yX11_lay ∈ lw_g := g_in (t_in 1767 (by decide +kernel)) rfl
theorem wd_1768 : Cond.instanceMethod yX11_lay ∈ lw_g := g_in (t_in 1768 (by decide +kernel)) rfl
theorem wd_1769 : Cond.selects "WindingSquareModel" yX11_lay yX11_lay ∈ lw_g := g_in (t_in 1769 (by decide +kernel)) rfl
theorem wd_1770 : Cond.code yX11_lay cX11_lay 5 (some .boolean) ∈ lw_g := g_in (t_in 1770 (by decide +kernel)) rfl
theorem kv_L_35 : lkV RL 35 yX11_lay cX11_lay 5 (some .boolean) 3 11 := lkV.of5 wd_1767 wd_1768 wd_1769 wd_119 wd_1770 (by decide +kernel) (by decide) ⟨_, _, rfl⟩
theorem wd_636 : Cond.methodLink RL 36 yX10_minutes ∈ lw_g := g_in (t_in 636 (by decide +kernel)) rfl
theorem wd_637 : Cond.instanceMethod yX10_minutes ∈ lw_g := g_in (t_in 637 (by decide +kernel)) rfl
theorem wd_638 : Cond.selects "WindingSquare" yX10_minutes yX10_minutes ∈ lw_g := g_in (t_in 638 (by decide +kernel)) rfl
theorem wd_639 : Cond.code yX10_minutes cX10_minutes 3 (some .int) ∈ lw_g := g_in (t_in 639 (by decide +kernel)) rfl
theorem kv_L_36 : lkV RL 36 yX10_minutes cX10_minutes 3 (some .int) 1 10 := lkV.of5 wd_636 wd_637 wd_638 wd_108 wd_639 (by decide +kernel) (by decide) ⟨_, _, rfl⟩
theorem wd_1627 : Cond.methodLink RL 39 yX11_minutes ∈ lw_g := g_in (t_in 1627 (by decide +kernel)) rfl
theorem wd_1628 : Cond.instanceMethod yX11_minutes ∈ lw_g := g_in (t_in 1628 (by decide +kernel)) rfl
theorem wd_1629 : Cond.selects "WindingSquareModel" yX11_minutes yX11_minutes ∈ lw_g := g_in (t_in 1629 (by decide +kernel)) rfl
theorem wd_1630 : Cond.code yX11_minutes cX11_minutes 4 (some .int) ∈ lw_g := g_in (t_in 1630 (by decide +kernel)) rfl
theorem kv_L_39 : lkV RL 39 yX11_minutes cX11_minutes 4 (some .int) 1 11 := lkV.of5 wd_1627 wd_1628 wd_1629 wd_119 wd_1630 (by decide +kernel) (by decide) ⟨_, _, rfl⟩
theorem wd_730 : Cond.methodLink RL 40 yX10_feed ∈ lw_g := g_in (t_in 730 (by decide +kernel)) rfl
theorem wd_731 : Cond.instanceMethod yX10_feed ∈ lw_g := g_in (t_in 731 (by decide +kernel)) rfl
theorem wd_732 : Cond.selects "WindingSquare" yX10_feed yX10_feed ∈ lw_g := g_in (t_in 732 (by decide +kernel)) rfl
theorem wd_733 : Cond.code yX10_feed cX10_feed 6 (some .int) ∈ lw_g := g_in (t_in 733 (by decide +kernel)) rfl
theorem kv_L_40 : lkV RL 40 yX10_feed cX10_feed 6 (some .int) 5 10 := lkV.of5 wd_730 wd_731 wd_732 wd_108 wd_733 (by decide +kernel) (by decide) ⟨_, _, rfl⟩
theorem wd_1492 : Cond.methodLink RL 44 yX11_feed ∈ lw_g := g_in (t_in 1492 (by decide +kernel)) rfl
theorem wd_1493 : Cond.instanceMethod yX11_feed ∈ lw_g := g_in (t_in 1493 (by decide +kernel)) rfl
theorem wd_1494 : Cond.selects "WindingSquareModel" yX11_feed yX11_feed ∈ lw_g := g_in (t_in 1494 (by decide +kernel)) rfl
theorem wd_1495 : Cond.code yX11_feed cX11_feed 8 (some .int) ∈ lw_g := g_in (t_in 1495 (by decide +kernel)) rfl
theorem kv_L_44 : lkV RL 44 yX11_feed cX11_feed 8 (some .int) 5 11 := lkV.of5 wd_1492 wd_1493 wd_1494 wd_119 wd_1495 (by decide +kernel) (by decide) ⟨_, _, rfl⟩
theorem wd_738 : Cond.methodLink RL 45 yX10_end ∈ lw_g := g_in (t_in 738 (by decide +kernel)) rfl
theorem wd_739 : Cond.instanceMethod yX10_end ∈ lw_g := g_in (t_in 739 (by decide +kernel)) rfl
theorem wd_740 : Cond.selects "WindingSquare" yX10_end yX10_end ∈ lw_g := g_in (t_in 740 (by decide +kernel)) rfl
theorem wd_741 : Cond.code yX10_end cX10_end 2 (some .boolean) ∈ lw_g := g_in (t_in 741 (by decide +kernel)) rfl
theorem kv_L_45 : lkV RL 45 yX10_end cX10_end 2 (some .boolean) 1 10 := lkV.of5 wd_738 wd_739 wd_740 wd_108 wd_741 (by decide +kernel) (by decide) ⟨_, _, rfl⟩
theorem wd_1496 : Cond.methodLink RL 49 yX11_end ∈ lw_g := g_in (t_in 1496 (by decide +kernel)) rfl
theorem wd_1497 : Cond.instanceMethod yX11_end ∈ lw_g := g_in (t_in 1497 (by decide +kernel)) rfl
theorem wd_1498 : Cond.selects "WindingSquareModel" yX11_end yX11_end ∈ lw_g := g_in (t_in 1498 (by decide +kernel)) rfl
theorem wd_1499 : Cond.code yX11_end cX11_end 2 (some .boolean) ∈ lw_g := g_in (t_in 1499 (by decide +kernel)) rfl
theorem kv_L_49 : lkV RL 49 yX11_end cX11_end 2 (some .boolean) 1 11 := lkV.of5 wd_1496 wd_1497 wd_1498 wd_119 wd_1499 (by decide +kernel) (by decide) ⟨_, _, rfl⟩
theorem wd_742 : Cond.methodLink RL 50 yX10_text ∈ lw_g := g_in (t_in 742 (by decide +kernel)) rfl
theorem wd_743 : Cond.instanceMethod yX10_text ∈ lw_g := g_in (t_in 743 (by decide +kernel)) rfl
theorem wd_744 : Cond.selects "WindingSquare" yX10_text yX10_text ∈ lw_g := g_in (t_in 744 (by decide +kernel)) rfl
theorem wd_745 : Cond.code yX10_text cX10_text 2 (some .int) ∈ lw_g := g_in (t_in 745 (by decide +kernel)) rfl
theorem kv_L_50 : lkV RL 50 yX10_text cX10_text 2 (some .int) 1 10 := lkV.of5 wd_742 wd_743 wd_744 wd_108 wd_745 (by decide +kernel) (by decide) ⟨_, _, rfl⟩
theorem wd_1503 : Cond.methodLink RL 53 yX11_text ∈ lw_g := g_in (t_in 1503 (by decide +kernel)) rfl
theorem wd_1504 : Cond.instanceMethod yX11_text ∈ lw_g := g_in (t_in 1504 (by decide +kernel)) rfl
theorem wd_1505 : Cond.selects "WindingSquareModel" yX11_text yX11_text ∈ lw_g := g_in (t_in 1505 (by decide +kernel)) rfl
theorem wd_1506 : Cond.code yX11_text cX11_text 4 (some .int) ∈ lw_g := g_in (t_in 1506 (by decide +kernel)) rfl
theorem kv_L_53 : lkV RL 53 yX11_text cX11_text 4 (some .int) 1 11 := lkV.of5 wd_1503 wd_1504 wd_1505 wd_119 wd_1506 (by decide +kernel) (by decide) ⟨_, _, rfl⟩
theorem wd_991 : Cond.methodLink RL 54 yX10_fault ∈ lw_g := g_in (t_in 991 (by decide +kernel)) rfl
theorem wd_992 : Cond.instanceMethod yX10_fault ∈ lw_g := g_in (t_in 992 (by decide +kernel)) rfl
theorem wd_993 : Cond.selects "WindingSquare" yX10_fault yX10_fault ∈ lw_g := g_in (t_in 993 (by decide +kernel)) rfl
theorem wd_994 : Cond.code yX10_fault cX10_fault 2 (some .int) ∈ lw_g := g_in (t_in 994 (by decide +kernel)) rfl
theorem kv_L_54 : lkV RL 54 yX10_fault cX10_fault 2 (some .int) 1 10 := lkV.of5 wd_991 wd_992 wd_993 wd_108 wd_994 (by decide +kernel) (by decide) ⟨_, _, rfl⟩
theorem wd_1623 : Cond.methodLink RL 57 yX11_fault ∈ lw_g := g_in (t_in 1623 (by decide +kernel)) rfl
theorem wd_1624 : Cond.instanceMethod yX11_fault ∈ lw_g := g_in (t_in 1624 (by decide +kernel)) rfl
theorem wd_1625 : Cond.selects "WindingSquareModel" yX11_fault yX11_fault ∈ lw_g := g_in (t_in 1625 (by decide +kernel)) rfl
theorem wd_1626 : Cond.code yX11_fault cX11_fault 2 (some .int) ∈ lw_g := g_in (t_in 1626 (by decide +kernel)) rfl
theorem kv_L_57 : lkV RL 57 yX11_fault cX11_fault 2 (some .int) 1 11 := lkV.of5 wd_1623 wd_1624 wd_1625 wd_119 wd_1626 (by decide +kernel) (by decide) ⟨_, _, rfl⟩
theorem wd_995 : Cond.methodLink RL 58 yX10_of ∈ lw_g := g_in (t_in 995 (by decide +kernel)) rfl
theorem wd_996 : Cond.instanceMethod yX10_of ∈ lw_g := g_in (t_in 996 (by decide +kernel)) rfl
theorem wd_997 : Cond.selects "WindingSquare" yX10_of yX10_of ∈ lw_g := g_in (t_in 997 (by decide +kernel)) rfl
theorem wd_998 : Cond.code yX10_of cX10_of 4 (some .int) ∈ lw_g := g_in (t_in 998 (by decide +kernel)) rfl
theorem kv_L_58 : lkV RL 58 yX10_of cX10_of 4 (some .int) 2 10 := lkV.of5 wd_995 wd_996 wd_997 wd_108 wd_998 (by decide +kernel) (by decide) ⟨_, _, rfl⟩
theorem wd_1779 : Cond.methodLink RL 62 yX11_of ∈ lw_g := g_in (t_in 1779 (by decide +kernel)) rfl
theorem wd_1780 : Cond.instanceMethod yX11_of ∈ lw_g := g_in (t_in 1780 (by decide +kernel)) rfl
theorem wd_1781 : Cond.selects "WindingSquareModel" yX11_of yX11_of ∈ lw_g := g_in (t_in 1781 (by decide +kernel)) rfl
theorem wd_1782 : Cond.code yX11_of cX11_of 3 (some .int) ∈ lw_g := g_in (t_in 1782 (by decide +kernel)) rfl
theorem kv_L_62 : lkV RL 62 yX11_of cX11_of 3 (some .int) 2 11 := lkV.of5 wd_1779 wd_1780 wd_1781 wd_119 wd_1782 (by decide +kernel) (by decide) ⟨_, _, rfl⟩
theorem wd_1003 : Cond.methodLink RL 63 yX10_cell ∈ lw_g := g_in (t_in 1003 (by decide +kernel)) rfl
theorem wd_1004 : Cond.instanceMethod yX10_cell ∈ lw_g := g_in (t_in 1004 (by decide +kernel)) rfl
theorem wd_1005 : Cond.selects "WindingSquare" yX10_cell yX10_cell ∈ lw_g := g_in (t_in 1005 (by decide +kernel)) rfl
theorem wd_1006 : Cond.code yX10_cell cX10_cell 5 (some .int) ∈ lw_g := g_in (t_in 1006 (by decide +kernel)) rfl
theorem kv_L_63 : lkV RL 63 yX10_cell cX10_cell 5 (some .int) 3 10 := lkV.of5 wd_1003 wd_1004 wd_1005 wd_108 wd_1006 (by decide +kernel) (by decide) ⟨_, _, rfl⟩
theorem wd_1787 : Cond.methodLink RL 67 yX11_cell ∈ lw_g := g_in (t_in 1787 (by decide +kernel)) rfl
theorem wd_1788 : Cond.instanceMethod yX11_cell ∈ lw_g := g_in (t_in 1788 (by decide +kernel)) rfl
theorem wd_1789 : Cond.selects "WindingSquareModel" yX11_cell yX11_cell ∈ lw_g := g_in (t_in 1789 (by decide +kernel)) rfl
theorem wd_1790 : Cond.code yX11_cell cX11_cell 4 (some .int) ∈ lw_g := g_in (t_in 1790 (by decide +kernel)) rfl
theorem kv_L_67 : lkV RL 67 yX11_cell cX11_cell 4 (some .int) 3 11 := lkV.of5 wd_1787 wd_1788 wd_1789 wd_119 wd_1790 (by decide +kernel) (by decide) ⟨_, _, rfl⟩
theorem wd_1007 : Cond.methodLink RL 68 yX10_book ∈ lw_g := g_in (t_in 1007 (by decide +kernel)) rfl
theorem wd_1008 : Cond.instanceMethod yX10_book ∈ lw_g := g_in (t_in 1008 (by decide +kernel)) rfl
theorem wd_1009 : Cond.selects "WindingSquare" yX10_book yX10_book ∈ lw_g := g_in (t_in 1009 (by decide +kernel)) rfl
theorem wd_1010 : Cond.code yX10_book cX10_book 3 (some .int) ∈ lw_g := g_in (t_in 1010 (by decide +kernel)) rfl
theorem kv_L_68 : lkV RL 68 yX10_book cX10_book 3 (some .int) 2 10 := lkV.of5 wd_1007 wd_1008 wd_1009 wd_108 wd_1010 (by decide +kernel) (by decide) ⟨_, _, rfl⟩
theorem wd_1791 : Cond.methodLink RL 71 yX11_book ∈ lw_g := g_in (t_in 1791 (by decide +kernel)) rfl
theorem wd_1792 : Cond.instanceMethod yX11_book ∈ lw_g := g_in (t_in 1792 (by decide +kernel)) rfl
theorem wd_1793 : Cond.selects "WindingSquareModel" yX11_book yX11_book ∈ lw_g := g_in (t_in 1793 (by decide +kernel)) rfl
theorem wd_1794 : Cond.code yX11_book cX11_book 3 (some .int) ∈ lw_g := g_in (t_in 1794 (by decide +kernel)) rfl
theorem kv_L_71 : lkV RL 71 yX11_book cX11_book 3 (some .int) 2 11 := lkV.of5 wd_1791 wd_1792 wd_1793 wd_119 wd_1794 (by decide +kernel) (by decide) ⟨_, _, rfl⟩
theorem wd_1015 : Cond.methodLink RL 72 yX10_goes ∈ lw_g := g_in (t_in 1015 (by decide +kernel)) rfl
theorem wd_1016 : Cond.instanceMethod yX10_goes ∈ lw_g := g_in (t_in 1016 (by decide +kernel)) rfl
theorem wd_1017 : Cond.selects "WindingSquare" yX10_goes yX10_goes ∈ lw_g := g_in (t_in 1017 (by decide +kernel)) rfl
theorem wd_1018 : Cond.code yX10_goes cX10_goes 4 (some .int) ∈ lw_g := g_in (t_in 1018 (by decide +kernel)) rfl
theorem kv_L_72 : lkV RL 72 yX10_goes cX10_goes 4 (some .int) 2 10 := lkV.of5 wd_1015 wd_1016 wd_1017 wd_108 wd_1018 (by decide +kernel) (by decide) ⟨_, _, rfl⟩
theorem wd_1799 : Cond.methodLink RL 75 yX11_goes ∈ lw_g := g_in (t_in 1799 (by decide +kernel)) rfl
theorem wd_1800 : Cond.instanceMethod yX11_goes ∈ lw_g := g_in (t_in 1800 (by decide +kernel)) rfl
theorem wd_1801 : Cond.selects "WindingSquareModel" yX11_goes yX11_goes ∈ lw_g := g_in (t_in 1801 (by decide +kernel)) rfl
theorem wd_1802 : Cond.code yX11_goes cX11_goes 4 (some .int) ∈ lw_g := g_in (t_in 1802 (by decide +kernel)) rfl
theorem kv_L_75 : lkV RL 75 yX11_goes cX11_goes 4 (some .int) 2 11 := lkV.of5 wd_1799 wd_1800 wd_1801 wd_119 wd_1802 (by decide +kernel) (by decide) ⟨_, _, rfl⟩
theorem wd_1028 : Cond.methodLink RL 76 yX10_over ∈ lw_g := g_in (t_in 1028 (by decide +kernel)) rfl
theorem wd_1029 : Cond.instanceMethod yX10_over ∈ lw_g := g_in (t_in 1029 (by decide +kernel)) rfl
theorem wd_1030 : Cond.selects "WindingSquare" yX10_over yX10_over ∈ lw_g := g_in (t_in 1030 (by decide +kernel)) rfl
theorem wd_1031 : Cond.code yX10_over cX10_over 4 (some .int) ∈ lw_g := g_in (t_in 1031 (by decide +kernel)) rfl
theorem kv_L_76 : lkV RL 76 yX10_over cX10_over 4 (some .int) 1 10 := lkV.of5 wd_1028 wd_1029 wd_1030 wd_108 wd_1031 (by decide +kernel) (by decide) ⟨_, _, rfl⟩
theorem wd_1803 : Cond.methodLink RL 79 yX11_over ∈ lw_g := g_in (t_in 1803 (by decide +kernel)) rfl
theorem wd_1804 : Cond.instanceMethod yX11_over ∈ lw_g := g_in (t_in 1804 (by decide +kernel)) rfl
theorem wd_1805 : Cond.selects "WindingSquareModel" yX11_over yX11_over ∈ lw_g := g_in (t_in 1805 (by decide +kernel)) rfl
theorem wd_1806 : Cond.code yX11_over cX11_over 3 (some .int) ∈ lw_g := g_in (t_in 1806 (by decide +kernel)) rfl
theorem kv_L_79 : lkV RL 79 yX11_over cX11_over 3 (some .int) 1 11 := lkV.of5 wd_1803 wd_1804 wd_1805 wd_119 wd_1806 (by decide +kernel) (by decide) ⟨_, _, rfl⟩
theorem wd_1032 : Cond.methodLink RL 80 yX10_far ∈ lw_g := g_in (t_in 1032 (by decide +kernel)) rfl
theorem wd_1033 : Cond.instanceMethod yX10_far ∈ lw_g := g_in (t_in 1033 (by decide +kernel)) rfl
theorem wd_1034 : Cond.selects "WindingSquare" yX10_far yX10_far ∈ lw_g := g_in (t_in 1034 (by decide +kernel)) rfl
theorem wd_1035 : Cond.code yX10_far cX10_far 5 (some .int) ∈ lw_g := g_in (t_in 1035 (by decide +kernel)) rfl
theorem kv_L_80 : lkV RL 80 yX10_far cX10_far 5 (some .int) 4 10 := lkV.of5 wd_1032 wd_1033 wd_1034 wd_108 wd_1035 (by decide +kernel) (by decide) ⟨_, _, rfl⟩
theorem wd_1815 : Cond.methodLink RL 84 yX11_far ∈ lw_g := g_in (t_in 1815 (by decide +kernel)) rfl
theorem wd_1816 : Cond.instanceMethod yX11_far ∈ lw_g := g_in (t_in 1816 (by decide +kernel)) rfl
theorem wd_1817 : Cond.selects "WindingSquareModel" yX11_far yX11_far ∈ lw_g := g_in (t_in 1817 (by decide +kernel)) rfl
theorem wd_1818 : Cond.code yX11_far cX11_far 8 (some .int) ∈ lw_g := g_in (t_in 1818 (by decide +kernel)) rfl
theorem kv_L_84 : lkV RL 84 yX11_far cX11_far 8 (some .int) 4 11 := lkV.of5 wd_1815 wd_1816 wd_1817 wd_119 wd_1818 (by decide +kernel) (by decide) ⟨_, _, rfl⟩
theorem wd_1074 : Cond.methodLink RL 85 yX10_with ∈ lw_g := g_in (t_in 1074 (by decide +kernel)) rfl
theorem wd_1075 : Cond.instanceMethod yX10_with ∈ lw_g := g_in (t_in 1075 (by decide +kernel)) rfl
theorem wd_1076 : Cond.selects "WindingSquare" yX10_with yX10_with ∈ lw_g := g_in (t_in 1076 (by decide +kernel)) rfl
theorem wd_1077 : Cond.code yX10_with cX10_with 7 (some .int) ∈ lw_g := g_in (t_in 1077 (by decide +kernel)) rfl
theorem kv_L_85 : lkV RL 85 yX10_with cX10_with 7 (some .int) 4 10 := lkV.of5 wd_1074 wd_1075 wd_1076 wd_108 wd_1077 (by decide +kernel) (by decide) ⟨_, _, rfl⟩
theorem wd_1839 : Cond.methodLink RL 88 yX11_with ∈ lw_g := g_in (t_in 1839 (by decide +kernel)) rfl
theorem wd_1840 : Cond.instanceMethod yX11_with ∈ lw_g := g_in (t_in 1840 (by decide +kernel)) rfl
theorem wd_1841 : Cond.selects "WindingSquareModel" yX11_with yX11_with ∈ lw_g := g_in (t_in 1841 (by decide +kernel)) rfl
theorem wd_1842 : Cond.code yX11_with cX11_with 8 (some .int) ∈ lw_g := g_in (t_in 1842 (by decide +kernel)) rfl
theorem kv_L_88 : lkV RL 88 yX11_with cX11_with 8 (some .int) 4 11 := lkV.of5 wd_1839 wd_1840 wd_1841 wd_119 wd_1842 (by decide +kernel) (by decide) ⟨_, _, rfl⟩
theorem wd_1098 : Cond.methodLink RL 89 yX10_seen ∈ lw_g := g_in (t_in 1098 (by decide +kernel)) rfl
theorem wd_1099 : Cond.instanceMethod yX10_seen ∈ lw_g := g_in (t_in 1099 (by decide +kernel)) rfl
theorem wd_1100 : Cond.selects "WindingSquare" yX10_seen yX10_seen ∈ lw_g := g_in (t_in 1100 (by decide +kernel)) rfl
theorem wd_1101 : Cond.code yX10_seen cX10_seen 5 (some .int) ∈ lw_g := g_in (t_in 1101 (by decide +kernel)) rfl
theorem kv_L_89 : lkV RL 89 yX10_seen cX10_seen 5 (some .int) 2 10 := lkV.of5 wd_1098 wd_1099 wd_1100 wd_108 wd_1101 (by decide +kernel) (by decide) ⟨_, _, rfl⟩
theorem wd_1855 : Cond.methodLink RL 92 yX11_seen ∈ lw_g := g_in (t_in 1855 (by decide +kernel)) rfl
theorem wd_1856 : Cond.instanceMethod yX11_seen ∈ lw_g := g_in (t_in 1856 (by decide +kernel)) rfl
theorem wd_1857 : Cond.selects "WindingSquareModel" yX11_seen yX11_seen ∈ lw_g := g_in (t_in 1857 (by decide +kernel)) rfl
theorem wd_1858 : Cond.code yX11_seen cX11_seen 5 (some .int) ∈ lw_g := g_in (t_in 1858 (by decide +kernel)) rfl
theorem kv_L_92 : lkV RL 92 yX11_seen cX11_seen 5 (some .int) 2 11 := lkV.of5 wd_1855 wd_1856 wd_1857 wd_119 wd_1858 (by decide +kernel) (by decide) ⟨_, _, rfl⟩
theorem wd_1117 : Cond.methodLink RL 93 yX10_known ∈ lw_g := g_in (t_in 1117 (by decide +kernel)) rfl
theorem wd_1118 : Cond.instanceMethod yX10_known ∈ lw_g := g_in (t_in 1118 (by decide +kernel)) rfl
theorem wd_1119 : Cond.selects "WindingSquare" yX10_known yX10_known ∈ lw_g := g_in (t_in 1119 (by decide +kernel)) rfl
theorem wd_1120 : Cond.code yX10_known cX10_known 3 (some .int) ∈ lw_g := g_in (t_in 1120 (by decide +kernel)) rfl
theorem kv_L_93 : lkV RL 93 yX10_known cX10_known 3 (some .int) 2 10 := lkV.of5 wd_1117 wd_1118 wd_1119 wd_108 wd_1120 (by decide +kernel) (by decide) ⟨_, _, rfl⟩
theorem wd_1869 : Cond.methodLink RL 96 yX11_known ∈ lw_g := g_in (t_in 1869 (by decide +kernel)) rfl
theorem wd_1870 : Cond.instanceMethod yX11_known ∈ lw_g := g_in (t_in 1870 (by decide +kernel)) rfl
theorem wd_1871 : Cond.selects "WindingSquareModel" yX11_known yX11_known ∈ lw_g := g_in (t_in 1871 (by decide +kernel)) rfl
theorem wd_1872 : Cond.code yX11_known cX11_known 4 (some .int) ∈ lw_g := g_in (t_in 1872 (by decide +kernel)) rfl
theorem kv_L_96 : lkV RL 96 yX11_known cX11_known 4 (some .int) 2 11 := lkV.of5 wd_1869 wd_1870 wd_1871 wd_119 wd_1872 (by decide +kernel) (by decide) ⟨_, _, rfl⟩
theorem wd_1125 : Cond.methodLink RL 97 yX10_one ∈ lw_g := g_in (t_in 1125 (by decide +kernel)) rfl
theorem wd_1126 : Cond.instanceMethod yX10_one ∈ lw_g := g_in (t_in 1126 (by decide +kernel)) rfl
theorem wd_1127 : Cond.selects "WindingSquare" yX10_one yX10_one ∈ lw_g := g_in (t_in 1127 (by decide +kernel)) rfl
theorem wd_1128 : Cond.code yX10_one cX10_one 2 (some .int) ∈ lw_g := g_in (t_in 1128 (by decide +kernel)) rfl
theorem kv_L_97 : lkV RL 97 yX10_one cX10_one 2 (some .int) 1 10 := lkV.of5 wd_1125 wd_1126 wd_1127 wd_108 wd_1128 (by decide +kernel) (by decide) ⟨_, _, rfl⟩
theorem wd_1873 : Cond.methodLink RL 100 yX11_one ∈ lw_g := g_in (t_in 1873 (by decide +kernel)) rfl
theorem wd_1874 : Cond.instanceMethod yX11_one ∈ lw_g := g_in (t_in 1874 (by decide +kernel)) rfl
theorem wd_1875 : Cond.selects "WindingSquareModel" yX11_one yX11_one ∈ lw_g := g_in (t_in 1875 (by decide +kernel)) rfl
theorem wd_1876 : Cond.code yX11_one cX11_one 7 (some .int) ∈ lw_g := g_in (t_in 1876 (by decide +kernel)) rfl
theorem kv_L_100 : lkV RL 100 yX11_one cX11_one 7 (some .int) 1 11 := lkV.of5 wd_1873 wd_1874 wd_1875 wd_119 wd_1876 (by decide +kernel) (by decide) ⟨_, _, rfl⟩
theorem wd_1145 : Cond.methodLink RL 101 yX10_move ∈ lw_g := g_in (t_in 1145 (by decide +kernel)) rfl
theorem wd_1146 : Cond.instanceMethod yX10_move ∈ lw_g := g_in (t_in 1146 (by decide +kernel)) rfl
theorem wd_1147 : Cond.selects "WindingSquare" yX10_move yX10_move ∈ lw_g := g_in (t_in 1147 (by decide +kernel)) rfl
theorem wd_1148 : Cond.code yX10_move cX10_move 2 (some .int) ∈ lw_g := g_in (t_in 1148 (by decide +kernel)) rfl
theorem kv_L_101 : lkV RL 101 yX10_move cX10_move 2 (some .int) 1 10 := lkV.of5 wd_1145 wd_1146 wd_1147 wd_108 wd_1148 (by decide +kernel) (by decide) ⟨_, _, rfl⟩
theorem wd_1885 : Cond.methodLink RL 104 yX11_move ∈ lw_g := g_in (t_in 1885 (by decide +kernel)) rfl
theorem wd_1886 : Cond.instanceMethod yX11_move ∈ lw_g := g_in (t_in 1886 (by decide +kernel)) rfl
theorem wd_1887 : Cond.selects "WindingSquareModel" yX11_move yX11_move ∈ lw_g := g_in (t_in 1887 (by decide +kernel)) rfl
theorem wd_1888 : Cond.code yX11_move cX11_move 2 (some .int) ∈ lw_g := g_in (t_in 1888 (by decide +kernel)) rfl
theorem kv_L_104 : lkV RL 104 yX11_move cX11_move 2 (some .int) 1 11 := lkV.of5 wd_1885 wd_1886 wd_1887 wd_119 wd_1888 (by decide +kernel) (by decide) ⟨_, _, rfl⟩
theorem wd_1153 : Cond.methodLink RL 105 yX10_round ∈ lw_g := g_in (t_in 1153 (by decide +kernel)) rfl
theorem wd_1154 : Cond.instanceMethod yX10_round ∈ lw_g := g_in (t_in 1154 (by decide +kernel)) rfl
theorem wd_1155 : Cond.selects "WindingSquare" yX10_round yX10_round ∈ lw_g := g_in (t_in 1155 (by decide +kernel)) rfl
theorem wd_1156 : Cond.code yX10_round cX10_round 2 (some .int) ∈ lw_g := g_in (t_in 1156 (by decide +kernel)) rfl
theorem kv_L_105 : lkV RL 105 yX10_round cX10_round 2 (some .int) 1 10 := lkV.of5 wd_1153 wd_1154 wd_1155 wd_108 wd_1156 (by decide +kernel) (by decide) ⟨_, _, rfl⟩
theorem wd_1889 : Cond.methodLink RL 108 yX11_round ∈ lw_g := g_in (t_in 1889 (by decide +kernel)) rfl
theorem wd_1890 : Cond.instanceMethod yX11_round ∈ lw_g := g_in (t_in 1890 (by decide +kernel)) rfl
theorem wd_1891 : Cond.selects "WindingSquareModel" yX11_round yX11_round ∈ lw_g := g_in (t_in 1891 (by decide +kernel)) rfl
theorem wd_1892 : Cond.code yX11_round cX11_round 3 (some .int) ∈ lw_g := g_in (t_in 1892 (by decide +kernel)) rfl
theorem kv_L_108 : lkV RL 108 yX11_round cX11_round 3 (some .int) 1 11 := lkV.of5 wd_1889 wd_1890 wd_1891 wd_119 wd_1892 (by decide +kernel) (by decide) ⟨_, _, rfl⟩
theorem wd_1188 : Cond.methodLink RL 109 yX10_folded ∈ lw_g := g_in (t_in 1188 (by decide +kernel)) rfl
theorem wd_1189 : Cond.instanceMethod yX10_folded ∈ lw_g := g_in (t_in 1189 (by decide +kernel)) rfl
theorem wd_1190 : Cond.selects "WindingSquare" yX10_folded yX10_folded ∈ lw_g := g_in (t_in 1190 (by decide +kernel)) rfl
theorem wd_1191 : Cond.code yX10_folded cX10_folded 4 (some .int) ∈ lw_g := g_in (t_in 1191 (by decide +kernel)) rfl
theorem kv_L_109 : lkV RL 109 yX10_folded cX10_folded 4 (some .int) 3 10 := lkV.of5 wd_1188 wd_1189 wd_1190 wd_108 wd_1191 (by decide +kernel) (by decide) ⟨_, _, rfl⟩
theorem wd_1909 : Cond.methodLink RL 112 yX11_folded ∈ lw_g := g_in (t_in 1909 (by decide +kernel)) rfl
theorem wd_1910 : Cond.instanceMethod yX11_folded ∈ lw_g := g_in (t_in 1910 (by decide +kernel)) rfl
theorem wd_1911 : Cond.selects "WindingSquareModel" yX11_folded yX11_folded ∈ lw_g := g_in (t_in 1911 (by decide +kernel)) rfl
theorem wd_1912 : Cond.code yX11_folded cX11_folded 8 (some .int) ∈ lw_g := g_in (t_in 1912 (by decide +kernel)) rfl
theorem kv_L_112 : lkV RL 112 yX11_folded cX11_folded 8 (some .int) 3 11 := lkV.of5 wd_1909 wd_1910 wd_1911 wd_119 wd_1912 (by decide +kernel) (by decide) ⟨_, _, rfl⟩
theorem wd_1200 : Cond.methodLink RL 113 yX10_duel ∈ lw_g := g_in (t_in 1200 (by decide +kernel)) rfl
theorem wd_1201 : Cond.instanceMethod yX10_duel ∈ lw_g := g_in (t_in 1201 (by decide +kernel)) rfl
theorem wd_1202 : Cond.selects "WindingSquare" yX10_duel yX10_duel ∈ lw_g := g_in (t_in 1202 (by decide +kernel)) rfl
theorem wd_1203 : Cond.code yX10_duel cX10_duel 4 (some .int) ∈ lw_g := g_in (t_in 1203 (by decide +kernel)) rfl
theorem kv_L_113 : lkV RL 113 yX10_duel cX10_duel 4 (some .int) 3 10 := lkV.of5 wd_1200 wd_1201 wd_1202 wd_108 wd_1203 (by decide +kernel) (by decide) ⟨_, _, rfl⟩
theorem wd_1916 : Cond.methodLink RL 116 yX11_duel ∈ lw_g := g_in (t_in 1916 (by decide +kernel)) rfl
theorem wd_1917 : Cond.instanceMethod yX11_duel ∈ lw_g := g_in (t_in 1917 (by decide +kernel)) rfl
theorem wd_1918 : Cond.selects "WindingSquareModel" yX11_duel yX11_duel ∈ lw_g := g_in (t_in 1918 (by decide +kernel)) rfl
theorem wd_1919 : Cond.code yX11_duel cX11_duel 11 (some .int) ∈ lw_g := g_in (t_in 1919 (by decide +kernel)) rfl
theorem kv_L_116 : lkV RL 116 yX11_duel cX11_duel 11 (some .int) 3 11 := lkV.of5 wd_1916 wd_1917 wd_1918 wd_119 wd_1919 (by decide +kernel) (by decide) ⟨_, _, rfl⟩
theorem wd_1218 : Cond.methodLink RL 117 yX10_ant ∈ lw_g := g_in (t_in 1218 (by decide +kernel)) rfl
theorem wd_1219 : Cond.instanceMethod yX10_ant ∈ lw_g := g_in (t_in 1219 (by decide +kernel)) rfl
theorem wd_1220 : Cond.selects "WindingSquare" yX10_ant yX10_ant ∈ lw_g := g_in (t_in 1220 (by decide +kernel)) rfl
theorem wd_1221 : Cond.code yX10_ant cX10_ant 3 (some .int) ∈ lw_g := g_in (t_in 1221 (by decide +kernel)) rfl
theorem kv_L_117 : lkV RL 117 yX10_ant cX10_ant 3 (some .int) 2 10 := lkV.of5 wd_1218 wd_1219 wd_1220 wd_108 wd_1221 (by decide +kernel) (by decide) ⟨_, _, rfl⟩
theorem wd_1924 : Cond.methodLink RL 120 yX11_ant ∈ lw_g := g_in (t_in 1924 (by decide +kernel)) rfl
theorem wd_1925 : Cond.instanceMethod yX11_ant ∈ lw_g := g_in (t_in 1925 (by decide +kernel)) rfl
theorem wd_1926 : Cond.selects "WindingSquareModel" yX11_ant yX11_ant ∈ lw_g := g_in (t_in 1926 (by decide +kernel)) rfl
theorem wd_1927 : Cond.code yX11_ant cX11_ant 11 (some .int) ∈ lw_g := g_in (t_in 1927 (by decide +kernel)) rfl
theorem kv_L_120 : lkV RL 120 yX11_ant cX11_ant 11 (some .int) 2 11 := lkV.of5 wd_1924 wd_1925 wd_1926 wd_119 wd_1927 (by decide +kernel) (by decide) ⟨_, _, rfl⟩
theorem wd_1229 : Cond.methodLink RL 121 yX10_hooks ∈ lw_g := g_in (t_in 1229 (by decide +kernel)) rfl
theorem wd_1230 : Cond.instanceMethod yX10_hooks ∈ lw_g := g_in (t_in 1230 (by decide +kernel)) rfl
theorem wd_1231 : Cond.selects "WindingSquare" yX10_hooks yX10_hooks ∈ lw_g := g_in (t_in 1231 (by decide +kernel)) rfl
theorem wd_1232 : Cond.code yX10_hooks cX10_hooks 3 (some .int) ∈ lw_g := g_in (t_in 1232 (by decide +kernel)) rfl
theorem kv_L_121 : lkV RL 121 yX10_hooks cX10_hooks 3 (some .int) 2 10 := lkV.of5 wd_1229 wd_1230 wd_1231 wd_108 wd_1232 (by decide +kernel) (by decide) ⟨_, _, rfl⟩
theorem wd_1928 : Cond.methodLink RL 124 yX11_hooks ∈ lw_g := g_in (t_in 1928 (by decide +kernel)) rfl
theorem wd_1929 : Cond.instanceMethod yX11_hooks ∈ lw_g := g_in (t_in 1929 (by decide +kernel)) rfl
theorem wd_1930 : Cond.selects "WindingSquareModel" yX11_hooks yX11_hooks ∈ lw_g := g_in (t_in 1930 (by decide +kernel)) rfl
theorem wd_1931 : Cond.code yX11_hooks cX11_hooks 5 (some .int) ∈ lw_g := g_in (t_in 1931 (by decide +kernel)) rfl
theorem kv_L_124 : lkV RL 124 yX11_hooks cX11_hooks 5 (some .int) 2 11 := lkV.of5 wd_1928 wd_1929 wd_1930 wd_119 wd_1931 (by decide +kernel) (by decide) ⟨_, _, rfl⟩
theorem wd_1243 : Cond.methodLink RL 125 yX10_apart ∈ lw_g := g_in (t_in 1243 (by decide +kernel)) rfl
theorem wd_1244 : Cond.instanceMethod yX10_apart ∈ lw_g := g_in (t_in 1244 (by decide +kernel)) rfl
theorem wd_1245 : Cond.selects "WindingSquare" yX10_apart yX10_apart ∈ lw_g := g_in (t_in 1245 (by decide +kernel)) rfl
theorem wd_1246 : Cond.code yX10_apart cX10_apart 2 (some .int) ∈ lw_g := g_in (t_in 1246 (by decide +kernel)) rfl
theorem kv_L_125 : lkV RL 125 yX10_apart cX10_apart 2 (some .int) 1 10 := lkV.of5 wd_1243 wd_1244 wd_1245 wd_108 wd_1246 (by decide +kernel) (by decide) ⟨_, _, rfl⟩
theorem wd_1932 : Cond.methodLink RL 128 yX11_apart ∈ lw_g := g_in (t_in 1932 (by decide +kernel)) rfl
theorem wd_1933 : Cond.instanceMethod yX11_apart ∈ lw_g := g_in (t_in 1933 (by decide +kernel)) rfl
theorem wd_1934 : Cond.selects "WindingSquareModel" yX11_apart yX11_apart ∈ lw_g := g_in (t_in 1934 (by decide +kernel)) rfl
theorem wd_1935 : Cond.code yX11_apart cX11_apart 5 (some .int) ∈ lw_g := g_in (t_in 1935 (by decide +kernel)) rfl
theorem kv_L_128 : lkV RL 128 yX11_apart cX11_apart 5 (some .int) 1 11 := lkV.of5 wd_1932 wd_1933 wd_1934 wd_119 wd_1935 (by decide +kernel) (by decide) ⟨_, _, rfl⟩
theorem wd_1255 : Cond.methodLink RL 129 yX10_gap ∈ lw_g := g_in (t_in 1255 (by decide +kernel)) rfl
theorem wd_1256 : Cond.instanceMethod yX10_gap ∈ lw_g := g_in (t_in 1256 (by decide +kernel)) rfl
theorem wd_1257 : Cond.selects "WindingSquare" yX10_gap yX10_gap ∈ lw_g := g_in (t_in 1257 (by decide +kernel)) rfl
theorem wd_1258 : Cond.code yX10_gap cX10_gap 3 (some .int) ∈ lw_g := g_in (t_in 1258 (by decide +kernel)) rfl
theorem kv_L_129 : lkV RL 129 yX10_gap cX10_gap 3 (some .int) 2 10 := lkV.of5 wd_1255 wd_1256 wd_1257 wd_108 wd_1258 (by decide +kernel) (by decide) ⟨_, _, rfl⟩
theorem wd_1901 : Cond.methodLink RL 132 yX11_gap ∈ lw_g := g_in (t_in 1901 (by decide +kernel)) rfl
theorem wd_1902 : Cond.instanceMethod yX11_gap ∈ lw_g := g_in (t_in 1902 (by decide +kernel)) rfl
theorem wd_1903 : Cond.selects "WindingSquareModel" yX11_gap yX11_gap ∈ lw_g := g_in (t_in 1903 (by decide +kernel)) rfl
theorem wd_1904 : Cond.code yX11_gap cX11_gap 3 (some .int) ∈ lw_g := g_in (t_in 1904 (by decide +kernel)) rfl
theorem kv_L_132 : lkV RL 132 yX11_gap cX11_gap 3 (some .int) 2 11 := lkV.of5 wd_1901 wd_1902 wd_1903 wd_119 wd_1904 (by decide +kernel) (by decide) ⟨_, _, rfl⟩
theorem wd_1263 : Cond.methodLink RL 133 yX10_hedge ∈ lw_g := g_in (t_in 1263 (by decide +kernel)) rfl
theorem wd_1264 : Cond.instanceMethod yX10_hedge ∈ lw_g := g_in (t_in 1264 (by decide +kernel)) rfl
theorem wd_1265 : Cond.selects "WindingSquare" yX10_hedge yX10_hedge ∈ lw_g := g_in (t_in 1265 (by decide +kernel)) rfl
theorem wd_1266 : Cond.code yX10_hedge cX10_hedge 1 (some .int) ∈ lw_g := g_in (t_in 1266 (by decide +kernel)) rfl
theorem kv_L_133 : lkV RL 133 yX10_hedge cX10_hedge 1 (some .int) 0 10 := lkV.of5 wd_1263 wd_1264 wd_1265 wd_108 wd_1266 (by decide +kernel) (by decide) ⟨_, _, rfl⟩
theorem wd_1905 : Cond.methodLink RL 137 yX11_hedge ∈ lw_g := g_in (t_in 1905 (by decide +kernel)) rfl
theorem wd_1906 : Cond.instanceMethod yX11_hedge ∈ lw_g := g_in (t_in 1906 (by decide +kernel)) rfl
theorem wd_1907 : Cond.selects "WindingSquareModel" yX11_hedge yX11_hedge ∈ lw_g := g_in (t_in 1907 (by decide +kernel)) rfl
theorem wd_1908 : Cond.code yX11_hedge cX11_hedge 7 (some .int) ∈ lw_g := g_in (t_in 1908 (by decide +kernel)) rfl
theorem kv_L_137 : lkV RL 137 yX11_hedge cX11_hedge 7 (some .int) 0 11 := lkV.of5 wd_1905 wd_1906 wd_1907 wd_119 wd_1908 (by decide +kernel) (by decide) ⟨_, _, rfl⟩
theorem wd_1277 : Cond.methodLink RL 138 yX10_meets ∈ lw_g := g_in (t_in 1277 (by decide +kernel)) rfl
theorem wd_1278 : Cond.instanceMethod yX10_meets ∈ lw_g := g_in (t_in 1278 (by decide +kernel)) rfl
theorem wd_1279 : Cond.selects "WindingSquare" yX10_meets yX10_meets ∈ lw_g := g_in (t_in 1279 (by decide +kernel)) rfl
theorem wd_1280 : Cond.code yX10_meets cX10_meets 3 (some .int) ∈ lw_g := g_in (t_in 1280 (by decide +kernel)) rfl
theorem kv_L_138 : lkV RL 138 yX10_meets cX10_meets 3 (some .int) 2 10 := lkV.of5 wd_1277 wd_1278 wd_1279 wd_108 wd_1280 (by decide +kernel) (by decide) ⟨_, _, rfl⟩
theorem wd_1807 : Cond.methodLink RL 141 yX11_meets ∈ lw_g := g_in (t_in 1807 (by decide +kernel)) rfl
theorem wd_1808 : Cond.instanceMethod yX11_meets ∈ lw_g := g_in (t_in 1808 (by decide +kernel)) rfl
theorem wd_1809 : Cond.selects "WindingSquareModel" yX11_meets yX11_meets ∈ lw_g := g_in (t_in 1809 (by decide +kernel)) rfl
theorem wd_1810 : Cond.code yX11_meets cX11_meets 4 (some .int) ∈ lw_g := g_in (t_in 1810 (by decide +kernel)) rfl
theorem kv_L_141 : lkV RL 141 yX11_meets cX11_meets 4 (some .int) 2 11 := lkV.of5 wd_1807 wd_1808 wd_1809 wd_119 wd_1810 (by decide +kernel) (by decide) ⟨_, _, rfl⟩
theorem wd_1290 : Cond.methodLink RL 142 yX10_pigeons ∈ lw_g := g_in (t_in 1290 (by decide +kernel)) rfl
theorem wd_1291 : Cond.instanceMethod yX10_pigeons ∈ lw_g := g_in (t_in 1291 (by decide +kernel)) rfl
theorem wd_1292 : Cond.selects "WindingSquare" yX10_pigeons yX10_pigeons ∈ lw_g := g_in (t_in 1292 (by decide +kernel)) rfl
theorem wd_1293 : Cond.code yX10_pigeons cX10_pigeons 2 (some .int) ∈ lw_g := g_in (t_in 1293 (by decide +kernel)) rfl
theorem kv_L_142 : lkV RL 142 yX10_pigeons cX10_pigeons 2 (some .int) 1 10 := lkV.of5 wd_1290 wd_1291 wd_1292 wd_108 wd_1293 (by decide +kernel) (by decide) ⟨_, _, rfl⟩
theorem wd_1940 : Cond.methodLink RL 145 yX11_pigeons ∈ lw_g := g_in (t_in 1940 (by decide +kernel)) rfl
theorem wd_1941 : Cond.instanceMethod yX11_pigeons ∈ lw_g := g_in (t_in 1941 (by decide +kernel)) rfl
theorem wd_1942 : Cond.selects "WindingSquareModel" yX11_pigeons yX11_pigeons ∈ lw_g := g_in (t_in 1942 (by decide +kernel)) rfl
theorem wd_1943 : Cond.code yX11_pigeons cX11_pigeons 8 (some .int) ∈ lw_g := g_in (t_in 1943 (by decide +kernel)) rfl
theorem kv_L_145 : lkV RL 145 yX11_pigeons cX11_pigeons 8 (some .int) 1 11 := lkV.of5 wd_1940 wd_1941 wd_1942 wd_119 wd_1943 (by decide +kernel) (by decide) ⟨_, _, rfl⟩
theorem wd_1307 : Cond.methodLink RL 146 yX10_game ∈ lw_g := g_in (t_in 1307 (by decide +kernel)) rfl
theorem wd_1308 : Cond.instanceMethod yX10_game ∈ lw_g := g_in (t_in 1308 (by decide +kernel)) rfl
theorem wd_1309 : Cond.selects "WindingSquare" yX10_game yX10_game ∈ lw_g := g_in (t_in 1309 (by decide +kernel)) rfl
theorem wd_1310 : Cond.code yX10_game cX10_game 4 (some .int) ∈ lw_g := g_in (t_in 1310 (by decide +kernel)) rfl
theorem kv_L_146 : lkV RL 146 yX10_game cX10_game 4 (some .int) 3 10 := lkV.of5 wd_1307 wd_1308 wd_1309 wd_108 wd_1310 (by decide +kernel) (by decide) ⟨_, _, rfl⟩
theorem wd_1952 : Cond.methodLink RL 149 yX11_game ∈ lw_g := g_in (t_in 1952 (by decide +kernel)) rfl
theorem wd_1953 : Cond.instanceMethod yX11_game ∈ lw_g := g_in (t_in 1953 (by decide +kernel)) rfl
theorem wd_1954 : Cond.selects "WindingSquareModel" yX11_game yX11_game ∈ lw_g := g_in (t_in 1954 (by decide +kernel)) rfl
theorem wd_1955 : Cond.code yX11_game cX11_game 7 (some .int) ∈ lw_g := g_in (t_in 1955 (by decide +kernel)) rfl
theorem kv_L_149 : lkV RL 149 yX11_game cX11_game 7 (some .int) 3 11 := lkV.of5 wd_1952 wd_1953 wd_1954 wd_119 wd_1955 (by decide +kernel) (by decide) ⟨_, _, rfl⟩
theorem wd_1333 : Cond.methodLink RL 150 yX10_undo ∈ lw_g := g_in (t_in 1333 (by decide +kernel)) rfl
theorem wd_1334 : Cond.instanceMethod yX10_undo ∈ lw_g := g_in (t_in 1334 (by decide +kernel)) rfl
theorem wd_1335 : Cond.selects "WindingSquare" yX10_undo yX10_undo ∈ lw_g := g_in (t_in 1335 (by decide +kernel)) rfl
theorem wd_1336 : Cond.code yX10_undo cX10_undo 1 (some .boolean) ∈ lw_g := g_in (t_in 1336 (by decide +kernel)) rfl
theorem kv_L_150 : lkV RL 150 yX10_undo cX10_undo 1 (some .boolean) 0 10 := lkV.of5 wd_1333 wd_1334 wd_1335 wd_108 wd_1336 (by decide +kernel) (by decide) ⟨_, _, rfl⟩
theorem wd_1771 : Cond.methodLink RL 154 yX11_undo ∈ lw_g := g_in (t_in 1771 (by decide +kernel)) rfl
theorem wd_1772 : Cond.instanceMethod yX11_undo ∈ lw_g := g_in (t_in 1772 (by decide +kernel)) rfl
theorem wd_1773 : Cond.selects "WindingSquareModel" yX11_undo yX11_undo ∈ lw_g := g_in (t_in 1773 (by decide +kernel)) rfl
theorem wd_1774 : Cond.code yX11_undo cX11_undo 2 (some .boolean) ∈ lw_g := g_in (t_in 1774 (by decide +kernel)) rfl
theorem kv_L_154 : lkV RL 154 yX11_undo cX11_undo 2 (some .boolean) 0 11 := lkV.of5 wd_1771 wd_1772 wd_1773 wd_119 wd_1774 (by decide +kernel) (by decide) ⟨_, _, rfl⟩
theorem wd_1337 : Cond.methodLink RL 155 yX10_image ∈ lw_g := g_in (t_in 1337 (by decide +kernel)) rfl
theorem wd_1338 : Cond.instanceMethod yX10_image ∈ lw_g := g_in (t_in 1338 (by decide +kernel)) rfl
theorem wd_1339 : Cond.selects "WindingSquare" yX10_image yX10_image ∈ lw_g := g_in (t_in 1339 (by decide +kernel)) rfl
theorem wd_1340 : Cond.code yX10_image cX10_image 2 (some .boolean) ∈ lw_g := g_in (t_in 1340 (by decide +kernel)) rfl
theorem kv_L_155 : lkV RL 155 yX10_image cX10_image 2 (some .boolean) 1 10 := lkV.of5 wd_1337 wd_1338 wd_1339 wd_108 wd_1340 (by decide +kernel) (by decide) ⟨_, _, rfl⟩
theorem wd_1775 : Cond.methodLink RL 159 yX11_image ∈ lw_g := g_in (t_in 1775 (by decide +kernel)) rfl
theorem wd_1776 : Cond.instanceMethod yX11_image ∈ lw_g := g_in (t_in 1776 (by decide +kernel)) rfl
theorem wd_1777 : Cond.selects "WindingSquareModel" yX11_image yX11_image ∈ lw_g := g_in (t_in 1777 (by decide +kernel)) rfl
theorem wd_1778 : Cond.code yX11_image cX11_image 2 (some .boolean) ∈ lw_g := g_in (t_in 1778 (by decide +kernel)) rfl
theorem kv_L_159 : lkV RL 159 yX11_image cX11_image 2 (some .boolean) 1 11 := lkV.of5 wd_1775 wd_1776 wd_1777 wd_119 wd_1778 (by decide +kernel) (by decide) ⟨_, _, rfl⟩
theorem wd_1356 : Cond.methodLink RL 160 yX10_look ∈ lw_g := g_in (t_in 1356 (by decide +kernel)) rfl
theorem wd_1357 : Cond.instanceMethod yX10_look ∈ lw_g := g_in (t_in 1357 (by decide +kernel)) rfl
theorem wd_1358 : Cond.selects "WindingSquare" yX10_look yX10_look ∈ lw_g := g_in (t_in 1358 (by decide +kernel)) rfl
theorem wd_1359 : Cond.code yX10_look cX10_look 2 (some .int) ∈ lw_g := g_in (t_in 1359 (by decide +kernel)) rfl
theorem kv_L_160 : lkV RL 160 yX10_look cX10_look 2 (some .int) 1 10 := lkV.of5 wd_1356 wd_1357 wd_1358 wd_108 wd_1359 (by decide +kernel) (by decide) ⟨_, _, rfl⟩
theorem wd_1795 : Cond.methodLink RL 163 yX11_look ∈ lw_g := g_in (t_in 1795 (by decide +kernel)) rfl
theorem wd_1796 : Cond.instanceMethod yX11_look ∈ lw_g := g_in (t_in 1796 (by decide +kernel)) rfl
theorem wd_1797 : Cond.selects "WindingSquareModel" yX11_look yX11_look ∈ lw_g := g_in (t_in 1797 (by decide +kernel)) rfl
theorem wd_1798 : Cond.code yX11_look cX11_look 4 (some .int) ∈ lw_g := g_in (t_in 1798 (by decide +kernel)) rfl
theorem kv_L_163 : lkV RL 163 yX11_look cX11_look 4 (some .int) 1 11 := lkV.of5 wd_1795 wd_1796 wd_1797 wd_119 wd_1798 (by decide +kernel) (by decide) ⟨_, _, rfl⟩
