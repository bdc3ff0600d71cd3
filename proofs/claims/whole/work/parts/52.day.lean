/-! ===== to go on ===== -/
def dxI (f : Nat) : Int := if f = 1 then 1 else if f = 3 then -1 else 0
def dyI (f : Nat) : Int := if f = 0 then 1 else if f = 2 then -1 else 0
theorem t_zsx : ∀ f : Nat, f < 4 → zsV 0 f = J (dxI f) := by decide +kernel
theorem t_zsy : ∀ f : Nat, f < 4 → zsV 1 f = J (dyI f) := by decide +kernel
theorem t_gx : ∀ f : Nat, f < 4 → f_X11_goesX (J f) = J (dxI f) := by decide +kernel
theorem t_gy : ∀ f : Nat, f < 4 → f_X11_goesY (J f) = J (dyI f) := by decide +kernel
theorem dx_b : ∀ f : Nat, f < 4 → -1 ≤ dxI f ∧ dxI f ≤ 1 := by decide +kernel
theorem dy_b : ∀ f : Nat, f < 4 → -1 ≤ dyI f ∧ dyI f ≤ 1 := by decide +kernel
theorem t_ahead {M : zM} {a x y f : Nat} (hx : x < 12) (hy : y < 12) (hf : f < 4) (ex : M a 2 = J x) (ey : M a 3 = J y) (ef : M a 4 = J f) :
    f_X9_ahead a M = some (if 0 ≤ (x : Int) + dxI f ∧ (x : Int) + dxI f < 12 ∧ 0 ≤ (y : Int) + dyI f ∧ (y : Int) + dyI f < 12 then J (12 * ((y : Int) + dyI f) + ((x : Int) + dxI f)) else J (-1)) := by
  unfold f_X9_ahead
  have e3 : (f : Int) % 4 = f := by omega
  have bx := dx_b f hf
  have by' := dy_b f hf
  simp (disch := omega) only [↓nm_s, ↓grd_s, ↓reduceIte, J_lit, J_nI, J_add, J_sub, J_mul, J_neg, Int.cast_ofNat_Int, J_lt_t, J_lt_f, J_le_t, J_le_f, J_eq_t, J_eq_f, within_t, within_f, isIn_t, isIn_f, inRow_t, inRow_f, isCell_t, isCell_f, inb_t, ix_Jn, ix_J, Int.reduceToNat, Int.toNat_natCast, mset_ne, mset_eq, mrow_ne, mrow_eq, upd_eq, upd_ne, bind_s, bnd2_s, not_true_eq_false, not_false_eq_true, Nat.reduceAdd, ex, ey, ef, J_and3, e3, t_zsx, t_zsy]
  by_cases c1 : 0 ≤ (x : Int) + dxI f ∧ (x : Int) + dxI f < 12
  · by_cases c2 : 0 ≤ (y : Int) + dyI f ∧ (y : Int) + dyI f < 12
    · simp (disch := omega) only [↓nm_s, ↓grd_s, ↓reduceIte, J_lit, J_nI, J_add, J_sub, J_mul, J_neg, Int.cast_ofNat_Int, J_lt_t, J_lt_f, J_le_t, J_le_f, J_eq_t, J_eq_f, within_t, within_f, isIn_t, isIn_f, inRow_t, inRow_f, isCell_t, isCell_f, inb_t, ix_Jn, ix_J, Int.reduceToNat, Int.toNat_natCast, mset_ne, mset_eq, mrow_ne, mrow_eq, upd_eq, upd_ne, bind_s, bnd2_s, not_true_eq_false, not_false_eq_true, Nat.reduceAdd]
      rw [if_pos (by omega)]
    · simp (disch := omega) only [↓nm_s, ↓grd_s, ↓reduceIte, J_lit, J_nI, J_add, J_sub, J_mul, J_neg, Int.cast_ofNat_Int, J_lt_t, J_lt_f, J_le_t, J_le_f, J_eq_t, J_eq_f, within_t, within_f, isIn_t, isIn_f, inRow_t, inRow_f, isCell_t, isCell_f, inb_t, ix_Jn, ix_J, Int.reduceToNat, Int.toNat_natCast, mset_ne, mset_eq, mrow_ne, mrow_eq, upd_eq, upd_ne, bind_s, bnd2_s, not_true_eq_false, not_false_eq_true, Nat.reduceAdd]
      rw [if_neg (by omega)]
  · simp (disch := omega) only [↓nm_s, ↓grd_s, ↓reduceIte, J_lit, J_nI, J_add, J_sub, J_mul, J_neg, Int.cast_ofNat_Int, J_lt_t, J_lt_f, J_le_t, J_le_f, J_eq_t, J_eq_f, within_t, within_f, isIn_t, isIn_f, inRow_t, inRow_f, isCell_t, isCell_f, inb_t, ix_Jn, ix_J, Int.reduceToNat, Int.toNat_natCast, mset_ne, mset_eq, mrow_ne, mrow_eq, upd_eq, upd_ne, bind_s, bnd2_s, not_true_eq_false, not_false_eq_true, Nat.reduceAdd]
    rw [if_neg (by omega)]
/-- the walker's row, with x and y laid anew -/
theorem WkR_xy {r ρ : Nat → Int32} {w b : Nat} {x y : Nat} (hw : w < 16) (hx : x < 12) (hy : y < 12) (h : WkR r ρ w b) : WkR (upd (upd r 2 (J x)) 3 (J y)) (upd (upd ρ (146 + 12 * w) (J x)) (147 + 12 * w) (J y)) w b := by
  obtain ⟨w0, w1, wb, w10, w11, w12, win⟩ := h
  refine ⟨?_, ?_, ?_, ?_, ?_, ?_, fun hin => ?_⟩
  · simp (disch := omega) only [mset_ne, mset_eq, mrow_ne, mrow_eq, upd_eq, upd_ne]; exact w0
  · simp (disch := omega) only [mset_ne, mset_eq, mrow_ne, mrow_eq, upd_eq, upd_ne]; exact w1
  · simp (disch := omega) only [mset_ne, mset_eq, mrow_ne, mrow_eq, upd_eq, upd_ne]; exact wb
  · simp (disch := omega) only [mset_ne, mset_eq, mrow_ne, mrow_eq, upd_eq, upd_ne]; exact w10
  · simp (disch := omega) only [mset_ne, mset_eq, mrow_ne, mrow_eq, upd_eq, upd_ne]; exact w11
  · simp (disch := omega) only [mset_ne, mset_eq, mrow_ne, mrow_eq, upd_eq, upd_ne]; exact w12
  · have hin' : r 1 = 1 := by
      have := hin
      revert this
      simp (disch := omega) only [mset_ne, mset_eq, mrow_ne, mrow_eq, upd_eq, upd_ne]
      exact id
    obtain ⟨h2, h3, h4, h5, h6, h7, lx, ly, lf, ls, hst⟩ := win hin'
    refine ⟨?_, ?_, ?_, ?_, ?_, ?_, ⟨x, hx, ?_⟩, ⟨y, hy, ?_⟩, ?_, ?_, ?_⟩
    · simp (disch := omega) only [mset_ne, mset_eq, mrow_ne, mrow_eq, upd_eq, upd_ne]
    · simp (disch := omega) only [mset_ne, mset_eq, mrow_ne, mrow_eq, upd_eq, upd_ne]
    · simp (disch := omega) only [mset_ne, mset_eq, mrow_ne, mrow_eq, upd_eq, upd_ne]; exact h4
    · simp (disch := omega) only [mset_ne, mset_eq, mrow_ne, mrow_eq, upd_eq, upd_ne]; exact h5
    · simp (disch := omega) only [mset_ne, mset_eq, mrow_ne, mrow_eq, upd_eq, upd_ne]; exact h6
    · simp (disch := omega) only [mset_ne, mset_eq, mrow_ne, mrow_eq, upd_eq, upd_ne]; exact h7
    · simp (disch := omega) only [mset_ne, mset_eq, mrow_ne, mrow_eq, upd_eq, upd_ne]
    · simp (disch := omega) only [mset_ne, mset_eq, mrow_ne, mrow_eq, upd_eq, upd_ne]
    · simp (disch := omega) only [mset_ne, mset_eq, mrow_ne, mrow_eq, upd_eq, upd_ne]; exact lf
    · simp (disch := omega) only [mset_ne, mset_eq, mrow_ne, mrow_eq, upd_eq, upd_ne]; exact ls
    · obtain ⟨st, dn, S, L, q1, q2, q3, q4⟩ := StR_ro (ρ' := upd (upd ρ (146 + 12 * w) (J x)) (147 + 12 * w) (J y)) (fun j _ _ => by simp (disch := omega) only [mset_ne, mset_eq, mrow_ne, mrow_eq, upd_eq, upd_ne]) (by simp (disch := omega) only [mset_ne, mset_eq, mrow_ne, mrow_eq, upd_eq, upd_ne]) hw hst
      exact ⟨st, dn, S, L, by simp (disch := omega) only [mset_ne, mset_eq, mrow_ne, mrow_eq, upd_eq, upd_ne]; exact q1, by simp (disch := omega) only [mset_ne, mset_eq, mrow_ne, mrow_eq, upd_eq, upd_ne]; exact q2, q3, q4⟩
theorem s_go {w : Nat} {M N : zM} {n m b k : Nat} (h : Dy M N n m b k) (hw : w < n) (hin : M (4 + w) 1 = 1) :
    (f_X1_goOn (J w) M = some (J 2, M) ∧ ∀ kk : Nat, kk < 2 → b_X11_goesOn_4 (J w) (J 1) (J kk) N = (f_X11_goesOut (J w) N).bind fun B => some (.inl (J 0, J (kk + 1 : Nat), B))) ∨
    (∃ M' N' k', f_X1_goOn (J w) M = some (J 0, M') ∧ Sy w M N M' N' n m b k k' ∧ ∀ kk : Nat, kk < 2 → b_X11_goesOn_4 (J w) (J 1) (J kk) N = some (.inl (J 0, J (kk + 1 : Nat), N'))) ∨
    (∃ (M' N' : zM) (p : Nat), f_X1_goOn (J w) M = some (J 1, M') ∧ Sy w M N M' N' n m b k k ∧ M' (4 + w) 1 = 1 ∧ p < 144 ∧ f_X9_at (4 + w) M' = J p ∧ M' 3 p = N' 259 p ∧ f_X11_standsAt (J w) N' = some (J p) ∧ b_X11_goesOn_4 (J w) (J 1) (J 1) N = some (.inl (J 0, J 2, N')) ∧
      b_X11_goesOn_4 (J w) (J 1) (J 0) N = if N' 259 p = J 2 then bnd2 (f_X11_tells (J 0) (J w) N') (fun u A => bnd2 (f_X11_falls u A) fun v B => if v = J 0 then some (.inl (J 0, J 1, B)) else j_X11_goesOn_152_4 (J w) (J 1) (J 0) B) else some (.inl (J 0, J 1, N'))) := by
  have h1 := h.1
  have hn := h1.1.1
  have hwk : WkR (M (4 + w)) (N 259) w b := h1.2.2.2.2.1 w hw
  have hwk2 := hwk
  obtain ⟨w0, w1, wb, w10, w11, w12, win⟩ := hwk
  obtain ⟨h2, h3, h4, h5, h6, h7, ⟨x, lx, ex⟩, ⟨y, ly, ey⟩, ⟨f, lf, ef⟩, ls, hst⟩ := win hin
  have ex2 : N 259 (146 + 12 * w) = J x := by rw [← h2]; exact ex
  have ey2 : N 259 (147 + 12 * w) = J y := by rw [← h3]; exact ey
  have ef2 : N 259 (148 + 12 * w) = J f := by rw [← h4]; exact ef
  have bx := dx_b f lf
  have by' := dy_b f lf
  have hah := t_ahead (M := M) (a := 4 + w) lx ly lf ex ey ef
  by_cases c : 0 ≤ (x : Int) + dxI f ∧ (x : Int) + dxI f < 12 ∧ 0 ≤ (y : Int) + dyI f ∧ (y : Int) + dyI f < 12
  · rw [if_pos c] at hah
    obtain ⟨x', hx'⟩ : ∃ x' : Nat, (x : Int) + dxI f = x' := ⟨((x : Int) + dxI f).toNat, by omega⟩
    obtain ⟨y', hy'⟩ : ∃ y' : Nat, (y : Int) + dyI f = y' := ⟨((y : Int) + dyI f).toNat, by omega⟩
    rw [hx', hy'] at hah
    have hx12 : x' < 12 := by omega
    have hy12 : y' < 12 := by omega
    obtain ⟨p, hp⟩ : ∃ p : Nat, p = 12 * y' + x' := ⟨_, rfl⟩
    have hpJ : J (12 * (y' : Int) + (x' : Int)) = J p := congrArg J (by omega)
    have ip : (12 * (y' : Int) + (x' : Int)).toNat = p := by omega
    have hp144 : p < 144 := by omega
    rw [hpJ] at hah
    have hcell : M 3 p = N 259 p := (h1.2.2.2.1 p hp144).1
    obtain ⟨u, q1, q2, q3⟩ := s_whoAt h1 (J p)
    right
    by_cases hs : N 259 p = J 1 ∨ u ≠ J (-1)
    · left
      obtain ⟨M', N', k', r1, r2, r3, r4, r5, r6⟩ := s_write (w := w) h (J 5) (J w) (J (12 * (y : Int) + (x : Int)))
      refine ⟨M', N', k', ?_, r3, fun kk hkk => ?_⟩
      · unfold f_X1_goOn j_X1_goOn_47 f_X9_at
        by_cases hs1 : N 259 p = J 1
        · simp (disch := omega) only [↓nm_s, ↓grd_s, ↓reduceIte, J_lit, J_nI, J_add, J_sub, J_mul, J_neg, Int.cast_ofNat_Int, J_lt_t, J_lt_f, J_le_t, J_le_f, J_eq_t, J_eq_f, within_t, within_f, isIn_t, isIn_f, inRow_t, inRow_f, isCell_t, isCell_f, inb_t, ix_Jn, ix_J, Int.reduceToNat, Int.toNat_natCast, mset_ne, mset_eq, mrow_ne, mrow_eq, upd_eq, upd_ne, bind_s, bnd2_s, not_true_eq_false, not_false_eq_true, Nat.reduceAdd, hah, hcell, hs1, ex, ey, r1]
        · have hu : u ≠ J (-1) := by rcases hs with a | a; exact absurd a hs1; exact a
          simp (disch := omega) only [↓nm_s, ↓grd_s, ↓reduceIte, J_lit, J_nI, J_add, J_sub, J_mul, J_neg, Int.cast_ofNat_Int, J_lt_t, J_lt_f, J_le_t, J_le_f, J_eq_t, J_eq_f, within_t, within_f, isIn_t, isIn_f, inRow_t, inRow_f, isCell_t, isCell_f, inb_t, ix_Jn, ix_J, Int.reduceToNat, Int.toNat_natCast, mset_ne, mset_eq, mrow_ne, mrow_eq, upd_eq, upd_ne, bind_s, bnd2_s, not_true_eq_false, not_false_eq_true, Nat.reduceAdd, hah, hcell, hs1, ex, ey, q1, hu, r1]
      · have hfree : f_X11_isFree (J p) N = some (J 0) := by
          unfold f_X11_isFree
          by_cases hs1 : N 259 p = J 1
          · simp (disch := omega) only [↓nm_s, ↓grd_s, ↓reduceIte, J_lit, J_nI, J_add, J_sub, J_mul, J_neg, Int.cast_ofNat_Int, J_lt_t, J_lt_f, J_le_t, J_le_f, J_eq_t, J_eq_f, within_t, within_f, isIn_t, isIn_f, inRow_t, inRow_f, isCell_t, isCell_f, inb_t, ix_Jn, ix_J, Int.reduceToNat, Int.toNat_natCast, mset_ne, mset_eq, mrow_ne, mrow_eq, upd_eq, upd_ne, bind_s, bnd2_s, not_true_eq_false, not_false_eq_true, Nat.reduceAdd, hs1]
          · have hu : u ≠ J (-1) := by rcases hs with a | a; exact absurd a hs1; exact a
            simp (disch := omega) only [↓nm_s, ↓grd_s, ↓reduceIte, J_lit, J_nI, J_add, J_sub, J_mul, J_neg, Int.cast_ofNat_Int, J_lt_t, J_lt_f, J_le_t, J_le_f, J_eq_t, J_eq_f, within_t, within_f, isIn_t, isIn_f, inRow_t, inRow_f, isCell_t, isCell_f, inb_t, ix_Jn, ix_J, Int.reduceToNat, Int.toNat_natCast, mset_ne, mset_eq, mrow_ne, mrow_eq, upd_eq, upd_ne, bind_s, bnd2_s, not_true_eq_false, not_false_eq_true, Nat.reduceAdd, hs1, q2, hu]
        unfold b_X11_goesOn_4 j_X11_goesOn_152_4 j_X11_goesOn_178_4 f_X11_place
        simp (disch := omega) only [↓nm_s, ↓grd_s, ↓reduceIte, J_lit, J_nI, J_add, J_sub, J_mul, J_neg, Int.cast_ofNat_Int, J_lt_t, J_lt_f, J_le_t, J_le_f, J_eq_t, J_eq_f, within_t, within_f, isIn_t, isIn_f, inRow_t, inRow_f, isCell_t, isCell_f, inb_t, ix_Jn, ix_J, Int.reduceToNat, Int.toNat_natCast, mset_ne, mset_eq, mrow_ne, mrow_eq, upd_eq, upd_ne, bind_s, bnd2_s, not_true_eq_false, not_false_eq_true, Nat.reduceAdd, th0, ts0, ta0, th1, ts1, ta1, th2, ts2, ta2, th3, ts3, ta3, th4, ts4, ta4, th5, ts5, ta5, th6, ts6, ta6, th7, ts7, ta7, th8, ts8, ta8, th9, ts9, ta9, th10, ts10, ta10, th11, ts11, ta11, ex2, ey2, ef2, t_gx, t_gy, hx', hy', hpJ, hfree, t_standsAt, r2]
        rfl
    · right
      have hs1 : ¬ N 259 p = J 1 := fun a => hs (Or.inl a)
      have hu : u = J (-1) := by
        by_cases hu : u = J (-1)
        · exact hu
        · exact absurd (Or.inr hu) hs
      have hfree : f_X11_isFree (J p) N = some (J 1) := by
        unfold f_X11_isFree
        simp (disch := omega) only [↓nm_s, ↓grd_s, ↓reduceIte, J_lit, J_nI, J_add, J_sub, J_mul, J_neg, Int.cast_ofNat_Int, J_lt_t, J_lt_f, J_le_t, J_le_f, J_eq_t, J_eq_f, within_t, within_f, isIn_t, isIn_f, inRow_t, inRow_f, isCell_t, isCell_f, inb_t, ix_Jn, ix_J, Int.reduceToNat, Int.toNat_natCast, mset_ne, mset_eq, mrow_ne, mrow_eq, upd_eq, upd_ne, bind_s, bnd2_s, not_true_eq_false, not_false_eq_true, Nat.reduceAdd, hs1, q2, hu]
      have hp12 : (p : Int) % 12 = x' := by omega
      have hp12' : (p : Int) / 12 = y' := by omega
      have hsy : Sy w M N (mset (mset M (4 + w) 2 (J x')) (4 + w) 3 (J y')) (mset (mset N 259 (146 + 12 * w) (J x')) 259 (147 + 12 * w) (J y')) n m b k k := by
        refine Sy_wk h hw (fun j hj => by simp (disch := omega) only [mset_ne, mset_eq, mrow_ne, mrow_eq, upd_eq, upd_ne]) (fun j hj => by simp (disch := omega) only [mset_ne, mset_eq, mrow_ne, mrow_eq, upd_eq, upd_ne]) (fun i hi => by simp (disch := omega) only [mset_ne, mset_eq, mrow_ne, mrow_eq, upd_eq, upd_ne]) (by simp (disch := omega) only [mset_ne, mset_eq, mrow_ne, mrow_eq, upd_eq, upd_ne]) ?_ (fun v hv hne i1 i2 => ?_)
        rotate_left
        · have : atR (M (4 + v)) ≠ J p := q3 hu v hv i2
          have e : atR (mset (mset M (4 + w) 2 (J x')) (4 + w) 3 (J y') (4 + w)) = J p := by
            unfold atR
            simp (disch := omega) only [mset_ne, mset_eq, mrow_ne, mrow_eq, upd_eq, upd_ne, J_lit, J_nI, J_add, J_sub, J_mul, J_neg, Int.cast_ofNat_Int, ix_Jn, ix_J, Int.reduceToNat, Int.toNat_natCast, Nat.reduceAdd, Nat.reduceMul]
            exact hpJ
          rw [e]
          exact this
        have := WkR_xy (w := w) (by omega) hx12 hy12 hwk2
        simp only [mset_eq]
        exact this
      refine ⟨_, _, p, ?_, hsy, ?_, hp144, ?_, ?_, ?_, ?_, ?_⟩
      · unfold f_X1_goOn f_X9_stand
        simp (disch := omega) only [↓nm_s, ↓grd_s, ↓reduceIte, J_lit, J_nI, J_add, J_sub, J_mul, J_neg, Int.cast_ofNat_Int, J_lt_t, J_lt_f, J_le_t, J_le_f, J_eq_t, J_eq_f, within_t, within_f, isIn_t, isIn_f, inRow_t, inRow_f, isCell_t, isCell_f, inb_t, ix_Jn, ix_J, Int.reduceToNat, Int.toNat_natCast, mset_ne, mset_eq, mrow_ne, mrow_eq, upd_eq, upd_ne, bind_s, bnd2_s, not_true_eq_false, not_false_eq_true, Nat.reduceAdd, hah, hcell, hs1, q1, hu, J_rem, J_div, hp12, hp12']
      · simp (disch := omega) only [mset_ne, mset_eq, mrow_ne, mrow_eq, upd_eq, upd_ne]
        exact hin
      · unfold f_X9_at
        simp (disch := omega) only [mset_ne, mset_eq, mrow_ne, mrow_eq, upd_eq, upd_ne, J_lit, J_nI, J_add, J_sub, J_mul, J_neg, Int.cast_ofNat_Int, ix_Jn, ix_J, Int.reduceToNat, Int.toNat_natCast, Nat.reduceAdd, Nat.reduceMul]
        exact hpJ
      · simp (disch := omega) only [mset_ne, mset_eq, mrow_ne, mrow_eq, upd_eq, upd_ne]
        exact hcell
      · rw [t_standsAt _ (by omega)]
        simp (disch := omega) only [mset_ne, mset_eq, mrow_ne, mrow_eq, upd_eq, upd_ne]
        rw [J_mul, J_add]
        exact congrArg some hpJ
      · unfold b_X11_goesOn_4 j_X11_goesOn_152_4 j_X11_goesOn_178_4 j_X11_goesOn_151_4 j_X11_goesOn_150_4 f_X11_place
        simp (disch := omega) only [↓nm_s, ↓grd_s, ↓reduceIte, J_lit, J_nI, J_add, J_sub, J_mul, J_neg, Int.cast_ofNat_Int, J_lt_t, J_lt_f, J_le_t, J_le_f, J_eq_t, J_eq_f, within_t, within_f, isIn_t, isIn_f, inRow_t, inRow_f, isCell_t, isCell_f, inb_t, ix_Jn, ix_J, Int.reduceToNat, Int.toNat_natCast, mset_ne, mset_eq, mrow_ne, mrow_eq, upd_eq, upd_ne, bind_s, bnd2_s, not_true_eq_false, not_false_eq_true, Nat.reduceAdd, th0, ts0, ta0, th1, ts1, ta1, th2, ts2, ta2, th3, ts3, ta3, th4, ts4, ta4, th5, ts5, ta5, th6, ts6, ta6, th7, ts7, ta7, th8, ts8, ta8, th9, ts9, ta9, th10, ts10, ta10, th11, ts11, ta11, ex2, ey2, ef2, t_gx, t_gy, hx', hy', hpJ, hfree]
        rfl
      · unfold b_X11_goesOn_4 j_X11_goesOn_151_4 j_X11_goesOn_150_4 f_X11_place
        have e0 : ∀ B : zM, j_X11_goesOn_152_4 (J w) (J 0) (J 0) B = some (.inl (J 0, J 1, B)) := by
          intro B
          unfold j_X11_goesOn_152_4 j_X11_goesOn_178_4
          simp (disch := omega) only [↓nm_s, ↓grd_s, ↓reduceIte, J_lit, J_nI, J_add, J_sub, J_mul, J_neg, Int.cast_ofNat_Int, J_lt_t, J_lt_f, J_le_t, J_le_f, J_eq_t, J_eq_f, within_t, within_f, isIn_t, isIn_f, inRow_t, inRow_f, isCell_t, isCell_f, inb_t, ix_Jn, ix_J, Int.reduceToNat, Int.toNat_natCast, mset_ne, mset_eq, mrow_ne, mrow_eq, upd_eq, upd_ne, bind_s, bnd2_s, not_true_eq_false, not_false_eq_true, Nat.reduceAdd]
          rfl
        have hne1 : ∀ v : Int32, p ≠ 146 + 12 * w ∧ p ≠ 147 + 12 * w := by omega
        simp (disch := omega) only [↓nm_s, ↓grd_s, ↓reduceIte, J_lit, J_nI, J_add, J_sub, J_mul, J_neg, Int.cast_ofNat_Int, J_lt_t, J_lt_f, J_le_t, J_le_f, J_eq_t, J_eq_f, within_t, within_f, isIn_t, isIn_f, inRow_t, inRow_f, isCell_t, isCell_f, inb_t, ix_Jn, ix_J, Int.reduceToNat, Int.toNat_natCast, mset_ne, mset_eq, mrow_ne, mrow_eq, upd_eq, upd_ne, bind_s, bnd2_s, not_true_eq_false, not_false_eq_true, Nat.reduceAdd, th0, ts0, ta0, th1, ts1, ta1, th2, ts2, ta2, th3, ts3, ta3, th4, ts4, ta4, th5, ts5, ta5, th6, ts6, ta6, th7, ts7, ta7, th8, ts8, ta8, th9, ts9, ta9, th10, ts10, ta10, th11, ts11, ta11, ex2, ey2, ef2, t_gx, t_gy, hx', hy', hpJ, hfree]
        have e1 : ∀ B : zM, j_X11_goesOn_151_4 (J w) (J 0) (J 0) B = some (.inl (J 0, J 1, B)) := by
          intro B
          unfold j_X11_goesOn_151_4
          exact e0 B
        simp only [e1]
  · left
    rw [if_neg c] at hah
    refine ⟨?_, fun kk hkk => ?_⟩
    · unfold f_X1_goOn
      simp (disch := omega) only [↓nm_s, ↓grd_s, ↓reduceIte, J_lit, J_nI, J_add, J_sub, J_mul, J_neg, Int.cast_ofNat_Int, J_lt_t, J_lt_f, J_le_t, J_le_f, J_eq_t, J_eq_f, within_t, within_f, isIn_t, isIn_f, inRow_t, inRow_f, isCell_t, isCell_f, inb_t, ix_Jn, ix_J, Int.reduceToNat, Int.toNat_natCast, mset_ne, mset_eq, mrow_ne, mrow_eq, upd_eq, upd_ne, bind_s, bnd2_s, not_true_eq_false, not_false_eq_true, Nat.reduceAdd, hah]
    · unfold b_X11_goesOn_4 j_X11_goesOn_152_4 j_X11_goesOn_178_4
      simp (disch := omega) only [↓nm_s, ↓grd_s, ↓reduceIte, J_lit, J_nI, J_add, J_sub, J_mul, J_neg, Int.cast_ofNat_Int, J_lt_t, J_lt_f, J_le_t, J_le_f, J_eq_t, J_eq_f, within_t, within_f, isIn_t, isIn_f, inRow_t, inRow_f, isCell_t, isCell_f, inb_t, ix_Jn, ix_J, Int.reduceToNat, Int.toNat_natCast, mset_ne, mset_eq, mrow_ne, mrow_eq, upd_eq, upd_ne, bind_s, bnd2_s, not_true_eq_false, not_false_eq_true, Nat.reduceAdd, th0, ts0, ta0, th1, ts1, ta1, th2, ts2, ta2, th3, ts3, ta3, th4, ts4, ta4, th5, ts5, ta5, th6, ts6, ta6, th7, ts7, ta7, th8, ts8, ta8, th9, ts9, ta9, th10, ts10, ta10, th11, ts11, ta11, ex2, ey2, ef2, t_gx, t_gy]
      rfl
