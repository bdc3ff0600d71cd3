theorem nq_def (a : Int) (i L : Nat) : (2 * (i : Int) * a + (L : Int)) / (2 * (L : Int)) = nq a i L := by
  unfold nq
  rw [Int.mul_assoc, Int.mul_comm (i : Int) a]
theorem s_sees {M N : zM} (hc : ∀ i, i < 144 → M 3 i = N 258 i) {f t : Nat} (hf : f < 144) (ht : t < 144) : ∃ v, f_X2_sees (J f) (J t) M = some v ∧ f_X11_sees (J f) (J t) N = some v ∧ (v = J 0 ∨ v = J 1) := by
  obtain ⟨fx, fy, hfx, hfy, ef⟩ : ∃ fx fy : Nat, fx < 12 ∧ fy < 12 ∧ f = 12 * fy + fx := ⟨f % 12, f / 12, by omega, by omega, by omega⟩
  obtain ⟨tx, ty, htx, hty, et⟩ : ∃ fx fy : Nat, fx < 12 ∧ fy < 12 ∧ t = 12 * fy + fx := ⟨t % 12, t / 12, by omega, by omega, by omega⟩
  have f1 : (f : Int) % 12 = fx := by omega
  have f2 : (f : Int) / 12 = fy := by omega
  have t1 : (t : Int) % 12 = tx := by omega
  have t2 : (t : Int) / 12 = ty := by omega
  obtain ⟨dx, hdx⟩ : ∃ dx : Int, dx = (tx : Int) - fx := ⟨_, rfl⟩
  obtain ⟨dy, hdy⟩ : ∃ dy : Int, dy = (ty : Int) - fy := ⟨_, rfl⟩
  obtain ⟨ax, hax, hax2⟩ : ∃ ax : Nat, (ax : Int) = (if 0 ≤ dx then dx else -dx) ∧ ax < 12 := ⟨(if 0 ≤ dx then dx else -dx).toNat, by split <;> omega, by split <;> omega⟩
  obtain ⟨ay, hay, hay2⟩ : ∃ ay : Nat, (ay : Int) = (if 0 ≤ dy then dy else -dy) ∧ ay < 12 := ⟨(if 0 ≤ dy then dy else -dy).toNat, by split <;> omega, by split <;> omega⟩
  obtain ⟨L, hL⟩ : ∃ L : Nat, L = (if ax < ay then ay else ax) := ⟨_, rfl⟩
  have hL12 : L < 12 := by rw [hL]; split <;> omega
  have ax1 : ax ≤ L ∧ ay ≤ L := by rw [hL]; split <;> omega
  have bax : -(ax : Int) ≤ dx ∧ dx ≤ ax ∧ (0 ≤ dx → dx = ax) ∧ (dx < 0 → dx = -(ax : Int)) := by
    rw [hax]
    split <;> omega
  have bay : -(ay : Int) ≤ dy ∧ dy ≤ ay ∧ (0 ≤ dy → dy = ay) ∧ (dy < 0 → dy = -(ay : Int)) := by
    rw [hay]
    split <;> omega
  have abx := t_abs (a := dx) (by omega) (by omega)
  have aby := t_abs (a := dy) (by omega) (by omega)
  rw [← hax] at abx
  rw [← hay] at aby
  have hcase : (L = ax) ∨ (L ≠ ax ∧ L = ay) := by rw [hL]; split <;> omega
  have key : W2 (loopW (fun s => b_X2_sees_38 (J f) (J dx) (J dy) (J L) s M) (J 1)) (loopW (fun s => b_X11_sees_59 (J fx) (J fy) (J dx) (J dy) (J L) s N) (J 1)) (fun a b => a = b ∧ (a = .inl () ∨ a = .inr (J 0))) := by
    refine loopR (fun k s t => s = J (k + 1 : Nat) ∧ t = J (k + 1 : Nat)) (L - 1) ⟨rfl, rfl⟩ ?_ ?_
    · rintro k s t hk ⟨rfl, rfl⟩
      have hi : k + 1 < L := by omega
      have nx := nq_b (a := dx) hL12 hi (by omega) (by omega) (by omega)
      have ny := nq_b (a := dy) hL12 hi (by omega) (by omega) (by omega)
      have tnx := t_nearest (a := dx) hL12 hi (by omega) (by omega)
      have tny := t_nearest (a := dy) hL12 hi (by omega) (by omega)
      obtain ⟨nx1, nx2, nx3, nx4⟩ := nx
      obtain ⟨ny1, ny2, ny3, ny4⟩ := ny
      have bx : 0 ≤ (fx : Int) + nq dx (k + 1) L ∧ (fx : Int) + nq dx (k + 1) L ≤ 11 := by omega
      have by' : 0 ≤ (fy : Int) + nq dy (k + 1) L ∧ (fy : Int) + nq dy (k + 1) L ≤ 11 := by omega
      have hb1 : -242 ≤ 2 * ((k + 1 : Nat) : Int) * dx ∧ 2 * ((k + 1 : Nat) : Int) * dx ≤ 242 := by
        have p1 : 2 * ((k + 1 : Nat) : Int) * (-11) ≤ 2 * ((k + 1 : Nat) : Int) * dx := Int.mul_le_mul_of_nonneg_left (by omega) (by omega)
        have p2 : 2 * ((k + 1 : Nat) : Int) * dx ≤ 2 * ((k + 1 : Nat) : Int) * 11 := Int.mul_le_mul_of_nonneg_left (by omega) (by omega)
        omega
      have hb2 : -242 ≤ 2 * ((k + 1 : Nat) : Int) * dy ∧ 2 * ((k + 1 : Nat) : Int) * dy ≤ 242 := by
        have p1 : 2 * ((k + 1 : Nat) : Int) * (-11) ≤ 2 * ((k + 1 : Nat) : Int) * dy := Int.mul_le_mul_of_nonneg_left (by omega) (by omega)
        have p2 : 2 * ((k + 1 : Nat) : Int) * dy ≤ 2 * ((k + 1 : Nat) : Int) * 11 := Int.mul_le_mul_of_nonneg_left (by omega) (by omega)
        omega
      -- the reference comes to the same cell
      have eR : b_X11_sees_59 (J fx) (J fy) (J dx) (J dy) (J L) (J (k + 1 : Nat)) N = j_X11_sees_164_59 (J fx) (J fy) (J dx) (J dy) (J L) (J (k + 1 : Nat)) (J (fx + nq dx (k + 1) L)) (J (fy + nq dy (k + 1) L)) N := by
        unfold b_X11_sees_59 j_X11_sees_90_59 j_X11_sees_113_59 j_X11_sees_163_59
        rcases hcase with e | ⟨e, e'⟩
        · by_cases c : dx ≤ 0
          · have en : nq dx (k + 1) L = -((k + 1 : Nat) : Int) := nx4 (by omega)
            simp (disch := omega) only [↓nm_s, ↓grd_s, ↓reduceIte, J_lit, J_nI, J_add, J_sub, J_mul, J_neg, Int.cast_ofNat_Int, J_lt_t, J_lt_f, J_le_t, J_le_f, J_eq_t, J_eq_f, within_t, within_f, isIn_t, isIn_f, inRow_t, inRow_f, isCell_t, isCell_f, inb_t, ix_Jn, ix_J, Int.reduceToNat, Int.toNat_natCast, mset_ne, mset_eq, mrow_ne, mrow_eq, upd_eq, upd_ne, bind_s, bnd2_s, not_true_eq_false, not_false_eq_true, Nat.reduceAdd, abx.2, t_downBy, nq_def, en]
          · have en : nq dx (k + 1) L = ((k + 1 : Nat) : Int) := nx3 (by omega)
            simp (disch := omega) only [↓nm_s, ↓grd_s, ↓reduceIte, J_lit, J_nI, J_add, J_sub, J_mul, J_neg, Int.cast_ofNat_Int, J_lt_t, J_lt_f, J_le_t, J_le_f, J_eq_t, J_eq_f, within_t, within_f, isIn_t, isIn_f, inRow_t, inRow_f, isCell_t, isCell_f, inb_t, ix_Jn, ix_J, Int.reduceToNat, Int.toNat_natCast, mset_ne, mset_eq, mrow_ne, mrow_eq, upd_eq, upd_ne, bind_s, bnd2_s, not_true_eq_false, not_false_eq_true, Nat.reduceAdd, abx.2, t_downBy, nq_def, en]
        · by_cases c : dy ≤ 0
          · have en : nq dy (k + 1) L = -((k + 1 : Nat) : Int) := ny4 (by omega)
            simp (disch := omega) only [↓nm_s, ↓grd_s, ↓reduceIte, J_lit, J_nI, J_add, J_sub, J_mul, J_neg, Int.cast_ofNat_Int, J_lt_t, J_lt_f, J_le_t, J_le_f, J_eq_t, J_eq_f, within_t, within_f, isIn_t, isIn_f, inRow_t, inRow_f, isCell_t, isCell_f, inb_t, ix_Jn, ix_J, Int.reduceToNat, Int.toNat_natCast, mset_ne, mset_eq, mrow_ne, mrow_eq, upd_eq, upd_ne, bind_s, bnd2_s, not_true_eq_false, not_false_eq_true, Nat.reduceAdd, abx.2, t_downBy, nq_def, en]
          · have en : nq dy (k + 1) L = ((k + 1 : Nat) : Int) := ny3 (by omega)
            simp (disch := omega) only [↓nm_s, ↓grd_s, ↓reduceIte, J_lit, J_nI, J_add, J_sub, J_mul, J_neg, Int.cast_ofNat_Int, J_lt_t, J_lt_f, J_le_t, J_le_f, J_eq_t, J_eq_f, within_t, within_f, isIn_t, isIn_f, inRow_t, inRow_f, isCell_t, isCell_f, inb_t, ix_Jn, ix_J, Int.reduceToNat, Int.toNat_natCast, mset_ne, mset_eq, mrow_ne, mrow_eq, upd_eq, upd_ne, bind_s, bnd2_s, not_true_eq_false, not_false_eq_true, Nat.reduceAdd, abx.2, t_downBy, nq_def, en]
      rw [eR]
      unfold b_X2_sees_38 j_X11_sees_164_59 f_X11_place
      generalize hu : (fx : Int) + nq dx (k + 1) L = X at bx
      generalize hv : (fy : Int) + nq dy (k + 1) L = Y at by'
      have hcell : M 3 (12 * Y + X).toNat = N 258 (12 * Y + X).toNat := hc _ (by omega)
      simp (disch := omega) only [↓nm_s, ↓grd_s, ↓reduceIte, J_lit, J_nI, J_add, J_sub, J_mul, J_neg, Int.cast_ofNat_Int, J_lt_t, J_lt_f, J_le_t, J_le_f, J_eq_t, J_eq_f, within_t, within_f, isIn_t, isIn_f, inRow_t, inRow_f, isCell_t, isCell_f, inb_t, ix_Jn, ix_J, Int.reduceToNat, Int.toNat_natCast, mset_ne, mset_eq, mrow_ne, mrow_eq, upd_eq, upd_ne, bind_s, bnd2_s, not_true_eq_false, not_false_eq_true, Nat.reduceAdd, J_rem, J_div, f1, f2, tnx, tny, hu, hv, hcell]
      by_cases cs : N 258 (12 * Y + X).toNat = J 1
      · simp only [cs, ↓reduceIte]
        exact w2_some ⟨rfl, Or.inr rfl⟩
      · simp only [cs, ↓reduceIte]
        exact w2_some ⟨rfl, rfl⟩
    · rintro s t ⟨rfl, rfl⟩
      unfold b_X2_sees_38 b_X11_sees_59
      simp (disch := omega) only [↓nm_s, ↓grd_s, ↓reduceIte, J_lit, J_nI, J_add, J_sub, J_mul, J_neg, Int.cast_ofNat_Int, J_lt_t, J_lt_f, J_le_t, J_le_f, J_eq_t, J_eq_f, within_t, within_f, isIn_t, isIn_f, inRow_t, inRow_f, isCell_t, isCell_f, inb_t, ix_Jn, ix_J, Int.reduceToNat, Int.toNat_natCast, mset_ne, mset_eq, mrow_ne, mrow_eq, upd_eq, upd_ne, bind_s, bnd2_s, not_true_eq_false, not_false_eq_true, Nat.reduceAdd]
      exact w2_some ⟨rfl, Or.inl rfl⟩
  obtain ⟨a, b, q1, q2, rfl, q3⟩ := key
  have hC : f_X2_sees (J f) (J t) M = (some a).bind (fun q => Sum.elim (fun r => j_X2_sees_103 M) some q) := by
    unfold f_X2_sees
    have em : f_J9_max_7cf53 (J ax) (J ay) = J L := by
      unfold f_J9_max_7cf53
      by_cases c : ax < ay
      · rw [if_pos c] at hL
        simp (disch := omega) only [↓nm_s, ↓grd_s, ↓reduceIte, J_lit, J_nI, J_add, J_sub, J_mul, J_neg, Int.cast_ofNat_Int, J_lt_t, J_lt_f, J_le_t, J_le_f, J_eq_t, J_eq_f, within_t, within_f, isIn_t, isIn_f, inRow_t, inRow_f, isCell_t, isCell_f, inb_t, ix_Jn, ix_J, Int.reduceToNat, Int.toNat_natCast, mset_ne, mset_eq, mrow_ne, mrow_eq, upd_eq, upd_ne, bind_s, bnd2_s, not_true_eq_false, not_false_eq_true, Nat.reduceAdd, hL]
      · rw [if_neg c] at hL
        simp (disch := omega) only [↓nm_s, ↓grd_s, ↓reduceIte, J_lit, J_nI, J_add, J_sub, J_mul, J_neg, Int.cast_ofNat_Int, J_lt_t, J_lt_f, J_le_t, J_le_f, J_eq_t, J_eq_f, within_t, within_f, isIn_t, isIn_f, inRow_t, inRow_f, isCell_t, isCell_f, inb_t, ix_Jn, ix_J, Int.reduceToNat, Int.toNat_natCast, mset_ne, mset_eq, mrow_ne, mrow_eq, upd_eq, upd_ne, bind_s, bnd2_s, not_true_eq_false, not_false_eq_true, Nat.reduceAdd, hL]
    simp (disch := omega) only [↓nm_s, J_lit, Int.cast_ofNat_Int, J_rem, J_div, J_sub, f1, f2, t1, t2, ← hdx, ← hdy, abx.1, aby.1, em, q1]
  have hR : f_X11_sees (J f) (J t) N = (some a).bind (fun q => Sum.elim (fun r => j_X11_sees_190 N) some q) := by
    unfold f_X11_sees j_X11_sees_54
    by_cases c : ax < ay
    · rw [if_pos c] at hL
      subst hL
      simp (disch := omega) only [↓nm_s, ↓reduceIte, J_lt_t, J_lt_f, J_le_t, J_le_f, J_eq_t, J_eq_f, within_t, within_f, isIn_t, isIn_f, inRow_t, inRow_f, isCell_t, isCell_f, inb_t, J_lit, Int.cast_ofNat_Int, J_rem, J_div, J_sub, f1, f2, t1, t2, ← hdx, ← hdy, abx.2, aby.2, q2]
    · rw [if_neg c] at hL
      subst hL
      simp (disch := omega) only [↓nm_s, ↓reduceIte, J_lt_t, J_lt_f, J_le_t, J_le_f, J_eq_t, J_eq_f, within_t, within_f, isIn_t, isIn_f, inRow_t, inRow_f, isCell_t, isCell_f, inb_t, J_lit, Int.cast_ofNat_Int, J_rem, J_div, J_sub, f1, f2, t1, t2, ← hdx, ← hdy, abx.2, aby.2, q2]
  rcases q3 with rfl | rfl
  · exact ⟨J 1, hC, hR, Or.inr rfl⟩
  · exact ⟨J 0, hC, hR, Or.inl rfl⟩
theorem c_seen (p q : Int32) : Cl0 (f_X10_seen p q) (f_X11_seen p q) := by
  intro M N hI
  obtain ⟨z, rfl, l1, l2⟩ := J_ex p
  obtain ⟨y, rfl, l3, l4⟩ := J_ex q
  obtain ⟨n, m, k, u, o, ks, a1, a2, _⟩ := hI
  have hc : ∀ i, i < 144 → M 3 i = N 258 i := fun i hi => (a2.2.2.2.1 i hi).1
  unfold f_X10_seen f_X11_seen j_X10_seen_21
  by_cases c1 : 0 ≤ z ∧ z < 144
  · obtain ⟨f, rfl⟩ : ∃ f : Nat, z = f := ⟨z.toNat, by omega⟩
    by_cases c2 : y = -1
    · subst c2
      have key : W2 (loopW (fun s => b_X10_seen_49 (J f) s.1 s.2 M) (J 0, J 0)) (loopW (fun s => b_X11_seen_44 (J f) s.1 s.2 N) (J 0, J 0)) (fun a b => a = b) := by
        refine loopR (fun k s t => s.2 = J k ∧ t = s) 144 ⟨rfl, rfl⟩ ?_ ?_
        · rintro k ⟨s1, s2⟩ t hk ⟨e, rfl⟩
          simp only at e
          subst e
          obtain ⟨v, w1, w2, w3⟩ := s_sees hc (f := f) (t := k) (by omega) hk
          unfold b_X10_seen_49 b_X11_seen_44 j_X10_seen_73_49 f_X11_asInt
          rcases w3 with rfl | rfl
          · simp (disch := omega) only [↓nm_s, ↓grd_s, ↓reduceIte, J_lit, J_nI, J_add, J_sub, J_mul, J_neg, Int.cast_ofNat_Int, J_lt_t, J_lt_f, J_le_t, J_le_f, J_eq_t, J_eq_f, within_t, within_f, isIn_t, isIn_f, inRow_t, inRow_f, isCell_t, isCell_f, inb_t, ix_Jn, ix_J, Int.reduceToNat, Int.toNat_natCast, mset_ne, mset_eq, mrow_ne, mrow_eq, upd_eq, upd_ne, bind_s, bnd2_s, not_true_eq_false, not_false_eq_true, Nat.reduceAdd, w1, w2]
            refine w2_some ⟨rfl, ?_⟩
            rw [show s1 + J 0 = s1 from Int32.add_zero s1]
          · simp (disch := omega) only [↓nm_s, ↓grd_s, ↓reduceIte, J_lit, J_nI, J_add, J_sub, J_mul, J_neg, Int.cast_ofNat_Int, J_lt_t, J_lt_f, J_le_t, J_le_f, J_eq_t, J_eq_f, within_t, within_f, isIn_t, isIn_f, inRow_t, inRow_f, isCell_t, isCell_f, inb_t, ix_Jn, ix_J, Int.reduceToNat, Int.toNat_natCast, mset_ne, mset_eq, mrow_ne, mrow_eq, upd_eq, upd_ne, bind_s, bnd2_s, not_true_eq_false, not_false_eq_true, Nat.reduceAdd, w1, w2]
            exact w2_some ⟨rfl, rfl⟩
        · rintro ⟨s1, s2⟩ t ⟨e, rfl⟩
          simp only at e
          subst e
          unfold b_X10_seen_49 b_X11_seen_44
          simp (disch := omega) only [↓nm_s, ↓grd_s, ↓reduceIte, J_lit, J_nI, J_add, J_sub, J_mul, J_neg, Int.cast_ofNat_Int, J_lt_t, J_lt_f, J_le_t, J_le_f, J_eq_t, J_eq_f, within_t, within_f, isIn_t, isIn_f, inRow_t, inRow_f, isCell_t, isCell_f, inb_t, ix_Jn, ix_J, Int.reduceToNat, Int.toNat_natCast, mset_ne, mset_eq, mrow_ne, mrow_eq, upd_eq, upd_ne, bind_s, bnd2_s, not_true_eq_false, not_false_eq_true, Nat.reduceAdd]
          exact w2_some rfl
      obtain ⟨a, b, q1, q2, rfl⟩ := key
      simp (disch := omega) only [↓nm_s, ↓grd_s, ↓reduceIte, J_lit, J_nI, J_add, J_sub, J_mul, J_neg, Int.cast_ofNat_Int, J_lt_t, J_lt_f, J_le_t, J_le_f, J_eq_t, J_eq_f, within_t, within_f, isIn_t, isIn_f, inRow_t, inRow_f, isCell_t, isCell_f, inb_t, ix_Jn, ix_J, Int.reduceToNat, Int.toNat_natCast, mset_ne, mset_eq, mrow_ne, mrow_eq, upd_eq, upd_ne, bind_s, bnd2_s, not_true_eq_false, not_false_eq_true, Nat.reduceAdd]
      rw [q1, q2]
      exact ⟨a, rfl, rfl⟩
    · by_cases c3 : 0 ≤ y ∧ y < 144
      · obtain ⟨t, rfl⟩ : ∃ f : Nat, y = f := ⟨y.toNat, by omega⟩
        obtain ⟨v, w1, w2, w3⟩ := s_sees hc (f := f) (t := t) (by omega) (by omega)
        unfold f_X11_asInt
        rcases w3 with rfl | rfl
        · simp (disch := omega) only [↓nm_s, ↓grd_s, ↓reduceIte, J_lit, J_nI, J_add, J_sub, J_mul, J_neg, Int.cast_ofNat_Int, J_lt_t, J_lt_f, J_le_t, J_le_f, J_eq_t, J_eq_f, within_t, within_f, isIn_t, isIn_f, inRow_t, inRow_f, isCell_t, isCell_f, inb_t, ix_Jn, ix_J, Int.reduceToNat, Int.toNat_natCast, mset_ne, mset_eq, mrow_ne, mrow_eq, upd_eq, upd_ne, bind_s, bnd2_s, not_true_eq_false, not_false_eq_true, Nat.reduceAdd, w1, w2]
          exact ⟨_, rfl, rfl⟩
        · simp (disch := omega) only [↓nm_s, ↓grd_s, ↓reduceIte, J_lit, J_nI, J_add, J_sub, J_mul, J_neg, Int.cast_ofNat_Int, J_lt_t, J_lt_f, J_le_t, J_le_f, J_eq_t, J_eq_f, within_t, within_f, isIn_t, isIn_f, inRow_t, inRow_f, isCell_t, isCell_f, inb_t, ix_Jn, ix_J, Int.reduceToNat, Int.toNat_natCast, mset_ne, mset_eq, mrow_ne, mrow_eq, upd_eq, upd_ne, bind_s, bnd2_s, not_true_eq_false, not_false_eq_true, Nat.reduceAdd, w1, w2]
          exact ⟨_, rfl, rfl⟩
      · simp (disch := omega) only [↓nm_s, ↓grd_s, ↓reduceIte, J_lit, J_nI, J_add, J_sub, J_mul, J_neg, Int.cast_ofNat_Int, J_lt_t, J_lt_f, J_le_t, J_le_f, J_eq_t, J_eq_f, within_t, within_f, isIn_t, isIn_f, inRow_t, inRow_f, isCell_t, isCell_f, inb_t, ix_Jn, ix_J, Int.reduceToNat, Int.toNat_natCast, mset_ne, mset_eq, mrow_ne, mrow_eq, upd_eq, upd_ne, bind_s, bnd2_s, not_true_eq_false, not_false_eq_true, Nat.reduceAdd]
        exact ⟨_, rfl, rfl⟩
  · simp (disch := omega) only [↓nm_s, ↓grd_s, ↓reduceIte, J_lit, J_nI, J_add, J_sub, J_mul, J_neg, Int.cast_ofNat_Int, J_lt_t, J_lt_f, J_le_t, J_le_f, J_eq_t, J_eq_f, within_t, within_f, isIn_t, isIn_f, inRow_t, inRow_f, isCell_t, isCell_f, inb_t, ix_Jn, ix_J, Int.reduceToNat, Int.toNat_natCast, mset_ne, mset_eq, mrow_ne, mrow_eq, upd_eq, upd_ne, bind_s, bnd2_s, not_true_eq_false, not_false_eq_true, Nat.reduceAdd]
    exact ⟨_, rfl, rfl⟩
