/-! ===== what the law tells of one ===== -/
theorem LN84 : LN 84 = 10 := by decide +kernel
theorem s_ask2 {A B : zM} {n m b k kind w : Nat} (hk : kind < 3) (h : SqB A 1 (B 259) n m b k) (hT : Tx A 40 (B 259)) (hf : ∀ i, i < 7 → A 84 i = B 265 i) :
    ∃ v M' N', j_X1_ask_103 (4 + w) (J (128 + kind)) A = some (v, M') ∧
      (((f_X11_inside B).bind fun u128 => nm (mset B 265 (ix (7 : Int32)) u128) fun M131 => (f_X11_watchNow M131).bind fun u139 => nm (mset M131 265 (ix (8 : Int32)) u139) fun M142 => nm (mset M142 265 (ix (9 : Int32)) (M142 259 (ix (936 : Int32)))) fun M157 => some M157).bind fun M2 =>
        if (J kind) = 0 then (j_X11_tells_61 (J kind) (((300 : Int32) * (M2 265 (ix (6 : Int32)))) + ((20 : Int32) * (M2 265 (ix (0 : Int32))))) M2)
        else (if (J kind) = (1 : Int32) then (j_X11_tells_61 (J kind) ((200 : Int32) * (M2 265 (ix (8 : Int32)))) M2)
        else (j_X11_tells_61 (J kind) ((10 : Int32) - (M2 265 (ix (1 : Int32)))) M2))) = some (v, N') ∧ (∀ j, j ≠ 46 → j ≠ 84 → M' j = A j) ∧ (∀ j, j ≠ 265 → j ≠ 266 → N' j = B j) := by
  obtain ⟨x, e1, e2⟩ := s_inside h
  obtain ⟨tc, tl, tw, nh, h1, h2, h3⟩ := hT
  have c3 := tc 3 (by omega)
  have h2' : A 47 3 = J nh := h2
  have hm1 : A 1 3 = J m := h.2.1.2.1
  have hm2 : B 259 936 = J m := h.2.2.1.2.1
  have hn2 : B 259 944 = J nh := by
    have : A 47 3 = B 259 944 := c3
    rw [← this]
    exact h2
  have hwA := t_watchAt (M := mset A 84 7 x) (ρ := B 259) (nh := nh) (m := m) h1 (by simp (disch := omega) only [mset_ne, mset_eq, mrow_ne, mrow_eq, upd_eq, upd_ne]; exact h2') (fun i hi => by simp (disch := omega) only [mset_ne, mset_eq, mrow_ne, mrow_eq, upd_eq, upd_ne]; exact h3 i hi)
  have hwB := t_watchNow (N := mset B 265 7 x) (nh := nh) (m := m) h1 (by simp (disch := omega) only [mset_ne, mset_eq, mrow_ne, mrow_eq, upd_eq, upd_ne]; exact hn2) (by simp (disch := omega) only [mset_ne, mset_eq, mrow_ne, mrow_eq, upd_eq, upd_ne]; exact hm2)
  have ew : wv (mset B 265 7 x 259) (J m) nh = wv (B 259) (J m) nh := by rw [mset_ne (by decide)]
  rw [ew] at hwB
  have hfac : ∀ i, i < 10 → mset (mset (mset A 84 7 x) 84 8 (wv (B 259) (J m) nh)) 84 9 (J m) 84 i = mset (mset (mset B 265 7 x) 265 8 (wv (B 259) (J m) nh)) 265 9 (J m) 265 i := by
    intro i hi
    simp only [mset_eq]
    by_cases i9 : i = 9
    · subst i9
      simp (disch := omega) only [mset_ne, mset_eq, mrow_ne, mrow_eq, upd_eq, upd_ne]
    · by_cases i8 : i = 8
      · subst i8
        simp (disch := omega) only [mset_ne, mset_eq, mrow_ne, mrow_eq, upd_eq, upd_ne]
      · by_cases i7 : i = 7
        · subst i7
          simp (disch := omega) only [mset_ne, mset_eq, mrow_ne, mrow_eq, upd_eq, upd_ne]
        · simp (disch := omega) only [mset_ne, mset_eq, mrow_ne, mrow_eq, upd_eq, upd_ne]
          exact hf i (by omega)
  have hlw : LwR (mset (mset (mset A 84 7 x) 84 8 (wv (B 259) (J m) nh)) 84 9 (J m) 41) (mset (mset (mset A 84 7 x) 84 8 (wv (B 259) (J m) nh)) 84 9 (J m) 42) (mset (mset (mset A 84 7 x) 84 8 (wv (B 259) (J m) nh)) 84 9 (J m) 43) (mset (mset (mset A 84 7 x) 84 8 (wv (B 259) (J m) nh)) 84 9 (J m) 44) (mset (mset (mset A 84 7 x) 84 8 (wv (B 259) (J m) nh)) 84 9 (J m) 45) (mset (mset (mset B 265 7 x) 265 8 (wv (B 259) (J m) nh)) 265 9 (J m) 259) := by
    simp (disch := omega) only [mset_ne, mset_eq, mrow_ne, mrow_eq, upd_eq, upd_ne]
    exact tl
  have T := s_tells hk hlw hfac
  have f6 := hf 6 (by omega)
  have f0 := hf 0 (by omega)
  have f1 := hf 1 (by omega)
  unfold j_X1_ask_103 f_X3_tells f_X3_without
  rw [show (0 : Int32) = J 0 from rfl] at T
  simp (disch := omega) only [↓nm_eq, ↓grd_if, ↓reduceIte, J_lit, J_nI, J_add, J_sub, J_mul, J_neg, Int.cast_ofNat_Int, J_lt_t, J_lt_f, J_le_t, J_le_f, J_eq_t, J_eq_f, within_t, within_f, isIn_t, isIn_f, inRow_t, inRow_f, isCell_t, isCell_f, inb_t, ix_Jn, ix_J, Int.reduceToNat, Int.toNat_natCast, mset_ne, mset_eq, mrow_ne, mrow_eq, upd_eq, upd_ne, bind_some, bnd2_some, not_true_eq_false, not_false_eq_true, Nat.reduceAdd, e1, hm1, hwA, e2, hwB, hm2]
  rcases (show kind = 0 ∨ kind = 1 ∨ kind = 2 by omega) with e | e | e <;> subst e
  · obtain ⟨v, M', N', g1, g2, g3, g4⟩ := T (J 300 * A 84 6 + J 20 * A 84 0)
    refine ⟨v, M', N', ?_, ?_, fun j a b => by rw [g3 j a, mset_ne b, mset_ne b, mset_ne b], fun j a b => by rw [g4 j b, mset_ne a, mset_ne a, mset_ne a]⟩
    · simp (disch := omega) only [↓nm_eq, ↓grd_if, ↓reduceIte, J_lit, J_nI, J_add, J_sub, J_mul, J_neg, Int.cast_ofNat_Int, J_lt_t, J_lt_f, J_le_t, J_le_f, J_eq_t, J_eq_f, within_t, within_f, isIn_t, isIn_f, inRow_t, inRow_f, isCell_t, isCell_f, inb_t, ix_Jn, ix_J, Int.reduceToNat, Int.toNat_natCast, mset_ne, mset_eq, mrow_ne, mrow_eq, upd_eq, upd_ne, bind_some, bnd2_some, not_true_eq_false, not_false_eq_true, Nat.reduceAdd] at g1 ⊢
      rw [g1]
      rfl
    · rw [f6, f0] at g2
      simp (disch := omega) only [↓nm_eq, ↓grd_if, ↓reduceIte, J_lit, J_nI, J_add, J_sub, J_mul, J_neg, Int.cast_ofNat_Int, J_lt_t, J_lt_f, J_le_t, J_le_f, J_eq_t, J_eq_f, within_t, within_f, isIn_t, isIn_f, inRow_t, inRow_f, isCell_t, isCell_f, inb_t, ix_Jn, ix_J, Int.reduceToNat, Int.toNat_natCast, mset_ne, mset_eq, mrow_ne, mrow_eq, upd_eq, upd_ne, bind_some, bnd2_some, not_true_eq_false, not_false_eq_true, Nat.reduceAdd] at g2 ⊢
      exact g2
  · obtain ⟨v, M', N', g1, g2, g3, g4⟩ := T (J 200 * wv (B 259) (J m) nh)
    refine ⟨v, M', N', ?_, ?_, fun j a b => by rw [g3 j a, mset_ne b, mset_ne b, mset_ne b], fun j a b => by rw [g4 j b, mset_ne a, mset_ne a, mset_ne a]⟩
    · simp (disch := omega) only [↓nm_eq, ↓grd_if, ↓reduceIte, J_lit, J_nI, J_add, J_sub, J_mul, J_neg, Int.cast_ofNat_Int, J_lt_t, J_lt_f, J_le_t, J_le_f, J_eq_t, J_eq_f, within_t, within_f, isIn_t, isIn_f, inRow_t, inRow_f, isCell_t, isCell_f, inb_t, ix_Jn, ix_J, Int.reduceToNat, Int.toNat_natCast, mset_ne, mset_eq, mrow_ne, mrow_eq, upd_eq, upd_ne, bind_some, bnd2_some, not_true_eq_false, not_false_eq_true, Nat.reduceAdd] at g1 ⊢
      rw [g1]
      rfl
    · simp (disch := omega) only [↓nm_eq, ↓grd_if, ↓reduceIte, J_lit, J_nI, J_add, J_sub, J_mul, J_neg, Int.cast_ofNat_Int, J_lt_t, J_lt_f, J_le_t, J_le_f, J_eq_t, J_eq_f, within_t, within_f, isIn_t, isIn_f, inRow_t, inRow_f, isCell_t, isCell_f, inb_t, ix_Jn, ix_J, Int.reduceToNat, Int.toNat_natCast, mset_ne, mset_eq, mrow_ne, mrow_eq, upd_eq, upd_ne, bind_some, bnd2_some, not_true_eq_false, not_false_eq_true, Nat.reduceAdd] at g2 ⊢
      exact g2
  · obtain ⟨v, M', N', g1, g2, g3, g4⟩ := T (J 10 - A 84 1)
    refine ⟨v, M', N', ?_, ?_, fun j a b => by rw [g3 j a, mset_ne b, mset_ne b, mset_ne b], fun j a b => by rw [g4 j b, mset_ne a, mset_ne a, mset_ne a]⟩
    · simp (disch := omega) only [↓nm_eq, ↓grd_if, ↓reduceIte, J_lit, J_nI, J_add, J_sub, J_mul, J_neg, Int.cast_ofNat_Int, J_lt_t, J_lt_f, J_le_t, J_le_f, J_eq_t, J_eq_f, within_t, within_f, isIn_t, isIn_f, inRow_t, inRow_f, isCell_t, isCell_f, inb_t, ix_Jn, ix_J, Int.reduceToNat, Int.toNat_natCast, mset_ne, mset_eq, mrow_ne, mrow_eq, upd_eq, upd_ne, bind_some, bnd2_some, not_true_eq_false, not_false_eq_true, Nat.reduceAdd] at g1 ⊢
      rw [g1]
      rfl
    · rw [f1] at g2
      simp (disch := omega) only [↓nm_eq, ↓grd_if, ↓reduceIte, J_lit, J_nI, J_add, J_sub, J_mul, J_neg, Int.cast_ofNat_Int, J_lt_t, J_lt_f, J_le_t, J_le_f, J_eq_t, J_eq_f, within_t, within_f, isIn_t, isIn_f, inRow_t, inRow_f, isCell_t, isCell_f, inb_t, ix_Jn, ix_J, Int.reduceToNat, Int.toNat_natCast, mset_ne, mset_eq, mrow_ne, mrow_eq, upd_eq, upd_ne, bind_some, bnd2_some, not_true_eq_false, not_false_eq_true, Nat.reduceAdd] at g2 ⊢
      exact g2
theorem s_ask {M N : zM} {n m b k kind w : Nat} (hk : kind < 3) (h : SqB M 1 (N 259) n m b k) (hT : Tx M 40 (N 259)) (hw : w < n) :
    ∃ v M' N', f_X1_ask (J (128 + kind)) (4 + w) M = some (v, M') ∧ f_X11_tells (J kind) (J w) N = some (v, N') ∧ (∀ j, j ≠ 46 → j ≠ 84 → M' j = M j) ∧ (∀ j, j ≠ 265 → j ≠ 266 → N' j = N j) := by
  have hn := h.1.1
  have hwk : WkR (M (4 + w)) (N 259) w b := h.2.2.2.2.1 w hw
  obtain ⟨w0, w1, wb, _, _, _, win⟩ := hwk
  have key : ∀ A B : zM, (∀ j, j ≠ 84 → A j = M j) → (∀ j, j ≠ 265 → B j = N j) → (∀ i, i < 7 → A 84 i = B 265 i) → f_X1_ask (J (128 + kind)) (4 + w) M = j_X1_ask_103 (4 + w) (J (128 + kind)) A → f_X11_laysFacts (J w) N = ((f_X11_inside B).bind fun u128 => nm (mset B 265 (ix (7 : Int32)) u128) fun M131 => (f_X11_watchNow M131).bind fun u139 => nm (mset M131 265 (ix (8 : Int32)) u139) fun M142 => nm (mset M142 265 (ix (9 : Int32)) (M142 259 (ix (936 : Int32)))) fun M157 => some M157) →
      ∃ v M' N', f_X1_ask (J (128 + kind)) (4 + w) M = some (v, M') ∧ f_X11_tells (J kind) (J w) N = some (v, N') ∧ (∀ j, j ≠ 46 → j ≠ 84 → M' j = M j) ∧ (∀ j, j ≠ 265 → j ≠ 266 → N' j = N j) := by
    intro A B hA hB hf e1 e2
    have hS : SqB A 1 (B 259) n m b k := by
      rw [hB 259 (by decide)]
      exact Sq_fr (fun j _ _ => hA j (by omega)) h
    have hT' : Tx A 40 (B 259) := by
      rw [hB 259 (by decide)]
      exact Tx_fr (fun j _ _ _ => hA j (by omega)) hT
    obtain ⟨v, M', N', g1, g2, g3, g4⟩ := s_ask2 (w := w) hk hS hT' hf
    refine ⟨v, M', N', by rw [e1]; exact g1, ?_, fun j a b => by rw [g3 j a b, hA j b], fun j a b => by rw [g4 j a b, hB j a]⟩
    unfold f_X11_tells
    rw [e2]
    exact g2
  have ef : f_J7_fill_53178 84 (J 0) M = some (mrow M 84 (fun i => if i < 10 then J 0 else M 84 i)) := by
    rw [t_fill (J 0) M (by rw [LN84]; decide), LN84]
  rcases wb with wb | wb
  · have wb' : M (4 + w) 1 = J 0 := wb
    have wb2 : N 259 (145 + 12 * w) = J 0 := by rw [← w1]; exact wb'
    have z0 : ∀ v : Int32, J 0 * v = J 0 := fun v => Int32.zero_mul
    refine key (mset (mrow M 84 (fun i => if i < 10 then J 0 else M 84 i)) 84 0 (M (4 + w) 0)) (mset (mset (mset (mset (mset (mset (mset N 265 0 (N 259 (144 + 12 * w))) 265 1 (J 0)) 265 2 (J 0)) 265 3 (J 0)) 265 4 (J 0)) 265 5 (J 0)) 265 6 (J 0)) (fun j hj => by simp (disch := omega) only [mset_ne, mrow_ne]) (fun j hj => by simp (disch := omega) only [mset_ne, mrow_ne]) ?_ ?_ ?_
    · intro i hi
      rcases (show i = 0 ∨ i = 1 ∨ i = 2 ∨ i = 3 ∨ i = 4 ∨ i = 5 ∨ i = 6 by omega) with e | e | e | e | e | e | e <;> subst e <;> simp (disch := omega) only [mset_ne, mset_eq, mrow_ne, mrow_eq, upd_eq, upd_ne]
      · exact w0
      all_goals rfl
    · unfold f_X1_ask
      simp (disch := omega) only [↓nm_eq, ↓grd_if, ↓reduceIte, J_lit, J_nI, J_add, J_sub, J_mul, J_neg, Int.cast_ofNat_Int, J_lt_t, J_lt_f, J_le_t, J_le_f, J_eq_t, J_eq_f, within_t, within_f, isIn_t, isIn_f, inRow_t, inRow_f, isCell_t, isCell_f, inb_t, ix_Jn, ix_J, Int.reduceToNat, Int.toNat_natCast, mset_ne, mset_eq, mrow_ne, mrow_eq, upd_eq, upd_ne, bind_some, bnd2_some, not_true_eq_false, not_false_eq_true, Nat.reduceAdd, ef, wb']
    · unfold f_X11_laysFacts j_X11_laysFacts_119 j_X11_laysFacts_120
      simp (disch := omega) only [↓nm_eq, ↓grd_if, ↓reduceIte, J_lit, J_nI, J_add, J_sub, J_mul, J_neg, Int.cast_ofNat_Int, J_lt_t, J_lt_f, J_le_t, J_le_f, J_eq_t, J_eq_f, within_t, within_f, isIn_t, isIn_f, inRow_t, inRow_f, isCell_t, isCell_f, inb_t, ix_Jn, ix_J, Int.reduceToNat, Int.toNat_natCast, mset_ne, mset_eq, mrow_ne, mrow_eq, upd_eq, upd_ne, bind_some, bnd2_some, not_true_eq_false, not_false_eq_true, Nat.reduceAdd, th0, ts0, ta0, th1, ts1, ta1, th2, ts2, ta2, th3, ts3, ta3, th4, ts4, ta4, th5, ts5, ta5, th6, ts6, ta6, th7, ts7, ta7, th8, ts8, ta8, th9, ts9, ta9, th10, ts10, ta10, th11, ts11, ta11, wb2, z0]
  · obtain ⟨h2, h3, h4, h5, h6, h7, ⟨x, lx, ex⟩, ⟨y, ly, ey⟩, ⟨f, lf, ef4⟩, _⟩ := win wb
    have wb' : M (4 + w) 1 = J 1 := wb
    have wb2 : N 259 (145 + 12 * w) = J 1 := by rw [← w1]; exact wb'
    have o1 : ∀ v : Int32, J 1 * v = v := fun v => Int32.one_mul v
    have ex2 : N 259 (146 + 12 * w) = J x := by rw [← h2]; exact ex
    have ey2 : N 259 (147 + 12 * w) = J y := by rw [← h3]; exact ey
    have hcell : M 3 (12 * (y : Int) + (x : Int)).toNat = N 259 (12 * (y : Int) + (x : Int)).toNat := (h.2.2.2.1 _ (by omega)).1
    refine key (mset (mset (mset (mset (mset (mset (mset (mrow M 84 (fun i => if i < 10 then J 0 else M 84 i)) 84 0 (M (4 + w) 0)) 84 1 (M (4 + w) 5)) 84 2 (M (4 + w) 6)) 84 3 (M (4 + w) 2)) 84 4 (M (4 + w) 3)) 84 5 (M (4 + w) 4)) 84 6 (if M 3 (12 * (y : Int) + (x : Int)).toNat = J 2 then J 1 else J 0))
      (mset (mset (mset (mset (mset (mset (mset N 265 0 (N 259 (144 + 12 * w))) 265 1 (N 259 (149 + 12 * w))) 265 2 (N 259 (150 + 12 * w))) 265 3 (N 259 (146 + 12 * w))) 265 4 (N 259 (147 + 12 * w))) 265 5 (N 259 (148 + 12 * w))) 265 6 (if M 3 (12 * (y : Int) + (x : Int)).toNat = J 2 then J 1 else J 0)) (fun j hj => by simp (disch := omega) only [mset_ne, mrow_ne]) (fun j hj => by simp (disch := omega) only [mset_ne, mrow_ne]) ?_ ?_ ?_
    · intro i hi
      rcases (show i = 0 ∨ i = 1 ∨ i = 2 ∨ i = 3 ∨ i = 4 ∨ i = 5 ∨ i = 6 by omega) with e | e | e | e | e | e | e <;> subst e <;> simp (disch := omega) only [mset_ne, mset_eq, mrow_ne, mrow_eq, upd_eq, upd_ne]
      · exact w0
      · exact h5
      · exact h6
      · exact h2
      · exact h3
      · exact h4
    · unfold f_X1_ask j_X1_ask_102 f_X9_at
      by_cases c : M 3 (12 * (y : Int) + (x : Int)).toNat = J 2
      · simp (disch := omega) only [↓nm_eq, ↓grd_if, ↓reduceIte, J_lit, J_nI, J_add, J_sub, J_mul, J_neg, Int.cast_ofNat_Int, J_lt_t, J_lt_f, J_le_t, J_le_f, J_eq_t, J_eq_f, within_t, within_f, isIn_t, isIn_f, inRow_t, inRow_f, isCell_t, isCell_f, inb_t, ix_Jn, ix_J, Int.reduceToNat, Int.toNat_natCast, mset_ne, mset_eq, mrow_ne, mrow_eq, upd_eq, upd_ne, bind_some, bnd2_some, not_true_eq_false, not_false_eq_true, Nat.reduceAdd, ef, wb', ex, ey, c]
      · simp (disch := omega) only [↓nm_eq, ↓grd_if, ↓reduceIte, J_lit, J_nI, J_add, J_sub, J_mul, J_neg, Int.cast_ofNat_Int, J_lt_t, J_lt_f, J_le_t, J_le_f, J_eq_t, J_eq_f, within_t, within_f, isIn_t, isIn_f, inRow_t, inRow_f, isCell_t, isCell_f, inb_t, ix_Jn, ix_J, Int.reduceToNat, Int.toNat_natCast, mset_ne, mset_eq, mrow_ne, mrow_eq, upd_eq, upd_ne, bind_some, bnd2_some, not_true_eq_false, not_false_eq_true, Nat.reduceAdd, ef, wb', ex, ey, c]
    · unfold f_X11_laysFacts j_X11_laysFacts_119 j_X11_laysFacts_120
      rw [hcell]
      by_cases c : N 259 (12 * (y : Int) + (x : Int)).toNat = J 2
      · simp (disch := omega) only [↓nm_eq, ↓grd_if, ↓reduceIte, J_lit, J_nI, J_add, J_sub, J_mul, J_neg, Int.cast_ofNat_Int, J_lt_t, J_lt_f, J_le_t, J_le_f, J_eq_t, J_eq_f, within_t, within_f, isIn_t, isIn_f, inRow_t, inRow_f, isCell_t, isCell_f, inb_t, ix_Jn, ix_J, Int.reduceToNat, Int.toNat_natCast, mset_ne, mset_eq, mrow_ne, mrow_eq, upd_eq, upd_ne, bind_some, bnd2_some, not_true_eq_false, not_false_eq_true, Nat.reduceAdd, th0, ts0, ta0, th1, ts1, ta1, th2, ts2, ta2, th3, ts3, ta3, th4, ts4, ta4, th5, ts5, ta5, th6, ts6, ta6, th7, ts7, ta7, th8, ts8, ta8, th9, ts9, ta9, th10, ts10, ta10, th11, ts11, ta11, t_standsAt, wb2, o1, ex2, ey2, c]
      · simp (disch := omega) only [↓nm_eq, ↓grd_if, ↓reduceIte, J_lit, J_nI, J_add, J_sub, J_mul, J_neg, Int.cast_ofNat_Int, J_lt_t, J_lt_f, J_le_t, J_le_f, J_eq_t, J_eq_f, within_t, within_f, isIn_t, isIn_f, inRow_t, inRow_f, isCell_t, isCell_f, inb_t, ix_Jn, ix_J, Int.reduceToNat, Int.toNat_natCast, mset_ne, mset_eq, mrow_ne, mrow_eq, upd_eq, upd_ne, bind_some, bnd2_some, not_true_eq_false, not_false_eq_true, Nat.reduceAdd, th0, ts0, ta0, th1, ts1, ta1, th2, ts2, ta2, th3, ts3, ta3, th4, ts4, ta4, th5, ts5, ta5, th6, ts6, ta6, th7, ts7, ta7, th8, ts8, ta8, th9, ts9, ta9, th10, ts10, ta10, th11, ts11, ta11, t_standsAt, wb2, o1, ex2, ey2, c]
