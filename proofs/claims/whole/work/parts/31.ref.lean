/-! ===== the reference's small parts ===== -/
theorem t_has {w k : Int} (M : zM) (h : 0 ≤ w) (h2 : w < 16) (h3 : 0 ≤ k) (h4 : k < 12) : f_X11_has (J w) (J k) M = some (M 259 (144 + 12 * w + k).toNat) := by
  unfold f_X11_has
  simp (disch := omega) only [J_lit, J_nI, J_add, J_sub, J_mul, J_neg, Int.cast_ofNat_Int, grd_J, ix_J]
theorem t_sets {w k : Int} (v : Int32) (M : zM) (h : 0 ≤ w) (h2 : w < 16) (h3 : 0 ≤ k) (h4 : k < 12) : f_X11_sets (J w) (J k) v M = some (mset M 259 (144 + 12 * w + k).toNat v) := by
  unfold f_X11_sets
  simp (disch := omega) only [J_lit, J_nI, J_add, J_sub, J_mul, J_neg, Int.cast_ofNat_Int, nm_eq, bind_some, bnd2_some, grd_J, ix_J]
theorem t_adds {w k : Int} (v : Int32) (M : zM) (h : 0 ≤ w) (h2 : w < 16) (h3 : 0 ≤ k) (h4 : k < 12) : f_X11_adds (J w) (J k) v M = some (mset M 259 (144 + 12 * w + k).toNat (M 259 (144 + 12 * w + k).toNat + v)) := by
  unfold f_X11_adds
  simp (disch := omega) only [J_lit, J_nI, J_add, J_sub, J_mul, J_neg, Int.cast_ofNat_Int, nm_eq, bind_some, bnd2_some, grd_J, ix_J]
theorem t_within {a b c : Int} (h1 : -2147483648 ≤ a) (h2 : a < 2147483648) (h3 : -2147483648 ≤ b) (h4 : b < 2147483648) (h5 : -2147483648 ≤ c) (h6 : c < 2147483648) : f_X11_within (J a) (J b) (J c) = if b ≤ a ∧ a ≤ c then 1 else 0 := by
  unfold f_X11_within
  simp (disch := omega) only [J_lt]
  by_cases h : a < b
  · rw [if_pos h, if_neg (by omega)]
  · by_cases h' : c < a
    · rw [if_neg h, if_pos h', if_neg (by omega)]
    · rw [if_neg h, if_neg h', if_pos (by omega)]
theorem within0 {a b c : Int} (h1 : -2147483648 ≤ a) (h2 : a < 2147483648) (h3 : -2147483648 ≤ b) (h4 : b < 2147483648) (h5 : -2147483648 ≤ c) (h6 : c < 2147483648) : (f_X11_within (J a) (J b) (J c) = J 0) = ¬ (b ≤ a ∧ a ≤ c) := by
  rw [t_within h1 h2 h3 h4 h5 h6]
  by_cases h : b ≤ a ∧ a ≤ c
  · rw [if_pos h]
    simp only [h, and_self, not_true_eq_false, eq_iff_iff, iff_false]
    decide
  · rw [if_neg h]
    simp only [h, not_false_eq_true, eq_iff_iff, iff_true]
    rfl
theorem isIn0 {a b : Int} (h1 : -2147483648 ≤ a) (h2 : a < 2147483648) (h3 : -2147483648 ≤ b) (h4 : b < 2147483648) : (f_X11_isIn (J a) (J b) = J 0) = ¬ (0 ≤ a ∧ a ≤ 11 ∧ 0 ≤ b ∧ b ≤ 11) := by
  unfold f_X11_isIn
  simp (disch := omega) only [J_lit, J_nI, J_add, J_sub, J_mul, J_neg, Int.cast_ofNat_Int, within0]
  by_cases c1 : 0 ≤ a ∧ a ≤ 11
  · by_cases c2 : 0 ≤ b ∧ b ≤ 11
    · rw [if_neg (by omega), if_neg (by omega)]
      simp only [c1, c2, and_self, not_true_eq_false, eq_iff_iff, iff_false]
      decide
    · rw [if_neg (by omega), if_pos (by omega)]
      simp only [eq_iff_iff, true_iff]
      omega
  · rw [if_pos (by omega)]
    simp only [eq_iff_iff, true_iff]
    omega
theorem inRow0 {a : Int} (h1 : -2147483648 ≤ a) (h2 : a < 2147483648) : (f_X10_inRow (J a) = J 0) = ¬ (0 ≤ a ∧ a < 12) := by
  unfold f_X10_inRow
  simp (disch := omega) only [J_lit, J_nI, J_add, J_sub, J_mul, J_neg, Int.cast_ofNat_Int, J_lt, J_le]
  by_cases c1 : a < 0
  · rw [if_pos c1]
    simp only [eq_iff_iff, true_iff]
    omega
  · by_cases c2 : 12 ≤ a
    · rw [if_neg c1, if_pos c2]
      simp only [eq_iff_iff, true_iff]
      omega
    · rw [if_neg c1, if_neg c2, show (J 1 = J 0) = False from by simp only [eq_iff_iff, iff_false]; decide]
      simp only [eq_iff_iff, false_iff, Classical.not_not]
      omega
theorem isCell0 {a : Int} (h1 : -2147483648 ≤ a) (h2 : a < 2147483648) : (f_X10_isCell (J a) = J 0) = ¬ (0 ≤ a ∧ a < 144) := by
  unfold f_X10_isCell
  simp (disch := omega) only [J_lit, J_nI, J_add, J_sub, J_mul, J_neg, Int.cast_ofNat_Int, J_lt, J_le]
  by_cases c1 : a < 0
  · rw [if_pos c1]
    simp only [eq_iff_iff, true_iff]
    omega
  · by_cases c2 : 144 ≤ a
    · rw [if_neg c1, if_pos c2]
      simp only [eq_iff_iff, true_iff]
      omega
    · rw [if_neg c1, if_neg c2, show (J 1 = J 0) = False from by simp only [eq_iff_iff, iff_false]; decide]
      simp only [eq_iff_iff, false_iff, Classical.not_not]
      omega
/-- a row is laid from another one -/
theorem t_copies {a b : Nat} {n : Nat} (M : zM) (hab : a ≠ b) (ha : n ≤ LN a) (hb : n ≤ LN b) (hn : n < 2147483648) : f_X11_copies a b (J n) M = some (mrow M b (va_cpy (M a) (M b) 0 0 n)) := by
  have key : Wp (loopW (fun s : Int32 × zM => b_X11_copies_2 a b (J n) s.1 s.2) ((0 : Int32), M)) (fun M' => M' = mrow M b (va_cpy (M a) (M b) 0 0 n)) := by
    refine loop_up (fun k s => s = (J (k : Int), mrow M b (va_cpy (M a) (M b) 0 0 k))) n ?_ ?_ ?_
    · refine pr2 rfl ?_
      funext k
      by_cases h : k = b
      · subst h
        rw [mrow_eq]
        funext j
        rw [pk_cpy_out (by omega)]
      · rw [mrow_ne h]
    · intro k s hk e
      subst e
      unfold b_X11_copies_2
      simp (disch := omega) only [J_lit, J_nI, J_add, J_sub, J_mul, J_neg, Int.cast_ofNat_Int, nm_eq, bind_some, bnd2_some, J_le, grd_J, ix_Jn, if_neg, mrow_ne, mrow_eq]
      refine wp_some ?_
      refine pr2 rfl ?_
      funext c
      by_cases h : c = b
      · subst h
        rw [mset_eq, mrow_eq, mrow_eq]
        funext j
        by_cases hj : j = k
        · subst hj
          rw [upd_eq, pk_cpy_in (by omega) (by omega)]
          congr 1
          omega
        · rw [upd_ne hj]
          by_cases hj2 : j < k
          · rw [pk_cpy_in (by omega) (by omega), pk_cpy_in (by omega) (by omega)]
          · rw [pk_cpy_out (by omega), pk_cpy_out (by omega)]
      · rw [mset_ne h, mrow_ne h, mrow_ne h]
    · intro s e
      subst e
      unfold b_X11_copies_2
      simp (disch := omega) only [J_le, if_pos]
      exact wp_some rfl
  obtain ⟨M', e, h⟩ := key
  unfold f_X11_copies
  rw [e, h]
  rfl
/-- a row is filled -/
theorem t_fill {a : Nat} (v : Int32) (M : zM) (hn : LN a < 2147483648) : f_J7_fill_53178 a v M = some (mrow M a (fun i => if i < LN a then v else M a i)) := by
  have key : Wp (loopW (fun s : Int32 × zM => b_J7_fill_53178_5 a v (J (LN a : Nat)) s.1 s.2) ((0 : Int32), M)) (fun M' => M' = mrow M a (fun i => if i < LN a then v else M a i)) := by
    refine loop_up (fun k s => s = (J (k : Int), mrow M a (fun i => if i < k then v else M a i))) (LN a) ?_ ?_ ?_
    · refine pr2 rfl ?_
      funext k
      by_cases h : k = a
      · subst h
        rw [mrow_eq]
        funext j
        simp
      · rw [mrow_ne h]
    · intro k s hk e
      subst e
      unfold b_J7_fill_53178_5
      simp (disch := omega) only [J_lit, J_nI, J_add, J_sub, J_mul, J_neg, Int.cast_ofNat_Int, nm_eq, bind_some, bnd2_some, J_le, grd_J, ix_Jn, if_neg, mrow_ne, mrow_eq]
      refine wp_some ?_
      refine pr2 rfl ?_
      funext c
      by_cases h : c = a
      · subst h
        rw [mset_eq, mrow_eq, mrow_eq]
        funext j
        by_cases hj : j = k
        · subst hj
          rw [upd_eq, if_pos (by omega)]
        · rw [upd_ne hj]
          by_cases hj2 : j < k
          · rw [if_pos hj2, if_pos (by omega)]
          · rw [if_neg hj2, if_neg (by omega)]
      · rw [mset_ne h, mrow_ne h, mrow_ne h]
    · intro s e
      subst e
      unfold b_J7_fill_53178_5
      simp (disch := omega) only [J_le, if_pos]
      exact wp_some rfl
  obtain ⟨M', e, h⟩ := key
  unfold f_J7_fill_53178
  simp only [nm_eq, bind_some, bnd2_some, J_nI]
  rw [e, h]
  rfl
theorem LN258 : LN 258 = 2425 := by decide +kernel
theorem LN259 : LN 259 = 2425 := by decide +kernel
theorem LN260 : LN 260 = 2425 := by decide +kernel
theorem LN263 : LN 263 = 2425 := by decide +kernel
