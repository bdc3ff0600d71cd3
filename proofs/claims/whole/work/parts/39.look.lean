/-! ===== cell, look, walker ===== -/
theorem Sq_tk {M N : zM} {n m k : Nat} (v : Int32) (h : Sq M 1 (N 258) n m k) : Sq M 1 (mset (tkR N) 257 6 v 259) n m k := Sq_ro (fun j hj _ => tk_s N v j (by omega)) h
theorem c_cell (p q r : Int32) : Cl1 (f_X10_cell p q r) (f_X11_cell p q r) := by
  intro M N hI
  obtain ⟨x, rfl, l1, l2⟩ := J_ex p
  obtain ⟨y, rfl, l3, l4⟩ := J_ex q
  obtain ⟨z, rfl, l5, l6⟩ := J_ex r
  have hI2 := hI
  obtain ⟨n, m, k, u, o, ks, a1, a2, _⟩ := hI2
  unfold f_X10_cell f_X11_cell f_X11_place
  simp (disch := omega) only [J_lit, J_nI, J_add, J_sub, J_mul, J_neg, Int.cast_ofNat_Int, J_lt, J_le, J_eq, within0, isIn0, inRow0, isCell0, t_take, nm_eq, bind_some, bnd2_some]
  by_cases h1 : 0 ≤ x ∧ x < 12
  · by_cases h2 : 0 ≤ y ∧ y < 12
    · by_cases h3 : z = 0
      · simp (disch := omega) only [if_true, if_false, if_pos, if_neg, grd_J, ix_Jn, ix_J, Int.reduceToNat, Int.toNat_natCast]
        refine ⟨_, _, rfl, ?_, IC_tk (J 1) hI⟩
        rw [tk_s N (J 1) _ (by omega)]
        rw [show M 3 (12 * y + x).toNat = N 258 (12 * y + x).toNat from (a2.2.2.2.1 _ (by omega)).1]
      · by_cases h4 : z = 1
        · simp (disch := omega) only [if_true, if_false, if_pos, if_neg, grd_J, ix_Jn, ix_J, Int.reduceToNat, Int.toNat_natCast]
          obtain ⟨a, e1, e2, _⟩ := s_whoAt (Sq_tk (J 1) a2) (J (12 * y + x))
          rw [e1, e2]
          exact ⟨_, _, rfl, rfl, IC_tk (J 1) hI⟩
        · simp (disch := omega) only [if_true, if_false, if_pos, if_neg]
          exact ⟨_, _, rfl, rfl, hI⟩
    · simp (disch := omega) only [if_true, if_false, if_pos, if_neg]
      exact ⟨_, _, rfl, rfl, hI⟩
  · simp (disch := omega) only [if_true, if_false, if_pos, if_neg]
    exact ⟨_, _, rfl, rfl, hI⟩
theorem or_0 (v : Int32) : v ||| 0 = v := by
  apply Int32.toBitVec_inj.1
  exact BitVec.or_zero
theorem shl_0 (x : Int32) : J 0 <<< x = 0 := by
  show (0 : Int32) <<< x = 0
  apply Int32.toBitVec_inj.1
  simp
theorem s_insideSet {M N : zM} {n m b k : Nat} (h : SqB M 1 (N 259) n m b k) : ∃ a, f_X7_insideSet 1 M = some a ∧ loopW (fun s => b_X11_look_25 s.1 s.2 N) (J 0, J 0) = some a := by
  obtain ⟨⟨hn, _, _⟩, ⟨e2, _⟩, ⟨g2, _⟩, _, hw, _⟩ := h
  have key : W2 (loopW (fun s => b_X7_insideSet_4 1 s.1 s.2 M) (J 0, J 0)) (loopW (fun s => b_X11_look_25 s.1 s.2 N) (J 0, J 0)) (fun a b => a = b) := by
    refine loop2 (fun k s t => s.2 = J k ∧ t = s) n ⟨rfl, rfl⟩ ?_ ?_
    · rintro k ⟨s1, s2⟩ t hk ⟨e, rfl⟩
      simp only at e
      subst e
      unfold b_X7_insideSet_4 b_X11_look_25 j_X7_insideSet_30_4
      obtain ⟨w0, w1, wb, _, _, _, win⟩ := hw k hk
      have w1' : M (1 + 3 + k) 1 = N 259 (145 + 12 * k) := w1
      simp (disch := omega) only [J_lit, J_nI, J_add, J_sub, J_mul, J_neg, Int.cast_ofNat_Int, ix_Jn, ix_J, Int.reduceToNat, Int.toNat_natCast, e2, g2, J_lt, J_le, J_eq, within0, isIn0, inRow0, isCell0, if_true, if_false, if_pos, if_neg, grd_J, th0, ts0, ta0, th1, ts1, ta1, th2, ts2, ta2, th3, ts3, ta3, th4, ts4, ta4, th5, ts5, ta5, th6, ts6, ta6, th7, ts7, ta7, th8, ts8, ta8, th9, ts9, ta9, th10, ts10, ta10, th11, ts11, ta11, bind_some, nm_eq]
      rcases wb with wb | wb
      · have wb' : M (1 + 3 + k) 1 = J 0 := wb
        rw [if_pos wb', ← w1', wb', shl_0, or_0]
        exact w2_some ⟨rfl, rfl⟩
      · have wb' : M (1 + 3 + k) 1 = J 1 := wb
        rw [if_neg (by rw [wb']; decide), ← w1', wb']
        exact w2_some ⟨rfl, rfl⟩
    · rintro ⟨s1, s2⟩ t ⟨e, rfl⟩
      simp only at e
      subst e
      unfold b_X7_insideSet_4 b_X11_look_25
      simp (disch := omega) only [J_lit, J_nI, J_add, J_sub, J_mul, J_neg, Int.cast_ofNat_Int, ix_Jn, ix_J, Int.reduceToNat, Int.toNat_natCast, e2, g2, J_lt, J_le, J_eq, within0, isIn0, inRow0, isCell0, if_true, if_false, if_pos, if_neg]
      exact w2_some rfl
  obtain ⟨a, b, e1, e3, rfl⟩ := key
  refine ⟨a, ?_, e3⟩
  unfold f_X7_insideSet
  rw [show (0 : Int32) = J 0 from rfl, e1]
  rfl
theorem s_stones {M N : zM} {n m b k : Nat} (h : SqB M 1 (N 259) n m b k) : ∃ a, f_X7_stones 1 M = some a ∧ loopW (fun s => b_X11_look_65 s.1 s.2 N) (J 0, J 0) = some a := by
  obtain ⟨_, _, _, hc, _, _⟩ := h
  have key : W2 (loopW (fun s => b_X7_stones_4 1 s.1 s.2 M) (J 0, J 0)) (loopW (fun s => b_X11_look_65 s.1 s.2 N) (J 0, J 0)) (fun a b => a = b) := by
    refine loop2 (fun k s t => s.2 = J k ∧ t = s) 144 ⟨rfl, rfl⟩ ?_ ?_
    · rintro k ⟨s1, s2⟩ t hk ⟨e, rfl⟩
      simp only at e
      subst e
      unfold b_X7_stones_4 b_X11_look_65 j_X7_stones_24_4 j_X11_look_88_65
      have hc' : M 3 k = N 259 k := (hc k hk).1
      simp (disch := omega) only [J_lit, J_nI, J_add, J_sub, J_mul, J_neg, Int.cast_ofNat_Int, ix_Jn, ix_J, Int.reduceToNat, Int.toNat_natCast, J_lt, J_le, J_eq, within0, isIn0, inRow0, isCell0, if_true, if_false, if_pos, if_neg, grd_J, nm_eq, Nat.reduceAdd, hc']
      by_cases h : N 259 k = J 1
      · rw [if_pos h, if_pos h]
        exact w2_some ⟨rfl, rfl⟩
      · rw [if_neg h, if_neg h]
        refine w2_some ⟨rfl, ?_⟩
        rw [show s1 + J 0 = s1 from Int32.add_zero s1]
    · rintro ⟨s1, s2⟩ t ⟨e, rfl⟩
      simp only at e
      subst e
      unfold b_X7_stones_4 b_X11_look_65
      simp (disch := omega) only [J_lit, J_nI, J_add, J_sub, J_mul, J_neg, Int.cast_ofNat_Int, ix_Jn, ix_J, Int.reduceToNat, Int.toNat_natCast, J_lt, J_le, J_eq, within0, isIn0, inRow0, isCell0, if_true, if_false, if_pos, if_neg]
      exact w2_some rfl
  obtain ⟨a, b, e1, e3, rfl⟩ := key
  refine ⟨a, ?_, e3⟩
  unfold f_X7_stones
  rw [show (0 : Int32) = J 0 from rfl, e1]
  rfl
theorem c_look (p : Int32) : Cl1 (f_X10_look p) (f_X11_look p) := by
  intro M N hI
  obtain ⟨z, rfl, l1, l2⟩ := J_ex p
  have hI2 := hI
  obtain ⟨n, m, k, u, o, ks, a1, a2, ⟨t1, _⟩, a4, a5, a6, ⟨_, _, _, u4, u5, _⟩, _⟩ := hI2
  obtain ⟨w1, w2, w3⟩ := s_insideSet (Sq_tk (J 1) a2)
  obtain ⟨v1, v2, v3⟩ := s_stones (Sq_tk (J 1) a2)
  obtain ⟨⟨_, _, _⟩, ⟨e2, e3, e6, e4, e5⟩, ⟨g2, g3, g4⟩, _⟩ := a2
  have q0 : M 47 0 = N 258 941 := t1 0 (by omega)
  have q1 : M 47 1 = N 258 942 := t1 1 (by omega)
  have q2 : M 47 2 = N 258 943 := t1 2 (by omega)
  have q3 : M 47 3 = N 258 944 := t1 3 (by omega)
  unfold f_X10_look f_X11_look j_X11_look_54 j_X11_look_96
  by_cases h : 0 ≤ z ∧ z ≤ 11
  · rcases (show z = 0 ∨ z = 1 ∨ z = 2 ∨ z = 3 ∨ z = 4 ∨ z = 5 ∨ z = 6 ∨ z = 7 ∨ z = 8 ∨ z = 9 ∨ z = 10 ∨ z = 11 by omega) with e | e | e | e | e | e | e | e | e | e | e | e <;> subst e <;> simp (disch := omega) only [if_true, if_false, if_pos, if_neg, J_lit, J_nI, J_add, J_sub, J_mul, J_neg, Int.cast_ofNat_Int, J_lt, J_le, J_eq, within0, isIn0, inRow0, isCell0, t_take, nm_eq, bind_some, bnd2_some, ix_Jn, ix_J, Int.reduceToNat, Int.toNat_natCast, tk_s, tk_7, grd_J, g2, g3, g4, e2, e3, e6, e4, e5, u4, u5, w2, w3, v2, v3, q0, q1, q2, q3, Int.reduceAdd, Int.reduceSub] <;> exact ⟨_, _, rfl, rfl, IC_tk (J 1) hI⟩
  · simp (disch := omega) only [if_true, if_false, if_pos, if_neg, J_lit, J_nI, J_add, J_sub, J_mul, J_neg, Int.cast_ofNat_Int, J_lt, J_le, J_eq, within0, isIn0, inRow0, isCell0]
    exact ⟨_, _, rfl, rfl, hI⟩
