/-! ===== known, move, gap ===== -/
theorem c_move (p : Int32) : Cl2 (f_X10_move p) (f_X11_move p) := by
  intro M N hI
  obtain ⟨z, rfl, l1, l2⟩ := J_ex p
  have hI2 := hI
  obtain ⟨n, m, k, u, o, ks, a1, a2, a3, a4, ⟨r1, ⟨n2, c1, c2, c3, c4⟩, r3⟩, a6, a7, a8, a9, a10⟩ := hI2
  unfold f_X10_move f_X11_move f_X6_tellMove j_X11_move_61 j_X11_move_80
  simp (disch := omega) only [J_lit, J_nI, J_add, J_sub, J_mul, J_neg, Int.cast_ofNat_Int, J_lt, J_le, J_eq, within0, isIn0, inRow0, isCell0, ix_Jn, ix_J, Int.reduceToNat, Int.toNat_natCast, c2, c3]
  by_cases h1 : -1 ≤ z ∧ z ≤ 2
  · by_cases h2 : z = -1
    · subst h2
      simp (disch := omega) only [if_true, if_false, if_pos, if_neg, nm_eq, bind_some, bnd2_some, J_lit, J_nI, J_add, J_sub, J_mul, J_neg, Int.cast_ofNat_Int, mset_ne, mset_eq, mrow_ne, mrow_eq, upd_eq, upd_ne, ix_Jn, ix_J, Int.reduceToNat, Int.toNat_natCast, grd_J]
      refine ⟨_, _, _, rfl, rfl, ?_⟩
      refine IC_rw (fun j q1 q2 => by simp (disch := omega) only [mset_ne, mrow_ne]) (fun i q1 => by simp (disch := omega) only [mset_ne, mset_eq, mrow_ne, mrow_eq, upd_eq, upd_ne, J_lit, J_nI, J_add, J_sub, J_mul, J_neg, Int.cast_ofNat_Int, ix_Jn, ix_J, Int.reduceToNat, Int.toNat_natCast, Nat.reduceAdd, Nat.reduceMul]) (fun j q1 q2 q3 => by simp (disch := omega) only [mset_ne, mrow_ne]) (fun hr => ?_) hI
      refine ⟨(fun r hr => by obtain ⟨nn, d1, d2, d3, d4⟩ := r1 r hr; exact ⟨nn, d1, by simp (disch := omega) only [mset_ne, mset_eq, mrow_ne, mrow_eq, upd_eq, upd_ne, J_lit, J_nI, J_add, J_sub, J_mul, J_neg, Int.cast_ofNat_Int, ix_Jn, ix_J, Int.reduceToNat, Int.toNat_natCast, Nat.reduceAdd, Nat.reduceMul]; exact d2, by simp (disch := omega) only [mset_ne, mset_eq, mrow_ne, mrow_eq, upd_eq, upd_ne, J_lit, J_nI, J_add, J_sub, J_mul, J_neg, Int.cast_ofNat_Int, ix_Jn, ix_J, Int.reduceToNat, Int.toNat_natCast, Nat.reduceAdd, Nat.reduceMul]; exact d3, fun i hi => by simp (disch := omega) only [mset_ne, mset_eq, mrow_ne, mrow_eq, upd_eq, upd_ne, J_lit, J_nI, J_add, J_sub, J_mul, J_neg, Int.cast_ofNat_Int, ix_Jn, ix_J, Int.reduceToNat, Int.toNat_natCast, Nat.reduceAdd, Nat.reduceMul]; exact d4 i hi⟩), ⟨0, by omega, by simp (disch := omega) only [mset_ne, mset_eq, mrow_ne, mrow_eq, upd_eq, upd_ne, J_lit, J_nI, J_add, J_sub, J_mul, J_neg, Int.cast_ofNat_Int, ix_Jn, ix_J, Int.reduceToNat, Int.toNat_natCast, Nat.reduceAdd, Nat.reduceMul] <;> rfl, by simp (disch := omega) only [mset_ne, mset_eq, mrow_ne, mrow_eq, upd_eq, upd_ne, J_lit, J_nI, J_add, J_sub, J_mul, J_neg, Int.cast_ofNat_Int, ix_Jn, ix_J, Int.reduceToNat, Int.toNat_natCast, Nat.reduceAdd, Nat.reduceMul] <;> rfl, fun i hi => by omega⟩, (by obtain ⟨nn, d1, d2, d3, d4⟩ := r3; exact ⟨nn, d1, by simp (disch := omega) only [mset_ne, mset_eq, mrow_ne, mrow_eq, upd_eq, upd_ne, J_lit, J_nI, J_add, J_sub, J_mul, J_neg, Int.cast_ofNat_Int, ix_Jn, ix_J, Int.reduceToNat, Int.toNat_natCast, Nat.reduceAdd, Nat.reduceMul]; exact d2, by simp (disch := omega) only [mset_ne, mset_eq, mrow_ne, mrow_eq, upd_eq, upd_ne, J_lit, J_nI, J_add, J_sub, J_mul, J_neg, Int.cast_ofNat_Int, ix_Jn, ix_J, Int.reduceToNat, Int.toNat_natCast, Nat.reduceAdd, Nat.reduceMul]; exact d3, fun i hi => by simp (disch := omega) only [mset_ne, mset_eq, mrow_ne, mrow_eq, upd_eq, upd_ne, J_lit, J_nI, J_add, J_sub, J_mul, J_neg, Int.cast_ofNat_Int, ix_Jn, ix_J, Int.reduceToNat, Int.toNat_natCast, Nat.reduceAdd, Nat.reduceMul]; exact d4 i hi⟩)⟩
    · by_cases h3 : n2 = 24
      · simp (disch := omega) only [if_true, if_false, if_pos, if_neg, nm_eq, bind_some, bnd2_some]
        exact ⟨_, _, _, rfl, rfl, hI⟩
      · simp (disch := omega) only [if_true, if_false, if_pos, if_neg, nm_eq, bind_some, bnd2_some, J_lit, J_nI, J_add, J_sub, J_mul, J_neg, Int.cast_ofNat_Int, mset_ne, mset_eq, mrow_ne, mrow_eq, upd_eq, upd_ne, ix_Jn, ix_J, Int.reduceToNat, Int.toNat_natCast, grd_J, c2, c3]
        refine ⟨_, _, _, rfl, rfl, ?_⟩
        refine IC_rw (fun j q1 q2 => by simp (disch := omega) only [mset_ne, mrow_ne]) (fun i q1 => by simp (disch := omega) only [mset_ne, mset_eq, mrow_ne, mrow_eq, upd_eq, upd_ne, J_lit, J_nI, J_add, J_sub, J_mul, J_neg, Int.cast_ofNat_Int, ix_Jn, ix_J, Int.reduceToNat, Int.toNat_natCast, Nat.reduceAdd, Nat.reduceMul]) (fun j q1 q2 q3 => by simp (disch := omega) only [mset_ne, mrow_ne]) (fun hr => ?_) hI
        refine ⟨(fun r hr => by obtain ⟨nn, d1, d2, d3, d4⟩ := r1 r hr; exact ⟨nn, d1, by simp (disch := omega) only [mset_ne, mset_eq, mrow_ne, mrow_eq, upd_eq, upd_ne, J_lit, J_nI, J_add, J_sub, J_mul, J_neg, Int.cast_ofNat_Int, ix_Jn, ix_J, Int.reduceToNat, Int.toNat_natCast, Nat.reduceAdd, Nat.reduceMul]; exact d2, by simp (disch := omega) only [mset_ne, mset_eq, mrow_ne, mrow_eq, upd_eq, upd_ne, J_lit, J_nI, J_add, J_sub, J_mul, J_neg, Int.cast_ofNat_Int, ix_Jn, ix_J, Int.reduceToNat, Int.toNat_natCast, Nat.reduceAdd, Nat.reduceMul]; exact d3, fun i hi => by simp (disch := omega) only [mset_ne, mset_eq, mrow_ne, mrow_eq, upd_eq, upd_ne, J_lit, J_nI, J_add, J_sub, J_mul, J_neg, Int.cast_ofNat_Int, ix_Jn, ix_J, Int.reduceToNat, Int.toNat_natCast, Nat.reduceAdd, Nat.reduceMul]; exact d4 i hi⟩), ⟨n2 + 1, by omega, by simp (disch := omega) only [mset_ne, mset_eq, mrow_ne, mrow_eq, upd_eq, upd_ne, J_lit, J_nI, J_add, J_sub, J_mul, J_neg, Int.cast_ofNat_Int, ix_Jn, ix_J, Int.reduceToNat, Int.toNat_natCast, Nat.reduceAdd, Nat.reduceMul]; exact congrArg J (by omega), by simp (disch := omega) only [mset_ne, mset_eq, mrow_ne, mrow_eq, upd_eq, upd_ne, J_lit, J_nI, J_add, J_sub, J_mul, J_neg, Int.cast_ofNat_Int, ix_Jn, ix_J, Int.reduceToNat, Int.toNat_natCast, Nat.reduceAdd, Nat.reduceMul]; exact congrArg J (by omega), fun i hi => ?_⟩, (by obtain ⟨nn, d1, d2, d3, d4⟩ := r3; exact ⟨nn, d1, by simp (disch := omega) only [mset_ne, mset_eq, mrow_ne, mrow_eq, upd_eq, upd_ne, J_lit, J_nI, J_add, J_sub, J_mul, J_neg, Int.cast_ofNat_Int, ix_Jn, ix_J, Int.reduceToNat, Int.toNat_natCast, Nat.reduceAdd, Nat.reduceMul]; exact d2, by simp (disch := omega) only [mset_ne, mset_eq, mrow_ne, mrow_eq, upd_eq, upd_ne, J_lit, J_nI, J_add, J_sub, J_mul, J_neg, Int.cast_ofNat_Int, ix_Jn, ix_J, Int.reduceToNat, Int.toNat_natCast, Nat.reduceAdd, Nat.reduceMul]; exact d3, fun i hi => by simp (disch := omega) only [mset_ne, mset_eq, mrow_ne, mrow_eq, upd_eq, upd_ne, J_lit, J_nI, J_add, J_sub, J_mul, J_neg, Int.cast_ofNat_Int, ix_Jn, ix_J, Int.reduceToNat, Int.toNat_natCast, Nat.reduceAdd, Nat.reduceMul]; exact d4 i hi⟩)⟩
        by_cases hi2 : i = n2
        · subst hi2
          have e : (2384 + (i : Int)).toNat = 2384 + i := by omega
          rw [e]
          simp (disch := omega) only [mset_ne, mset_eq, mrow_ne, mrow_eq, upd_eq, upd_ne, J_lit, J_nI, J_add, J_sub, J_mul, J_neg, Int.cast_ofNat_Int, ix_Jn, ix_J, Int.reduceToNat, Int.toNat_natCast, Nat.reduceAdd, Nat.reduceMul]
          exact ⟨trivial, ⟨z.toNat, by omega, by exact congrArg J (by omega)⟩⟩
        · simp (disch := omega) only [mset_ne, mset_eq, mrow_ne, mrow_eq, upd_eq, upd_ne, J_lit, J_nI, J_add, J_sub, J_mul, J_neg, Int.cast_ofNat_Int, ix_Jn, ix_J, Int.reduceToNat, Int.toNat_natCast, Nat.reduceAdd, Nat.reduceMul]
          exact c4 i (by omega)
  · by_cases h2 : z < -1
    · simp (disch := omega) only [if_true, if_false, if_pos, if_neg, nm_eq, bind_some, bnd2_some]
      exact ⟨_, _, _, rfl, rfl, hI⟩
    · simp (disch := omega) only [if_true, if_false, if_pos, if_neg, nm_eq, bind_some, bnd2_some]
      exact ⟨_, _, _, rfl, rfl, hI⟩
theorem c_gap (p q : Int32) : Cl2 (f_X10_gap p q) (f_X11_gap p q) := by
  intro M N hI
  obtain ⟨z, rfl, l1, l2⟩ := J_ex p
  obtain ⟨y, rfl, l3, l4⟩ := J_ex q
  have hI2 := hI
  obtain ⟨n, m, k, u, o, ks, a1, a2, a3, a4, ⟨r1, r2, ⟨n2, c1, c2, c3, c4⟩⟩, a6, a7, a8, a9, a10⟩ := hI2
  unfold f_X10_gap f_X11_gap j_X10_gap_27 f_X6_tellGap
  simp (disch := omega) only [J_lit, J_nI, J_add, J_sub, J_mul, J_neg, Int.cast_ofNat_Int, J_lt, J_le, J_eq, within0, isIn0, inRow0, isCell0, ix_Jn, ix_J, Int.reduceToNat, Int.toNat_natCast, c2, c3]
  by_cases h2 : z = -1
  · subst h2
    simp (disch := omega) only [if_true, if_false, if_pos, if_neg, nm_eq, bind_some, bnd2_some, J_lit, J_nI, J_add, J_sub, J_mul, J_neg, Int.cast_ofNat_Int, mset_ne, mset_eq, mrow_ne, mrow_eq, upd_eq, upd_ne, ix_Jn, ix_J, Int.reduceToNat, Int.toNat_natCast, grd_J]
    refine ⟨_, _, _, rfl, rfl, ?_⟩
    refine IC_rw (fun j q1 q2 => by simp (disch := omega) only [mset_ne, mrow_ne]) (fun i q1 => by simp (disch := omega) only [mset_ne, mset_eq, mrow_ne, mrow_eq, upd_eq, upd_ne, J_lit, J_nI, J_add, J_sub, J_mul, J_neg, Int.cast_ofNat_Int, ix_Jn, ix_J, Int.reduceToNat, Int.toNat_natCast, Nat.reduceAdd, Nat.reduceMul]) (fun j q1 q2 q3 => by simp (disch := omega) only [mset_ne, mrow_ne]) (fun hr => ?_) hI
    refine ⟨(fun r hr => by obtain ⟨nn, d1, d2, d3, d4⟩ := r1 r hr; exact ⟨nn, d1, by simp (disch := omega) only [mset_ne, mset_eq, mrow_ne, mrow_eq, upd_eq, upd_ne, J_lit, J_nI, J_add, J_sub, J_mul, J_neg, Int.cast_ofNat_Int, ix_Jn, ix_J, Int.reduceToNat, Int.toNat_natCast, Nat.reduceAdd, Nat.reduceMul]; exact d2, by simp (disch := omega) only [mset_ne, mset_eq, mrow_ne, mrow_eq, upd_eq, upd_ne, J_lit, J_nI, J_add, J_sub, J_mul, J_neg, Int.cast_ofNat_Int, ix_Jn, ix_J, Int.reduceToNat, Int.toNat_natCast, Nat.reduceAdd, Nat.reduceMul]; exact d3, fun i hi => by simp (disch := omega) only [mset_ne, mset_eq, mrow_ne, mrow_eq, upd_eq, upd_ne, J_lit, J_nI, J_add, J_sub, J_mul, J_neg, Int.cast_ofNat_Int, ix_Jn, ix_J, Int.reduceToNat, Int.toNat_natCast, Nat.reduceAdd, Nat.reduceMul]; exact d4 i hi⟩), (by obtain ⟨nn, d1, d2, d3, d4⟩ := r2; exact ⟨nn, d1, by simp (disch := omega) only [mset_ne, mset_eq, mrow_ne, mrow_eq, upd_eq, upd_ne, J_lit, J_nI, J_add, J_sub, J_mul, J_neg, Int.cast_ofNat_Int, ix_Jn, ix_J, Int.reduceToNat, Int.toNat_natCast, Nat.reduceAdd, Nat.reduceMul]; exact d2, by simp (disch := omega) only [mset_ne, mset_eq, mrow_ne, mrow_eq, upd_eq, upd_ne, J_lit, J_nI, J_add, J_sub, J_mul, J_neg, Int.cast_ofNat_Int, ix_Jn, ix_J, Int.reduceToNat, Int.toNat_natCast, Nat.reduceAdd, Nat.reduceMul]; exact d3, fun i hi => by simp (disch := omega) only [mset_ne, mset_eq, mrow_ne, mrow_eq, upd_eq, upd_ne, J_lit, J_nI, J_add, J_sub, J_mul, J_neg, Int.cast_ofNat_Int, ix_Jn, ix_J, Int.reduceToNat, Int.toNat_natCast, Nat.reduceAdd, Nat.reduceMul]; exact d4 i hi⟩), ⟨0, by omega, by simp (disch := omega) only [mset_ne, mset_eq, mrow_ne, mrow_eq, upd_eq, upd_ne, J_lit, J_nI, J_add, J_sub, J_mul, J_neg, Int.cast_ofNat_Int, ix_Jn, ix_J, Int.reduceToNat, Int.toNat_natCast, Nat.reduceAdd, Nat.reduceMul] <;> rfl, by simp (disch := omega) only [mset_ne, mset_eq, mrow_ne, mrow_eq, upd_eq, upd_ne, J_lit, J_nI, J_add, J_sub, J_mul, J_neg, Int.cast_ofNat_Int, ix_Jn, ix_J, Int.reduceToNat, Int.toNat_natCast, Nat.reduceAdd, Nat.reduceMul] <;> rfl, fun i hi => by omega⟩⟩
  · by_cases h1 : 0 ≤ z ∧ z ≤ 7
    · by_cases h4 : 0 ≤ y ∧ y ≤ 30
      · by_cases h3 : n2 = 8
        · simp (disch := omega) only [if_true, if_false, if_pos, if_neg, nm_eq, bind_some, bnd2_some]
          exact ⟨_, _, _, rfl, rfl, hI⟩
        · simp (disch := omega) only [if_true, if_false, if_pos, if_neg, nm_eq, bind_some, bnd2_some, J_lit, J_nI, J_add, J_sub, J_mul, J_neg, Int.cast_ofNat_Int, mset_ne, mset_eq, mrow_ne, mrow_eq, upd_eq, upd_ne, ix_Jn, ix_J, Int.reduceToNat, Int.toNat_natCast, grd_J, c2, c3]
          refine ⟨_, _, _, rfl, rfl, ?_⟩
          refine IC_rw (fun j q1 q2 => by simp (disch := omega) only [mset_ne, mrow_ne]) (fun i q1 => by simp (disch := omega) only [mset_ne, mset_eq, mrow_ne, mrow_eq, upd_eq, upd_ne, J_lit, J_nI, J_add, J_sub, J_mul, J_neg, Int.cast_ofNat_Int, ix_Jn, ix_J, Int.reduceToNat, Int.toNat_natCast, Nat.reduceAdd, Nat.reduceMul]) (fun j q1 q2 q3 => by simp (disch := omega) only [mset_ne, mrow_ne]) (fun hr => ?_) hI
          refine ⟨(fun r hr => by obtain ⟨nn, d1, d2, d3, d4⟩ := r1 r hr; exact ⟨nn, d1, by simp (disch := omega) only [mset_ne, mset_eq, mrow_ne, mrow_eq, upd_eq, upd_ne, J_lit, J_nI, J_add, J_sub, J_mul, J_neg, Int.cast_ofNat_Int, ix_Jn, ix_J, Int.reduceToNat, Int.toNat_natCast, Nat.reduceAdd, Nat.reduceMul]; exact d2, by simp (disch := omega) only [mset_ne, mset_eq, mrow_ne, mrow_eq, upd_eq, upd_ne, J_lit, J_nI, J_add, J_sub, J_mul, J_neg, Int.cast_ofNat_Int, ix_Jn, ix_J, Int.reduceToNat, Int.toNat_natCast, Nat.reduceAdd, Nat.reduceMul]; exact d3, fun i hi => by simp (disch := omega) only [mset_ne, mset_eq, mrow_ne, mrow_eq, upd_eq, upd_ne, J_lit, J_nI, J_add, J_sub, J_mul, J_neg, Int.cast_ofNat_Int, ix_Jn, ix_J, Int.reduceToNat, Int.toNat_natCast, Nat.reduceAdd, Nat.reduceMul]; exact d4 i hi⟩), (by obtain ⟨nn, d1, d2, d3, d4⟩ := r2; exact ⟨nn, d1, by simp (disch := omega) only [mset_ne, mset_eq, mrow_ne, mrow_eq, upd_eq, upd_ne, J_lit, J_nI, J_add, J_sub, J_mul, J_neg, Int.cast_ofNat_Int, ix_Jn, ix_J, Int.reduceToNat, Int.toNat_natCast, Nat.reduceAdd, Nat.reduceMul]; exact d2, by simp (disch := omega) only [mset_ne, mset_eq, mrow_ne, mrow_eq, upd_eq, upd_ne, J_lit, J_nI, J_add, J_sub, J_mul, J_neg, Int.cast_ofNat_Int, ix_Jn, ix_J, Int.reduceToNat, Int.toNat_natCast, Nat.reduceAdd, Nat.reduceMul]; exact d3, fun i hi => by simp (disch := omega) only [mset_ne, mset_eq, mrow_ne, mrow_eq, upd_eq, upd_ne, J_lit, J_nI, J_add, J_sub, J_mul, J_neg, Int.cast_ofNat_Int, ix_Jn, ix_J, Int.reduceToNat, Int.toNat_natCast, Nat.reduceAdd, Nat.reduceMul]; exact d4 i hi⟩), ⟨n2 + 1, by omega, by simp (disch := omega) only [mset_ne, mset_eq, mrow_ne, mrow_eq, upd_eq, upd_ne, J_lit, J_nI, J_add, J_sub, J_mul, J_neg, Int.cast_ofNat_Int, ix_Jn, ix_J, Int.reduceToNat, Int.toNat_natCast, Nat.reduceAdd, Nat.reduceMul]; exact congrArg J (by omega), by simp (disch := omega) only [mset_ne, mset_eq, mrow_ne, mrow_eq, upd_eq, upd_ne, J_lit, J_nI, J_add, J_sub, J_mul, J_neg, Int.cast_ofNat_Int, ix_Jn, ix_J, Int.reduceToNat, Int.toNat_natCast, Nat.reduceAdd, Nat.reduceMul]; exact congrArg J (by omega), fun i hi => ?_⟩⟩
          have e : (2409 + 2 * (n2 : Int)).toNat = 2409 + 2 * n2 := by omega
          have e' : (2410 + 2 * (n2 : Int)).toNat = 2410 + 2 * n2 := by omega
          rw [e, e']
          by_cases hi2 : i = n2
          · subst hi2
            simp (disch := omega) only [mset_ne, mset_eq, mrow_ne, mrow_eq, upd_eq, upd_ne, J_lit, J_nI, J_add, J_sub, J_mul, J_neg, Int.cast_ofNat_Int, ix_Jn, ix_J, Int.reduceToNat, Int.toNat_natCast, Nat.reduceAdd, Nat.reduceMul]
            exact ⟨trivial, ⟨z.toNat, by omega, by exact congrArg J (by omega)⟩, trivial, ⟨y.toNat, by omega, by exact congrArg J (by omega)⟩⟩
          · simp (disch := omega) only [mset_ne, mset_eq, mrow_ne, mrow_eq, upd_eq, upd_ne, J_lit, J_nI, J_add, J_sub, J_mul, J_neg, Int.cast_ofNat_Int, ix_Jn, ix_J, Int.reduceToNat, Int.toNat_natCast, Nat.reduceAdd, Nat.reduceMul]
            exact c4 i (by omega)
      · by_cases h5 : y < 0
        · simp (disch := omega) only [if_true, if_false, if_pos, if_neg, nm_eq, bind_some, bnd2_some]
          exact ⟨_, _, _, rfl, rfl, hI⟩
        · simp (disch := omega) only [if_true, if_false, if_pos, if_neg, nm_eq, bind_some, bnd2_some]
          exact ⟨_, _, _, rfl, rfl, hI⟩
    · by_cases h5 : z < 0
      · simp (disch := omega) only [if_true, if_false, if_pos, if_neg, nm_eq, bind_some, bnd2_some]
        exact ⟨_, _, _, rfl, rfl, hI⟩
      · simp (disch := omega) only [if_true, if_false, if_pos, if_neg, nm_eq, bind_some, bnd2_some]
        exact ⟨_, _, _, rfl, rfl, hI⟩
theorem c_known (p q : Int32) : Cl2 (f_X10_known p q) (f_X11_known p q) := by
  intro M N hI
  obtain ⟨z, rfl, l1, l2⟩ := J_ex p
  obtain ⟨y, rfl, l3, l4⟩ := J_ex q
  have hI2 := hI
  obtain ⟨n, m, k, u, o, ks, a1, a2, a3, a4, ⟨r1, r2, r3⟩, a6, a7, a8, a9, a10⟩ := hI2
  unfold f_X10_known f_X11_known f_X6_tellTurn
  by_cases h1 : 0 ≤ z ∧ z ≤ 1
  · obtain ⟨w, rfl⟩ : ∃ w : Nat, z = w := ⟨z.toNat, by omega⟩
    obtain ⟨n2, c1, c2, c3, c4⟩ := r1 w (by omega)
    have e : (2357 + 13 * (w : Int)).toNat = 2357 + 13 * w := by omega
    by_cases h4 : -1 ≤ y ∧ y ≤ 2
    · by_cases h5 : y = -1
      · subst h5
        simp (disch := omega) only [J_lit, J_nI, J_add, J_sub, J_mul, J_neg, Int.cast_ofNat_Int, J_lt, J_le, J_eq, within0, isIn0, inRow0, isCell0, ix_Jn, ix_J, Int.reduceToNat, Int.toNat_natCast, if_true, if_false, if_pos, if_neg, nm_eq, bind_some, bnd2_some, grd_J, e]
        refine ⟨_, _, _, rfl, rfl, ?_⟩
        refine IC_rw (fun j q1 q2 => by simp (disch := omega) only [mset_ne, mrow_ne]) (fun i q1 => by simp (disch := omega) only [mset_ne, mset_eq, mrow_ne, mrow_eq, upd_eq, upd_ne, J_lit, J_nI, J_add, J_sub, J_mul, J_neg, Int.cast_ofNat_Int, ix_Jn, ix_J, Int.reduceToNat, Int.toNat_natCast, Nat.reduceAdd, Nat.reduceMul]) (fun j q1 q2 q3 => by simp (disch := omega) only [mset_ne, mrow_ne]) (fun hr => ?_) hI
        refine ⟨fun r hr => ?_, (by obtain ⟨nn, d1, d2, d3, d4⟩ := r2; exact ⟨nn, d1, by simp (disch := omega) only [mset_ne, mset_eq, mrow_ne, mrow_eq, upd_eq, upd_ne, J_lit, J_nI, J_add, J_sub, J_mul, J_neg, Int.cast_ofNat_Int, ix_Jn, ix_J, Int.reduceToNat, Int.toNat_natCast, Nat.reduceAdd, Nat.reduceMul]; exact d2, by simp (disch := omega) only [mset_ne, mset_eq, mrow_ne, mrow_eq, upd_eq, upd_ne, J_lit, J_nI, J_add, J_sub, J_mul, J_neg, Int.cast_ofNat_Int, ix_Jn, ix_J, Int.reduceToNat, Int.toNat_natCast, Nat.reduceAdd, Nat.reduceMul]; exact d3, fun i hi => by simp (disch := omega) only [mset_ne, mset_eq, mrow_ne, mrow_eq, upd_eq, upd_ne, J_lit, J_nI, J_add, J_sub, J_mul, J_neg, Int.cast_ofNat_Int, ix_Jn, ix_J, Int.reduceToNat, Int.toNat_natCast, Nat.reduceAdd, Nat.reduceMul]; exact d4 i hi⟩), (by obtain ⟨nn, d1, d2, d3, d4⟩ := r3; exact ⟨nn, d1, by simp (disch := omega) only [mset_ne, mset_eq, mrow_ne, mrow_eq, upd_eq, upd_ne, J_lit, J_nI, J_add, J_sub, J_mul, J_neg, Int.cast_ofNat_Int, ix_Jn, ix_J, Int.reduceToNat, Int.toNat_natCast, Nat.reduceAdd, Nat.reduceMul]; exact d2, by simp (disch := omega) only [mset_ne, mset_eq, mrow_ne, mrow_eq, upd_eq, upd_ne, J_lit, J_nI, J_add, J_sub, J_mul, J_neg, Int.cast_ofNat_Int, ix_Jn, ix_J, Int.reduceToNat, Int.toNat_natCast, Nat.reduceAdd, Nat.reduceMul]; exact d3, fun i hi => by simp (disch := omega) only [mset_ne, mset_eq, mrow_ne, mrow_eq, upd_eq, upd_ne, J_lit, J_nI, J_add, J_sub, J_mul, J_neg, Int.cast_ofNat_Int, ix_Jn, ix_J, Int.reduceToNat, Int.toNat_natCast, Nat.reduceAdd, Nat.reduceMul]; exact d4 i hi⟩)⟩
        by_cases hrw : r = w
        · subst hrw
          exact ⟨0, by omega, by simp (disch := omega) only [mset_ne, mset_eq, mrow_ne, mrow_eq, upd_eq, upd_ne, J_lit, J_nI, J_add, J_sub, J_mul, J_neg, Int.cast_ofNat_Int, ix_Jn, ix_J, Int.reduceToNat, Int.toNat_natCast, Nat.reduceAdd, Nat.reduceMul] <;> rfl, by simp (disch := omega) only [mset_ne, mset_eq, mrow_ne, mrow_eq, upd_eq, upd_ne, J_lit, J_nI, J_add, J_sub, J_mul, J_neg, Int.cast_ofNat_Int, ix_Jn, ix_J, Int.reduceToNat, Int.toNat_natCast, Nat.reduceAdd, Nat.reduceMul] <;> rfl, fun i hi => by omega⟩
        · obtain ⟨nn, d1, d2, d3, d4⟩ := r1 r hr
          exact ⟨nn, d1, by simp (disch := omega) only [mset_ne, mset_eq, mrow_ne, mrow_eq, upd_eq, upd_ne, J_lit, J_nI, J_add, J_sub, J_mul, J_neg, Int.cast_ofNat_Int, ix_Jn, ix_J, Int.reduceToNat, Int.toNat_natCast, Nat.reduceAdd, Nat.reduceMul]; exact d2, by simp (disch := omega) only [mset_ne, mset_eq, mrow_ne, mrow_eq, upd_eq, upd_ne, J_lit, J_nI, J_add, J_sub, J_mul, J_neg, Int.cast_ofNat_Int, ix_Jn, ix_J, Int.reduceToNat, Int.toNat_natCast, Nat.reduceAdd, Nat.reduceMul]; exact d3, fun i hi => by simp (disch := omega) only [mset_ne, mset_eq, mrow_ne, mrow_eq, upd_eq, upd_ne, J_lit, J_nI, J_add, J_sub, J_mul, J_neg, Int.cast_ofNat_Int, ix_Jn, ix_J, Int.reduceToNat, Int.toNat_natCast, Nat.reduceAdd, Nat.reduceMul]; exact d4 i hi⟩
      · have c2' : M 72 w = J n2 := c2
        by_cases h3 : n2 = 12
        · simp (disch := omega) only [J_lit, J_nI, J_add, J_sub, J_mul, J_neg, Int.cast_ofNat_Int, J_lt, J_le, J_eq, within0, isIn0, inRow0, isCell0, ix_Jn, ix_J, Int.reduceToNat, Int.toNat_natCast, if_true, if_false, if_pos, if_neg, nm_eq, bind_some, bnd2_some, grd_J, e, c2', c3, Nat.reduceAdd]
          exact ⟨_, _, _, rfl, rfl, hI⟩
        · have e' : (2357 + 13 * (w : Int) + ((n2 : Int) + 1)).toNat = 2358 + 13 * w + n2 := by omega
          have e'' : (12 * (w : Int) + (n2 : Int)).toNat = 12 * w + n2 := by omega
          simp (disch := omega) only [J_lit, J_nI, J_add, J_sub, J_mul, J_neg, Int.cast_ofNat_Int, J_lt, J_le, J_eq, within0, isIn0, inRow0, isCell0, ix_Jn, ix_J, Int.reduceToNat, Int.toNat_natCast, if_true, if_false, if_pos, if_neg, nm_eq, bind_some, bnd2_some, grd_J, e, e', e'', c2', c3, Nat.reduceAdd, mset_ne, mset_eq, mrow_ne, mrow_eq, upd_eq, upd_ne]
          refine ⟨_, _, _, rfl, rfl, ?_⟩
          refine IC_rw (fun j q1 q2 => by simp (disch := omega) only [mset_ne, mrow_ne]) (fun i q1 => by simp (disch := omega) only [mset_ne, mset_eq, mrow_ne, mrow_eq, upd_eq, upd_ne, J_lit, J_nI, J_add, J_sub, J_mul, J_neg, Int.cast_ofNat_Int, ix_Jn, ix_J, Int.reduceToNat, Int.toNat_natCast, Nat.reduceAdd, Nat.reduceMul]) (fun j q1 q2 q3 => by simp (disch := omega) only [mset_ne, mrow_ne]) (fun hr => ?_) hI
          refine ⟨fun r hr => ?_, (by obtain ⟨nn, d1, d2, d3, d4⟩ := r2; exact ⟨nn, d1, by simp (disch := omega) only [mset_ne, mset_eq, mrow_ne, mrow_eq, upd_eq, upd_ne, J_lit, J_nI, J_add, J_sub, J_mul, J_neg, Int.cast_ofNat_Int, ix_Jn, ix_J, Int.reduceToNat, Int.toNat_natCast, Nat.reduceAdd, Nat.reduceMul]; exact d2, by simp (disch := omega) only [mset_ne, mset_eq, mrow_ne, mrow_eq, upd_eq, upd_ne, J_lit, J_nI, J_add, J_sub, J_mul, J_neg, Int.cast_ofNat_Int, ix_Jn, ix_J, Int.reduceToNat, Int.toNat_natCast, Nat.reduceAdd, Nat.reduceMul]; exact d3, fun i hi => by simp (disch := omega) only [mset_ne, mset_eq, mrow_ne, mrow_eq, upd_eq, upd_ne, J_lit, J_nI, J_add, J_sub, J_mul, J_neg, Int.cast_ofNat_Int, ix_Jn, ix_J, Int.reduceToNat, Int.toNat_natCast, Nat.reduceAdd, Nat.reduceMul]; exact d4 i hi⟩), (by obtain ⟨nn, d1, d2, d3, d4⟩ := r3; exact ⟨nn, d1, by simp (disch := omega) only [mset_ne, mset_eq, mrow_ne, mrow_eq, upd_eq, upd_ne, J_lit, J_nI, J_add, J_sub, J_mul, J_neg, Int.cast_ofNat_Int, ix_Jn, ix_J, Int.reduceToNat, Int.toNat_natCast, Nat.reduceAdd, Nat.reduceMul]; exact d2, by simp (disch := omega) only [mset_ne, mset_eq, mrow_ne, mrow_eq, upd_eq, upd_ne, J_lit, J_nI, J_add, J_sub, J_mul, J_neg, Int.cast_ofNat_Int, ix_Jn, ix_J, Int.reduceToNat, Int.toNat_natCast, Nat.reduceAdd, Nat.reduceMul]; exact d3, fun i hi => by simp (disch := omega) only [mset_ne, mset_eq, mrow_ne, mrow_eq, upd_eq, upd_ne, J_lit, J_nI, J_add, J_sub, J_mul, J_neg, Int.cast_ofNat_Int, ix_Jn, ix_J, Int.reduceToNat, Int.toNat_natCast, Nat.reduceAdd, Nat.reduceMul]; exact d4 i hi⟩)⟩
          by_cases hrw : r = w
          · subst hrw
            refine ⟨n2 + 1, by omega, by simp (disch := omega) only [mset_ne, mset_eq, mrow_ne, mrow_eq, upd_eq, upd_ne, J_lit, J_nI, J_add, J_sub, J_mul, J_neg, Int.cast_ofNat_Int, ix_Jn, ix_J, Int.reduceToNat, Int.toNat_natCast, Nat.reduceAdd, Nat.reduceMul]; exact congrArg J (by omega), by simp (disch := omega) only [mset_ne, mset_eq, mrow_ne, mrow_eq, upd_eq, upd_ne, J_lit, J_nI, J_add, J_sub, J_mul, J_neg, Int.cast_ofNat_Int, ix_Jn, ix_J, Int.reduceToNat, Int.toNat_natCast, Nat.reduceAdd, Nat.reduceMul]; exact congrArg J (by omega), fun i hi => ?_⟩
            by_cases hi2 : i = n2
            · subst hi2
              simp (disch := omega) only [mset_ne, mset_eq, mrow_ne, mrow_eq, upd_eq, upd_ne, J_lit, J_nI, J_add, J_sub, J_mul, J_neg, Int.cast_ofNat_Int, ix_Jn, ix_J, Int.reduceToNat, Int.toNat_natCast, Nat.reduceAdd, Nat.reduceMul]
              exact ⟨trivial, ⟨y.toNat, by omega, by exact congrArg J (by omega)⟩⟩
            · simp (disch := omega) only [mset_ne, mset_eq, mrow_ne, mrow_eq, upd_eq, upd_ne, J_lit, J_nI, J_add, J_sub, J_mul, J_neg, Int.cast_ofNat_Int, ix_Jn, ix_J, Int.reduceToNat, Int.toNat_natCast, Nat.reduceAdd, Nat.reduceMul]
              exact c4 i (by omega)
          · obtain ⟨nn, d1, d2, d3, d4⟩ := r1 r hr
            exact ⟨nn, d1, by simp (disch := omega) only [mset_ne, mset_eq, mrow_ne, mrow_eq, upd_eq, upd_ne, J_lit, J_nI, J_add, J_sub, J_mul, J_neg, Int.cast_ofNat_Int, ix_Jn, ix_J, Int.reduceToNat, Int.toNat_natCast, Nat.reduceAdd, Nat.reduceMul]; exact d2, by simp (disch := omega) only [mset_ne, mset_eq, mrow_ne, mrow_eq, upd_eq, upd_ne, J_lit, J_nI, J_add, J_sub, J_mul, J_neg, Int.cast_ofNat_Int, ix_Jn, ix_J, Int.reduceToNat, Int.toNat_natCast, Nat.reduceAdd, Nat.reduceMul]; exact d3, fun i hi => by simp (disch := omega) only [mset_ne, mset_eq, mrow_ne, mrow_eq, upd_eq, upd_ne, J_lit, J_nI, J_add, J_sub, J_mul, J_neg, Int.cast_ofNat_Int, ix_Jn, ix_J, Int.reduceToNat, Int.toNat_natCast, Nat.reduceAdd, Nat.reduceMul]; exact d4 i hi⟩
    · by_cases h5 : y < -1
      · simp (disch := omega) only [J_lit, J_nI, J_add, J_sub, J_mul, J_neg, Int.cast_ofNat_Int, J_lt, J_le, J_eq, within0, isIn0, inRow0, isCell0, if_true, if_false, if_pos, if_neg, nm_eq, bind_some, bnd2_some]
        exact ⟨_, _, _, rfl, rfl, hI⟩
      · simp (disch := omega) only [J_lit, J_nI, J_add, J_sub, J_mul, J_neg, Int.cast_ofNat_Int, J_lt, J_le, J_eq, within0, isIn0, inRow0, isCell0, if_true, if_false, if_pos, if_neg, nm_eq, bind_some, bnd2_some]
        exact ⟨_, _, _, rfl, rfl, hI⟩
  · by_cases h5 : z < 0
    · simp (disch := omega) only [J_lit, J_nI, J_add, J_sub, J_mul, J_neg, Int.cast_ofNat_Int, J_lt, J_le, J_eq, within0, isIn0, inRow0, isCell0, if_true, if_false, if_pos, if_neg, nm_eq, bind_some, bnd2_some]
      exact ⟨_, _, _, rfl, rfl, hI⟩
    · simp (disch := omega) only [J_lit, J_nI, J_add, J_sub, J_mul, J_neg, Int.cast_ofNat_Int, J_lt, J_le, J_eq, within0, isIn0, inRow0, isCell0, if_true, if_false, if_pos, if_neg, nm_eq, bind_some, bnd2_some]
      exact ⟨_, _, _, rfl, rfl, hI⟩
