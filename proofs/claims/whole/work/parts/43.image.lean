/-! ===== the image ===== -/
theorem cpy_in {f g : Nat → Int32} {n i : Nat} (h : i < n) : va_cpy f g 0 0 n i = f i := by
  rw [pk_cpy_in (by omega) (by omega), Nat.zero_add, Nat.sub_zero]
theorem c_image (p : Int32) : Cl2 (f_X10_image p) (f_X11_image p) := by
  intro M N hI
  have hI2 := hI
  obtain ⟨n, m, k, u, o, ks, a1, a2, a3, a4, a5, a6, a7, a8, a9, a10⟩ := hI2
  unfold f_X10_image f_X11_image f_X0_copyFrom f_X10_forget
  by_cases hp : p = 0
  · simp only [hp, if_true]
    obtain ⟨i1, i2⟩ := a8
    rcases i2 with i2 | ⟨i2, n', m', k', j1, j2, j3, j4, j5⟩
    · rw [← i1, if_pos i2, if_pos i2, i2, grd_t (by decide)]
      exact ⟨_, _, _, rfl, rfl, hI⟩
    · rw [← i1, if_neg (by rw [i2]; decide), if_neg (by rw [i2]; decide)]
      obtain ⟨A, q1, q2, q3⟩ := p_sqcp (a := 1) (b := 100) (by omega) j2
      obtain ⟨B, q4, q5, q6⟩ := p_txcp (a := 40) (b := 119) (by omega) A
      obtain ⟨C, q7, q8, q9⟩ := p_rwcp (a := 70) (b := 135) (by omega) (mrow B 69 (va_cpy (B 134) (B 69) 0 0 600))
      have ec := t_copies (a := 260) (b := 258) (n := 2425) N (by decide) (by rw [LN260]; decide) (by rw [LN258]; decide) (by decide)
      simp (disch := omega) only [J_lit, J_nI, J_add, J_sub, J_mul, J_neg, Int.cast_ofNat_Int, ix_Jn, ix_J, Int.reduceToNat, Int.toNat_natCast, nm_eq, bind_some, bnd2_some, q1, q4, Nat.reduceAdd]
      rw [q7, show J 2425 = J (2425 : Nat) from rfl, ec]
      simp (disch := omega) only [nm_eq, bind_some, bnd2_some, mset_ne, mset_eq, mrow_ne, mrow_eq, upd_eq, upd_ne]
      have i3 : N 257 5 = 1 := by rw [← i1]; exact i2
      rw [grd_t (by rw [i3]; decide), i3]
      have e2425 : ∀ i, i < 2425 → va_cpy (N 260) (N 258) 0 0 2425 i = N 260 i := fun i hi => cpy_in hi
      refine ⟨_, _, _, rfl, rfl, ⟨n', m', k', 0, o, ks, j1, ?_, ?_, ?_, ?_, ?_, ?_, ?_, ?_, ?_⟩⟩
      · simp (disch := omega) only [mset_ne, mset_eq, mrow_ne, mrow_eq, upd_eq, upd_ne]
        refine Sq_ro (fun j h _ => e2425 j (by omega)) (Sq_fr (fun j h1 h2 => ?_) (q2 _ _ _ _ j2))
        rw [mset_ne (by omega), q9 j (by omega), mrow_ne (by omega), q6 j (by omega)]
      · simp (disch := omega) only [mset_ne, mset_eq, mrow_ne, mrow_eq, upd_eq, upd_ne]
        refine Tx_ro (fun j h1 h2 => e2425 j (by omega)) (Tx_fr (fun j h1 h2 _ => ?_) (q5 _ (Tx_fr (fun j h1 h2 _ => q3 j (by omega)) j3)))
        rw [mset_ne (by omega), q9 j (by omega), mrow_ne (by omega)]
      · simp (disch := omega) only [mset_ne, mset_eq, mrow_ne, mrow_eq, upd_eq, upd_ne]
        intro i hi
        have hk := j2.1.2.2
        rw [q9 69 (by omega), mrow_eq, cpy_in (by omega), q6 134 (by omega), q3 134 (by omega), e2425 _ (by omega)]
        exact j4 i hi
      · simp (disch := omega) only [mset_ne, mset_eq, mrow_ne, mrow_eq, upd_eq, upd_ne]
        refine Rw_ro (fun j h1 h2 => e2425 j (by omega)) (Rw_fr (fun j h1 h2 => by simp (disch := omega) only [mset_ne, mrow_ne]) (by simp (disch := omega) only [mset_ne, mrow_ne]) (by simp (disch := omega) only [mset_ne, mrow_ne]) (q8 _ (Rw_fr (fun j h1 h2 => ?_) ?_ ?_ j5)))
        · rw [mrow_ne (by omega), q6 j (by omega), q3 j (by omega)]
        · rw [mrow_ne (by omega), q6 135 (by omega), q3 135 (by omega)]
        · rw [mrow_ne (by omega), q6 135 (by omega), q3 135 (by omega)]
      · have hf : ∀ j, 78 ≤ j → j < 100 → mset C 0 4 (J 0) j = M j := fun j h1 h2 => by rw [mset_ne (by omega), q9 j (by omega), mrow_ne (by omega), q6 j (by omega), q3 j (by omega)]
        exact Tp_fr (fun i _ => by rw [hf 78 (by omega) (by omega)]) (fun i _ => by rw [hf 79 (by omega) (by omega)]) (by simp (disch := omega) only [mset_ne, mset_eq, mrow_ne, mrow_eq, upd_eq, upd_ne]) (fun i _ => by simp (disch := omega) only [mset_ne, mset_eq, mrow_ne, mrow_eq, upd_eq, upd_ne]) (by simp (disch := omega) only [mset_ne, mset_eq, mrow_ne, mrow_eq, upd_eq, upd_ne]) (by simp (disch := omega) only [mset_ne, mset_eq, mrow_ne, mrow_eq, upd_eq, upd_ne]) a6
      · refine Un_0 a7.2.1 ?_ (by simp (disch := omega) only [mset_ne, mset_eq, mrow_ne, mrow_eq, upd_eq, upd_ne]) (by simp (disch := omega) only [mset_ne, mset_eq, mrow_ne, mrow_eq, upd_eq, upd_ne])
        simp (disch := omega) only [mset_ne, mset_eq, mrow_ne, mrow_eq, upd_eq, upd_ne]
        rw [q9 0 (by omega), mrow_ne (by omega), q6 0 (by omega), q3 0 (by omega)]
        exact a7.2.2.1
      · refine Im_fr ?_ (fun j h1 h2 => ?_) (by simp (disch := omega) only [mset_ne, mset_eq, mrow_ne, mrow_eq, upd_eq, upd_ne]) (fun i _ => by simp (disch := omega) only [mset_ne, mset_eq, mrow_ne, mrow_eq, upd_eq, upd_ne]) ⟨i1, Or.inr ⟨i2, n', m', k', j1, j2, j3, j4, j5⟩⟩
        · simp (disch := omega) only [mset_ne, mset_eq, mrow_ne, mrow_eq, upd_eq, upd_ne]
          rw [q9 0 (by omega), mrow_ne (by omega), q6 0 (by omega), q3 0 (by omega)]
        · rw [mset_ne (by omega), q9 j (by omega), mrow_ne (by omega), q6 j (by omega), q3 j (by omega)]
      · have hf : ∀ j, 78 ≤ j → j < 100 → mset C 0 4 (J 0) j = M j := fun j h1 h2 => by rw [mset_ne (by omega), q9 j (by omega), mrow_ne (by omega), q6 j (by omega), q3 j (by omega)]
        exact Vl_fr (by rw [hf 95 (by omega) (by omega)]) (hf 99 (by omega) (by omega)) a9
      · have hf : ∀ j, 78 ≤ j → j < 100 → mset C 0 4 (J 0) j = M j := fun j h1 h2 => by rw [mset_ne (by omega), q9 j (by omega), mrow_ne (by omega), q6 j (by omega), q3 j (by omega)]
        rw [hf 83 (by omega) (by omega)]
        exact a10
  · rw [if_neg hp, if_neg hp]
    have hS : Sq (mset M 0 13 (J 1)) 1 (N 258) n m k := Sq_fr (fun j h1 h2 => by simp (disch := omega) only [mset_ne, mrow_ne]) a2
    obtain ⟨A, q1, q2, q3⟩ := p_sqcp (a := 100) (b := 1) (by omega) hS
    obtain ⟨B, q4, q5, q6⟩ := p_txcp (a := 119) (b := 40) (by omega) A
    obtain ⟨C, q7, q8, q9⟩ := p_rwcp (a := 135) (b := 70) (by omega) (mrow B 134 (va_cpy (B 69) (B 134) 0 0 600))
    have ec := t_copies (a := 258) (b := 260) (n := 2425) N (by decide) (by rw [LN258]; decide) (by rw [LN260]; decide) (by decide)
    simp (disch := omega) only [J_lit, J_nI, J_add, J_sub, J_mul, J_neg, Int.cast_ofNat_Int, ix_Jn, ix_J, Int.reduceToNat, Int.toNat_natCast, nm_eq, bind_some, bnd2_some, q1, q4, Nat.reduceAdd]
    rw [q7, show J 2425 = J (2425 : Nat) from rfl, ec]
    simp (disch := omega) only [nm_eq, bind_some, bnd2_some, mset_ne, mset_eq, mrow_ne, mrow_eq, upd_eq, upd_ne]
    rw [grd_t (by decide)]
    have e2425 : ∀ i, i < 2425 → va_cpy (N 258) (N 260) 0 0 2425 i = N 258 i := fun i hi => cpy_in hi
    have hf : ∀ j, 1 ≤ j → (j < 100 ∨ 143 ≤ j) → C j = M j := fun j h1 h2 => by rw [q9 j (by omega), mrow_ne (by omega), q6 j (by omega), q3 j (by omega), mset_ne (by omega)]
    have hf0 : C 0 = upd (M 0) 13 (J 1) := by rw [q9 0 (by omega), mrow_ne (by omega), q6 0 (by omega), q3 0 (by omega), mset_eq]
    have hk := a2.1.2.2
    refine ⟨_, _, _, rfl, rfl, ⟨n, m, k, u, o, ks, a1, ?_, ?_, ?_, ?_, ?_, ?_, ?_, ?_, ?_⟩⟩
    · simp (disch := omega) only [mset_ne, mset_eq, mrow_ne, mrow_eq, upd_eq, upd_ne]
      exact Sq_fr (fun j h1 h2 => hf j (by omega) (by omega)) a2
    · simp (disch := omega) only [mset_ne, mset_eq, mrow_ne, mrow_eq, upd_eq, upd_ne]
      exact Tx_fr (fun j h1 h2 _ => hf j (by omega) (by omega)) a3
    · simp (disch := omega) only [mset_ne, mset_eq, mrow_ne, mrow_eq, upd_eq, upd_ne]
      rw [hf 69 (by omega) (by omega)]
      exact a4
    · simp (disch := omega) only [mset_ne, mset_eq, mrow_ne, mrow_eq, upd_eq, upd_ne]
      exact Rw_fr (fun j h1 h2 => hf j (by omega) (by omega)) (by rw [hf 70 (by omega) (by omega)]) (by rw [hf 70 (by omega) (by omega)]) a5
    · exact Tp_fr (fun i _ => by rw [hf 78 (by omega) (by omega)]) (fun i _ => by rw [hf 79 (by omega) (by omega)]) (by simp (disch := omega) only [mset_ne, mset_eq, mrow_ne, mrow_eq, upd_eq, upd_ne]) (fun i _ => by simp (disch := omega) only [mset_ne, mset_eq, mrow_ne, mrow_eq, upd_eq, upd_ne]) (by simp (disch := omega) only [mset_ne, mset_eq, mrow_ne, mrow_eq, upd_eq, upd_ne]) (by simp (disch := omega) only [mset_ne, mset_eq, mrow_ne, mrow_eq, upd_eq, upd_ne]) a6
    · exact Un_fr (by rw [hf0]; simp (disch := omega) only [mset_ne, mset_eq, mrow_ne, mrow_eq, upd_eq, upd_ne]) (by rw [hf0]; simp (disch := omega) only [mset_ne, mset_eq, mrow_ne, mrow_eq, upd_eq, upd_ne]) (by simp (disch := omega) only [mset_ne, mset_eq, mrow_ne, mrow_eq, upd_eq, upd_ne]) (fun j h1 h2 => hf j (by omega) (by omega)) (fun i _ => by rw [hf 69 (by omega) (by omega)]) (fun i _ _ => by simp (disch := omega) only [mset_ne, mset_eq, mrow_ne, mrow_eq, upd_eq, upd_ne]) (by simp (disch := omega) only [mset_ne, mset_eq, mrow_ne, mrow_eq, upd_eq, upd_ne]) (Nat.le_refl _) hk a7
    · refine ⟨?_, Or.inr ⟨?_, n, m, k, a1, ?_, ?_, ?_, ?_⟩⟩
      · rw [hf0]
        simp (disch := omega) only [mset_ne, mset_eq, mrow_ne, mrow_eq, upd_eq, upd_ne]
      · rw [hf0]
        simp (disch := omega) only [mset_ne, mset_eq, mrow_ne, mrow_eq, upd_eq, upd_ne]
        rfl
      · simp (disch := omega) only [mset_ne, mset_eq, mrow_ne, mrow_eq, upd_eq, upd_ne]
        refine Sq_ro (fun j h _ => e2425 j (by omega)) (Sq_fr (fun j h1 h2 => ?_) (q2 _ _ _ _ hS))
        rw [q9 j (by omega), mrow_ne (by omega), q6 j (by omega)]
      · simp (disch := omega) only [mset_ne, mset_eq, mrow_ne, mrow_eq, upd_eq, upd_ne]
        refine Tx_ro (fun j h1 h2 => e2425 j (by omega)) (Tx_fr (fun j h1 h2 _ => ?_) (q5 _ (Tx_fr (fun j h1 h2 _ => ?_) a3)))
        · rw [q9 j (by omega), mrow_ne (by omega)]
        · rw [q3 j (by omega), mset_ne (by omega)]
      · simp (disch := omega) only [mset_ne, mset_eq, mrow_ne, mrow_eq, upd_eq, upd_ne]
        intro i hi
        rw [q9 134 (by omega), mrow_eq, cpy_in (by omega), q6 69 (by omega), q3 69 (by omega), mset_ne (by omega), e2425 _ (by omega)]
        exact a4 i hi
      · simp (disch := omega) only [mset_ne, mset_eq, mrow_ne, mrow_eq, upd_eq, upd_ne]
        refine Rw_ro (fun j h1 h2 => e2425 j (by omega)) (q8 _ (Rw_fr (fun j h1 h2 => ?_) ?_ ?_ a5))
        · rw [mrow_ne (by omega), q6 j (by omega), q3 j (by omega), mset_ne (by omega)]
        · rw [mrow_ne (by omega), q6 70 (by omega), q3 70 (by omega), mset_ne (by omega)]
        · rw [mrow_ne (by omega), q6 70 (by omega), q3 70 (by omega), mset_ne (by omega)]
    · exact Vl_fr (by rw [hf 95 (by omega) (by omega)]) (hf 99 (by omega) (by omega)) a9
    · rw [hf 83 (by omega) (by omega)]
      exact a10
