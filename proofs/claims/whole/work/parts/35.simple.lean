/-! ===== calls that change scratch alone ===== -/
def scC (j : Nat) : Prop := (20 ≤ j ∧ j < 39) ∨ j = 46 ∨ (54 ≤ j ∧ j < 68) ∨ j = 70 ∨ j = 76 ∨ j = 77 ∨ j = 78 ∨ (80 ≤ j ∧ j < 99)
theorem IC_scr {M M' N N' : zM} (h1 : ∀ j, j < 257 → ¬ scC j → M' j = M j) (h70 : ∀ i, i < 9 → M' 70 i = M 70 i) (h78 : ∀ i, i < 3 → M' 78 i = M 78 i) (h83 : M' 83 0 = M 83 0) (h95 : M' 95 4 = M 95 4)
    (g1 : ∀ i, i < 2425 → N' 258 i = N 258 i) (g2 : ∀ i, i < 2425 → N' 260 i = N 260 i) (g3 : N' 261 = N 261) (g4 : N' 262 = N 262) (g5 : N' 257 4 = N 257 4) (g6 : N' 257 5 = N 257 5) (g7 : N' 257 7 = N 257 7) (g8 : N' 257 13 = N 257 13) (g9 : N' 257 14 = N 257 14) : IC M N → IC M' N' := by
  unfold scC at h1
  rintro ⟨n, m, k, u, o, ks, a1, a2, a3, a4, a5, a6, a7, a8, a9, a10⟩
  refine ⟨n, m, k, u, o, ks, a1, ?_, ?_, ?_, ?_, ?_, ?_, ?_, ?_, ?_⟩
  · exact Sq_ro (fun j c1 _ => g1 j (by omega)) (Sq_fr (fun j c1 c2 => h1 j (by omega) (by omega)) a2)
  · exact Tx_ro (fun j c1 c2 => g1 j (by omega)) (Tx_fr (fun j c1 c2 c3 => h1 j (by omega) (by omega)) a3)
  · rw [h1 69 (by omega) (by omega)]
    exact Bk_ro a2.1.2.2 (fun j c1 c2 => g1 j (by omega)) a4
  · exact Rw_ro (fun j c1 c2 => g1 j (by omega)) (Rw_fr (fun j c1 c2 => h1 j (by omega) (by omega)) (h70 3 (by omega)) (h70 6 (by omega)) a5)
  · exact Tp_fr h78 (fun i _ => by rw [h1 79 (by omega) (by omega)]) g7 (fun i _ => by rw [g4]) g8 g9 a6
  · exact Un_fr (by rw [h1 0 (by omega) (by omega)]) (by rw [h1 0 (by omega) (by omega)]) g5 (fun j c1 c2 => h1 j (by omega) (by omega)) (fun i _ => by rw [h1 69 (by omega) (by omega)]) (fun i _ c => g1 i (by omega)) g3 (Nat.le_refl _) a2.1.2.2 a7
  · exact Im_fr (by rw [h1 0 (by omega) (by omega)]) (fun j c1 c2 => h1 j (by omega) (by omega)) g6 g2 a8
  · exact Vl_fr h95 (h1 99 (by omega) (by omega)) a9
  · rw [h83]
    exact a10
/-- the reference alone changes, scratch alone -/
theorem IC_scN {M N N' : zM} (g : ∀ j, 257 ≤ j → j < 263 → j ≠ 259 → j ≠ 257 → N' j = N j) (g7 : ∀ i, i = 4 ∨ i = 5 ∨ i = 7 ∨ i = 13 ∨ i = 14 → N' 257 i = N 257 i) : IC M N → IC M N' :=
  IC_scr (fun _ _ _ => rfl) (fun _ _ => rfl) (fun _ _ => rfl) rfl rfl (fun i _ => by rw [g 258 (by omega) (by omega) (by omega) (by omega)]) (fun i _ => by rw [g 260 (by omega) (by omega) (by omega) (by omega)]) (g 261 (by omega) (by omega) (by omega) (by omega)) (g 262 (by omega) (by omega) (by omega) (by omega)) (g7 4 (by omega)) (g7 5 (by omega)) (g7 7 (by omega)) (g7 13 (by omega)) (g7 14 (by omega))
/-- the class alone changes, scratch alone -/
theorem IC_scM {M M' N : zM} (h1 : ∀ j, j < 257 → ¬ scC j → M' j = M j) (h70 : ∀ i, i < 9 → M' 70 i = M 70 i) (h78 : ∀ i, i < 3 → M' 78 i = M 78 i) (h83 : M' 83 0 = M 83 0) (h95 : M' 95 4 = M 95 4) : IC M N → IC M' N :=
  IC_scr h1 h70 h78 h83 h95 (fun _ _ => rfl) (fun _ _ => rfl) rfl rfl rfl rfl rfl rfl rfl
/-- the rows for thought alone change -/
theorem IC_rw {M M' N N' : zM} (h1 : ∀ j, j < 257 → (j < 70 ∨ 76 ≤ j) → M' j = M j) (g1 : ∀ i, i < 2357 → N' 258 i = N 258 i) (g2 : ∀ j, 257 ≤ j → j < 282 → j ≠ 258 → N' j = N j) (hr : Rw M 70 (N 258) → Rw M' 70 (N' 258)) : IC M N → IC M' N' := by
  rintro ⟨n, m, k, u, o, ks, a1, a2, a3, a4, a5, a6, a7, a8, a9, a10⟩
  refine ⟨n, m, k, u, o, ks, a1, ?_, ?_, ?_, hr a5, ?_, ?_, ?_, ?_, ?_⟩
  · exact Sq_ro (fun j c1 _ => g1 j (by omega)) (Sq_fr (fun j c1 c2 => h1 j (by omega) (by omega)) a2)
  · exact Tx_ro (fun j c1 c2 => g1 j (by omega)) (Tx_fr (fun j c1 c2 c3 => h1 j (by omega) (by omega)) a3)
  · rw [h1 69 (by omega) (by omega)]
    exact Bk_ro a2.1.2.2 (fun j c1 c2 => g1 j (by omega)) a4
  · exact Tp_fr (fun i _ => by rw [h1 78 (by omega) (by omega)]) (fun i _ => by rw [h1 79 (by omega) (by omega)]) (by rw [g2 257 (by omega) (by omega) (by omega)]) (fun i _ => by rw [g2 262 (by omega) (by omega) (by omega)]) (by rw [g2 257 (by omega) (by omega) (by omega)]) (by rw [g2 257 (by omega) (by omega) (by omega)]) a6
  · exact Un_fr (by rw [h1 0 (by omega) (by omega)]) (by rw [h1 0 (by omega) (by omega)]) (by rw [g2 257 (by omega) (by omega) (by omega)]) (fun j c1 c2 => h1 j (by omega) (by omega)) (fun i _ => by rw [h1 69 (by omega) (by omega)]) (fun i _ c => g1 i c) (g2 261 (by omega) (by omega) (by omega)) (Nat.le_refl _) a2.1.2.2 a7
  · exact Im_fr (by rw [h1 0 (by omega) (by omega)]) (fun j c1 c2 => h1 j (by omega) (by omega)) (by rw [g2 257 (by omega) (by omega) (by omega)]) (fun i _ => by rw [g2 260 (by omega) (by omega) (by omega)]) a8
  · exact Vl_fr (by rw [h1 95 (by omega) (by omega)]) (h1 99 (by omega) (by omega)) a9
  · rw [h1 83 (by omega) (by omega)]
    exact a10
theorem c_fault (p : Int32) {M N : zM} (h : IC M N) : f_X10_fault p M = f_X11_fault p N := by
  obtain ⟨n, m, k, u, o, ks, a1, a2, a3, a4, a5, ⟨tn, t1, t2, t3, t4, t5, t6⟩, a7, a8, a9, a10⟩ := h
  unfold f_X10_fault f_X11_fault
  rw [t5, t6]
theorem c_end (p : Int32) : Cl2 (f_X10_end p) (f_X11_end p) := by
  rintro M N ⟨n, m, k, u, o, ks, a1, a2, a3, a4, a5, ⟨tn, t1, t2, t3, t4, t5, t6⟩, a7, a8, a9, a10⟩
  have hI : IC M N := ⟨n, m, k, u, o, ks, a1, a2, a3, a4, a5, ⟨tn, t1, t2, t3, t4, t5, t6⟩, a7, a8, a9, a10⟩
  have hp := J_of p
  have l1 := t_lo p
  have l2 := t_hi p
  generalize p.toInt = z at hp l1 l2
  subst hp
  unfold f_X10_end f_X11_end
  simp (disch := omega) only [J_lit, J_nI, J_add, J_sub, J_mul, J_neg, Int.cast_ofNat_Int, t2, t3, J_lt, J_le, J_eq, within0, isIn0, inRow0, isCell0]
  by_cases c1 : 0 ≤ z ∧ z ≤ (tn : Int)
  · simp (disch := omega) only [if_true, if_false, if_pos, if_neg, nm_eq]
    refine ⟨_, _, _, rfl, rfl, ⟨n, m, k, u, o, ks, a1, ?_, ?_, ?_, ?_, ?_, ?_, ?_, ?_, ?_⟩⟩
    · simp (disch := omega) only [mset_ne, mset_eq, mrow_ne, mrow_eq, upd_eq, upd_ne]
      exact Sq_fr (fun j c1 c2 => by simp (disch := omega) only [mset_ne, mrow_ne]) a2
    · simp (disch := omega) only [mset_ne, mset_eq, mrow_ne, mrow_eq, upd_eq, upd_ne]
      exact Tx_fr (fun j c1 c2 _ => by simp (disch := omega) only [mset_ne, mrow_ne]) a3
    · simp (disch := omega) only [mset_ne, mset_eq, mrow_ne, mrow_eq, upd_eq, upd_ne]
      exact a4
    · simp (disch := omega) only [mset_ne, mset_eq, mrow_ne, mrow_eq, upd_eq, upd_ne]
      exact Rw_fr (fun j c1 c2 => by simp (disch := omega) only [mset_ne, mrow_ne]) (by simp (disch := omega) only [mset_ne, mrow_ne]) (by simp (disch := omega) only [mset_ne, mrow_ne]) a5
    · refine ⟨z.toNat, by omega, ?_, ?_, ?_, ?_, ?_⟩
      · simp (disch := omega) only [mset_ne, mset_eq, mrow_ne, mrow_eq, upd_eq, upd_ne]
        congr 1
        omega
      · simp (disch := omega) only [mset_ne, mset_eq, mrow_ne, mrow_eq, upd_eq, upd_ne]
        congr 1
        omega
      · intro i hi
        simp (disch := omega) only [mset_ne, mset_eq, mrow_ne, mrow_eq, upd_eq, upd_ne]
        exact t4 i (by omega)
      · simp (disch := omega) only [mset_ne, mset_eq, mrow_ne, mrow_eq, upd_eq, upd_ne]
        exact t5
      · simp (disch := omega) only [mset_ne, mset_eq, mrow_ne, mrow_eq, upd_eq, upd_ne]
        exact t6
    · exact Un_fr (by simp (disch := omega) only [mset_ne, mset_eq, mrow_ne, mrow_eq, upd_eq, upd_ne]) (by simp (disch := omega) only [mset_ne, mset_eq, mrow_ne, mrow_eq, upd_eq, upd_ne]) (by simp (disch := omega) only [mset_ne, mset_eq, mrow_ne, mrow_eq, upd_eq, upd_ne]) (fun j c1 c2 => by simp (disch := omega) only [mset_ne, mrow_ne]) (fun i _ => by simp (disch := omega) only [mset_ne, mrow_ne]) (fun i _ _ => by simp (disch := omega) only [mset_ne, mrow_ne]) (by simp (disch := omega) only [mset_ne, mrow_ne]) (Nat.le_refl _) a2.1.2.2 a7
    · exact Im_fr (by simp (disch := omega) only [mset_ne, mset_eq, mrow_ne, mrow_eq, upd_eq, upd_ne]) (fun j c1 c2 => by simp (disch := omega) only [mset_ne, mrow_ne]) (by simp (disch := omega) only [mset_ne, mset_eq, mrow_ne, mrow_eq, upd_eq, upd_ne]) (fun i _ => by simp (disch := omega) only [mset_ne, mrow_ne]) a8
    · exact Vl_fr (by simp (disch := omega) only [mset_ne, mrow_ne]) (by simp (disch := omega) only [mset_ne, mrow_ne]) a9
    · simp (disch := omega) only [mset_ne, mset_eq, mrow_ne, mrow_eq, upd_eq, upd_ne]
      exact a10
  · by_cases c2 : z < 0
    · simp (disch := omega) only [if_true, if_false, if_pos, if_neg]
      exact ⟨_, _, _, rfl, rfl, hI⟩
    · simp (disch := omega) only [if_true, if_false, if_pos, if_neg]
      exact ⟨_, _, _, rfl, rfl, hI⟩
theorem c_book (p q : Int32) : Cl0 (f_X10_book p q) (f_X11_book p q) := by
  rintro M N ⟨n, m, k, u, o, ks, a1, a2, a3, a4, a5, a6, a7, a8, a9, a10⟩
  have hp := J_of p
  have l1 := t_lo p
  have l2 := t_hi p
  generalize p.toInt = z at hp l1 l2
  subst hp
  have hq := J_of q
  have l3 := t_lo q
  have l4 := t_hi q
  generalize q.toInt = y at hq l3 l4
  subst hq
  have hk := a2.1.2.2
  have e1 := a2.2.1.2.2.1
  have e2 := a2.2.2.1.2.2
  unfold f_X10_book f_X11_book f_X0_part
  simp (disch := omega) only [J_lit, J_nI, J_add, J_sub, J_mul, J_neg, Int.cast_ofNat_Int, ix_Jn, ix_J, Int.reduceToNat, Int.toNat_natCast, e1, e2]
  simp (disch := omega) only [J_lt, J_le, J_eq, within0, isIn0, inRow0, isCell0]
  by_cases c1 : 0 ≤ z ∧ z < (k : Int)
  · by_cases c2 : 0 ≤ y ∧ y < 4
    · simp (disch := omega) only [if_true, if_false, if_pos, if_neg, grd_J, ix_Jn, ix_J, Int.reduceToNat, Int.toNat_natCast, bind_some]
      refine ⟨_, rfl, ?_⟩
      rw [a4 _ (by omega)]
      congr 2
      omega
    · by_cases c3 : y < 0
      · simp (disch := omega) only [if_true, if_false, if_pos, if_neg]
        exact ⟨_, rfl, rfl⟩
      · simp (disch := omega) only [if_true, if_false, if_pos, if_neg]
        exact ⟨_, rfl, rfl⟩
  · by_cases c3 : z < 0
    · simp (disch := omega) only [if_true, if_false, if_pos, if_neg]
      exact ⟨_, rfl, rfl⟩
    · simp (disch := omega) only [if_true, if_false, if_pos, if_neg]
      exact ⟨_, rfl, rfl⟩
