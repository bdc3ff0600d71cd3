/-! ===== a law: the reference goes on ===== -/
theorem sp_and : f_X11_spelt (J 97) (J 110) (J 100) (J 0) (J 0) (J 0) = J (pkK 5) := by decide +kernel
theorem sp_or : f_X11_spelt (J 111) (J 114) (J 0) (J 0) (J 0) (J 0) = J (pkK 4) := by decide +kernel
theorem go_push {M N1 : zM} {tp : Nat → Nat} {n NN : Nat} {P E : Nat → Nat} {j w1 i : Nat} (c : Int32) (h : TS M N1 tp n NN P E j (P j)) (hi : i < 29) (hk : M 80 j = J (128 + i : Nat)) (h19 : N1 257 19 = J w1) : j_X11_goesOnWith_95 (mset N1 264 w1 c) = some (J 1, mset (mset (mset N1 264 w1 c) 257 9 (J (E j))) 257 19 (J (w1 + 1 : Nat))) := by
  have hT : TS M (mset N1 264 w1 c) tp n NN P E j (P j) := TS_fr h rfl rfl rfl rfl (by simp (disch := omega) only [mset_ne, mset_eq, mrow_ne, mrow_eq, upd_eq, upd_ne]) (by simp (disch := omega) only [mset_ne, mset_eq, mrow_ne, mrow_eq, upd_eq, upd_ne]) (by simp (disch := omega) only [mset_ne, mset_eq, mrow_ne, mrow_eq, upd_eq, upd_ne]) (by simp (disch := omega) only [mset_ne, mset_eq, mrow_ne, mrow_eq, upd_eq, upd_ne])
  obtain ⟨g1, g2⟩ := i_pass hT hi hk
  unfold j_X11_goesOnWith_95
  rw [g2]
  simp (disch := omega) only [↓nm_s, bind_s, mset_ne, mset_eq, mrow_ne, mrow_eq, upd_eq, upd_ne, h19, J_lit, Int.cast_ofNat_Int]
  rw [J_s]
theorem go_and {M N N1 : zM} {tp : Nat → Nat} {n NN : Nat} {P E : Nat → Nat} {j q w w1 : Nat} (h : TS M N tp n NN P E j q) (hk : M 80 j = J 133) (hw : w ≤ 420) (h19 : N 257 19 = J w) (ht : w = 0 ∨ ¬ N 264 (w - 1) = J 2) (hc : f_X11_closes (J 3) (mset N 257 9 (J (P j))) = some N1) (h1 : TS M N1 tp n NN P E j (P j)) (hw1 : w1 < 420) (h191 : N1 257 19 = J w1) : f_X11_goesOnWith N = some (J 1, mset (mset (mset N1 264 w1 (J 3)) 257 9 (J (E j))) 257 19 (J (w1 + 1 : Nat))) := by
  obtain ⟨u, u1, u2⟩ := i_word h
  have eu : u = J (pkK 5) := (u2 5 (by omega)).2 hk
  have e2 : f_X11_closes (J 2) N = some N := clo_no (c := 2) (by omega) hw h19 ht
  have gp := go_push (J 3) h1 (i := 5) (by omega) hk h191
  unfold f_X11_goesOnWith
  simp (disch := omega) only [↓nm_s, ↓grd_s, ↓reduceIte, J_lit, Int.cast_ofNat_Int, e2, bind_s, u1, bnd2_s, sp_and, eu, hc, h191, J_lt_t, J_lt_f, J_le_t, J_le_f, J_eq_t, J_eq_f, within_t, within_f, isIn_t, isIn_f, inRow_t, inRow_f, isCell_t, isCell_f, inb_t, ix_Jn, ix_J, Int.reduceToNat, Int.toNat_natCast, gp]
theorem go_or {M N N1 N2 : zM} {tp : Nat → Nat} {n NN : Nat} {P E : Nat → Nat} {j q w w1 : Nat} (h : TS M N tp n NN P E j q) (hk : M 80 j = J 132) (hw : w ≤ 420) (h19 : N 257 19 = J w) (ht : w = 0 ∨ ¬ N 264 (w - 1) = J 2) (hc : f_X11_closes (J 3) (mset N 257 9 (J (P j))) = some N1) (hc2 : f_X11_closes (J 4) N1 = some N2) (h1 : TS M N2 tp n NN P E j (P j)) (hw1 : w1 < 420) (h191 : N2 257 19 = J w1) : f_X11_goesOnWith N = some (J 1, mset (mset (mset N2 264 w1 (J 4)) 257 9 (J (E j))) 257 19 (J (w1 + 1 : Nat))) := by
  obtain ⟨u, u1, u2⟩ := i_word h
  have nu : ¬ u = J (pkK 5) := fun e => by
    have := (u2 5 (by omega)).1 e
    rw [hk] at this
    exact absurd this (by decide)
  obtain ⟨v, v1, v2⟩ := i_word (TS_at h)
  rw [mset_2] at v1
  have ev : v = J (pkK 4) := (v2 4 (by omega)).2 hk
  have e2 : f_X11_closes (J 2) N = some N := clo_no (c := 2) (by omega) hw h19 ht
  have gp := go_push (J 4) h1 (i := 4) (by omega) hk h191
  unfold f_X11_goesOnWith
  simp (disch := omega) only [↓nm_s, ↓grd_s, ↓reduceIte, J_lit, Int.cast_ofNat_Int, e2, bind_s, u1, bnd2_s, sp_and, sp_or, nu, v1, ev, hc, hc2, h191, J_lt_t, J_lt_f, J_le_t, J_le_f, J_eq_t, J_eq_f, within_t, within_f, isIn_t, isIn_f, inRow_t, inRow_f, isCell_t, isCell_f, inb_t, ix_Jn, ix_J, Int.reduceToNat, Int.toNat_natCast, gp]
theorem go_else {M N N1 N2 : zM} {tp : Nat → Nat} {n NN : Nat} {P E : Nat → Nat} {j q w : Nat} (h : TS M N tp n NN P E j q) (hk : ¬ M 80 j = J 133) (hk2 : ¬ M 80 j = J 132) (hw : w ≤ 420) (h19 : N 257 19 = J w) (ht : w = 0 ∨ ¬ N 264 (w - 1) = J 2) (hc : f_X11_closes (J 3) (mset N 257 9 (J (P j))) = some N1) (hc2 : f_X11_closes (J 4) N1 = some N2) : f_X11_goesOnWith N = some (J 0, N2) := by
  obtain ⟨u, u1, u2⟩ := i_word h
  have nu : ¬ u = J (pkK 5) := fun e => hk ((u2 5 (by omega)).1 e)
  obtain ⟨v, v1, v2⟩ := i_word (TS_at h)
  rw [mset_2] at v1
  have nv : ¬ v = J (pkK 4) := fun e => hk2 ((v2 4 (by omega)).1 e)
  have e2 : f_X11_closes (J 2) N = some N := clo_no (c := 2) (by omega) hw h19 ht
  unfold f_X11_goesOnWith
  simp (disch := omega) only [↓reduceIte, J_lit, Int.cast_ofNat_Int, e2, bind_s, u1, bnd2_s, sp_and, sp_or, nu, v1, nv, hc, hc2]
