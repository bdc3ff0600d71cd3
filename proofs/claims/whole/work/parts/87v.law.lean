/-! ===== a law: units ===== -/
theorem sp_haste : f_X11_spelt (J 104) (J 97) (J 115) (J 116) (J 101) (J 0) = J (pkK 7) := by decide +kernel
theorem sp_turns : f_X11_spelt (J 116) (J 117) (J 114) (J 110) (J 115) (J 0) = J (pkK 8) := by decide +kernel
theorem sp_signs : f_X11_spelt (J 115) (J 105) (J 103) (J 110) (J 115) (J 0) = J (pkK 9) := by decide +kernel
theorem sp_x : f_X11_spelt (J 120) (J 0) (J 0) (J 0) (J 0) (J 0) = J (pkK 10) := by decide +kernel
theorem sp_y : f_X11_spelt (J 121) (J 0) (J 0) (J 0) (J 0) (J 0) = J (pkK 11) := by decide +kernel
theorem sp_facing : f_X11_spelt (J 102) (J 97) (J 99) (J 105) (J 110) (J 103) = J (pkK 12) := by decide +kernel
theorem sp_inside : f_X11_spelt (J 105) (J 110) (J 115) (J 105) (J 100) (J 101) = J (pkK 14) := by decide +kernel
theorem sp_minute : f_X11_spelt (J 109) (J 105) (J 110) (J 117) (J 116) (J 101) = J (pkK 16) := by decide +kernel
theorem factW {u : Int32} {kk : Nat} (hk80 : ∀ i : Nat, i < 29 → (u = J (pkK i) ↔ kk = 128 + i)) :
    (∃ v : Nat, v < 10 ∧ kk = 135 + v ∧ f_X11_factOf u = J v) ∨ ((kk < 135 ∨ 144 < kk) ∧ f_X11_factOf u = J (-1)) := by
  have h7 := hk80 7 (by omega)
  have h8 := hk80 8 (by omega)
  have h9 := hk80 9 (by omega)
  have h10 := hk80 10 (by omega)
  have h11 := hk80 11 (by omega)
  have h12 := hk80 12 (by omega)
  have h13 := hk80 13 (by omega)
  have h14 := hk80 14 (by omega)
  have h15 := hk80 15 (by omega)
  have h16 := hk80 16 (by omega)
  unfold f_X11_factOf
  simp only [J_lit, Int.cast_ofNat_Int, sp_haste, sp_turns, sp_signs, sp_x, sp_y, sp_facing, sp_snow, sp_inside, sp_watch, sp_minute]
  by_cases c7 : kk = 135
  · rw [if_pos (h7.2 c7)]; exact Or.inl ⟨0, by omega, by omega, rfl⟩
  rw [if_neg (fun e => c7 (h7.1 e))]
  by_cases c8 : kk = 136
  · rw [if_pos (h8.2 c8)]; exact Or.inl ⟨1, by omega, by omega, rfl⟩
  rw [if_neg (fun e => c8 (h8.1 e))]
  by_cases c9 : kk = 137
  · rw [if_pos (h9.2 c9)]; exact Or.inl ⟨2, by omega, by omega, rfl⟩
  rw [if_neg (fun e => c9 (h9.1 e))]
  by_cases c10 : kk = 138
  · rw [if_pos (h10.2 c10)]; exact Or.inl ⟨3, by omega, by omega, rfl⟩
  rw [if_neg (fun e => c10 (h10.1 e))]
  by_cases c11 : kk = 139
  · rw [if_pos (h11.2 c11)]; exact Or.inl ⟨4, by omega, by omega, rfl⟩
  rw [if_neg (fun e => c11 (h11.1 e))]
  by_cases c12 : kk = 140
  · rw [if_pos (h12.2 c12)]; exact Or.inl ⟨5, by omega, by omega, rfl⟩
  rw [if_neg (fun e => c12 (h12.1 e))]
  by_cases c13 : kk = 141
  · rw [if_pos (h13.2 c13)]; exact Or.inl ⟨6, by omega, by omega, rfl⟩
  rw [if_neg (fun e => c13 (h13.1 e))]
  by_cases c14 : kk = 142
  · rw [if_pos (h14.2 c14)]; exact Or.inl ⟨7, by omega, by omega, rfl⟩
  rw [if_neg (fun e => c14 (h14.1 e))]
  by_cases c15 : kk = 143
  · rw [if_pos (h15.2 c15)]; exact Or.inl ⟨8, by omega, by omega, rfl⟩
  rw [if_neg (fun e => c15 (h15.1 e))]
  by_cases c16 : kk = 144
  · rw [if_pos (h16.2 c16)]; exact Or.inl ⟨9, by omega, by omega, rfl⟩
  rw [if_neg (fun e => c16 (h16.1 e))]
  exact Or.inr ⟨by omega, rfl⟩
theorem num_no {M N : zM} {tp : Nat → Nat} {n NN : Nat} {P E : Nat → Nat} {j q : Nat} (h : TS M N tp n NN P E j q) (hk : ¬ M 80 j = J 2) (lo hi : Int32) : f_X5_number lo hi M = some (J (-1), cF M 1 (P j)) := by
  have hn := TS_n h
  have hf : f_X5_fail (J 1) M = some (J 0, cF M 1 (P j)) := i_fail h (J 1)
  unfold f_X5_number j_X5_number_18 j_X5_number_36 j_X5_number_54 j_X5_number_64
  simp (disch := omega) only [↓nm_s, ↓grd_s, ↓reduceIte, J_lit, J_neg, Int.cast_ofNat_Int, J_lt_t, J_lt_f, J_le_t, J_le_f, J_eq_t, J_eq_f, within_t, within_f, isIn_t, isIn_f, inRow_t, inRow_f, isCell_t, isCell_f, inb_t, ix_Jn, ix_J, Int.reduceToNat, Int.toNat_natCast, h.2.2.2.1, hk, hf, bnd2_s]
/-- moving on by a token keeps what was said -/
theorem LwS_next {M N : zM} {tp : Nat → Nat} {n NN : Nat} {P E : Nat → Nat} {j q cz cn s : Nat} (h : LwS M N tp n NN P E j q cz cn s) (hj : j < NN) : LwS (mset M 78 7 (J (j + 1 : Nat))) (mset N 257 9 (J (E j))) tp n NN P E (j + 1) (E j) cz cn (s + 1) := ⟨TS_next h.1 hj, by simp (disch := omega) only [mset_ne, mset_eq, mrow_ne, mrow_eq, upd_eq, upd_ne]; exact h.2.1, by simp (disch := omega) only [mset_ne, mset_eq, mrow_ne, mrow_eq, upd_eq, upd_ne]; exact h.2.2.1, by have := h.2.2.2.1; omega, h.2.2.2.2⟩
theorem LwS_at {M N : zM} {tp : Nat → Nat} {n NN : Nat} {P E : Nat → Nat} {j q cz cn s : Nat} (h : LwS M N tp n NN P E j q cz cn s) : LwS M (mset N 257 9 (J (P j))) tp n NN P E j (P j) cz cn s := ⟨TS_at h.1, h.2.1, by simp (disch := omega) only [mset_ne, mset_eq, mrow_ne, mrow_eq, upd_eq, upd_ne]; exact h.2.2.1, h.2.2.2.1, h.2.2.2.2⟩
theorem Kp_9 (N : zM) (v : Int32) : Kp N (mset N 257 9 v) := ⟨by simp (disch := omega) only [mset_ne, mset_eq, mrow_ne, mrow_eq, upd_eq, upd_ne], by simp (disch := omega) only [mset_ne, mset_eq, mrow_ne, mrow_eq, upd_eq, upd_ne], by simp (disch := omega) only [mset_ne, mset_eq, mrow_ne, mrow_eq, upd_eq, upd_ne]⟩
theorem Em_79 {M N M' N' : zM} {cz cn : Nat} {L : List (Nat × Int32)} {a b : Int32} (h : Em (mset M 78 7 a) (mset N 257 9 b) M' N' cz cn L) : Em M N M' N' cz cn L := Em_fl h (fun j _ _ => by simp (disch := omega) only [mset_ne, mset_eq, mrow_ne, mrow_eq, upd_eq, upd_ne]) (by simp (disch := omega) only [mset_ne, mset_eq, mrow_ne, mrow_eq, upd_eq, upd_ne])
theorem Em_9 {M N M' N' : zM} {cz cn : Nat} {L : List (Nat × Int32)} {b : Int32} (h : Em M (mset N 257 9 b) M' N' cz cn L) : Em M N M' N' cz cn L := Em_fl h (fun j _ _ => rfl) (by simp (disch := omega) only [mset_ne, mset_eq, mrow_ne, mrow_eq, upd_eq, upd_ne])
theorem l_unit {M N : zM} {tp : Nat → Nat} {n NN : Nat} {P E : Nat → Nat} {j q cz cn s : Nat} (h : LwS M N tp n NN P E j q cz cn s) :
    (∃ M' N', f_X3_readUnit 55 (J 0) M = some (J 1, M') ∧ f_X11_readUnit N = some N' ∧ Sc false 63 M N M' N' tp n NN P E j cz cn s) ∨
    (∃ M' N', f_X3_readUnit 55 (J 0) M = some (J 0, M') ∧ f_X11_readUnit N = some N' ∧ Fc M N M' N') := by
  have hT := h.1
  have hn := TS_n hT
  have hcz : cz ≤ 400 := by have := h.2.2.2.1; omega
  have hkd := i_kind hT
  obtain ⟨kk, k1, k2, k3, k4⟩ := i_kd hT
  have hat := TS_at hT
  have hh := i_here hT
  have hc := i_hc hT
  obtain ⟨u, w1, w2⟩ := i_word hat
  rw [mset_2] at w1
  have hk80 : ∀ i : Nat, i < 29 → (u = J (pkK i) ↔ kk = 128 + i) := by
    intro i hi
    rw [w2 i hi, k1, J_eq (by omega) (by omega) (by omega) (by omega)]
    omega
  have ft := fine_t hT.2.2.2.2.2.2.2
  have ftat := fine_t hat.2.2.2.2.2.2.2
  have f0 : ¬ f_X11_fine N = J 0 := by rw [ft]; decide
  have f0at : ¬ f_X11_fine (mset N 257 9 (J (P j))) = J 0 := by rw [ftat]; decide
  have e9 : mset N 257 9 (J (P j)) 257 9 = J (P j) := by simp (disch := omega) only [mset_ne, mset_eq, mrow_ne, mrow_eq, upd_eq, upd_ne]
  unfold f_X3_readUnit j_X3_readUnit_38 j_X3_readUnit_48 f_X11_readUnit j_X11_readUnit_54
  by_cases cd : isDig (hch tp n (P j))
  · have hid : f_X11_isDigit (J (hch tp n (P j))) = J 1 := by
      unfold isDig at cd
      unfold f_X11_isDigit
      simp (disch := omega) only [↓reduceIte, J_lit, Int.cast_ofNat_Int, J_lt_t, J_lt_f, J_le_t, J_le_f, J_eq_t, J_eq_f, within_t, within_f, isIn_t, isIn_f, inRow_t, inRow_f, isCell_t, isCell_f, inb_t]
    have hkk : kk < 135 := by
      refine Nat.lt_of_not_le (fun c => nodig hT (i := kk - 128) (by omega) ?_ cd)
      rw [k1]; exact congrArg J (by omega)
    rcases i_num hat (lo := 0) (hi := 9999) (by omega) (by omega) (by omega) (by omega) with ⟨x, v1, v2, v3, v4, v5, v6⟩ | ⟨k, e, hk, v5, v6⟩
    · rw [mset_2] at v6
      obtain ⟨M', N', m1, m2, m3, m4, m5, m6, m7⟩ := em_1 (LwS_next h v3) 0 (J x) (J x) rfl
      have m2' : f_X11_codes (J 0) (J x) (mset N 257 9 (J (E j))) = some N' := m2
      have ne : ¬ J (x : Int) = J (-1) := by rw [J_eq (by omega) (by omega) (by omega) (by omega)]; omega
      left
      refine ⟨M', N', ?_, ?_, j + 1, E j, [(0, J x)], by omega, m3, Em_79 m4, ?_, ?_, Kp_t (Kp_9 _ _) m5, FrC_t (FrC_7 _ _) m6, FrN_t (FrN_9 _ _) m7⟩
      · simp (disch := omega) only [↓reduceIte, J_lit, J_neg, Int.cast_ofNat_Int, J_lt_t, J_lt_f, J_le_t, J_le_f, J_eq_t, J_eq_f, within_t, within_f, isIn_t, isIn_f, inRow_t, inRow_f, isCell_t, isCell_f, inb_t, hkd, k1, bind_s, v5, bnd2_s, m1, ne]
      · simp (disch := omega) only [↓reduceIte, J_lit, J_neg, Int.cast_ofNat_Int, J_lt_t, J_lt_f, J_le_t, J_le_f, J_eq_t, J_eq_f, within_t, within_f, isIn_t, isIn_f, inRow_t, inRow_f, isCell_t, isCell_f, inb_t, f0, hh, bnd2_s, hid, v6, m2', bind_s]
      · intro q hq
        rw [List.mem_singleton] at hq
        subst hq
        exact ⟨Nat.zero_le _, fun _ => ⟨x, by omega, rfl⟩, fun e => by simp at e, fun e => by simp at e⟩
      · intro st hst
        simp only [tyL, tyC, if_pos hst, Option.bind_some]
    · right
      have nf : rF (mset (mset N 257 9 (J (P j))) 257 9 (J e)) k (P j) 257 10 = J (P j) := rF_10 _ _ _
      have hpl : P j < 2147483648 := by omega
      have hM5 : cF M k (P j) 55 5 = J cz := by unfold cF; simp (disch := omega) only [mset_ne, mset_eq, mrow_ne, mrow_eq, upd_eq, upd_ne]; exact h.2.1
      obtain ⟨M', m1, m2, m3, m4⟩ := emit_any hM5 hcz (J (-1))
      refine ⟨M', rF (mset (mset N 257 9 (J (P j))) 257 9 (J e)) k (P j), ?_, ?_, FL_78 m4 (FL_of (by omega)), m2, FrC_t (FrC_c _ _ _) m3, FrN_t (FrN_9 _ _) (FrN_t (FrN_9 _ _) (FrN_r2 _ _ _))⟩
      · simp (disch := omega) only [↓reduceIte, J_lit, J_neg, Int.cast_ofNat_Int, J_lt_t, J_lt_f, J_le_t, J_le_f, J_eq_t, J_eq_f, within_t, within_f, isIn_t, isIn_f, inRow_t, inRow_f, isCell_t, isCell_f, inb_t, hkd, k1, bind_s, v5, bnd2_s, m1]
      · simp (disch := omega) only [↓reduceIte, J_lit, J_neg, Int.cast_ofNat_Int, J_lt_t, J_lt_f, J_le_t, J_le_f, J_eq_t, J_eq_f, within_t, within_f, isIn_t, isIn_f, inRow_t, inRow_f, isCell_t, isCell_f, inb_t, f0, hh, bnd2_s, hid, v6, n_codes hpl nf, bind_s]
  · have hid : f_X11_isDigit (J (hch tp n (P j))) = J 0 := by
      unfold isDig at cd
      unfold f_X11_isDigit
      by_cases c : hch tp n (P j) < 48
      · simp (disch := omega) only [↓reduceIte, J_lit, Int.cast_ofNat_Int, J_lt_t, J_lt_f, J_le_t, J_le_f, J_eq_t, J_eq_f, within_t, within_f, isIn_t, isIn_f, inRow_t, inRow_f, isCell_t, isCell_f, inb_t]
      · simp (disch := omega) only [↓reduceIte, J_lit, Int.cast_ofNat_Int, J_lt_t, J_lt_f, J_le_t, J_le_f, J_eq_t, J_eq_f, within_t, within_f, isIn_t, isIn_f, inRow_t, inRow_f, isCell_t, isCell_f, inb_t]
    have hk2 : ¬ M 80 j = J 2 := fun e => cd (dig_iff hT e)
    rcases factW hk80 with ⟨v, v1, v2, v3⟩ | ⟨v2, v3⟩
    · have hk7 : M 80 j = J ((128 + (7 + v) : Nat) : Int) := by rw [k1, v2]; exact congrArg J (by omega)
      obtain ⟨p1, p2⟩ := i_pass hat (i := 7 + v) (by omega) hk7
      rw [mset_2] at p2
      have nx := i_next hT p1
      have ne : ¬ J (v : Int) = J (-1) := by rw [J_eq (by omega) (by omega) (by omega) (by omega)]; omega
      have ee : J 10000 + J (kk : Int) = J 10135 + J (v : Int) := by rw [J_add, J_add, v2]; exact congrArg J (by omega)
      obtain ⟨M', N', m1, m2, m3, m4, m5, m6, m7⟩ := em_1 (LwS_next h p1) 1 (J v) (J 10135 + J v) rfl
      have m2' : f_X11_codes (J 1) (J v) (mset N 257 9 (J (E j))) = some N' := m2
      left
      refine ⟨M', N', ?_, ?_, j + 1, E j, [(1, J v)], by omega, m3, Em_79 m4, ?_, ?_, Kp_t (Kp_9 _ _) m5, FrC_t (FrC_7 _ _) m6, FrN_t (FrN_9 _ _) m7⟩
      · simp (disch := omega) only [↓reduceIte, J_lit, J_neg, Int.cast_ofNat_Int, ee, J_lt_t, J_lt_f, J_le_t, J_le_f, J_eq_t, J_eq_f, within_t, within_f, isIn_t, isIn_f, inRow_t, inRow_f, isCell_t, isCell_f, inb_t, hkd, k1, bind_s, nx, m1]
      · simp (disch := omega) only [↓nm_s, ↓reduceIte, J_lit, J_neg, Int.cast_ofNat_Int, J_lt_t, J_lt_f, J_le_t, J_le_f, J_eq_t, J_eq_f, within_t, within_f, isIn_t, isIn_f, inRow_t, inRow_f, isCell_t, isCell_f, inb_t, f0, f0at, hh, bnd2_s, hid, w1, v3, ne, p2, m2', bind_s]
      · intro q hq
        rw [List.mem_singleton] at hq
        subst hq
        exact ⟨by show 1 ≤ 11; omega, fun e => by simp at e, fun _ => ⟨v, by omega, rfl⟩, fun e => by simp at e⟩
      · intro st hst
        simp only [tyL, tyC, if_pos hst, Option.bind_some]
    · right
      have v5 := num_no hT hk2 (J 0) (J 9999)
      have hw1 : f_X11_wrong (J 1) (J (P j)) (mset N 257 9 (J (P j))) = some (rF (mset N 257 9 (J (P j))) 1 (P j)) := r_wrong hat.2.2.2.2.2.2.2 1 (P j)
      have nf : rF (mset N 257 9 (J (P j))) 1 (P j) 257 10 = J (P j) := rF_10 _ _ _
      have hpl : P j < 2147483648 := by omega
      have ff := fine_f hpl nf
      have hM5 : cF M 1 (P j) 55 5 = J cz := by unfold cF; simp (disch := omega) only [mset_ne, mset_eq, mrow_ne, mrow_eq, upd_eq, upd_ne]; exact h.2.1
      obtain ⟨M', m1, m2, m3, m4⟩ := emit_any hM5 hcz (J (-1))
      refine ⟨M', rF (mset N 257 9 (J (P j))) 1 (P j), ?_, ?_, FL_78 m4 (FL_of (by omega)), m2, FrC_t (FrC_c _ _ _) m3, FrN_t (FrN_9 _ _) (FrN_r2 _ _ _)⟩
      · by_cases c : kk < 135
        · simp (disch := omega) only [↓reduceIte, J_lit, J_neg, Int.cast_ofNat_Int, J_lt_t, J_lt_f, J_le_t, J_le_f, J_eq_t, J_eq_f, within_t, within_f, isIn_t, isIn_f, inRow_t, inRow_f, isCell_t, isCell_f, inb_t, hkd, k1, bind_s, v5, bnd2_s, m1]
        · simp (disch := omega) only [↓reduceIte, J_lit, J_neg, Int.cast_ofNat_Int, J_lt_t, J_lt_f, J_le_t, J_le_f, J_eq_t, J_eq_f, within_t, within_f, isIn_t, isIn_f, inRow_t, inRow_f, isCell_t, isCell_f, inb_t, hkd, k1, bind_s, v5, bnd2_s, m1]
      · simp (disch := omega) only [↓nm_s, ↓reduceIte, J_lit, J_neg, Int.cast_ofNat_Int, J_lt_t, J_lt_f, J_le_t, J_le_f, J_eq_t, J_eq_f, within_t, within_f, isIn_t, isIn_f, inRow_t, inRow_f, isCell_t, isCell_f, inb_t, f0, hh, bnd2_s, hid, w1, v3, e9, hw1, bind_s, ff]
