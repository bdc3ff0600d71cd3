/-! ===== a law: openings ===== -/
theorem sp_not : f_X11_spelt (J 110) (J 111) (J 116) (J 0) (J 0) (J 0) = J (pkK 6) := by decide +kernel
/-- what an opening leaves in the reference -/
def opN (N : zM) (c wn p : Nat) : zM := mset (mset (mset N 257 12 (J (p + 1 : Nat))) 264 wn (J c)) 257 19 (J (wn + 1 : Nat))
theorem fo_step {N : zM} {N1 : zM} (h : b_X11_readOpening_2 (J 1) N = some (.inl (J 1, N1))) : FO N = FO N1 := by
  unfold FO
  rw [loopW_eq]
  simp only
  rw [h]
theorem fo_not {M N : zM} {tp : Nat → Nat} {n NN : Nat} {P E : Nat → Nat} {j q wn p : Nat} (h : TS M N tp n NN P E j q) (hk : M 80 j = J 134) (hw : wn < 420) (h19 : N 257 19 = J wn) (hp : N 257 12 = J p) (hp2 : p < 8) : j < NN ∧ FO N = FO (mset (opN N 2 wn p) 257 9 (J (E j))) := by
  have hat := TS_at h
  obtain ⟨u, w1, w2⟩ := i_word h
  have eu : u = J (pkK 6) := (w2 6 (by omega)).2 hk
  have hTo : TS M (opN (mset N 257 9 (J (P j))) 2 wn p) tp n NN P E j (P j) := TS_fr hat rfl rfl rfl rfl (by unfold opN; simp (disch := omega) only [mset_ne, mset_eq, mrow_ne, mrow_eq, upd_eq, upd_ne]) (by unfold opN; simp (disch := omega) only [mset_ne, mset_eq, mrow_ne, mrow_eq, upd_eq, upd_ne]) (by unfold opN; simp (disch := omega) only [mset_ne, mset_eq, mrow_ne, mrow_eq, upd_eq, upd_ne]) (by unfold opN; simp (disch := omega) only [mset_ne, mset_eq, mrow_ne, mrow_eq, upd_eq, upd_ne])
  obtain ⟨g1, g2⟩ := i_pass hTo (i := 6) (by omega) hk
  have f0 : ¬ f_X11_fine N = J 0 := by rw [fine_t h.2.2.2.2.2.2.2]; decide
  have f0o : ¬ f_X11_fine (opN (mset N 257 9 (J (P j))) 2 wn p) = J 0 := by rw [fine_t hTo.2.2.2.2.2.2.2]; decide
  have eo := i_opens (N := mset N 257 9 (J (P j))) (c := 2) hw (by simp (disch := omega) only [mset_ne, mset_eq, mrow_ne, mrow_eq, upd_eq, upd_ne]; exact h19) (by simp (disch := omega) only [mset_ne, mset_eq, mrow_ne, mrow_eq, upd_eq, upd_ne]; exact hp) hp2
  have eo' : f_X11_opensOne (J 2) (mset N 257 9 (J (P j))) = some (opN (mset N 257 9 (J (P j))) 2 wn p) := eo
  have e9 : mset (opN (mset N 257 9 (J (P j))) 2 wn p) 257 9 (J (E j)) = mset (opN N 2 wn p) 257 9 (J (E j)) := by
    unfold opN
    funext a b
    by_cases ca : a = 257
    · subst ca
      by_cases c9 : b = 9
      · subst c9; simp (disch := omega) only [mset_ne, mset_eq, mrow_ne, mrow_eq, upd_eq, upd_ne]
      · by_cases c19 : b = 19
        · subst c19; simp (disch := omega) only [mset_ne, mset_eq, mrow_ne, mrow_eq, upd_eq, upd_ne]
        · by_cases c12 : b = 12
          · subst c12; simp (disch := omega) only [mset_ne, mset_eq, mrow_ne, mrow_eq, upd_eq, upd_ne]
          · simp (disch := omega) only [mset_ne, mset_eq, mrow_ne, mrow_eq, upd_eq, upd_ne]
    · by_cases cb : a = 264
      · subst cb; simp (disch := omega) only [mset_ne, mset_eq, mrow_ne, mrow_eq, upd_eq, upd_ne]
      · simp (disch := omega) only [mset_ne, mset_eq, mrow_ne, mrow_eq, upd_eq, upd_ne]
  refine ⟨g1, ?_⟩
  rw [← e9]
  refine fo_step ?_
  unfold b_X11_readOpening_2 j_X11_readOpening_50_2
  simp (disch := omega) only [↓reduceIte, J_lit, Int.cast_ofNat_Int, J_lt_t, J_lt_f, J_le_t, J_le_f, J_eq_t, J_eq_f, within_t, within_f, isIn_t, isIn_f, inRow_t, inRow_f, isCell_t, isCell_f, inb_t, f0, w1, bnd2_s, sp_not, eu, eo', bind_s, f0o, g2]
theorem fo_par {M N : zM} {tp : Nat → Nat} {n NN : Nat} {P E : Nat → Nat} {j q wn p : Nat} (h : TS M N tp n NN P E j q) (hk : M 80 j = J 40) (hw : wn < 420) (h19 : N 257 19 = J wn) (hp : N 257 12 = J p) (hp2 : p < 8) : j < NN ∧ FO N = FO (mset (opN N 1 wn p) 257 9 (J (E j))) := by
  have hat := TS_at h
  obtain ⟨g1, g2, g3⟩ := sg_go h (c := 40) (by unfold isSg; omega) hk
  obtain ⟨u, w1, w2⟩ := i_word h
  have nu : ¬ u = J (pkK 6) := fun e => by
    have := (w2 6 (by omega)).1 e
    rw [hk] at this
    exact absurd this (by decide)
  have hh2 := i_here hat
  rw [mset_2] at hh2
  have g2' : J (hch tp n (P j) : Int) = J 40 := g2
  have hTo : TS M (opN (mset N 257 9 (J (P j))) 1 wn p) tp n NN P E j (P j) := TS_fr hat rfl rfl rfl rfl (by unfold opN; simp (disch := omega) only [mset_ne, mset_eq, mrow_ne, mrow_eq, upd_eq, upd_ne]) (by unfold opN; simp (disch := omega) only [mset_ne, mset_eq, mrow_ne, mrow_eq, upd_eq, upd_ne]) (by unfold opN; simp (disch := omega) only [mset_ne, mset_eq, mrow_ne, mrow_eq, upd_eq, upd_ne]) (by unfold opN; simp (disch := omega) only [mset_ne, mset_eq, mrow_ne, mrow_eq, upd_eq, upd_ne])
  have f0 : ¬ f_X11_fine N = J 0 := by rw [fine_t h.2.2.2.2.2.2.2]; decide
  have eo := i_opens (N := mset N 257 9 (J (P j))) (c := 1) hw (by simp (disch := omega) only [mset_ne, mset_eq, mrow_ne, mrow_eq, upd_eq, upd_ne]; exact h19) (by simp (disch := omega) only [mset_ne, mset_eq, mrow_ne, mrow_eq, upd_eq, upd_ne]; exact hp) hp2
  have eo' : f_X11_opensOne (J 1) (mset N 257 9 (J (P j))) = some (opN (mset N 257 9 (J (P j))) 1 wn p) := eo
  have e9 : mset (opN (mset N 257 9 (J (P j))) 1 wn p) 257 9 (J (E j)) = mset (opN N 1 wn p) 257 9 (J (E j)) := by
    unfold opN
    funext a b
    by_cases ca : a = 257
    · subst ca
      by_cases c9 : b = 9
      · subst c9; simp (disch := omega) only [mset_ne, mset_eq, mrow_ne, mrow_eq, upd_eq, upd_ne]
      · by_cases c19 : b = 19
        · subst c19; simp (disch := omega) only [mset_ne, mset_eq, mrow_ne, mrow_eq, upd_eq, upd_ne]
        · by_cases c12 : b = 12
          · subst c12; simp (disch := omega) only [mset_ne, mset_eq, mrow_ne, mrow_eq, upd_eq, upd_ne]
          · simp (disch := omega) only [mset_ne, mset_eq, mrow_ne, mrow_eq, upd_eq, upd_ne]
    · by_cases cb : a = 264
      · subst cb; simp (disch := omega) only [mset_ne, mset_eq, mrow_ne, mrow_eq, upd_eq, upd_ne]
      · simp (disch := omega) only [mset_ne, mset_eq, mrow_ne, mrow_eq, upd_eq, upd_ne]
  rcases i_sign hTo (c := 40) (by unfold isSg; omega) with ⟨s1, s2, s3, s4⟩ | ⟨s1, _⟩
  · have s4' : f_X11_sign (J 40) (opN (mset N 257 9 (J (P j))) 1 wn p) = some (mset (opN (mset N 257 9 (J (P j))) 1 wn p) 257 9 (J (E j))) := s4
    refine ⟨g1, ?_⟩
    rw [← e9]
    refine fo_step ?_
    unfold b_X11_readOpening_2 j_X11_readOpening_50_2
    simp (disch := omega) only [↓reduceIte, J_lit, Int.cast_ofNat_Int, J_lt_t, J_lt_f, J_le_t, J_le_f, J_eq_t, J_eq_f, within_t, within_f, isIn_t, isIn_f, inRow_t, inRow_f, isCell_t, isCell_f, inb_t, f0, w1, bnd2_s, sp_not, nu, hh2, g2', eo', bind_s, s4']
  · exact absurd hk s1
theorem fo_else {M N : zM} {tp : Nat → Nat} {n NN : Nat} {P E : Nat → Nat} {j q : Nat} (h : TS M N tp n NN P E j q) (hk : ¬ M 80 j = J 134) (hk2 : ¬ M 80 j = J 40) : FO N = FT (mset N 257 9 (J (P j))) := by
  have hat := TS_at h
  obtain ⟨u, w1, w2⟩ := i_word h
  have nu : ¬ u = J (pkK 6) := fun e => hk ((w2 6 (by omega)).1 e)
  have hh2 := i_here hat
  rw [mset_2] at hh2
  have hc := i_hc h
  have nh : ¬ hch tp n (P j) = 40 := fun e => hk2 ((hc.2.1 40 (by unfold isSg; omega)).1 e)
  have f0 : ¬ f_X11_fine N = J 0 := by rw [fine_t h.2.2.2.2.2.2.2]; decide
  have step : b_X11_readOpening_2 (J 1) N = some (.inl (J 0, mset N 257 9 (J (P j)))) := by
    unfold b_X11_readOpening_2
    simp (disch := omega) only [↓reduceIte, J_lit, Int.cast_ofNat_Int, J_lt_t, J_lt_f, J_le_t, J_le_f, J_eq_t, J_eq_f, within_t, within_f, isIn_t, isIn_f, inRow_t, inRow_f, isCell_t, isCell_f, inb_t, f0, w1, bnd2_s, sp_not, nu, hh2]
  unfold FO
  rw [loopW_eq]
  simp only
  rw [step]
  simp only
  rw [loopW_eq]
  have s0 : b_X11_readOpening_2 (J 0) (mset N 257 9 (J (P j))) = some (.inr (mset N 257 9 (J (P j)))) := by
    unfold b_X11_readOpening_2
    rw [if_pos (by rfl)]
  simp only
  rw [s0]
  rfl
