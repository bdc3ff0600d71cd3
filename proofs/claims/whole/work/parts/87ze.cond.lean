/-! ===== a law: too deep; what goes on ===== -/
theorem two_bad {N : zM} {p : Nat} (hp : p < 2147483648) (h : N 257 10 = J p) : f_X11_readTwo N = some N := by
  have ff := fine_f hp h
  unfold f_X11_readTwo j_X11_readTwo_19 j_X11_readTwo_54 j_X11_readTwo_71 j_X11_readTwo_100
  rw [readSum_bad hp h]
  simp only [bind_s]
  rw [if_pos (show f_X11_fine N = (0 : Int32) from ff), if_pos (show f_X11_fine N = (0 : Int32) from ff), if_pos (show f_X11_fine N = (0 : Int32) from ff), readSum_bad hp h]
  simp only [bind_s, n_codes hp h]
  split
  · rfl
  · split <;> rfl
theorem ft_bad {N : zM} {p : Nat} (hp : p < 2147483648) (h : N 257 10 = J p) : FT N = some N := by
  unfold FT
  rw [two_bad hp h]
  simp only [bind_s]
  rw [if_pos (fine_f hp h)]
  exact fc_bad hp h
theorem fo_bad {N : zM} {p : Nat} (hp : p < 2147483648) (h : N 257 10 = J p) : FO N = some N := by
  unfold FO
  rw [loopW_eq]
  have s0 : b_X11_readOpening_2 (J 1) N = some (.inr N) := by
    unfold b_X11_readOpening_2
    rw [if_neg (show ¬ J 1 = (0 : Int32) by decide), if_pos (show f_X11_fine N = (0 : Int32) from fine_f hp h)]
  simp only
  rw [s0]
  exact ft_bad hp h
theorem fo_deep {M N : zM} {tp : Nat → Nat} {n NN : Nat} {P E : Nat → Nat} {j q wn : Nat} (h : TS M N tp n NN P E j q) (hk : M 80 j = J 134 ∨ M 80 j = J 40) (hw : wn < 420) (h19 : N 257 19 = J wn) (hp : N 257 12 = J 8) : ∃ N', FO N = some N' ∧ N' 257 10 = J (P j) ∧ N' 257 11 = J 3 ∧ FrN N N' := by
  have hn := TS_n h
  have hat := TS_at h
  have hpl : P j < 2147483648 := by omega
  obtain ⟨u, w1, w2⟩ := i_word h
  have hh2 := i_here hat
  rw [mset_2] at hh2
  have f0 : ¬ f_X11_fine N = J 0 := by rw [fine_t h.2.2.2.2.2.2.2]; decide
  have e9 : mset N 257 9 (J (P j)) 257 9 = J (P j) := by simp (disch := omega) only [mset_ne, mset_eq, mrow_ne, mrow_eq, upd_eq, upd_ne]
  have hw3 : f_X11_wrong (J 3) (J (P j)) (mset N 257 9 (J (P j))) = some (rF (mset N 257 9 (J (P j))) 3 (P j)) := r_wrong hat.2.2.2.2.2.2.2 3 (P j)
  have h12 : mset N 257 9 (J (P j)) 257 12 = J 8 := by simp (disch := omega) only [mset_ne, mset_eq, mrow_ne, mrow_eq, upd_eq, upd_ne]; exact hp
  have r12 : rF (mset N 257 9 (J (P j))) 3 (P j) 257 12 = J 8 := by unfold rF; simp (disch := omega) only [mset_ne, mset_eq, mrow_ne, mrow_eq, upd_eq, upd_ne]; exact hp
  have r19 : rF (mset N 257 9 (J (P j))) 3 (P j) 257 19 = J wn := by unfold rF; simp (disch := omega) only [mset_ne, mset_eq, mrow_ne, mrow_eq, upd_eq, upd_ne]; exact h19
  have eo : ∀ c : Nat, f_X11_opensOne (J c) (mset N 257 9 (J (P j))) = some (opN (rF (mset N 257 9 (J (P j))) 3 (P j)) c wn 8) := by
    intro c
    unfold f_X11_opensOne j_X11_opensOne_18 opN
    simp (disch := omega) only [↓nm_s, ↓grd_s, ↓reduceIte, J_lit, Int.cast_ofNat_Int, h12, e9, hw3, bind_s, r12, r19, J_lt_t, J_lt_f, J_le_t, J_le_f, J_eq_t, J_eq_f, within_t, within_f, isIn_t, isIn_f, inRow_t, inRow_f, isCell_t, isCell_f, inb_t, ix_Jn, ix_J, Int.reduceToNat, Int.toNat_natCast, mset_ne, mset_eq, mrow_ne, mrow_eq, upd_eq, upd_ne]
    rw [J_s]
    rfl
  have nb : ∀ c : Nat, opN (rF (mset N 257 9 (J (P j))) 3 (P j)) c wn 8 257 10 = J (P j) := fun c => by unfold opN rF; simp (disch := omega) only [mset_ne, mset_eq, mrow_ne, mrow_eq, upd_eq, upd_ne]
  have nb2 : ∀ c : Nat, opN (rF (mset N 257 9 (J (P j))) 3 (P j)) c wn 8 257 11 = J 3 := fun c => by unfold opN rF; simp (disch := omega) only [mset_ne, mset_eq, mrow_ne, mrow_eq, upd_eq, upd_ne]; rfl
  have fr : ∀ c : Nat, FrN N (opN (rF (mset N 257 9 (J (P j))) 3 (P j)) c wn 8) := fun c => ⟨fun j h1 h2 h3 => by unfold opN rF; simp (disch := omega) only [mset_ne, mset_eq, mrow_ne, mrow_eq, upd_eq, upd_ne], fun i h1 h2 h3 h4 h5 h6 => by unfold opN rF; simp (disch := omega) only [mset_ne, mset_eq, mrow_ne, mrow_eq, upd_eq, upd_ne]⟩
  rcases hk with hk | hk
  · have eu : u = J (pkK 6) := (w2 6 (by omega)).2 hk
    have eo' : f_X11_opensOne (J 2) (mset N 257 9 (J (P j))) = some (opN (rF (mset N 257 9 (J (P j))) 3 (P j)) 2 wn 8) := eo 2
    have ff : f_X11_fine (opN (rF (mset N 257 9 (J (P j))) 3 (P j)) 2 wn 8) = J 0 := fine_f hpl (nb 2)
    refine ⟨opN (rF (mset N 257 9 (J (P j))) 3 (P j)) 2 wn 8, ?_, nb 2, nb2 2, fr 2⟩
    rw [fo_step (N1 := opN (rF (mset N 257 9 (J (P j))) 3 (P j)) 2 wn 8) ?_]
    · exact fo_bad hpl (nb 2)
    · unfold b_X11_readOpening_2 j_X11_readOpening_50_2
      simp (disch := omega) only [↓reduceIte, J_lit, Int.cast_ofNat_Int, J_lt_t, J_lt_f, J_le_t, J_le_f, J_eq_t, J_eq_f, within_t, within_f, isIn_t, isIn_f, inRow_t, inRow_f, isCell_t, isCell_f, inb_t, f0, w1, bnd2_s, sp_not, eu, eo', bind_s, ff]
  · obtain ⟨g1, g2, g3⟩ := sg_go h (c := 40) (by unfold isSg; omega) hk
    have nu : ¬ u = J (pkK 6) := fun e => by
      have := (w2 6 (by omega)).1 e
      rw [hk] at this
      exact absurd this (by decide)
    have g2' : J (hch tp n (P j) : Int) = J 40 := g2
    have eo' : f_X11_opensOne (J 1) (mset N 257 9 (J (P j))) = some (opN (rF (mset N 257 9 (J (P j))) 3 (P j)) 1 wn 8) := eo 1
    have ns := n_sign hpl (nb 1) (J 40)
    refine ⟨opN (rF (mset N 257 9 (J (P j))) 3 (P j)) 1 wn 8, ?_, nb 1, nb2 1, fr 1⟩
    rw [fo_step (N1 := opN (rF (mset N 257 9 (J (P j))) 3 (P j)) 1 wn 8) ?_]
    · exact fo_bad hpl (nb 1)
    · unfold b_X11_readOpening_2
      simp (disch := omega) only [↓reduceIte, J_lit, Int.cast_ofNat_Int, J_lt_t, J_lt_f, J_le_t, J_le_f, J_eq_t, J_eq_f, within_t, within_f, isIn_t, isIn_f, inRow_t, inRow_f, isCell_t, isCell_f, inb_t, f0, w1, bnd2_s, sp_not, nu, hh2, g2', eo', bind_s, ns]
/-- the class's opening -/
theorem c_opens {M N : zM} {tp : Nat → Nat} {n NN : Nat} {P E : Nat → Nat} {j q p : Nat} (h : TS M N tp n NN P E j q) (hp : p ≤ 8) : f_X5_opens (J 1) (J p) (J 8) M = some (if p < 8 then (J 1, M) else (J 0, cF M 3 (P j))) := by
  have f3 : f_X5_fail (J 3) M = some (J 0, cF M 3 (P j)) := i_fail h (J 3)
  unfold f_X5_opens
  by_cases c : p < 8
  · rw [if_pos c]
    simp (disch := omega) only [↓nm_s, ↓grd_s, ↓reduceIte, J_lit, J_neg, Int.cast_ofNat_Int, J_lt_t, J_lt_f, J_le_t, J_le_f, J_eq_t, J_eq_f, within_t, within_f, isIn_t, isIn_f, inRow_t, inRow_f, isCell_t, isCell_f, inb_t]
  · rw [if_neg c]
    simp (disch := omega) only [↓nm_s, ↓grd_s, ↓reduceIte, J_lit, J_neg, Int.cast_ofNat_Int, J_lt_t, J_lt_f, J_le_t, J_le_f, J_eq_t, J_eq_f, within_t, within_f, isIn_t, isIn_f, inRow_t, inRow_f, isCell_t, isCell_f, inb_t, f3, bnd2_s]
