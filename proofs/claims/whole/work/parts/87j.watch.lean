/-! ===== a text: lines of the watch ===== -/
def FrC (M M' : zM) : Prop := (∀ j, j ≠ 78 → (j < 54 ∨ 68 ≤ j) → M' j = M j) ∧ ∀ i, i ≠ 1 → i ≠ 2 → i ≠ 7 → M' 78 i = M 78 i
def FrN (N N' : zM) : Prop := (∀ j, j ≠ 257 → j ≠ 263 → j ≠ 264 → N' j = N j) ∧ ∀ i, i ≠ 9 → i ≠ 10 → i ≠ 11 → i ≠ 12 → i ≠ 17 → i ≠ 19 → N' 257 i = N 257 i
theorem FrC_t {M M' M'' : zM} (h : FrC M M') (h' : FrC M' M'') : FrC M M'' := ⟨fun j a b => (h'.1 j a b).trans (h.1 j a b), fun i a b c => (h'.2 i a b c).trans (h.2 i a b c)⟩
theorem FrN_t {M M' M'' : zM} (h : FrN M M') (h' : FrN M' M'') : FrN M M'' := ⟨fun j a b c => (h'.1 j a b c).trans (h.1 j a b c), fun i a b c d e f => (h'.2 i a b c d e f).trans (h.2 i a b c d e f)⟩
theorem FrC_r (M : zM) : FrC M M := ⟨fun _ _ _ => rfl, fun _ _ _ _ => rfl⟩
theorem FrN_r (M : zM) : FrN M M := ⟨fun _ _ _ _ => rfl, fun _ _ _ _ _ _ _ => rfl⟩
/-- both have the same fault -/
def FL (M N : zM) : Prop := ∃ k p : Nat, p ≤ 400 ∧ M 78 1 = J k ∧ M 78 2 = J p ∧ N 257 11 = J k ∧ N 257 10 = J p
theorem FL_of {M N : zM} {k p : Nat} (hp : p ≤ 400) : FL (cF M k p) (rF N k p) := ⟨k, p, hp, by unfold cF; simp (disch := omega) only [mset_ne, mset_eq, mrow_ne, mrow_eq, upd_eq, upd_ne], by unfold cF; simp (disch := omega) only [mset_ne, mset_eq, mrow_ne, mrow_eq, upd_eq, upd_ne], by unfold rF; simp (disch := omega) only [mset_ne, mset_eq, mrow_ne, mrow_eq, upd_eq, upd_ne], by unfold rF; simp (disch := omega) only [mset_ne, mset_eq, mrow_ne, mrow_eq, upd_eq, upd_ne]⟩
theorem FrC_c (M : zM) (k p : Nat) : FrC M (cF M k p) := by unfold cF; exact ⟨fun j h1 h2 => by simp (disch := omega) only [mset_ne, mset_eq, mrow_ne, mrow_eq, upd_eq, upd_ne], fun i h1 h2 h3 => by simp (disch := omega) only [mset_ne, mset_eq, mrow_ne, mrow_eq, upd_eq, upd_ne]⟩
theorem FrN_r2 (N : zM) (k p : Nat) : FrN N (rF N k p) := by unfold rF; exact ⟨fun j h1 h2 h3 => by simp (disch := omega) only [mset_ne, mset_eq, mrow_ne, mrow_eq, upd_eq, upd_ne], fun i h1 h2 h3 h4 h5 h6 => by simp (disch := omega) only [mset_ne, mset_eq, mrow_ne, mrow_eq, upd_eq, upd_ne]⟩
theorem FrC_7 (M : zM) (v : Int32) : FrC M (mset M 78 7 v) := ⟨fun j h1 h2 => by simp (disch := omega) only [mset_ne, mset_eq, mrow_ne, mrow_eq, upd_eq, upd_ne], fun i h1 h2 h3 => by simp (disch := omega) only [mset_ne, mset_eq, mrow_ne, mrow_eq, upd_eq, upd_ne]⟩
theorem FrN_9 (N : zM) (v : Int32) : FrN N (mset N 257 9 v) := ⟨fun j h1 h2 h3 => by simp (disch := omega) only [mset_ne, mset_eq, mrow_ne, mrow_eq, upd_eq, upd_ne], fun i h1 h2 h3 h4 h5 h6 => by simp (disch := omega) only [mset_ne, mset_eq, mrow_ne, mrow_eq, upd_eq, upd_ne]⟩
theorem sp_from : f_X11_spelt (J 102) (J 114) (J 111) (J 109) (J 0) (J 0) = J (pkK 27) := by decide +kernel
theorem sp_watch : f_X11_spelt (J 119) (J 97) (J 116) (J 99) (J 104) (J 0) = J (pkK 15) := by decide +kernel
theorem sp_blind : f_X11_spelt (J 98) (J 108) (J 105) (J 110) (J 100) (J 0) = J (pkK 28) := by decide +kernel
theorem FrC_d (M : zM) {a : Nat} (h1 : 54 ≤ a) (h2 : a < 68) (i : Nat) (v : Int32) : FrC M (mset M a i v) := ⟨fun j h3 h4 => by simp (disch := omega) only [mset_ne, mset_eq, mrow_ne, mrow_eq, upd_eq, upd_ne], fun i h3 h4 h5 => by simp (disch := omega) only [mset_ne, mset_eq, mrow_ne, mrow_eq, upd_eq, upd_ne]⟩
theorem FL_d {M N : zM} {a : Nat} (h : a ≠ 78) (i : Nat) (v : Int32) (hf : FL M N) : FL (mset M a i v) N := by
  unfold FL at *
  simp (disch := omega) only [mset_ne, mset_eq, mrow_ne, mrow_eq, upd_eq, upd_ne]
  exact hf
noncomputable def cW2 (l : Nat) (M : zM) : Option ((Int32 × zM) ⊕ ((Int32 × zM) ⊕ (Int32 × zM))) := bnd2 (f_X8_readWatchers 54 M) fun u79_2 M79_2 =>
  grd (inb (J (l : Int)) 16) (
  nm (mset M79_2 (54 + 13) (ix (J (l : Int))) u79_2) fun M82_2 =>
  grd (inb (J (l : Int)) 16) (
  if (M82_2 (54 + 13) (ix (J (l : Int)))) = (-1 : Int32) then (some (.inr (.inr ((-1 : Int32), M82_2))))
  else (bnd2 (f_X5_take (59 : Int32) M82_2) fun u96_2 M96_2 =>
  if u96_2 = 0 then (some (.inr (.inr ((-1 : Int32), M96_2))))
  else (some (.inl ((J (l : Int) + (1 : Int32)), M96_2))))))
noncomputable def rW2 (l : Nat) (v : Int32) (N : zM) : Option zM := (bnd2 (f_X11_word N) fun u57 M57 => j_X11_readHour_64 (J (l : Int)) v u57 M57).bind (f_X11_sign (J 59))
theorem n_158 {N : zM} {p : Nat} (hp : p < 2147483648) (h : N 257 10 = J p) (a b c : Int32) : j_X11_readHour_158 a b c N = some N := by
  unfold j_X11_readHour_158
  rw [if_pos (show f_X11_fine N = (0 : Int32) from fine_f hp h)]
/-- the end of a line: the sign, the word laid -/
theorem l_watch3 {M N : zM} {tp : Nat → Nat} {n NN : Nat} {P E : Nat → Nat} {j q l w : Nat} (v : Int32) (h : TS M N tp n NN P E j q) (hl : l < 16) (hw : w < 10) :
    ∃ N1, j_X11_readHour_158 (J l) v (J w) N = some N1 ∧ ((∃ (j' q' : Nat) (M' N' : zM), j < j' ∧ (bnd2 (f_X5_take (J 59) (mset M 67 l (J w))) fun u96_2 M96_2 => if u96_2 = J 0 then (some (.inr (.inr ((J (-1) : Int32), M96_2))) : Option ((Int32 × zM) ⊕ ((Int32 × zM) ⊕ (Int32 × zM)))) else (some (.inl ((J (l : Int) + J 1), M96_2)))) = some (.inl (J (l + 1 : Nat), M')) ∧ f_X11_sign (J 59) N1 = some N' ∧ TS M' N' tp n NN P E j' q' ∧ M' 66 = M 66 ∧ M' 67 = upd (M 67) l (J w) ∧ N' 263 = upd (upd (N 263) (2325 + 2 * l) v) (2326 + 2 * l) (J w) ∧ FrC M M' ∧ FrN N N') ∨
      (∃ M' N' : zM, (bnd2 (f_X5_take (J 59) (mset M 67 l (J w))) fun u96_2 M96_2 => if u96_2 = J 0 then (some (.inr (.inr ((J (-1) : Int32), M96_2))) : Option ((Int32 × zM) ⊕ ((Int32 × zM) ⊕ (Int32 × zM)))) else (some (.inl ((J (l : Int) + J 1), M96_2)))) = some (.inr (.inr (J (-1), M'))) ∧ f_X11_sign (J 59) N1 = some N' ∧ FL M' N' ∧ FrC M M' ∧ FrN N N')) := by
  have ft := fine_t h.2.2.2.2.2.2.2
  have e1 : J 2325 + J 2 * J (l : Int) = J ((2325 + 2 * l : Nat) : Int) := by rw [J_mul, J_add]; exact congrArg J (by omega)
  have e2 : J ((2325 + 2 * l : Nat) : Int) + J 1 = J ((2326 + 2 * l : Nat) : Int) := by rw [J_add]; exact congrArg J (by omega)
  refine ⟨mset (mset N 263 (2325 + 2 * l) v) 263 (2326 + 2 * l) (J w), ?_, ?_⟩
  · unfold j_X11_readHour_158
    simp (disch := omega) only [↓nm_s, ↓grd_s, ↓reduceIte, J_lit, J_neg, Int.cast_ofNat_Int, J_lt_t, J_lt_f, J_le_t, J_le_f, J_eq_t, J_eq_f, within_t, within_f, isIn_t, isIn_f, inRow_t, inRow_f, isCell_t, isCell_f, inb_t, ix_Jn, ix_J, Int.reduceToNat, Int.toNat_natCast, ft, e1, e2]
  · have h' : TS (mset M 67 l (J w)) (mset (mset N 263 (2325 + 2 * l) v) 263 (2326 + 2 * l) (J w)) tp n NN P E j q := TS_fr h (by simp (disch := omega) only [mset_ne, mset_eq, mrow_ne, mrow_eq, upd_eq, upd_ne]) (by simp (disch := omega) only [mset_ne, mset_eq, mrow_ne, mrow_eq, upd_eq, upd_ne]) (by simp (disch := omega) only [mset_ne, mset_eq, mrow_ne, mrow_eq, upd_eq, upd_ne]) (by simp (disch := omega) only [mset_ne, mset_eq, mrow_ne, mrow_eq, upd_eq, upd_ne]) (by simp (disch := omega) only [mset_ne, mset_eq, mrow_ne, mrow_eq, upd_eq, upd_ne]) (by simp (disch := omega) only [mset_ne, mset_eq, mrow_ne, mrow_eq, upd_eq, upd_ne]) (by simp (disch := omega) only [mset_ne, mset_eq, mrow_ne, mrow_eq, upd_eq, upd_ne]) (by simp (disch := omega) only [mset_ne, mset_eq, mrow_ne, mrow_eq, upd_eq, upd_ne])
    have hn := TS_n h
    have fN : FrN N (mset (mset N 263 (2325 + 2 * l) v) 263 (2326 + 2 * l) (J w)) := ⟨fun j h1 h2 h3 => by simp (disch := omega) only [mset_ne, mset_eq, mrow_ne, mrow_eq, upd_eq, upd_ne], fun i h1 h2 h3 h4 h5 h6 => by simp (disch := omega) only [mset_ne, mset_eq, mrow_ne, mrow_eq, upd_eq, upd_ne]⟩
    rcases i_sign h' (c := 59) (by unfold isSg; omega) with ⟨s1, s2, s3, s4⟩ | ⟨s1, s3, s4⟩
    · left
      have s3' : f_X5_take (J 59) (mset M 67 l (J w)) = _ := s3
      refine ⟨j + 1, E j, _, _, by omega, ?_, s4, TS_next h' s2, by simp (disch := omega) only [mset_ne, mset_eq, mrow_ne, mrow_eq, upd_eq, upd_ne], ?_, ?_, FrC_t (FrC_d _ (by omega) (by omega) _ _) (FrC_7 _ _), FrN_t fN (FrN_9 _ _)⟩
      · rw [s3']
        simp (disch := omega) only [bnd2_s, ↓reduceIte, J_lt_t, J_lt_f, J_le_t, J_le_f, J_eq_t, J_eq_f, within_t, within_f, isIn_t, isIn_f, inRow_t, inRow_f, isCell_t, isCell_f, inb_t]
        rw [J_s]
      · simp (disch := omega) only [mset_ne, mset_eq, mrow_ne, mrow_eq, upd_eq, upd_ne]
      · simp (disch := omega) only [mset_ne, mset_eq, mrow_ne, mrow_eq, upd_eq, upd_ne]
    · right
      have s3' : f_X5_take (J 59) (mset M 67 l (J w)) = _ := s3
      refine ⟨cF (mset M 67 l (J w)) 1 (P j), _, ?_, s4, FL_of (by omega), FrC_t (FrC_d _ (by omega) (by omega) _ _) (FrC_c _ _ _), FrN_t fN (FrN_t (FrN_9 _ _) (FrN_r2 _ _ _))⟩
      rw [s3']
      simp (disch := omega) only [bnd2_s, ↓reduceIte, J_lt_t, J_lt_f, J_le_t, J_le_f, J_eq_t, J_eq_f, within_t, within_f, isIn_t, isIn_f, inRow_t, inRow_f, isCell_t, isCell_f, inb_t]
theorem l_watch2 {M N : zM} {tp : Nat → Nat} {n NN : Nat} {P E : Nat → Nat} {j q l : Nat} (v : Int32) (h : TS M N tp n NN P E j q) (hl : l < 16) :
    (∃ (j' q' : Nat) (M' N' : zM) (b : Int32), j < j' ∧ cW2 l M = some (.inl (J (l + 1 : Nat), M')) ∧ rW2 l v N = some N' ∧ TS M' N' tp n NN P E j' q' ∧ M' 66 = M 66 ∧ M' 67 = upd (M 67) l b ∧ N' 263 = upd (upd (N 263) (2325 + 2 * l) v) (2326 + 2 * l) b ∧ FrC M M' ∧ FrN N N') ∨
    (∃ M' N' : zM, cW2 l M = some (.inr (.inr (J (-1), M'))) ∧ rW2 l v N = some N' ∧ FL M' N' ∧ FrC M M' ∧ FrN N N') := by
  have hn := TS_n h
  have hkd := i_kind h
  obtain ⟨kk, k1, k2, k3, k4⟩ := i_kd h
  have hat := TS_at h
  obtain ⟨u, w1, w2⟩ := i_word h
  have ft := fine_t h.2.2.2.2.2.2.2
  have ftat := fine_t hat.2.2.2.2.2.2.2
  have hw15 := w2 15 (by omega)
  have hw28 := w2 28 (by omega)
  have p15 : pkK 15 < 2147483648 := by decide
  have p28 : pkK 28 < 2147483648 := by decide
  have p1528 : ¬ J (pkK 28) = J (pkK 15) := by decide +kernel
  unfold cW2 rW2 f_X8_readWatchers j_X11_readHour_64 j_X11_readHour_117
  by_cases c28 : M 80 j = J 156
  · have eu : u = J (pkK 28) := hw28.2 c28
    obtain ⟨s1, s2⟩ := i_pass hat (i := 28) (by omega) c28
    rw [mset_2] at s2
    have nx := i_next h s1
    have h1 := TS_next h s1
    obtain ⟨N1, r1, r2⟩ := l_watch3 v h1 hl (w := 0) (by omega)
    have r1' : j_X11_readHour_158 (J l) v (J 0) (mset N 257 9 (J (E j))) = some N1 := r1
    have e0 : J ((0 : Nat) : Int) = J 0 := rfl
    rw [e0] at r2
    have ne : ¬ J 0 = J (-1) := by decide
    rcases r2 with ⟨j', q', M', N', g1, g2, g3, g4, g5, g6, g7, g8, g9⟩ | ⟨M', N', g2, g3, g4, g8, g9⟩
    · left
      refine ⟨j', q', M', N', J 0, by omega, ?_, ?_, g4, by rw [g5]; simp (disch := omega) only [mset_ne, mset_eq, mrow_ne, mrow_eq, upd_eq, upd_ne], by rw [g6]; simp (disch := omega) only [mset_ne, mset_eq, mrow_ne, mrow_eq, upd_eq, upd_ne], by rw [g7]; simp (disch := omega) only [mset_ne, mset_eq, mrow_ne, mrow_eq, upd_eq, upd_ne], FrC_t (FrC_7 _ _) g8, FrN_t (FrN_9 _ _) g9⟩
      · simp (disch := omega) only [↓nm_s, ↓grd_s, ↓reduceIte, J_lit, J_neg, Int.cast_ofNat_Int, J_lt_t, J_lt_f, J_le_t, J_le_f, J_eq_t, J_eq_f, within_t, within_f, isIn_t, isIn_f, inRow_t, inRow_f, isCell_t, isCell_f, inb_t, ix_Jn, ix_J, Int.reduceToNat, Int.toNat_natCast, Nat.reduceAdd, hkd, bind_s, c28, nx, bnd2_s, mset_ne, mset_eq, mrow_ne, mrow_eq, upd_eq, upd_ne]
        exact g2
      · simp (disch := omega) only [↓nm_s, ↓grd_s, ↓reduceIte, J_lit, J_neg, Int.cast_ofNat_Int, J_lt_t, J_lt_f, J_le_t, J_le_f, J_eq_t, J_eq_f, within_t, within_f, isIn_t, isIn_f, inRow_t, inRow_f, isCell_t, isCell_f, inb_t, w1, bnd2_s, eu, ftat, sp_watch, sp_blind, p1528, s2, bind_s, r1']
        exact g3
    · right
      refine ⟨M', N', ?_, ?_, g4, FrC_t (FrC_7 _ _) g8, FrN_t (FrN_9 _ _) g9⟩
      · simp (disch := omega) only [↓nm_s, ↓grd_s, ↓reduceIte, J_lit, J_neg, Int.cast_ofNat_Int, J_lt_t, J_lt_f, J_le_t, J_le_f, J_eq_t, J_eq_f, within_t, within_f, isIn_t, isIn_f, inRow_t, inRow_f, isCell_t, isCell_f, inb_t, ix_Jn, ix_J, Int.reduceToNat, Int.toNat_natCast, Nat.reduceAdd, hkd, bind_s, c28, nx, bnd2_s, mset_ne, mset_eq, mrow_ne, mrow_eq, upd_eq, upd_ne]
        exact g2
      · simp (disch := omega) only [↓nm_s, ↓grd_s, ↓reduceIte, J_lit, J_neg, Int.cast_ofNat_Int, J_lt_t, J_lt_f, J_le_t, J_le_f, J_eq_t, J_eq_f, within_t, within_f, isIn_t, isIn_f, inRow_t, inRow_f, isCell_t, isCell_f, inb_t, w1, bnd2_s, eu, ftat, sp_watch, sp_blind, p1528, s2, bind_s, r1']
        exact g3
  · have k156 : kk ≠ 156 := fun e => c28 (by rw [k1, e]; rfl)
    have nu28 : ¬ u = J (pkK 28) := fun e => c28 (hw28.1 e)
    have k1' := k1
    by_cases c15 : M 80 j = J 143
    · have eu : u = J (pkK 15) := hw15.2 c15
      obtain ⟨s1, s2⟩ := i_pass hat (i := 15) (by omega) c15
      rw [mset_2] at s2
      have nx := i_next h s1
      have h1 := TS_next h s1
      have tk : f_X5_take (J 143) M = some (J 1, mset M 78 7 (J (j + 1 : Nat))) := by
        unfold f_X5_take
        simp (disch := omega) only [↓nm_s, ↓grd_s, ↓reduceIte, J_lit, Int.cast_ofNat_Int, J_lt_t, J_lt_f, J_le_t, J_le_f, J_eq_t, J_eq_f, within_t, within_f, isIn_t, isIn_f, inRow_t, inRow_f, isCell_t, isCell_f, inb_t, ix_Jn, ix_J, Int.reduceToNat, Int.toNat_natCast, h.2.2.2.1, c15, nx, bind_s]
      have hj1 := TS_n h1
      rcases i_num h1 (lo := 1) (hi := 9) (by omega) (by omega) (by omega) (by omega) with ⟨x, v1, v2, v3, v4, v5, v6⟩ | ⟨k, e, hk, v5, v6⟩
      · have h2 := TS_next h1 v3
        obtain ⟨N1, r1, r2⟩ := l_watch3 v h2 hl (w := x) (by omega)
        have ne : ¬ J (x : Int) = J (-1) := by
          rw [J_eq (by omega) (by omega) (by omega) (by omega)]; omega
        rcases r2 with ⟨j', q', M', N', g1, g2, g3, g4, g5, g6, g7, g8, g9⟩ | ⟨M', N', g2, g3, g4, g8, g9⟩
        · left
          refine ⟨j', q', M', N', J x, by omega, ?_, ?_, g4, by rw [g5]; simp (disch := omega) only [mset_ne, mset_eq, mrow_ne, mrow_eq, upd_eq, upd_ne], by rw [g6]; simp (disch := omega) only [mset_ne, mset_eq, mrow_ne, mrow_eq, upd_eq, upd_ne], by rw [g7]; simp (disch := omega) only [mset_ne, mset_eq, mrow_ne, mrow_eq, upd_eq, upd_ne], FrC_t (FrC_7 _ _) (FrC_t (FrC_7 _ _) g8), FrN_t (FrN_9 _ _) (FrN_t (FrN_9 _ _) g9)⟩
          · simp (disch := omega) only [↓nm_s, ↓grd_s, ↓reduceIte, J_lit, J_neg, Int.cast_ofNat_Int, J_lt_t, J_lt_f, J_le_t, J_le_f, J_eq_t, J_eq_f, within_t, within_f, isIn_t, isIn_f, inRow_t, inRow_f, isCell_t, isCell_f, inb_t, ix_Jn, ix_J, Int.reduceToNat, Int.toNat_natCast, Nat.reduceAdd, hkd, bind_s, c15, tk, v5, bnd2_s, mset_ne, mset_eq, mrow_ne, mrow_eq, upd_eq, upd_ne, ne]
            exact g2
          · simp (disch := omega) only [↓nm_s, ↓grd_s, ↓reduceIte, J_lit, J_neg, Int.cast_ofNat_Int, J_lt_t, J_lt_f, J_le_t, J_le_f, J_eq_t, J_eq_f, within_t, within_f, isIn_t, isIn_f, inRow_t, inRow_f, isCell_t, isCell_f, inb_t, w1, bnd2_s, eu, ftat, sp_watch, sp_blind, s2, bind_s, v6, r1]
            exact g3
        · right
          refine ⟨M', N', ?_, ?_, g4, FrC_t (FrC_7 _ _) (FrC_t (FrC_7 _ _) g8), FrN_t (FrN_9 _ _) (FrN_t (FrN_9 _ _) g9)⟩
          · simp (disch := omega) only [↓nm_s, ↓grd_s, ↓reduceIte, J_lit, J_neg, Int.cast_ofNat_Int, J_lt_t, J_lt_f, J_le_t, J_le_f, J_eq_t, J_eq_f, within_t, within_f, isIn_t, isIn_f, inRow_t, inRow_f, isCell_t, isCell_f, inb_t, ix_Jn, ix_J, Int.reduceToNat, Int.toNat_natCast, Nat.reduceAdd, hkd, bind_s, c15, tk, v5, bnd2_s, mset_ne, mset_eq, mrow_ne, mrow_eq, upd_eq, upd_ne, ne]
            exact g2
          · simp (disch := omega) only [↓nm_s, ↓grd_s, ↓reduceIte, J_lit, J_neg, Int.cast_ofNat_Int, J_lt_t, J_lt_f, J_le_t, J_le_f, J_eq_t, J_eq_f, within_t, within_f, isIn_t, isIn_f, inRow_t, inRow_f, isCell_t, isCell_f, inb_t, w1, bnd2_s, eu, ftat, sp_watch, sp_blind, s2, bind_s, v6, r1]
            exact g3
      · right
        have nf : rF (mset (mset N 257 9 (J (E j))) 257 9 (J e)) k (P (j + 1)) 257 10 = J (P (j + 1)) := rF_10 _ _ _
        have hpl : P (j + 1) < 2147483648 := by omega
        have ff := fine_f hpl nf
        refine ⟨mset (cF (mset M 78 7 (J (j + 1 : Nat))) k (P (j + 1))) 67 l (J (-1)), rF (mset (mset N 257 9 (J (E j))) 257 9 (J e)) k (P (j + 1)), ?_, ?_, FL_d (by decide) _ _ (FL_of (by omega)), FrC_t (FrC_7 _ _) (FrC_t (FrC_c _ _ _) (FrC_d _ (by omega) (by omega) _ _)), FrN_t (FrN_9 _ _) (FrN_t (FrN_9 _ _) (FrN_r2 _ _ _))⟩
        · simp (disch := omega) only [↓nm_s, ↓grd_s, ↓reduceIte, J_lit, J_neg, Int.cast_ofNat_Int, J_lt_t, J_lt_f, J_le_t, J_le_f, J_eq_t, J_eq_f, within_t, within_f, isIn_t, isIn_f, inRow_t, inRow_f, isCell_t, isCell_f, inb_t, ix_Jn, ix_J, Int.reduceToNat, Int.toNat_natCast, Nat.reduceAdd, hkd, bind_s, c15, tk, v5, bnd2_s, mset_ne, mset_eq, mrow_ne, mrow_eq, upd_eq, upd_ne]
        · simp (disch := omega) only [↓nm_s, ↓grd_s, ↓reduceIte, J_lit, J_neg, Int.cast_ofNat_Int, J_lt_t, J_lt_f, J_le_t, J_le_f, J_eq_t, J_eq_f, within_t, within_f, isIn_t, isIn_f, inRow_t, inRow_f, isCell_t, isCell_f, inb_t, w1, bnd2_s, eu, ftat, sp_watch, sp_blind, s2, bind_s, v6, n_158 hpl nf, n_sign hpl nf]
    · have k143 : kk ≠ 143 := fun e => c15 (by rw [k1, e]; rfl)
      have nu15 : ¬ u = J (pkK 15) := fun e => c15 (hw15.1 e)
      right
      have f1 : f_X5_fail (J 1) M = some (J 0, cF M 1 (P j)) := i_fail h (J 1)
      have isb : isB (J 0) := Or.inl rfl
      have tk : f_X5_take (J 143) M = some (J 0, cF M 1 (P j)) := by
        unfold f_X5_take
        simp (disch := omega) only [↓nm_s, ↓grd_s, ↓reduceIte, J_lit, Int.cast_ofNat_Int, J_lt_t, J_lt_f, J_le_t, J_le_f, J_eq_t, J_eq_f, within_t, within_f, isIn_t, isIn_f, inRow_t, inRow_f, isCell_t, isCell_f, inb_t, ix_Jn, ix_J, Int.reduceToNat, Int.toNat_natCast, h.2.2.2.1, k1, f1, bnd2_s]
        rw [if_pos isb]
      have e9 : mset N 257 9 (J (P j)) 257 9 = J (P j) := by simp (disch := omega) only [mset_ne, mset_eq, mrow_ne, mrow_eq, upd_eq, upd_ne]
      have hw : f_X11_wrong (J 1) (J (P j)) (mset N 257 9 (J (P j))) = some (rF (mset N 257 9 (J (P j))) 1 (P j)) := r_wrong hat.2.2.2.2.2.2.2 1 (P j)
      have nf : rF (mset N 257 9 (J (P j))) 1 (P j) 257 10 = J (P j) := rF_10 _ _ _
      have hpl : P j < 2147483648 := by omega
      have ff := fine_f hpl nf
      refine ⟨mset (cF M 1 (P j)) 67 l (J (-1)), rF (mset N 257 9 (J (P j))) 1 (P j), ?_, ?_, FL_d (by decide) _ _ (FL_of (by omega)), FrC_t (FrC_c _ _ _) (FrC_d _ (by omega) (by omega) _ _), FrN_t (FrN_9 _ _) (FrN_r2 _ _ _)⟩
      · simp (disch := omega) only [↓nm_s, ↓grd_s, ↓reduceIte, J_lit, J_neg, Int.cast_ofNat_Int, J_lt_t, J_lt_f, J_le_t, J_le_f, J_eq_t, J_eq_f, within_t, within_f, isIn_t, isIn_f, inRow_t, inRow_f, isCell_t, isCell_f, inb_t, ix_Jn, ix_J, Int.reduceToNat, Int.toNat_natCast, Nat.reduceAdd, hkd, bind_s, k1, tk, bnd2_s, mset_ne, mset_eq, mrow_ne, mrow_eq, upd_eq, upd_ne]
      · simp (disch := omega) only [↓nm_s, ↓grd_s, ↓reduceIte, J_lit, J_neg, Int.cast_ofNat_Int, J_lt_t, J_lt_f, J_le_t, J_le_f, J_eq_t, J_eq_f, within_t, within_f, isIn_t, isIn_f, inRow_t, inRow_f, isCell_t, isCell_f, inb_t, w1, bnd2_s, nu15, nu28, ftat, sp_watch, sp_blind, e9, hw, bind_s, ff, n_sign hpl nf]
theorem l_watch {M N : zM} {tp : Nat → Nat} {n NN : Nat} {P E : Nat → Nat} {j q l : Nat} (h : TS M N tp n NN P E j q) (hj : j < NN) (hl : l ≤ 16) :
    (∃ (j' q' : Nat) (M' N' : zM) (a b : Int32), j < j' ∧ l < 16 ∧ b_X8_readWatch_2 54 (J l) M = some (.inl (J (l + 1 : Nat), M')) ∧ (f_X11_readHour (J l) (mset N 257 9 (J (P j)))).bind (f_X11_sign (J 59)) = some N' ∧ TS M' N' tp n NN P E j' q' ∧ M' 66 = upd (M 66) l a ∧ M' 67 = upd (M 67) l b ∧ N' 263 = upd (upd (N 263) (2325 + 2 * l) a) (2326 + 2 * l) b ∧ FrC M M' ∧ FrN N N') ∨
    (∃ M' N' : zM, b_X8_readWatch_2 54 (J l) M = some (.inr (.inr (J (-1), M'))) ∧ (f_X11_readHour (J l) (mset N 257 9 (J (P j)))).bind (f_X11_sign (J 59)) = some N' ∧ FL M' N' ∧ FrC M M' ∧ FrN N N') := by
  have hn := TS_n h
  have hkd := i_kind h
  obtain ⟨kk, k1, k2, k3, k4⟩ := i_kd h
  have hk0 : kk ≠ 0 := fun e => by have := k3.1 e; omega
  have hat := TS_at h
  obtain ⟨u, w1, w2⟩ := i_word hat
  rw [mset_2] at w1
  have hw27 := w2 27 (by omega)
  -- the beginning
  obtain ⟨u1, u2, bu1, bu2, cbeg, rbeg⟩ : ∃ u1 u2, Bo u1 (M 80 j = J 155) ∧ Bo u2 (l = 16) ∧ b_X8_readWatch_2 54 (J l) M = j_X8_readWatch_31_2 54 (J l) u1 M ∧ f_X11_readHour (J l) (mset N 257 9 (J (P j))) = j_X11_readHour_37 (J l) u1 u2 (mset N 257 9 (J (P j))) := by
    unfold b_X8_readWatch_2 f_X11_readHour j_X11_readHour_26
    by_cases c1 : M 80 j = J 155
    · have c1' : u = J (pkK 27) := hw27.2 c1
      have ek : kk = 155 := by rw [k1, J_eq (by omega) (by omega) (by omega) (by omega)] at c1; omega
      subst ek
      by_cases c2 : l = 16
      · refine ⟨J 1, J 1, Or.inl ⟨rfl, c1⟩, Or.inl ⟨rfl, c2⟩, ?_, ?_⟩
        · simp (disch := omega) only [↓nm_s, ↓reduceIte, J_lit, Int.cast_ofNat_Int, J_lt_t, J_lt_f, J_le_t, J_le_f, J_eq_t, J_eq_f, within_t, within_f, isIn_t, isIn_f, inRow_t, inRow_f, isCell_t, isCell_f, inb_t, hkd, bind_s, k1]
        · simp (disch := omega) only [↓nm_s, ↓reduceIte, J_lit, Int.cast_ofNat_Int, J_lt_t, J_lt_f, J_le_t, J_le_f, J_eq_t, J_eq_f, within_t, within_f, isIn_t, isIn_f, inRow_t, inRow_f, isCell_t, isCell_f, inb_t, w1, bnd2_s, sp_from, c1']
      · refine ⟨J 1, J 0, Or.inl ⟨rfl, c1⟩, Or.inr ⟨rfl, c2⟩, ?_, ?_⟩
        · simp (disch := omega) only [↓nm_s, ↓reduceIte, J_lit, Int.cast_ofNat_Int, J_lt_t, J_lt_f, J_le_t, J_le_f, J_eq_t, J_eq_f, within_t, within_f, isIn_t, isIn_f, inRow_t, inRow_f, isCell_t, isCell_f, inb_t, hkd, bind_s, k1]
        · simp (disch := omega) only [↓nm_s, ↓reduceIte, J_lit, Int.cast_ofNat_Int, J_lt_t, J_lt_f, J_le_t, J_le_f, J_eq_t, J_eq_f, within_t, within_f, isIn_t, isIn_f, inRow_t, inRow_f, isCell_t, isCell_f, inb_t, w1, bnd2_s, sp_from, c1']
    · have c1' : ¬ u = J (pkK 27) := fun e => c1 (hw27.1 e)
      have ek : kk ≠ 155 := fun e => c1 (by rw [k1, e]; rfl)
      by_cases c2 : l = 16
      · refine ⟨J 0, J 1, Or.inr ⟨rfl, c1⟩, Or.inl ⟨rfl, c2⟩, ?_, ?_⟩
        · simp (disch := omega) only [↓nm_s, ↓reduceIte, J_lit, Int.cast_ofNat_Int, J_lt_t, J_lt_f, J_le_t, J_le_f, J_eq_t, J_eq_f, within_t, within_f, isIn_t, isIn_f, inRow_t, inRow_f, isCell_t, isCell_f, inb_t, hkd, bind_s, k1]
        · simp (disch := omega) only [↓nm_s, ↓reduceIte, J_lit, Int.cast_ofNat_Int, J_lt_t, J_lt_f, J_le_t, J_le_f, J_eq_t, J_eq_f, within_t, within_f, isIn_t, isIn_f, inRow_t, inRow_f, isCell_t, isCell_f, inb_t, w1, bnd2_s, sp_from, c1']
      · refine ⟨J 0, J 0, Or.inr ⟨rfl, c1⟩, Or.inr ⟨rfl, c2⟩, ?_, ?_⟩
        · simp (disch := omega) only [↓nm_s, ↓reduceIte, J_lit, Int.cast_ofNat_Int, J_lt_t, J_lt_f, J_le_t, J_le_f, J_eq_t, J_eq_f, within_t, within_f, isIn_t, isIn_f, inRow_t, inRow_f, isCell_t, isCell_f, inb_t, hkd, bind_s, k1]
        · simp (disch := omega) only [↓nm_s, ↓reduceIte, J_lit, Int.cast_ofNat_Int, J_lt_t, J_lt_f, J_le_t, J_le_f, J_eq_t, J_eq_f, within_t, within_f, isIn_t, isIn_f, inRow_t, inRow_f, isCell_t, isCell_f, inb_t, w1, bnd2_s, sp_from, c1']
  rw [cbeg, rbeg]
  unfold j_X8_readWatch_31_2 j_X11_readHour_37
  have ne10 : ¬ J 1 = J 0 := by decide
  rcases i_begin hat (M 80 j = J 155) (l = 16) (fun e => ⟨27, by omega, e⟩) bu1 bu2 (x := l) (y := 16) (by omega) (by omega) (by omega) with ⟨b1, b2, b3, b4, b5⟩ | ⟨k, hk, b4, b5⟩
  rotate_left
  · -- it doesn't begin so
    right
    have nf : rF (mset N 257 9 (J (P j))) k (P j) 257 10 = J (P j) := rF_10 _ _ _
    have hpl : P j < 2147483648 := by omega
    have ff := fine_f hpl nf
    refine ⟨cF M k (P j), rF (mset N 257 9 (J (P j))) k (P j), ?_, ?_, FL_of (by omega), FrC_c _ _ _, FrN_t (FrN_9 _ _) (FrN_r2 _ _ _)⟩
    · simp (disch := omega) only [↓nm_s, ↓reduceIte, J_lit, J_neg, Int.cast_ofNat_Int, J_lt_t, J_lt_f, J_le_t, J_le_f, J_eq_t, J_eq_f, within_t, within_f, isIn_t, isIn_f, inRow_t, inRow_f, isCell_t, isCell_f, inb_t, b4, bnd2_s]
    · unfold j_X11_readHour_64 j_X11_readHour_117
      simp (disch := omega) only [↓nm_s, ↓reduceIte, J_lit, J_neg, Int.cast_ofNat_Int, J_lt_t, J_lt_f, J_le_t, J_le_f, J_eq_t, J_eq_f, within_t, within_f, isIn_t, isIn_f, inRow_t, inRow_f, isCell_t, isCell_f, inb_t, b5, bind_s, n_number hpl nf, bnd2_s, ff, n_sign hpl nf]
  · rw [mset_2] at b5
    have nx1 := i_next h b3
    have h1 := TS_next h b3
    rcases i_num h1 (lo := 0) (hi := 999) (by omega) (by omega) (by omega) (by omega) with ⟨v, v1, v2, v3, v4, v5, v6⟩ | ⟨k, e, hk, v5, v6⟩
    rotate_left
    · -- no such minute
      right
      have hn1 := TS_n h1
      have nf : rF (mset (mset N 257 9 (J (E j))) 257 9 (J e)) k (P (j + 1)) 257 10 = J (P (j + 1)) := rF_10 _ _ _
      have hpl : P (j + 1) < 2147483648 := by omega
      have ff := fine_f hpl nf
      refine ⟨mset (cF (mset M 78 7 (J (j + 1 : Nat))) k (P (j + 1))) 66 l (J (-1)), rF (mset (mset N 257 9 (J (E j))) 257 9 (J e)) k (P (j + 1)), ?_, ?_, ?_, ?_, FrN_t (FrN_9 _ _) (FrN_t (FrN_9 _ _) (FrN_r2 _ _ _))⟩
      · simp (disch := omega) only [↓nm_s, ↓grd_s, ↓reduceIte, J_lit, J_neg, Int.cast_ofNat_Int, J_lt_t, J_lt_f, J_le_t, J_le_f, J_eq_t, J_eq_f, within_t, within_f, isIn_t, isIn_f, inRow_t, inRow_f, isCell_t, isCell_f, inb_t, ix_Jn, ix_J, Int.reduceToNat, Int.toNat_natCast, Nat.reduceAdd, b4, bnd2_s, nx1, bind_s, v5, mset_ne, mset_eq, mrow_ne, mrow_eq, upd_eq, upd_ne]
      · unfold j_X11_readHour_64 j_X11_readHour_117
        simp (disch := omega) only [↓nm_s, ↓reduceIte, J_lit, J_neg, Int.cast_ofNat_Int, J_lt_t, J_lt_f, J_le_t, J_le_f, J_eq_t, J_eq_f, within_t, within_f, isIn_t, isIn_f, inRow_t, inRow_f, isCell_t, isCell_f, inb_t, b5, bind_s, v6, bnd2_s, ff, n_sign hpl nf]
      · have := FL_of (M := mset M 78 7 (J (j + 1 : Nat))) (N := mset (mset N 257 9 (J (E j))) 257 9 (J e)) (k := k) (p := P (j + 1)) (by omega)
        unfold FL at *
        simp (disch := omega) only [mset_ne, mset_eq, mrow_ne, mrow_eq, upd_eq, upd_ne]
        exact this
      · exact FrC_t (FrC_7 _ _) (FrC_t (FrC_c _ _ _) (FrC_d _ (by omega) (by omega) _ _))
    · have h2 := TS_next h1 v3
      have ft2 := fine_t h2.2.2.2.2.2.2.2
      have h2' : TS (mset (mset M 78 7 (J (j + 1 + 1 : Nat))) 66 l (J v)) (mset N 257 9 (J (E (j + 1)))) tp n NN P E (j + 1 + 1) (E (j + 1)) := by
        rw [mset_2, mset_2] at h2
        exact TS_fr h2 (by simp (disch := omega) only [mset_ne, mset_eq, mrow_ne, mrow_eq, upd_eq, upd_ne]) (by simp (disch := omega) only [mset_ne, mset_eq, mrow_ne, mrow_eq, upd_eq, upd_ne]) (by simp (disch := omega) only [mset_ne, mset_eq, mrow_ne, mrow_eq, upd_eq, upd_ne]) (by simp (disch := omega) only [mset_ne, mset_eq, mrow_ne, mrow_eq, upd_eq, upd_ne]) rfl rfl rfl rfl
      rw [mset_2] at v5 v6
      have ft2' : f_X11_fine (mset N 257 9 (J (E (j + 1)))) = J 1 := fine_t h2'.2.2.2.2.2.2.2
      have ne : ¬ J (v : Int) = J (-1) := by
        rw [J_eq (by omega) (by omega) (by omega) (by omega)]; omega
      have hc : ∀ o, cW2 l (mset (mset M 78 7 (J (j + 1 + 1 : Nat))) 66 l (J v)) = o → (bnd2 (f_X5_opens u1 (J l) (16 : Int32) M) fun u34_2 M34_2 => if u34_2 = 0 then (some (.inr (.inr ((-1 : Int32), M34_2))) : Option ((Int32 × zM) ⊕ ((Int32 × zM) ⊕ (Int32 × zM)))) else ((f_X5_next M34_2).bind fun M43_2 => bnd2 (f_X5_number (0 : Int32) (999 : Int32) M43_2) fun u56_2 M56_2 => grd (inb (J (l : Int)) 16) (nm (mset M56_2 (54 + 12) (ix (J (l : Int))) u56_2) fun M59_2 => grd (inb (J (l : Int)) 16) (if (M59_2 (54 + 12) (ix (J (l : Int)))) = (-1 : Int32) then (some (.inr (.inr ((-1 : Int32), M59_2)))) else cW2 l M59_2)))) = o := by
        intro o ho
        simp (disch := omega) only [↓nm_s, ↓grd_s, ↓reduceIte, J_lit, J_neg, Int.cast_ofNat_Int, J_lt_t, J_lt_f, J_le_t, J_le_f, J_eq_t, J_eq_f, within_t, within_f, isIn_t, isIn_f, inRow_t, inRow_f, isCell_t, isCell_f, inb_t, ix_Jn, ix_J, Int.reduceToNat, Int.toNat_natCast, Nat.reduceAdd, b4, bnd2_s, nx1, bind_s, v5, mset_ne, mset_eq, mrow_ne, mrow_eq, upd_eq, upd_ne, ne]
        exact ho
      have hr : ∀ o, rW2 l (J v) (mset N 257 9 (J (E (j + 1)))) = o → ((f_X11_mayBegin u1 u2 (mset N 257 9 (J (P j)))).bind fun M37 => bnd2 (f_X11_number (0 : Int32) (999 : Int32) M37) fun u45 M45 => if (f_X11_fine M45) = 0 then (j_X11_readHour_64 (J l) u45 (0 : Int32) M45) else (bnd2 (f_X11_word M45) fun u57 M57 => j_X11_readHour_64 (J l) u45 u57 M57)).bind (f_X11_sign (J 59)) = o := by
        intro o ho
        simp (disch := omega) only [↓nm_s, ↓grd_s, ↓reduceIte, J_lit, J_neg, Int.cast_ofNat_Int, J_lt_t, J_lt_f, J_le_t, J_le_f, J_eq_t, J_eq_f, within_t, within_f, isIn_t, isIn_f, inRow_t, inRow_f, isCell_t, isCell_f, inb_t, b5, bind_s, v6, bnd2_s, ft2']
        exact ho
      rcases l_watch2 (J v) h2' (show l < 16 by omega) with ⟨j', q', M', N', b, g1, g2, g3, g4, g5, g6, g7, g8, g9⟩ | ⟨M', N', g2, g3, g4, g8, g9⟩
      · left
        refine ⟨j', q', M', N', J v, b, by omega, by omega, hc _ g2, hr _ g3, g4, by rw [g5]; simp (disch := omega) only [mset_ne, mset_eq, mrow_ne, mrow_eq, upd_eq, upd_ne], by rw [g6]; simp (disch := omega) only [mset_ne, mset_eq, mrow_ne, mrow_eq, upd_eq, upd_ne], by rw [g7]; simp (disch := omega) only [mset_ne, mset_eq, mrow_ne, mrow_eq, upd_eq, upd_ne], FrC_t (FrC_7 _ _) (FrC_t (FrC_d _ (by omega) (by omega) _ _) g8), FrN_t (FrN_9 _ _) g9⟩
      · right
        exact ⟨M', N', hc _ g2, hr _ g3, g4, FrC_t (FrC_7 _ _) (FrC_t (FrC_d _ (by omega) (by omega) _ _) g8), FrN_t (FrN_9 _ _) g9⟩
