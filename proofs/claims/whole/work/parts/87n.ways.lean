/-! ===== a line of ways ===== -/
theorem sp_walker : f_X11_spelt (J 119) (J 97) (J 108) (J 107) (J 101) (J 114) = J (pkK 21) := by decide +kernel
theorem sp_ahead : f_X11_spelt (J 97) (J 104) (J 101) (J 97) (J 100) (J 0) = J (pkK 22) := by decide +kernel
theorem sp_left : f_X11_spelt (J 108) (J 101) (J 102) (J 116) (J 0) (J 0) = J (pkK 23) := by decide +kernel
theorem sp_right : f_X11_spelt (J 114) (J 105) (J 103) (J 104) (J 116) (J 0) = J (pkK 24) := by decide +kernel
theorem sp_back : f_X11_spelt (J 98) (J 97) (J 99) (J 107) (J 0) (J 0) = J (pkK 25) := by decide +kernel
theorem sp_wait : f_X11_spelt (J 119) (J 97) (J 105) (J 116) (J 0) (J 0) = J (pkK 26) := by decide +kernel
theorem wayW {u : Int32} {kk : Nat} (hk80 : ∀ i : Nat, i < 29 → (u = J (pkK i) ↔ kk = 128 + i)) :
    (∃ v : Nat, v < 5 ∧ 150 ≤ kk ∧ kk ≤ 154 ∧ f_X11_wayWord u = J v ∧ WdR (J kk) (J v) ∧ (3 ≤ v ↔ kk = 150 ∨ kk = 154)) ∨ ((kk < 150 ∨ 154 < kk) ∧ f_X11_wayWord u = J (-1)) := by
  have h22 := hk80 22 (by omega)
  have h23 := hk80 23 (by omega)
  have h24 := hk80 24 (by omega)
  have h25 := hk80 25 (by omega)
  have h26 := hk80 26 (by omega)
  unfold f_X11_wayWord
  simp only [J_lit, Int.cast_ofNat_Int, sp_left, sp_right, sp_back, sp_ahead, sp_wait]
  by_cases c23 : kk = 151
  · rw [if_pos (h23.2 c23)]
    exact Or.inl ⟨0, by omega, by omega, by omega, rfl, by subst c23; exact Or.inr (Or.inl ⟨rfl, rfl⟩), by omega⟩
  · rw [if_neg (fun e => c23 (h23.1 e))]
    by_cases c24 : kk = 152
    · rw [if_pos (h24.2 c24)]
      exact Or.inl ⟨1, by omega, by omega, by omega, rfl, by subst c24; exact Or.inr (Or.inr (Or.inl ⟨rfl, rfl⟩)), by omega⟩
    · rw [if_neg (fun e => c24 (h24.1 e))]
      by_cases c25 : kk = 153
      · rw [if_pos (h25.2 c25)]
        exact Or.inl ⟨2, by omega, by omega, by omega, rfl, by subst c25; exact Or.inr (Or.inr (Or.inr (Or.inl ⟨rfl, rfl⟩))), by omega⟩
      · rw [if_neg (fun e => c25 (h25.1 e))]
        by_cases c22 : kk = 150
        · rw [if_pos (h22.2 c22)]
          exact Or.inl ⟨3, by omega, by omega, by omega, rfl, by subst c22; exact Or.inl ⟨rfl, rfl⟩, by omega⟩
        · rw [if_neg (fun e => c22 (h22.1 e))]
          by_cases c26 : kk = 154
          · rw [if_pos (h26.2 c26)]
            exact Or.inl ⟨4, by omega, by omega, by omega, rfl, by subst c26; exact Or.inr (Or.inr (Or.inr (Or.inr ⟨rfl, rfl⟩))), by omega⟩
          · rw [if_neg (fun e => c26 (h26.1 e))]
            exact Or.inr ⟨by omega, rfl⟩
/-- a word of a way laid -/
theorem way_lay {M N : zM} {tp : Nat → Nat} {n NN : Nat} {P E : Nat → Nat} {j q w i : Nat} (u v : Int32) {A : Nat} (h : TS M N tp n NN P E j q) (hw : w < 16) (hi : i < 12) (hA : A ≤ 11) (hA1 : 1 ≤ A) :
    ∃ M' N', j_X8_readWay_87_2 54 (J w) (J i) u (J A) M = some (.inl (J (i + 1 : Nat), M')) ∧ j_X11_readWay_139_70 (J (1925 + 25 * w : Nat)) (J i) v (J A) N = some (.inl (J (i + 1 : Nat), N')) ∧ TS M' N' tp n NN P E j q ∧ M' 63 = M 63 ∧ M' 64 = upd (M 64) (12 * w + i) u ∧ M' 65 = upd (M 65) (12 * w + i) (J A) ∧ N' 263 = upd (upd (N 263) (1926 + 25 * w + 2 * i) v) (1927 + 25 * w + 2 * i) (J A) ∧ FrC M M' ∧ FrN N N' := by
  have ft := fine_t h.2.2.2.2.2.2.2
  have e1 : J 12 * J (w : Int) + J (i : Int) = J ((12 * w + i : Nat) : Int) := by rw [J_mul, J_add]; exact congrArg J (by omega)
  have e2 : J ((1925 + 25 * w : Nat) : Int) + J 1 + J 2 * J (i : Int) = J ((1926 + 25 * w + 2 * i : Nat) : Int) := by rw [J_mul, J_add, J_add]; exact congrArg J (by omega)
  have e3 : J ((1925 + 25 * w : Nat) : Int) + J 2 + J 2 * J (i : Int) = J ((1927 + 25 * w + 2 * i : Nat) : Int) := by rw [J_mul, J_add, J_add]; exact congrArg J (by omega)
  have ne : ¬ J (A : Int) = J (-1) := by rw [J_eq (by omega) (by omega) (by omega) (by omega)]; omega
  refine ⟨mset (mset M 64 (12 * w + i) u) 65 (12 * w + i) (J A), mset (mset N 263 (1926 + 25 * w + 2 * i) v) 263 (1927 + 25 * w + 2 * i) (J A), ?_, ?_, TS_fr h (by simp (disch := omega) only [mset_ne, mset_eq, mrow_ne, mrow_eq, upd_eq, upd_ne]) (by simp (disch := omega) only [mset_ne, mset_eq, mrow_ne, mrow_eq, upd_eq, upd_ne]) (by simp (disch := omega) only [mset_ne, mset_eq, mrow_ne, mrow_eq, upd_eq, upd_ne]) (by simp (disch := omega) only [mset_ne, mset_eq, mrow_ne, mrow_eq, upd_eq, upd_ne]) (by simp (disch := omega) only [mset_ne, mset_eq, mrow_ne, mrow_eq, upd_eq, upd_ne]) (by simp (disch := omega) only [mset_ne, mset_eq, mrow_ne, mrow_eq, upd_eq, upd_ne]) (by simp (disch := omega) only [mset_ne, mset_eq, mrow_ne, mrow_eq, upd_eq, upd_ne]) (by simp (disch := omega) only [mset_ne, mset_eq, mrow_ne, mrow_eq, upd_eq, upd_ne]), by simp (disch := omega) only [mset_ne, mset_eq, mrow_ne, mrow_eq, upd_eq, upd_ne], by simp (disch := omega) only [mset_ne, mset_eq, mrow_ne, mrow_eq, upd_eq, upd_ne], by simp (disch := omega) only [mset_ne, mset_eq, mrow_ne, mrow_eq, upd_eq, upd_ne], by simp (disch := omega) only [mset_ne, mset_eq, mrow_ne, mrow_eq, upd_eq, upd_ne], FrC_t (FrC_d _ (by omega) (by omega) _ _) (FrC_d _ (by omega) (by omega) _ _), ⟨fun j h1 h2 h3 => by simp (disch := omega) only [mset_ne, mset_eq, mrow_ne, mrow_eq, upd_eq, upd_ne], fun i h1 h2 h3 h4 h5 h6 => by simp (disch := omega) only [mset_ne, mset_eq, mrow_ne, mrow_eq, upd_eq, upd_ne]⟩⟩
  · unfold j_X8_readWay_87_2
    simp (disch := omega) only [↓nm_s, ↓grd_s, ↓reduceIte, J_lit, J_neg, Int.cast_ofNat_Int, J_lt_t, J_lt_f, J_le_t, J_le_f, J_eq_t, J_eq_f, within_t, within_f, isIn_t, isIn_f, inRow_t, inRow_f, isCell_t, isCell_f, inb_t, ix_Jn, ix_J, Int.reduceToNat, Int.toNat_natCast, Nat.reduceAdd, e1, ne]
    rw [J_s]
  · unfold j_X11_readWay_139_70
    have f0 : ¬ f_X11_fine N = J 0 := by rw [ft]; decide
    simp (disch := omega) only [↓nm_s, ↓grd_s, ↓reduceIte, J_lit, J_neg, Int.cast_ofNat_Int, J_lt_t, J_lt_f, J_le_t, J_le_f, J_eq_t, J_eq_f, within_t, within_f, isIn_t, isIn_f, inRow_t, inRow_f, isCell_t, isCell_f, inb_t, ix_Jn, ix_J, Int.reduceToNat, Int.toNat_natCast, f0, e2, e3]
    rw [J_s]
theorem n_139 {N : zM} {p : Nat} (hp : p < 2147483648) (h : N 257 10 = J p) (a b c d : Int32) : j_X11_readWay_139_70 a b c d N = some (.inr (.inl (b, N))) := by
  unfold j_X11_readWay_139_70
  rw [if_pos (show f_X11_fine N = (0 : Int32) from fine_f hp h)]
theorem n_187 {N : zM} {p : Nat} (hp : p < 2147483648) (h : N 257 10 = J p) (a b : Int32) : j_X11_readWay_187 a b N = some N := by
  unfold j_X11_readWay_187
  rw [if_pos (show f_X11_fine N = (0 : Int32) from fine_f hp h)]
theorem way_end {M N : zM} {tp : Nat → Nat} {n NN : Nat} {P E : Nat → Nat} {j q i : Nat} (w v : Int32) (h : TS M N tp n NN P E j q) (hi : i ≤ 12) (hs : M 80 j = J 59) :
    b_X8_readWay_2 54 w (J i) M = some (.inr (.inl (J i, M))) ∧ b_X11_readWay_70 v (J i) N = some (.inr (.inl (J i, mset N 257 9 (J (P j))))) := by
  have hn := TS_n h
  have hkd := i_kind h
  have ft := fine_t h.2.2.2.2.2.2.2
  obtain ⟨c1, c2, c3, c4⟩ := i_hc h
  have k2 : J (hch tp n (P j) : Int) = J 59 := by rw [(c2 59 (by unfold isSg; omega)).2 hs]; rfl
  have hh := i_here h
  refine ⟨?_, ?_⟩
  · unfold b_X8_readWay_2
    simp (disch := omega) only [↓reduceIte, J_lit, J_neg, Int.cast_ofNat_Int, J_lt_t, J_lt_f, J_le_t, J_le_f, J_eq_t, J_eq_f, within_t, within_f, isIn_t, isIn_f, inRow_t, inRow_f, isCell_t, isCell_f, inb_t, hkd, bind_s, hs]
  · unfold b_X11_readWay_70
    simp (disch := omega) only [↓reduceIte, J_lit, J_neg, Int.cast_ofNat_Int, J_lt_t, J_lt_f, J_le_t, J_le_f, J_eq_t, J_eq_f, within_t, within_f, isIn_t, isIn_f, inRow_t, inRow_f, isCell_t, isCell_f, inb_t, hh, bnd2_s, ft, k2]
theorem way_word {M N : zM} {tp : Nat → Nat} {n NN : Nat} {P E : Nat → Nat} {j q w i : Nat} (h : TS M N tp n NN P E j q) (hw : w < 16) (hi : i ≤ 12) (hs : ¬ M 80 j = J 59) :
    (∃ (j' q' : Nat) (M' N' : zM) (u v : Int32) (A : Nat), j < j' ∧ i < 12 ∧ WdR u v ∧ 1 ≤ A ∧ A ≤ 11 ∧ b_X8_readWay_2 54 (J w) (J i) M = some (.inl (J (i + 1 : Nat), M')) ∧ b_X11_readWay_70 (J (1925 + 25 * w : Nat)) (J i) N = some (.inl (J (i + 1 : Nat), N')) ∧ TS M' N' tp n NN P E j' q' ∧ M' 63 = M 63 ∧ M' 64 = upd (M 64) (12 * w + i) u ∧ M' 65 = upd (M 65) (12 * w + i) (J A) ∧ N' 263 = upd (upd (N 263) (1926 + 25 * w + 2 * i) v) (1927 + 25 * w + 2 * i) (J A) ∧ FrC M M' ∧ FrN N N') ∨
    (∃ M' N' : zM, b_X8_readWay_2 54 (J w) (J i) M = some (.inr (.inr (J 0, M'))) ∧ b_X11_readWay_70 (J (1925 + 25 * w : Nat)) (J i) N = some (.inr (.inl (J i, N'))) ∧ FL M' N' ∧ FrC M M' ∧ FrN N N') := by
  have hn := TS_n h
  have hkd := i_kind h
  obtain ⟨kk, k1, k2, k3, k4⟩ := i_kd h
  have k59 : kk ≠ 59 := fun e => hs (by rw [k1, e]; rfl)
  have hat := TS_at h
  obtain ⟨c1, c2, c3, c4⟩ := i_hc h
  have kh : ¬ hch tp n (P j) = 59 := fun e => hs ((c2 59 (by unfold isSg; omega)).1 e)
  have hh := i_here h
  obtain ⟨u, w1, w2⟩ := i_word hat
  rw [mset_2] at w1
  have ft := fine_t h.2.2.2.2.2.2.2
  have hk80 : ∀ i : Nat, i < 29 → (u = J (pkK i) ↔ kk = 128 + i) := by
    intro i hi
    rw [w2 i hi, k1, J_eq (by omega) (by omega) (by omega) (by omega)]
    omega
  obtain ⟨u2, bu2, r2⟩ : ∃ u2, Bo u2 (i = 12) ∧ ∀ (a b c : Int32) (N : zM), j_X11_readWay_107_70 a (J i) b c N = j_X11_readWay_119_70 a (J i) b c u2 N := by
    by_cases c2 : i = 12
    · refine ⟨J 1, Or.inl ⟨rfl, c2⟩, fun a b c N => ?_⟩
      unfold j_X11_readWay_107_70
      simp (disch := omega) only [↓reduceIte, J_lit, Int.cast_ofNat_Int, J_lt_t, J_lt_f, J_le_t, J_le_f, J_eq_t, J_eq_f, within_t, within_f, isIn_t, isIn_f, inRow_t, inRow_f, isCell_t, isCell_f, inb_t]
    · refine ⟨J 0, Or.inr ⟨rfl, c2⟩, fun a b c N => ?_⟩
      unfold j_X11_readWay_107_70
      simp (disch := omega) only [↓reduceIte, J_lit, Int.cast_ofNat_Int, J_lt_t, J_lt_f, J_le_t, J_le_f, J_eq_t, J_eq_f, within_t, within_f, isIn_t, isIn_f, inRow_t, inRow_f, isCell_t, isCell_f, inb_t]
  have hwv := wayW hk80
  obtain ⟨vi, u1, bu1, hvi, cbeg, rbeg⟩ : ∃ (vi u1 : Int32), Bo u1 (150 ≤ kk ∧ kk ≤ 154) ∧ ((∃ v : Nat, v < 5 ∧ 150 ≤ kk ∧ kk ≤ 154 ∧ vi = J v ∧ WdR (J kk) (J v) ∧ (3 ≤ v ↔ kk = 150 ∨ kk = 154)) ∨ ((kk < 150 ∨ 154 < kk) ∧ vi = J (-1))) ∧ b_X8_readWay_2 54 (J w) (J i) M = j_X8_readWay_45_2 54 (J w) (J i) (J kk) u1 M ∧ b_X11_readWay_70 (J (1925 + 25 * w : Nat)) (J i) N = j_X11_readWay_119_70 (J (1925 + 25 * w : Nat)) (J i) vi u1 u2 (mset N 257 9 (J (P j))) := by
    rcases hwv with ⟨v, v1, v2, v3, v4, v5, v6⟩ | ⟨v2, v4⟩
    · have ne : ¬ J (v : Int) = J (-1) := by rw [J_eq (by omega) (by omega) (by omega) (by omega)]; omega
      refine ⟨J v, J 1, Or.inl ⟨rfl, v2, v3⟩, Or.inl ⟨v, v1, v2, v3, rfl, v5, v6⟩, ?_, ?_⟩
      · unfold b_X8_readWay_2
        simp (disch := omega) only [↓reduceIte, J_lit, J_neg, Int.cast_ofNat_Int, J_lt_t, J_lt_f, J_le_t, J_le_f, J_eq_t, J_eq_f, within_t, within_f, isIn_t, isIn_f, inRow_t, inRow_f, isCell_t, isCell_f, inb_t, hkd, bind_s, k1]
      · unfold b_X11_readWay_70
        simp (disch := omega) only [↓nm_s, ↓reduceIte, J_lit, J_neg, Int.cast_ofNat_Int, J_lt_t, J_lt_f, J_le_t, J_le_f, J_eq_t, J_eq_f, within_t, within_f, isIn_t, isIn_f, inRow_t, inRow_f, isCell_t, isCell_f, inb_t, hh, bnd2_s, ft, w1, v4, ne, r2]
    · refine ⟨J (-1), J 0, Or.inr ⟨rfl, by omega⟩, Or.inr ⟨v2, rfl⟩, ?_, ?_⟩
      · unfold b_X8_readWay_2 j_X8_readWay_44_2
        by_cases c : kk < 150
        · simp (disch := omega) only [↓reduceIte, J_lit, J_neg, Int.cast_ofNat_Int, J_lt_t, J_lt_f, J_le_t, J_le_f, J_eq_t, J_eq_f, within_t, within_f, isIn_t, isIn_f, inRow_t, inRow_f, isCell_t, isCell_f, inb_t, hkd, bind_s, k1]
        · simp (disch := omega) only [↓reduceIte, J_lit, J_neg, Int.cast_ofNat_Int, J_lt_t, J_lt_f, J_le_t, J_le_f, J_eq_t, J_eq_f, within_t, within_f, isIn_t, isIn_f, inRow_t, inRow_f, isCell_t, isCell_f, inb_t, hkd, bind_s, k1]
      · unfold b_X11_readWay_70
        simp (disch := omega) only [↓nm_s, ↓reduceIte, J_lit, J_neg, Int.cast_ofNat_Int, J_lt_t, J_lt_f, J_le_t, J_le_f, J_eq_t, J_eq_f, within_t, within_f, isIn_t, isIn_f, inRow_t, inRow_f, isCell_t, isCell_f, inb_t, hh, bnd2_s, ft, w1, v4, r2]
  rw [cbeg, rbeg]
  unfold j_X8_readWay_45_2 j_X11_readWay_119_70 j_X8_readWay_76_2
  rcases i_begin hat (150 ≤ kk ∧ kk ≤ 154) (i = 12) (fun e => ⟨kk - 128, by omega, by rw [k1]; exact congrArg J (by omega)⟩) bu1 bu2 (x := i) (y := 12) (by omega) (by omega) (by omega) with ⟨b1, b2, b3, b4, b5⟩ | ⟨k, hk, b4, b5⟩
  · rw [mset_2] at b5
    have nx1 := i_next h b3
    have h1 := TS_next h b3
    have hn1 := TS_n h1
    rcases hvi with ⟨v, v1, v2, v3, rfl, v5, v6⟩ | ⟨e, _⟩
    · by_cases c : 3 ≤ v
      · have c' : (J (kk : Int) = J 150 ∨ J (kk : Int) = J 154) := by
          rcases v6.1 c with e | e
          · left; rw [e]; rfl
          · right; rw [e]; rfl
        have cl : ∀ x y : Option ((Int32 × zM) ⊕ ((Int32 × zM) ⊕ (Int32 × zM))), (if J (kk : Int) = J 150 then x else if J (kk : Int) = J 154 then x else y) = x := by
          intro x y
          by_cases d : J (kk : Int) = J 150
          · rw [if_pos d]
          · rw [if_neg d, if_pos (c'.resolve_left d)]
        rcases i_num h1 (lo := 1) (hi := 11) (by omega) (by omega) (by omega) (by omega) with ⟨A, a1, a2, a3, a4, a5, a6⟩ | ⟨k, e, hk, a5, a6⟩
        · have h2 := TS_next h1 a3
          obtain ⟨M', N', g1, g2, g3, g4, g5, g6, g7, g8, g9⟩ := way_lay (i := i) (w := w) (J kk) (J v) (A := A) h2 hw (by omega) (by omega) (by omega)
          left
          refine ⟨j + 1 + 1, _, M', N', J kk, J v, A, by omega, by omega, v5, by omega, by omega, ?_, ?_, g3, by rw [g4]; simp (disch := omega) only [mset_ne, mset_eq, mrow_ne, mrow_eq, upd_eq, upd_ne], by rw [g5]; simp (disch := omega) only [mset_ne, mset_eq, mrow_ne, mrow_eq, upd_eq, upd_ne], by rw [g6]; simp (disch := omega) only [mset_ne, mset_eq, mrow_ne, mrow_eq, upd_eq, upd_ne], by rw [g7]; simp (disch := omega) only [mset_ne, mset_eq, mrow_ne, mrow_eq, upd_eq, upd_ne], FrC_t (FrC_7 _ _) (FrC_t (FrC_7 _ _) g8), FrN_t (FrN_9 _ _) (FrN_t (FrN_9 _ _) g9)⟩
          · simp (disch := omega) only [J_lit, J_neg, Int.cast_ofNat_Int, b4, bnd2_s, nx1, bind_s, cl, a5, g1]
            rfl
          · simp (disch := omega) only [↓reduceIte, J_lit, J_neg, Int.cast_ofNat_Int, J_lt_t, J_lt_f, J_le_t, J_le_f, J_eq_t, J_eq_f, within_t, within_f, isIn_t, isIn_f, inRow_t, inRow_f, isCell_t, isCell_f, inb_t, b5, bind_s, a6, bnd2_s]
            exact g2
        · right
          have nf : rF (mset (mset N 257 9 (J (E j))) 257 9 (J e)) k (P (j + 1)) 257 10 = J (P (j + 1)) := rF_10 _ _ _
          have hpl : P (j + 1) < 2147483648 := by omega
          refine ⟨cF (mset M 78 7 (J (j + 1 : Nat))) k (P (j + 1)), rF (mset (mset N 257 9 (J (E j))) 257 9 (J e)) k (P (j + 1)), ?_, ?_, FL_of (by omega), FrC_t (FrC_7 _ _) (FrC_c _ _ _), FrN_t (FrN_9 _ _) (FrN_t (FrN_9 _ _) (FrN_r2 _ _ _))⟩
          · simp (disch := omega) only [J_lit, J_neg, Int.cast_ofNat_Int, b4, bnd2_s, nx1, bind_s, cl, a5]
            rfl
          · simp (disch := omega) only [↓reduceIte, J_lit, J_neg, Int.cast_ofNat_Int, J_lt_t, J_lt_f, J_le_t, J_le_f, J_eq_t, J_eq_f, within_t, within_f, isIn_t, isIn_f, inRow_t, inRow_f, isCell_t, isCell_f, inb_t, b5, bind_s, a6, bnd2_s, n_139 hpl nf]
      · have c' : ¬ (kk = 150) ∧ ¬ (kk = 154) := by constructor <;> (intro e; exact c (v6.2 (by omega)))
        obtain ⟨c5, c6⟩ := c'
        obtain ⟨M', N', g1, g2, g3, g4, g5, g6, g7, g8, g9⟩ := way_lay (i := i) (w := w) (J kk) (J v) (A := 1) h1 hw (by omega) (by omega) (by omega)
        have g1' : j_X8_readWay_87_2 54 (J w) (J i) (J kk) (J 1) (mset M 78 7 (J (j + 1 : Nat))) = _ := g1
        left
        refine ⟨j + 1, _, M', N', J kk, J v, 1, by omega, by omega, v5, by omega, by omega, ?_, ?_, g3, by rw [g4]; simp (disch := omega) only [mset_ne, mset_eq, mrow_ne, mrow_eq, upd_eq, upd_ne], by rw [g5]; simp (disch := omega) only [mset_ne, mset_eq, mrow_ne, mrow_eq, upd_eq, upd_ne], by rw [g6]; simp (disch := omega) only [mset_ne, mset_eq, mrow_ne, mrow_eq, upd_eq, upd_ne], by rw [g7]; simp (disch := omega) only [mset_ne, mset_eq, mrow_ne, mrow_eq, upd_eq, upd_ne], FrC_t (FrC_7 _ _) g8, FrN_t (FrN_9 _ _) g9⟩
        · simp (disch := omega) only [↓reduceIte, J_lit, J_neg, Int.cast_ofNat_Int, J_lt_t, J_lt_f, J_le_t, J_le_f, J_eq_t, J_eq_f, within_t, within_f, isIn_t, isIn_f, inRow_t, inRow_f, isCell_t, isCell_f, inb_t, b4, bnd2_s, nx1, bind_s, g1']
        · simp (disch := omega) only [↓reduceIte, J_lit, J_neg, Int.cast_ofNat_Int, J_lt_t, J_lt_f, J_le_t, J_le_f, J_eq_t, J_eq_f, within_t, within_f, isIn_t, isIn_f, inRow_t, inRow_f, isCell_t, isCell_f, inb_t, b5, bind_s]
          exact g2
    · omega
  · right
    have nf : rF (mset N 257 9 (J (P j))) k (P j) 257 10 = J (P j) := rF_10 _ _ _
    have hpl : P j < 2147483648 := by omega
    refine ⟨cF M k (P j), rF (mset N 257 9 (J (P j))) k (P j), ?_, ?_, FL_of (by omega), FrC_c _ _ _, FrN_t (FrN_9 _ _) (FrN_r2 _ _ _)⟩
    · simp (disch := omega) only [↓reduceIte, J_lit, J_neg, Int.cast_ofNat_Int, J_lt_t, J_lt_f, J_le_t, J_le_f, J_eq_t, J_eq_f, within_t, within_f, isIn_t, isIn_f, inRow_t, inRow_f, isCell_t, isCell_f, inb_t, b4, bnd2_s]
    · simp (disch := omega) only [J_lit, J_neg, Int.cast_ofNat_Int, b5, bind_s, n_number hpl nf, bnd2_s, n_139 hpl nf]
      split <;> rfl
