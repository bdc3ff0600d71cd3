/-! ===== a line of stones ===== -/
theorem sp_to : f_X11_spelt (J 116) (J 111) (J 0) (J 0) (J 0) (J 0) = J (pkK 20) := by decide +kernel
theorem sp_stone : f_X11_spelt (J 115) (J 116) (J 111) (J 110) (J 101) (J 0) = J (pkK 17) := by decide +kernel
theorem sp_snow : f_X11_spelt (J 115) (J 110) (J 111) (J 119) (J 0) (J 0) = J (pkK 13) := by decide +kernel
theorem sp_sign : f_X11_spelt (J 115) (J 105) (J 103) (J 110) (J 0) (J 0) = J (pkK 18) := by decide +kernel
theorem sp_bare : f_X11_spelt (J 98) (J 97) (J 114) (J 101) (J 0) (J 0) = J (pkK 19) := by decide +kernel
noncomputable def rArea (v : Int32) (N : zM) : Option zM := bnd2 (f_X11_number (0 : Int32) (11 : Int32) N) fun u121 M121 =>
  bnd2 (f_X11_number (0 : Int32) (11 : Int32) M121) fun u130 M130 =>
  if (f_X11_fine M130) = 0 then (j_X11_readStones_190 v u121 u130 u121 u130 M130)
  else (bnd2 (f_X11_word M130) fun u151 M151 =>
  if u151 = (f_X11_spelt (116 : Int32) (111 : Int32) (0 : Int32) (0 : Int32) (0 : Int32) (0 : Int32)) then ((f_X11_pass M151).bind fun M169 =>
  bnd2 (f_X11_number (0 : Int32) (11 : Int32) M169) fun u176 M176 =>
  bnd2 (f_X11_number (0 : Int32) (11 : Int32) M176) fun u185 M185 =>
  j_X11_readStones_190 v u121 u130 u176 u185 M185)
  else (j_X11_readStones_190 v u121 u130 u121 u130 M151))
/-- what a line lays -/
def Laid (M N M' N' : zM) (v : Int32) (R : Nat → Prop) : Prop := (∀ i, i < 144 → (R i → M' 62 i = v ∧ N' 263 i = v) ∧ (¬ R i → M' 62 i = M 62 i ∧ N' 263 i = N 263 i)) ∧ ∀ i, 144 ≤ i → N' 263 i = N 263 i
theorem area_end {M N : zM} {tp : Nat → Nat} {n NN : Nat} {P E : Nat → Nat} {j q x1 y1 x2 y2 : Nat} (v : Int32) (h : TS M N tp n NN P E j q) (hx1 : x1 ≤ 11) (hy1 : y1 ≤ 11) (hx2 : x2 ≤ 11) (hy2 : y2 ≤ 11) : ∃ M' N', j_X8_readArea_45 54 v (J (12 * y1 + x1 : Nat)) (J (12 * y2 + x2 : Nat)) M = some (J 1, M') ∧ j_X11_readStones_190 v (J x1) (J y1) (J x2) (J y2) N = some N' ∧ TS M' N' tp n NN P E j q ∧ Laid M N M' N' v (inR x1 y1 x2 y2) ∧ FrC M M' ∧ FrN N N' := by
  obtain ⟨M', a1, a2, a3⟩ := p_fillC (M := M) v hx1 hy1 hx2 hy2
  obtain ⟨N', b1, b2, b3, b4⟩ := p_fillN (N := N) v h.2.2.2.2.2.2.2 hx1 hy1 hx2 hy2
  refine ⟨M', N', a1, b1, TS_fr h (a3 80 (by decide)) (a3 81 (by decide)) (a3 82 (by decide)) (by rw [a3 78 (by decide)]) (b4 262 (by decide)) (by rw [b4 257 (by decide)]) (by rw [b4 257 (by decide)]) (by rw [b4 257 (by decide)]), ⟨fun i hi => ⟨fun hr => ⟨(a2 i hi).1 hr, (b2 i hi).1 hr⟩, fun hr => ⟨(a2 i hi).2 hr, (b2 i hi).2 hr⟩⟩, b3⟩, ⟨fun j h1 h2 => a3 j (by omega), fun i _ _ _ => by rw [a3 78 (by decide)]⟩, ⟨fun j h1 h2 h3 => b4 j h2, fun i _ _ _ _ _ _ => by rw [b4 257 (by decide)]⟩⟩
theorem i_area {M N : zM} {tp : Nat → Nat} {n NN : Nat} {P E : Nat → Nat} {j q : Nat} (v : Int32) (h : TS M N tp n NN P E j q) :
    (∃ (j' q' : Nat) (M' N' : zM) (R : Nat → Prop), j ≤ j' ∧ f_X8_readArea 54 v M = some (J 1, M') ∧ rArea v N = some N' ∧ TS M' N' tp n NN P E j' q' ∧ Laid M N M' N' v R ∧ FrC M M' ∧ FrN N N') ∨
    (∃ M' N' : zM, f_X8_readArea 54 v M = some (J 0, M') ∧ rArea v N = some N' ∧ FL M' N' ∧ FrC M M' ∧ FrN N N') := by
  unfold f_X8_readArea rArea
  rcases i_place h with ⟨x, y, M1, N1, N2, hx, hy, p1, p2, p3, ⟨q2, p4⟩, p5, p6, p7, p8⟩ | ⟨a, b, M1, N1, N2, p1, p2, p3, p4, p7, p8⟩
  · have hn := TS_n p4
    have ne : ¬ J ((12 * y + x : Nat) : Int) = J (-1) := by
      rw [J_eq (by omega) (by omega) (by omega) (by omega)]; omega
    have ft := fine_t p4.2.2.2.2.2.2.2
    have hkd := i_kind p4
    obtain ⟨kk, k1, k2, k3, k4⟩ := i_kd p4
    have hat := TS_at p4
    obtain ⟨u, w1, w2⟩ := i_word p4
    have hw20 := w2 20 (by omega)
    by_cases c : M1 80 (j + 2) = J 148
    · have eu : u = J (pkK 20) := hw20.2 c
      obtain ⟨s1, s2⟩ := i_pass hat (i := 20) (by omega) c
      rw [mset_2] at s2
      have nx := i_next p4 s1
      have h1 := TS_next p4 s1
      rcases i_place h1 with ⟨x2, y2, M3, N3, N4, hx2, hy2, r1, r2, r3, ⟨q4, r4⟩, r5, r6, r7, r8⟩ | ⟨a, b, M3, N3, N4, r1, r2, r3, r4, r7, r8⟩
      · have ne2 : ¬ J ((12 * y2 + x2 : Nat) : Int) = J (-1) := by
          rw [J_eq (by omega) (by omega) (by omega) (by omega)]; omega
        obtain ⟨M', N', e1, e2, e3, e4, e5, e6⟩ := area_end v r4 hx hy hx2 hy2
        left
        refine ⟨j + 2 + 1 + 2, q4, M', N', inR x y x2 y2, by omega, ?_, ?_, e3, ⟨fun i hi => ?_, fun i hi => ?_⟩, FrC_t p7 (FrC_t (FrC_7 _ _) (FrC_t r7 e5)), FrN_t p8 (FrN_t (FrN_9 _ _) (FrN_t r8 e6))⟩
        · simp (disch := omega) only [↓reduceIte, J_lit, J_neg, Int.cast_ofNat_Int, J_lt_t, J_lt_f, J_le_t, J_le_f, J_eq_t, J_eq_f, within_t, within_f, isIn_t, isIn_f, inRow_t, inRow_f, isCell_t, isCell_f, inb_t, p1, bnd2_s, ne, hkd, bind_s, c, nx, r1, ne2, e1]
        · simp (disch := omega) only [↓reduceIte, J_lit, J_neg, Int.cast_ofNat_Int, J_lt_t, J_lt_f, J_le_t, J_le_f, J_eq_t, J_eq_f, within_t, within_f, isIn_t, isIn_f, inRow_t, inRow_f, isCell_t, isCell_f, inb_t, p2, p3, bnd2_s, ft, w1, sp_to, eu, s2, bind_s, r2, r3, e2]
        · refine ⟨(e4.1 i hi).1, fun hr => ?_⟩
          obtain ⟨z1, z2⟩ := (e4.1 i hi).2 hr
          rw [z1, z2, r5 62 (by decide), r6 263 (by decide)]
          simp (disch := omega) only [mset_ne, mset_eq, mrow_ne, mrow_eq, upd_eq, upd_ne]
          rw [p5 62 (by decide), p6 263 (by decide)]
          exact ⟨rfl, rfl⟩
        · rw [e4.2 i hi, r6 263 (by decide)]
          simp (disch := omega) only [mset_ne, mset_eq, mrow_ne, mrow_eq, upd_eq, upd_ne]
          rw [p6 263 (by decide)]
      · right
        obtain ⟨kf, pf, f1, f2, f3, f4, f5⟩ := r4
        refine ⟨M3, N4, ?_, ?_, ⟨kf, pf, f1, f2, f3, f4, f5⟩, FrC_t p7 (FrC_t (FrC_7 _ _) r7), FrN_t p8 (FrN_t (FrN_9 _ _) r8)⟩
        · simp (disch := omega) only [↓reduceIte, J_lit, J_neg, Int.cast_ofNat_Int, J_lt_t, J_lt_f, J_le_t, J_le_f, J_eq_t, J_eq_f, within_t, within_f, isIn_t, isIn_f, inRow_t, inRow_f, isCell_t, isCell_f, inb_t, p1, bnd2_s, ne, hkd, bind_s, c, nx, r1]
        · simp (disch := omega) only [↓reduceIte, J_lit, J_neg, Int.cast_ofNat_Int, J_lt_t, J_lt_f, J_le_t, J_le_f, J_eq_t, J_eq_f, within_t, within_f, isIn_t, isIn_f, inRow_t, inRow_f, isCell_t, isCell_f, inb_t, p2, p3, bnd2_s, ft, w1, sp_to, eu, s2, bind_s, r2, r3, n_190 (show pf < 2147483648 by omega) f5]
    · have nu : ¬ u = J (pkK 20) := fun e => c (hw20.1 e)
      have k148 : kk ≠ 148 := fun e => c (by rw [k1, e]; rfl)
      obtain ⟨M', N', e1, e2, e3, e4, e5, e6⟩ := area_end v hat hx hy hx hy
      left
      refine ⟨j + 2, P (j + 2), M', N', inR x y x y, by omega, ?_, ?_, e3, ⟨fun i hi => ?_, fun i hi => ?_⟩, FrC_t p7 e5, FrN_t p8 (FrN_t (FrN_9 _ _) e6)⟩
      · simp (disch := omega) only [↓reduceIte, J_lit, J_neg, Int.cast_ofNat_Int, J_lt_t, J_lt_f, J_le_t, J_le_f, J_eq_t, J_eq_f, within_t, within_f, isIn_t, isIn_f, inRow_t, inRow_f, isCell_t, isCell_f, inb_t, p1, bnd2_s, ne, hkd, bind_s, k1, e1]
      · simp (disch := omega) only [↓reduceIte, J_lit, J_neg, Int.cast_ofNat_Int, J_lt_t, J_lt_f, J_le_t, J_le_f, J_eq_t, J_eq_f, within_t, within_f, isIn_t, isIn_f, inRow_t, inRow_f, isCell_t, isCell_f, inb_t, p2, p3, bnd2_s, ft, w1, sp_to, nu, e2]
      · refine ⟨(e4.1 i hi).1, fun hr => ?_⟩
        obtain ⟨z1, z2⟩ := (e4.1 i hi).2 hr
        rw [z1, z2, p5 62 (by decide)]
        simp (disch := omega) only [mset_ne, mset_eq, mrow_ne, mrow_eq, upd_eq, upd_ne]
        rw [p6 263 (by decide)]
        refine ⟨?_, ?_⟩ <;> first | rfl | trivial
      · rw [e4.2 i hi]
        simp (disch := omega) only [mset_ne, mset_eq, mrow_ne, mrow_eq, upd_eq, upd_ne]
        rw [p6 263 (by decide)]
  · right
    obtain ⟨kf, pf, f1, f2, f3, f4, f5⟩ := p4
    have ff := fine_f (show pf < 2147483648 by omega) f5
    refine ⟨M1, N2, ?_, ?_, ⟨kf, pf, f1, f2, f3, f4, f5⟩, p7, p8⟩
    · simp (disch := omega) only [↓reduceIte, J_lit, J_neg, Int.cast_ofNat_Int, J_lt_t, J_lt_f, J_le_t, J_le_f, J_eq_t, J_eq_f, within_t, within_f, isIn_t, isIn_f, inRow_t, inRow_f, isCell_t, isCell_f, inb_t, p1, bnd2_s]
    · simp (disch := omega) only [↓reduceIte, J_lit, J_neg, Int.cast_ofNat_Int, J_lt_t, J_lt_f, J_le_t, J_le_f, J_eq_t, J_eq_f, within_t, within_f, isIn_t, isIn_f, inRow_t, inRow_f, isCell_t, isCell_f, inb_t, p2, p3, bnd2_s, ff, n_190 (show pf < 2147483648 by omega) f5]
theorem l_stones {M N : zM} {tp : Nat → Nat} {n NN : Nat} {P E : Nat → Nat} {j q l : Nat} (h : TS M N tp n NN P E j q) (hj : j < NN) (hl : l ≤ 16) :
    (∃ (j' q' : Nat) (M' N' : zM) (v : Nat) (R : Nat → Prop), v < 4 ∧ j < j' ∧ l < 16 ∧ b_X8_readStones_10 54 (J l) M = some (.inl (J (l + 1 : Nat), M')) ∧ (f_X11_readStones (J l) (mset N 257 9 (J (P j)))).bind (f_X11_sign (J 59)) = some N' ∧ TS M' N' tp n NN P E j' q' ∧ Laid M N M' N' (J v) R ∧ FrC M M' ∧ FrN N N') ∨
    (∃ M' N' : zM, b_X8_readStones_10 54 (J l) M = some (.inr (.inr (J (-1), M'))) ∧ (f_X11_readStones (J l) (mset N 257 9 (J (P j)))).bind (f_X11_sign (J 59)) = some N' ∧ FL M' N' ∧ FrC M M' ∧ FrN N N') := by
  have hn := TS_n h
  have hkd := i_kind h
  obtain ⟨kk, k1, k2, k3, k4⟩ := i_kd h
  have hk0 : kk ≠ 0 := fun e => by have := k3.1 e; omega
  have hat := TS_at h
  obtain ⟨u, w1, w2⟩ := i_word hat
  rw [mset_2] at w1
  have hk80 : ∀ i : Nat, i < 29 → (u = J (pkK i) ↔ kk = 128 + i) := by
    intro i hi
    rw [w2 i hi, k1, J_eq (by omega) (by omega) (by omega) (by omega)]
    omega
  -- which it is
  obtain ⟨vi, u1, u2, hvi, bu1, bu2, cbeg, rbeg⟩ : ∃ (vi u1 u2 : Int32), ((∃ i : Nat, i < 29 ∧ kk = 128 + i ∧ ∃ v : Nat, v < 4 ∧ vi = J v) ∧ u1 = J 1 ∨ u1 = J 0) ∧ Bo u1 (kk = 141 ∨ kk = 145 ∨ kk = 146 ∨ kk = 147) ∧ Bo u2 (l = 16) ∧ b_X8_readStones_10 54 (J l) M = j_X8_readStones_42_10 54 (J l) vi u1 M ∧ f_X11_readStones (J l) (mset N 257 9 (J (P j))) = j_X11_readStones_114 vi u1 u2 (mset N 257 9 (J (P j))) := by
    have h13 := hk80 13 (by omega)
    have h17 := hk80 17 (by omega)
    have h18 := hk80 18 (by omega)
    have h19 := hk80 19 (by omega)
    have d1 : ¬ J (pkK 13) = J (pkK 17) := by decide +kernel
    have d2 : ¬ J (pkK 18) = J (pkK 17) := by decide +kernel
    have d3 : ¬ J (pkK 18) = J (pkK 13) := by decide +kernel
    have d4 : ¬ J (pkK 19) = J (pkK 17) := by decide +kernel
    have d5 : ¬ J (pkK 19) = J (pkK 13) := by decide +kernel
    have d6 : ¬ J (pkK 19) = J (pkK 18) := by decide +kernel
    obtain ⟨u2, bu2, r2⟩ : ∃ u2, Bo u2 (l = 16) ∧ ∀ (a b : Int32) (N : zM), j_X11_readStones_103 (J l) a b N = j_X11_readStones_114 a b u2 N := by
      by_cases c2 : l = 16
      · refine ⟨J 1, Or.inl ⟨rfl, c2⟩, fun a b N => ?_⟩
        unfold j_X11_readStones_103
        simp (disch := omega) only [↓reduceIte, J_lit, Int.cast_ofNat_Int, J_lt_t, J_lt_f, J_le_t, J_le_f, J_eq_t, J_eq_f, within_t, within_f, isIn_t, isIn_f, inRow_t, inRow_f, isCell_t, isCell_f, inb_t]
      · refine ⟨J 0, Or.inr ⟨rfl, c2⟩, fun a b N => ?_⟩
        unfold j_X11_readStones_103
        simp (disch := omega) only [↓reduceIte, J_lit, Int.cast_ofNat_Int, J_lt_t, J_lt_f, J_le_t, J_le_f, J_eq_t, J_eq_f, within_t, within_f, isIn_t, isIn_f, inRow_t, inRow_f, isCell_t, isCell_f, inb_t]
    by_cases c17 : kk = 145
    · have eu := h17.2 c17
      subst c17
      refine ⟨J 1, J 1, u2, Or.inl ⟨⟨17, by omega, rfl, 1, by omega, rfl⟩, rfl⟩, Or.inl ⟨rfl, by omega⟩, bu2, ?_, ?_⟩
      · unfold b_X8_readStones_10 f_X8_stoneOf
        simp (disch := omega) only [↓nm_s, ↓reduceIte, J_lit, J_neg, Int.cast_ofNat_Int, J_lt_t, J_lt_f, J_le_t, J_le_f, J_eq_t, J_eq_f, within_t, within_f, isIn_t, isIn_f, inRow_t, inRow_f, isCell_t, isCell_f, inb_t, hkd, bind_s, k1]
      · unfold f_X11_readStones j_X11_readStones_91
        simp (disch := omega) only [↓nm_s, ↓reduceIte, J_lit, J_neg, Int.cast_ofNat_Int, J_lt_t, J_lt_f, J_le_t, J_le_f, J_eq_t, J_eq_f, within_t, within_f, isIn_t, isIn_f, inRow_t, inRow_f, isCell_t, isCell_f, inb_t, w1, bnd2_s, sp_stone, sp_snow, sp_sign, sp_bare, eu, r2]
    · by_cases c13 : kk = 141
      · have eu := h13.2 c13
        subst c13
        refine ⟨J 2, J 1, u2, Or.inl ⟨⟨13, by omega, rfl, 2, by omega, rfl⟩, rfl⟩, Or.inl ⟨rfl, by omega⟩, bu2, ?_, ?_⟩
        · unfold b_X8_readStones_10 f_X8_stoneOf
          simp (disch := omega) only [↓nm_s, ↓reduceIte, J_lit, J_neg, Int.cast_ofNat_Int, J_lt_t, J_lt_f, J_le_t, J_le_f, J_eq_t, J_eq_f, within_t, within_f, isIn_t, isIn_f, inRow_t, inRow_f, isCell_t, isCell_f, inb_t, hkd, bind_s, k1]
        · unfold f_X11_readStones j_X11_readStones_91
          simp (disch := omega) only [↓nm_s, ↓reduceIte, J_lit, J_neg, Int.cast_ofNat_Int, J_lt_t, J_lt_f, J_le_t, J_le_f, J_eq_t, J_eq_f, within_t, within_f, isIn_t, isIn_f, inRow_t, inRow_f, isCell_t, isCell_f, inb_t, w1, bnd2_s, sp_stone, sp_snow, sp_sign, sp_bare, eu, d1, r2]
      · by_cases c18 : kk = 146
        · have eu := h18.2 c18
          subst c18
          refine ⟨J 3, J 1, u2, Or.inl ⟨⟨18, by omega, rfl, 3, by omega, rfl⟩, rfl⟩, Or.inl ⟨rfl, by omega⟩, bu2, ?_, ?_⟩
          · unfold b_X8_readStones_10 f_X8_stoneOf
            simp (disch := omega) only [↓nm_s, ↓reduceIte, J_lit, J_neg, Int.cast_ofNat_Int, J_lt_t, J_lt_f, J_le_t, J_le_f, J_eq_t, J_eq_f, within_t, within_f, isIn_t, isIn_f, inRow_t, inRow_f, isCell_t, isCell_f, inb_t, hkd, bind_s, k1]
          · unfold f_X11_readStones j_X11_readStones_91
            simp (disch := omega) only [↓nm_s, ↓reduceIte, J_lit, J_neg, Int.cast_ofNat_Int, J_lt_t, J_lt_f, J_le_t, J_le_f, J_eq_t, J_eq_f, within_t, within_f, isIn_t, isIn_f, inRow_t, inRow_f, isCell_t, isCell_f, inb_t, w1, bnd2_s, sp_stone, sp_snow, sp_sign, sp_bare, eu, d2, d3, r2]
        · by_cases c19 : kk = 147
          · have eu := h19.2 c19
            subst c19
            refine ⟨J 0, J 1, u2, Or.inl ⟨⟨19, by omega, rfl, 0, by omega, rfl⟩, rfl⟩, Or.inl ⟨rfl, by omega⟩, bu2, ?_, ?_⟩
            · unfold b_X8_readStones_10 f_X8_stoneOf
              simp (disch := omega) only [↓nm_s, ↓reduceIte, J_lit, J_neg, Int.cast_ofNat_Int, J_lt_t, J_lt_f, J_le_t, J_le_f, J_eq_t, J_eq_f, within_t, within_f, isIn_t, isIn_f, inRow_t, inRow_f, isCell_t, isCell_f, inb_t, hkd, bind_s, k1]
            · unfold f_X11_readStones j_X11_readStones_91
              simp (disch := omega) only [↓nm_s, ↓reduceIte, J_lit, J_neg, Int.cast_ofNat_Int, J_lt_t, J_lt_f, J_le_t, J_le_f, J_eq_t, J_eq_f, within_t, within_f, isIn_t, isIn_f, inRow_t, inRow_f, isCell_t, isCell_f, inb_t, w1, bnd2_s, sp_stone, sp_snow, sp_sign, sp_bare, eu, d4, d5, d6, r2]
          · have e17 : ¬ u = J (pkK 17) := fun e => c17 (h17.1 e)
            have e13 : ¬ u = J (pkK 13) := fun e => c13 (h13.1 e)
            have e18 : ¬ u = J (pkK 18) := fun e => c18 (h18.1 e)
            have e19 : ¬ u = J (pkK 19) := fun e => c19 (h19.1 e)
            refine ⟨J (-1), J 0, u2, Or.inr rfl, Or.inr ⟨rfl, by omega⟩, bu2, ?_, ?_⟩
            · have est : f_X8_stoneOf (J kk) = J (-1) := by
                unfold f_X8_stoneOf
                by_cases e142 : kk = 142
                · subst e142; rfl
                · by_cases e143 : kk = 143
                  · subst e143; rfl
                  · by_cases e144 : kk = 144
                    · subst e144; rfl
                    · simp (disch := omega) only [↓reduceIte, J_lit, J_neg, Int.cast_ofNat_Int, J_lt_t, J_lt_f, J_le_t, J_le_f, J_eq_t, J_eq_f, within_t, within_f, isIn_t, isIn_f, inRow_t, inRow_f, isCell_t, isCell_f, inb_t]
              unfold b_X8_readStones_10
              simp (disch := omega) only [↓nm_s, ↓reduceIte, J_lit, J_neg, Int.cast_ofNat_Int, J_lt_t, J_lt_f, J_le_t, J_le_f, J_eq_t, J_eq_f, within_t, within_f, isIn_t, isIn_f, inRow_t, inRow_f, isCell_t, isCell_f, inb_t, hkd, bind_s, k1, est]
            · unfold f_X11_readStones j_X11_readStones_91
              simp (disch := omega) only [↓nm_s, ↓reduceIte, J_lit, J_neg, Int.cast_ofNat_Int, J_lt_t, J_lt_f, J_le_t, J_le_f, J_eq_t, J_eq_f, within_t, within_f, isIn_t, isIn_f, inRow_t, inRow_f, isCell_t, isCell_f, inb_t, w1, bnd2_s, sp_stone, sp_snow, sp_sign, sp_bare, e17, e13, e18, e19, r2]
  rw [cbeg, rbeg]
  have rsplit : j_X11_readStones_114 vi u1 u2 (mset N 257 9 (J (P j))) = (f_X11_mayBegin u1 u2 (mset N 257 9 (J (P j)))).bind (rArea vi) := rfl
  rw [rsplit]
  unfold j_X8_readStones_42_10
  rcases i_begin hat (kk = 141 ∨ kk = 145 ∨ kk = 146 ∨ kk = 147) (l = 16) (fun e => ⟨kk - 128, by omega, by rw [k1]; exact congrArg J (by omega)⟩) bu1 bu2 (x := l) (y := 16) (by omega) (by omega) (by omega) with ⟨b1, b2, b3, b4, b5⟩ | ⟨k, hk, b4, b5⟩
  · rw [mset_2] at b5
    have eu1 : u1 = J 1 := by
      rcases bu1 with ⟨e, _⟩ | ⟨_, e⟩
      · exact e
      · exact absurd b1 e
    obtain ⟨v, hv, rfl⟩ : ∃ v : Nat, v < 4 ∧ vi = J v := by
      rcases hvi with ⟨⟨i, _, _, v, h1, h2⟩, _⟩ | e
      · exact ⟨v, h1, h2⟩
      · rw [eu1] at e; exact absurd e (by decide)
    have nx1 := i_next h b3
    have h1 := TS_next h b3
    rcases i_area (J v) h1 with ⟨j', q', M1, N1, R, a1, a2, a3, a4, a5, a6, a7⟩ | ⟨M1, N1, a2, a3, a4, a6, a7⟩
    · have hn1 := TS_n a4
      rcases i_sign a4 (c := 59) (by unfold isSg; omega) with ⟨s1, s2, s3, s4⟩ | ⟨s1, s3, s4⟩
      · have s3' : f_X5_take (J 59) M1 = _ := s3
        have s4' : f_X11_sign (J 59) N1 = _ := s4
        left
        refine ⟨j' + 1, E j', _, _, v, R, hv, by omega, by omega, ?_, ?_, TS_next a4 s2, ⟨fun i hi => ?_, fun i hi => ?_⟩, FrC_t (FrC_7 _ _) (FrC_t a6 (FrC_7 _ _)), FrN_t (FrN_9 _ _) (FrN_t a7 (FrN_9 _ _))⟩
        · simp (disch := omega) only [↓reduceIte, J_lit, J_neg, Int.cast_ofNat_Int, J_lt_t, J_lt_f, J_le_t, J_le_f, J_eq_t, J_eq_f, within_t, within_f, isIn_t, isIn_f, inRow_t, inRow_f, isCell_t, isCell_f, inb_t, b4, bnd2_s, nx1, bind_s, a2, s3']
          rw [J_s]
        · simp (disch := omega) only [b5, bind_s, a3, s4']
        · have := a5.1 i hi
          simp (disch := omega) only [mset_ne, mset_eq, mrow_ne, mrow_eq, upd_eq, upd_ne] at this
          simp (disch := omega) only [mset_ne, mset_eq, mrow_ne, mrow_eq, upd_eq, upd_ne]
          exact this
        · have := a5.2 i hi
          simp (disch := omega) only [mset_ne, mset_eq, mrow_ne, mrow_eq, upd_eq, upd_ne] at this
          simp (disch := omega) only [mset_ne, mset_eq, mrow_ne, mrow_eq, upd_eq, upd_ne]
          exact this
      · have s3' : f_X5_take (J 59) M1 = _ := s3
        have s4' : f_X11_sign (J 59) N1 = _ := s4
        right
        refine ⟨cF M1 1 (P j'), rF (mset N1 257 9 (J (P j'))) 1 (P j'), ?_, ?_, FL_of (by omega), FrC_t (FrC_7 _ _) (FrC_t a6 (FrC_c _ _ _)), FrN_t (FrN_9 _ _) (FrN_t a7 (FrN_t (FrN_9 _ _) (FrN_r2 _ _ _)))⟩
        · simp (disch := omega) only [↓reduceIte, J_lit, J_neg, Int.cast_ofNat_Int, J_lt_t, J_lt_f, J_le_t, J_le_f, J_eq_t, J_eq_f, within_t, within_f, isIn_t, isIn_f, inRow_t, inRow_f, isCell_t, isCell_f, inb_t, b4, bnd2_s, nx1, bind_s, a2, s3']
        · simp (disch := omega) only [b5, bind_s, a3, s4']
    · right
      obtain ⟨kf, pf, f1, f2, f3, f4, f5⟩ := a4
      refine ⟨M1, N1, ?_, ?_, ⟨kf, pf, f1, f2, f3, f4, f5⟩, FrC_t (FrC_7 _ _) a6, FrN_t (FrN_9 _ _) a7⟩
      · simp (disch := omega) only [↓reduceIte, J_lit, J_neg, Int.cast_ofNat_Int, J_lt_t, J_lt_f, J_le_t, J_le_f, J_eq_t, J_eq_f, within_t, within_f, isIn_t, isIn_f, inRow_t, inRow_f, isCell_t, isCell_f, inb_t, b4, bnd2_s, nx1, bind_s, a2]
      · simp (disch := omega) only [b5, bind_s, a3, n_sign (show pf < 2147483648 by omega) f5]
  · right
    have nf : rF (mset N 257 9 (J (P j))) k (P j) 257 10 = J (P j) := rF_10 _ _ _
    have hpl : P j < 2147483648 := by omega
    have ff := fine_f hpl nf
    refine ⟨cF M k (P j), rF (mset N 257 9 (J (P j))) k (P j), ?_, ?_, FL_of (by omega), FrC_c _ _ _, FrN_t (FrN_9 _ _) (FrN_r2 _ _ _)⟩
    · simp (disch := omega) only [↓reduceIte, J_lit, J_neg, Int.cast_ofNat_Int, J_lt_t, J_lt_f, J_le_t, J_le_f, J_eq_t, J_eq_f, within_t, within_f, isIn_t, isIn_f, inRow_t, inRow_f, isCell_t, isCell_f, inb_t, b4, bnd2_s]
    · unfold rArea
      simp (disch := omega) only [↓reduceIte, J_lit, J_neg, Int.cast_ofNat_Int, J_lt_t, J_lt_f, J_le_t, J_le_f, J_eq_t, J_eq_f, within_t, within_f, isIn_t, isIn_f, inRow_t, inRow_f, isCell_t, isCell_f, inb_t, b5, bind_s, n_number hpl nf, bnd2_s, ff, n_190 hpl nf, n_sign hpl nf]
theorem LN62 : LN 62 = 144 := by decide +kernel
def DS (N0 : zM) (_ : Nat) (M N : zM) : Prop := (∀ i, i < 144 → M 62 i = N 263 i ∧ Lt (N 263 i) 4) ∧ ∀ i, 144 ≤ i → N 263 i = N0 263 i
theorem p_stones {tp : Nat → Nat} {n NN : Nat} {P E : Nat → Nat} {M N : zM} (h : TS M N tp n NN P E 0 0) (hz : ∀ i, i < 144 → N 263 i = J 0) :
    (∃ (l' : Nat) (M' N' : zM), l' ≤ 16 ∧ f_X8_readStones 54 M = some (J l', M') ∧ loopW (fun s => b_X11_text_131 (J 1) s.1 s.2) (J 0, N) = some (J l', N') ∧ DS N l' M' N' ∧ (N' 257 10 = J (-1) ∧ M' 78 1 = J 0 ∧ M' 78 2 = J (-1)) ∧ FrC M M' ∧ FrN N N') ∨
    (∃ (v : Int32) (M' N' : zM), f_X8_readStones 54 M = some (J (-1), M') ∧ loopW (fun s => b_X11_text_131 (J 1) s.1 s.2) (J 0, N) = some (v, N') ∧ FL M' N' ∧ FrC M M' ∧ FrN N N') := by
  have fM := t_fill (a := 62) (J 0) M (by rw [LN62]; decide)
  rw [LN62] at fM
  have fC : FrC M (mrow M 62 (fun i => if i < 144 then J 0 else M 62 i)) := ⟨fun j h1 h2 => by simp (disch := omega) only [mset_ne, mset_eq, mrow_ne, mrow_eq, upd_eq, upd_ne], fun i h1 h2 h3 => by simp (disch := omega) only [mset_ne, mset_eq, mrow_ne, mrow_eq, upd_eq, upd_ne]⟩
  have key := p_lines (tp := tp) (n := n) (NN := NN) (P := P) (E := E) (k := 1) (by omega) (b_X8_readStones_10 54) (DS N)
    (fun l M' N' v hd => by
      unfold DS at *
      simp (disch := omega) only [mset_ne, mset_eq, mrow_ne, mrow_eq, upd_eq, upd_ne]
      exact hd)
    (fun l M' hl ⟨j, h1, h2, h3⟩ => by
      unfold b_X8_readStones_10 f_X5_kind
      simp (disch := omega) only [↓grd_s, ↓reduceIte, J_lit, Int.cast_ofNat_Int, J_lt_t, J_lt_f, J_le_t, J_le_f, J_eq_t, J_eq_f, within_t, within_f, isIn_t, isIn_f, inRow_t, inRow_f, isCell_t, isCell_f, inb_t, ix_Jn, ix_J, Int.reduceToNat, Int.toNat_natCast, h1, h3, bind_s])
    (fun l j q M' N' ht hj hl hd => by
      rcases l_stones ht hj hl with ⟨j', q', M2, N2, v, R, hv, g1, g2, g3, g4, g5, g6, g9, g10⟩ | ⟨M2, N2, g3, g4, g5, g9, g10⟩
      · left
        refine ⟨j', q', M2, N2, g1, g2, g3, g4, g5, ⟨fun i hi => ?_, fun i hi => ?_⟩, g9, g10⟩
        · by_cases r : R i
          · obtain ⟨z1, z2⟩ := (g6.1 i hi).1 r
            rw [z1, z2]
            exact ⟨rfl, v, hv, rfl⟩
          · obtain ⟨z1, z2⟩ := (g6.1 i hi).2 r
            rw [z1, z2]
            exact hd.1 i hi
        · rw [g6.2 i hi]
          exact hd.2 i hi
      · exact Or.inr ⟨M2, N2, g3, g4, g5, g9, g10⟩)
    NN 0 0 0 (mrow M 62 (fun i => if i < 144 then J 0 else M 62 i)) N (by omega) (TS_fr h (by simp (disch := omega) only [mset_ne, mset_eq, mrow_ne, mrow_eq, upd_eq, upd_ne]) (by simp (disch := omega) only [mset_ne, mset_eq, mrow_ne, mrow_eq, upd_eq, upd_ne]) (by simp (disch := omega) only [mset_ne, mset_eq, mrow_ne, mrow_eq, upd_eq, upd_ne]) (by simp (disch := omega) only [mset_ne, mset_eq, mrow_ne, mrow_eq, upd_eq, upd_ne]) rfl rfl rfl rfl) (by omega) ⟨fun i hi => ⟨by rw [mrow_eq, hz i hi]; exact if_pos hi, 0, by omega, by rw [hz i hi]; rfl⟩, fun _ _ => rfl⟩
  unfold f_X8_readStones j_X8_readStones_83
  simp only [J_lit, Int.cast_ofNat_Int, Nat.reduceAdd, fM, bind_s]
  rcases key with ⟨l', M', N', f1, f2, f3, f4, f5, f6, f7⟩ | ⟨v, M', N', f2, f3, f4, f6, f7⟩
  · left
    have f2' : loopW (fun s => b_X8_readStones_10 54 s.1 s.2) (J 0, mrow M 62 (fun i => if i < 144 then J 0 else M 62 i)) = some (.inl (J l', M')) := f2
    refine ⟨l', M', N', f1, ?_, f3, f4, f5, FrC_t fC f6, f7⟩
    rw [f2']
    rfl
  · right
    have f2' : loopW (fun s => b_X8_readStones_10 54 s.1 s.2) (J 0, mrow M 62 (fun i => if i < 144 then J 0 else M 62 i)) = some (.inr (J (-1), M')) := f2
    refine ⟨v, M', N', ?_, f3, f4, FrC_t fC f6, f7⟩
    rw [f2']
    rfl
