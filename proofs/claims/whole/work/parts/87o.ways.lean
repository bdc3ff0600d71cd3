/-! ===== ways ===== -/
/-- what a line of ways changes -/
def WyI (M0 N0 M N : zM) (w i : Nat) : Prop := (∀ t, t < i → WdR (M 64 (12 * w + t)) (N 263 (1926 + 25 * w + 2 * t)) ∧ M 65 (12 * w + t) = N 263 (1927 + 25 * w + 2 * t) ∧ ∃ A : Nat, 1 ≤ A ∧ A ≤ 11 ∧ N 263 (1927 + 25 * w + 2 * t) = J A) ∧
  M 63 = M0 63 ∧ (∀ x, ¬ (12 * w ≤ x ∧ x < 12 * w + 12) → M 64 x = M0 64 x ∧ M 65 x = M0 65 x) ∧ (∀ x, ¬ (1926 + 25 * w ≤ x ∧ x < 1950 + 25 * w) → N 263 x = N0 263 x)
theorem way_loop {M0 N0 : zM} {tp : Nat → Nat} {n NN : Nat} {P E : Nat → Nat} {w : Nat} (hw : w < 16) : ∀ (m i j q : Nat) (M N : zM), TS M N tp n NN P E j q → 12 - i ≤ m → i ≤ 12 → WyI M0 N0 M N w i →
    (∃ (i' j' q' : Nat) (M' N' : zM), i' ≤ 12 ∧ j ≤ j' ∧ loopW (fun s => b_X8_readWay_2 54 (J w) s.1 s.2) (J i, M) = some (.inl (J i', M')) ∧ loopW (fun s => b_X11_readWay_70 (J (1925 + 25 * w : Nat)) s.1 s.2) (J i, N) = some (.inl (J i', N')) ∧ TS M' N' tp n NN P E j' q' ∧ M' 80 j' = J 59 ∧ WyI M0 N0 M' N' w i' ∧ FrC M M' ∧ FrN N N') ∨
    (∃ (v : Int32) (M' N' : zM), loopW (fun s => b_X8_readWay_2 54 (J w) s.1 s.2) (J i, M) = some (.inr (J 0, M')) ∧ loopW (fun s => b_X11_readWay_70 (J (1925 + 25 * w : Nat)) s.1 s.2) (J i, N) = some (.inl (v, N')) ∧ FL M' N' ∧ FrC M M' ∧ FrN N N') := by
  intro m
  induction m with
  | zero =>
    intro i j q M N h hm hi hd
    by_cases c : M 80 j = J 59
    · obtain ⟨e1, e2⟩ := way_end (J w) (J (1925 + 25 * w : Nat)) h hi c
      left
      refine ⟨i, j, P j, M, mset N 257 9 (J (P j)), hi, Nat.le_refl _, ?_, ?_, TS_at h, c, ?_, FrC_r _, FrN_9 _ _⟩
      · rw [loopW_eq]; simp only; rw [e1]
      · rw [loopW_eq]; simp only; rw [e2]
      · unfold WyI at *
        simp (disch := omega) only [mset_ne, mset_eq, mrow_ne, mrow_eq, upd_eq, upd_ne]
        exact hd
    · rcases way_word h hw hi c with ⟨j', q', M', N', u, v, A, g1, g2, g3⟩ | ⟨M', N', g1, g2, g3, g4, g5⟩
      · omega
      · right
        refine ⟨J i, M', N', ?_, ?_, g3, g4, g5⟩
        · rw [loopW_eq]; simp only; rw [g1]
        · rw [loopW_eq]; simp only; rw [g2]
  | succ m ih =>
    intro i j q M N h hm hi hd
    by_cases c : M 80 j = J 59
    · obtain ⟨e1, e2⟩ := way_end (J w) (J (1925 + 25 * w : Nat)) h hi c
      left
      refine ⟨i, j, P j, M, mset N 257 9 (J (P j)), hi, Nat.le_refl _, ?_, ?_, TS_at h, c, ?_, FrC_r _, FrN_9 _ _⟩
      · rw [loopW_eq]; simp only; rw [e1]
      · rw [loopW_eq]; simp only; rw [e2]
      · unfold WyI at *
        simp (disch := omega) only [mset_ne, mset_eq, mrow_ne, mrow_eq, upd_eq, upd_ne]
        exact hd
    · rcases way_word h hw hi c with ⟨j', q', M', N', u, v, A, g1, g2, g3, g4, g5, g6, g7, g8, g9, g10, g11, g12, g13, g14⟩ | ⟨M', N', g1, g2, g3, g4, g5⟩
      · have hd' : WyI M0 N0 M' N' w (i + 1) := by
          obtain ⟨d1, d2, d3, d4⟩ := hd
          refine ⟨fun t ht => ?_, by rw [g9]; exact d2, fun x hx => ?_, fun x hx => ?_⟩
          · rw [g10, g11, g12]
            by_cases e : t = i
            · subst e
              simp (disch := omega) only [mset_ne, mset_eq, mrow_ne, mrow_eq, upd_eq, upd_ne]
              exact ⟨g3, trivial, A, g4, g5, rfl⟩
            · simp (disch := omega) only [mset_ne, mset_eq, mrow_ne, mrow_eq, upd_eq, upd_ne]
              exact d1 t (by omega)
          · rw [g10, g11]
            have : x ≠ 12 * w + i := by omega
            simp (disch := omega) only [mset_ne, mset_eq, mrow_ne, mrow_eq, upd_eq, upd_ne]
            exact d3 x hx
          · rw [g12]
            have : x ≠ 1926 + 25 * w + 2 * i := by omega
            have : x ≠ 1927 + 25 * w + 2 * i := by omega
            simp (disch := omega) only [mset_ne, mset_eq, mrow_ne, mrow_eq, upd_eq, upd_ne]
            exact d4 x hx
        have e1 : loopW (fun s => b_X8_readWay_2 54 (J w) s.1 s.2) (J i, M) = loopW (fun s => b_X8_readWay_2 54 (J w) s.1 s.2) (J (i + 1 : Nat), M') := by
          rw [loopW_eq]; simp only; rw [g6]
        have e2 : loopW (fun s => b_X11_readWay_70 (J (1925 + 25 * w : Nat)) s.1 s.2) (J i, N) = loopW (fun s => b_X11_readWay_70 (J (1925 + 25 * w : Nat)) s.1 s.2) (J (i + 1 : Nat), N') := by
          rw [loopW_eq]; simp only; rw [g7]
        rw [e1, e2]
        rcases ih (i + 1) j' q' M' N' g8 (by omega) (by omega) hd' with ⟨i2, j2, q2, M2, N2, f1, f2, f3, f4, f5, f6, f7, f8, f9⟩ | ⟨v2, M2, N2, f1, f2, f3, f4, f5⟩
        · exact Or.inl ⟨i2, j2, q2, M2, N2, f1, by omega, f3, f4, f5, f6, f7, FrC_t g13 f8, FrN_t g14 f9⟩
        · exact Or.inr ⟨v2, M2, N2, f1, f2, f3, FrC_t g13 f4, FrN_t g14 f5⟩
      · right
        refine ⟨J i, M', N', ?_, ?_, g3, g4, g5⟩
        · rw [loopW_eq]; simp only; rw [g1]
        · rw [loopW_eq]; simp only; rw [g2]
/-- what is read of a way behind its walker -/
noncomputable def rWay (u54 : Int32) (N : zM) : Option zM := nm ((1925 : Int32) + ((25 : Int32) * u54)) fun v3_66 =>
  (loopW (fun s => b_X11_readWay_70 v3_66 s.1 s.2) ((0 : Int32), N)).bind (fun q => Sum.elim (fun r => j_X11_readWay_187 v3_66 r.1 r.2) some q)
theorem rWay_n {N : zM} {p : Nat} (hp : p < 2147483648) (h : N 257 10 = J p) (u : Int32) : rWay u N = some N := by
  unfold rWay
  have e : ∀ v : Int32, loopW (fun s => b_X11_readWay_70 v s.1 s.2) ((0 : Int32), N) = some (.inl (0, N)) := by
    intro v
    rw [loopW_eq]
    simp only
    unfold b_X11_readWay_70
    rw [if_pos (show f_X11_fine N = (0 : Int32) from fine_f hp h)]
  simp only [↓nm_s, e, bind_s, Sum.elim_inl, n_187 hp h]
theorem i_way {M N : zM} {tp : Nat → Nat} {n NN : Nat} {P E : Nat → Nat} {j q w : Nat} (h : TS M N tp n NN P E j q) (hw : w < 16) (hy : WyR (M 63) (M 64) (M 65) (N 263)) :
    (∃ (j' q' : Nat) (M' N' : zM), j < j' ∧ f_X8_readWay 54 (J w) M = some (J 1, M') ∧ (rWay (J w) N).bind (f_X11_sign (J 59)) = some N' ∧ TS M' N' tp n NN P E j' q' ∧ WyR (M' 63) (M' 64) (M' 65) (N' 263) ∧ (∀ i, ¬ (1925 ≤ i ∧ i < 2325) → N' 263 i = N 263 i) ∧ FrC M M' ∧ FrN N N') ∨
    (∃ M' N' : zM, f_X8_readWay 54 (J w) M = some (J 0, M') ∧ (rWay (J w) N).bind (f_X11_sign (J 59)) = some N' ∧ FL M' N' ∧ FrC M M' ∧ FrN N N') := by
  have e0 : J 1925 + J 25 * J (w : Int) = J ((1925 + 25 * w : Nat) : Int) := by rw [J_mul, J_add]; exact congrArg J (by omega)
  have hrw : rWay (J w) N = (loopW (fun s => b_X11_readWay_70 (J (1925 + 25 * w : Nat)) s.1 s.2) (J 0, N)).bind (fun q => Sum.elim (fun r => j_X11_readWay_187 (J (1925 + 25 * w : Nat)) r.1 r.2) some q) := by
    unfold rWay
    simp only [↓nm_s, J_lit, Int.cast_ofNat_Int, e0]
  rw [hrw]
  unfold f_X8_readWay
  have key := way_loop (M0 := M) (N0 := N) hw 12 0 j q M N h (by omega) (by omega) ⟨fun t ht => by omega, rfl, fun _ _ => ⟨rfl, rfl⟩, fun _ _ => rfl⟩
  rcases key with ⟨i', j', q', M', N', f1, f2, f3, f4, f5, f6, f7, f8, f9⟩ | ⟨v, M', N', f3, f4, f5, f8, f9⟩
  · have f3' : loopW (fun s => b_X8_readWay_2 54 (J w) s.1 s.2) ((0 : Int32), M) = _ := f3
    have f4' : loopW (fun s => b_X11_readWay_70 (J (1925 + 25 * w : Nat)) s.1 s.2) (J 0, N) = _ := f4
    have ft := fine_t f5.2.2.2.2.2.2.2
    have f0 : ¬ f_X11_fine N' = J 0 := by rw [ft]; decide
    have h' : TS (mset M' 63 w (J i')) (mset N' 263 (1925 + 25 * w) (J i')) tp n NN P E j' q' := TS_fr f5 (by simp (disch := omega) only [mset_ne, mset_eq, mrow_ne, mrow_eq, upd_eq, upd_ne]) (by simp (disch := omega) only [mset_ne, mset_eq, mrow_ne, mrow_eq, upd_eq, upd_ne]) (by simp (disch := omega) only [mset_ne, mset_eq, mrow_ne, mrow_eq, upd_eq, upd_ne]) (by simp (disch := omega) only [mset_ne, mset_eq, mrow_ne, mrow_eq, upd_eq, upd_ne]) (by simp (disch := omega) only [mset_ne, mset_eq, mrow_ne, mrow_eq, upd_eq, upd_ne]) (by simp (disch := omega) only [mset_ne, mset_eq, mrow_ne, mrow_eq, upd_eq, upd_ne]) (by simp (disch := omega) only [mset_ne, mset_eq, mrow_ne, mrow_eq, upd_eq, upd_ne]) (by simp (disch := omega) only [mset_ne, mset_eq, mrow_ne, mrow_eq, upd_eq, upd_ne])
    rcases i_sign h' (c := 59) (by unfold isSg; omega) with ⟨s1, s2, s3, s4⟩ | ⟨s1, s3, s4⟩
    · have s3' : f_X5_take (J 59) (mset M' 63 w (J i')) = _ := s3
      have s4' : f_X11_sign (J 59) (mset N' 263 (1925 + 25 * w) (J i')) = _ := s4
      have isb : isB (J 1) := Or.inr rfl
      left
      refine ⟨j' + 1, _, _, _, by omega, ?_, ?_, TS_next h' s2, ?_, fun i hi => ?_, FrC_t f8 (FrC_t (FrC_d _ (by omega) (by omega) _ _) (FrC_7 _ _)), FrN_t f9 (FrN_t ⟨fun j h1 h2 h3 => by simp (disch := omega) only [mset_ne, mset_eq, mrow_ne, mrow_eq, upd_eq, upd_ne], fun i h1 h2 h3 h4 h5 h6 => by simp (disch := omega) only [mset_ne, mset_eq, mrow_ne, mrow_eq, upd_eq, upd_ne]⟩ (FrN_9 _ _))⟩
      · rw [f3']
        simp only [bind_s, Sum.elim_inl]
        unfold j_X8_readWay_129
        simp (disch := omega) only [↓nm_s, ↓grd_s, ↓reduceIte, J_lit, Int.cast_ofNat_Int, J_lt_t, J_lt_f, J_le_t, J_le_f, J_eq_t, J_eq_f, within_t, within_f, isIn_t, isIn_f, inRow_t, inRow_f, isCell_t, isCell_f, inb_t, ix_Jn, ix_J, Int.reduceToNat, Int.toNat_natCast, Nat.reduceAdd, s3', bnd2_s]
        rw [if_pos isb]
      · rw [f4']
        simp only [bind_s, Sum.elim_inl]
        unfold j_X11_readWay_187
        simp (disch := omega) only [↓nm_s, ↓grd_s, ↓reduceIte, J_lit, Int.cast_ofNat_Int, J_lt_t, J_lt_f, J_le_t, J_le_f, J_eq_t, J_eq_f, within_t, within_f, isIn_t, isIn_f, inRow_t, inRow_f, isCell_t, isCell_f, inb_t, ix_Jn, ix_J, Int.reduceToNat, Int.toNat_natCast, f0, bind_s, s4']
      · obtain ⟨d1, d2, d3, d4⟩ := f7
        intro x hx
        simp (disch := omega) only [mset_ne, mset_eq, mrow_ne, mrow_eq, upd_eq, upd_ne]
        by_cases e : x = w
        · subst e
          refine ⟨i', f1, by simp (disch := omega) only [mset_ne, mset_eq, mrow_ne, mrow_eq, upd_eq, upd_ne], by simp (disch := omega) only [mset_ne, mset_eq, mrow_ne, mrow_eq, upd_eq, upd_ne], fun t ht => ?_⟩
          have n1 : 1926 + 25 * x + 2 * t ≠ 1925 + 25 * x := by omega
          have n2 : 1927 + 25 * x + 2 * t ≠ 1925 + 25 * x := by omega
          simp (disch := omega) only [mset_ne, mset_eq, mrow_ne, mrow_eq, upd_eq, upd_ne]
          exact d1 t ht
        · obtain ⟨L, l1, l2, l3, l4⟩ := hy x hx
          refine ⟨L, l1, ?_, ?_, fun t ht => ?_⟩
          · simp (disch := omega) only [mset_ne, mset_eq, mrow_ne, mrow_eq, upd_eq, upd_ne]
            rw [d2]; exact l2
          · have n1 : 1925 + 25 * x ≠ 1925 + 25 * w := by omega
            simp (disch := omega) only [mset_ne, mset_eq, mrow_ne, mrow_eq, upd_eq, upd_ne]
            rw [d4 _ (by omega)]; exact l3
          · have n1 : 1926 + 25 * x + 2 * t ≠ 1925 + 25 * w := by omega
            have n2 : 1927 + 25 * x + 2 * t ≠ 1925 + 25 * w := by omega
            simp (disch := omega) only [mset_ne, mset_eq, mrow_ne, mrow_eq, upd_eq, upd_ne]
            rw [d4 _ (by omega), d4 _ (by omega), (d3 (12 * x + t) (by omega)).1, (d3 (12 * x + t) (by omega)).2]
            exact l4 t ht
      · have n1 : i ≠ 1925 + 25 * w := by omega
        simp (disch := omega) only [mset_ne, mset_eq, mrow_ne, mrow_eq, upd_eq, upd_ne]
        exact f7.2.2.2 i (by omega)
    · exfalso
      apply s1
      simp (disch := omega) only [mset_ne, mset_eq, mrow_ne, mrow_eq, upd_eq, upd_ne]
      exact f6
  · have f3' : loopW (fun s => b_X8_readWay_2 54 (J w) s.1 s.2) ((0 : Int32), M) = _ := f3
    have f4' : loopW (fun s => b_X11_readWay_70 (J (1925 + 25 * w : Nat)) s.1 s.2) (J 0, N) = _ := f4
    obtain ⟨kf, pf, p1, p2, p3, p4, p5⟩ := f5
    right
    refine ⟨M', N', ?_, ?_, ⟨kf, pf, p1, p2, p3, p4, p5⟩, f8, f9⟩
    · rw [f3']
      rfl
    · rw [f4']
      simp only [bind_s, Sum.elim_inl, n_187 (show pf < 2147483648 by omega) p5, n_sign (show pf < 2147483648 by omega) p5]
theorem l_ways {M N : zM} {tp : Nat → Nat} {n NN : Nat} {P E : Nat → Nat} {j q l wn : Nat} (h : TS M N tp n NN P E j q) (hj : j < NN) (hl : l ≤ 16) (hwn : wn ≤ 16) (hN : N 258 940 = J wn) (hy : WyR (M 63) (M 64) (M 65) (N 263)) :
    (∃ (j' q' : Nat) (M' N' : zM), j < j' ∧ l < 16 ∧ b_X8_readWays_10 54 (J wn) (J l) M = some (.inl (J (l + 1 : Nat), M')) ∧ (f_X11_readWay (J l) (mset N 257 9 (J (P j)))).bind (f_X11_sign (J 59)) = some N' ∧ TS M' N' tp n NN P E j' q' ∧ WyR (M' 63) (M' 64) (M' 65) (N' 263) ∧ (∀ i, ¬ (1925 ≤ i ∧ i < 2325) → N' 263 i = N 263 i) ∧ FrC M M' ∧ FrN N N') ∨
    (∃ M' N' : zM, b_X8_readWays_10 54 (J wn) (J l) M = some (.inr (.inr (J (-1), M'))) ∧ (f_X11_readWay (J l) (mset N 257 9 (J (P j)))).bind (f_X11_sign (J 59)) = some N' ∧ FL M' N' ∧ FrC M M' ∧ FrN N N') := by
  have hn := TS_n h
  have hkd := i_kind h
  obtain ⟨kk, k1, k2, k3, k4⟩ := i_kd h
  have hk0 : kk ≠ 0 := fun e => by have := k3.1 e; omega
  have hat := TS_at h
  obtain ⟨u, w1, w2⟩ := i_word hat
  rw [mset_2] at w1
  have hk80 : u = J (pkK 21) ↔ kk = 149 := by
    rw [w2 21 (by omega), k1, J_eq (by omega) (by omega) (by omega) (by omega)]
    omega
  obtain ⟨u1, u2, bu1, bu2, cbeg, rbeg⟩ : ∃ (u1 u2 : Int32), Bo u1 (kk = 149) ∧ Bo u2 (l = 16) ∧ b_X8_readWays_10 54 (J wn) (J l) M = j_X8_readWays_39_10 54 (J wn) (J l) u1 M ∧ f_X11_readWay (J l) (mset N 257 9 (J (P j))) = j_X11_readWay_39 u1 u2 (mset N 257 9 (J (P j))) := by
    obtain ⟨u2, bu2, r2⟩ : ∃ u2, Bo u2 (l = 16) ∧ ∀ (b : Int32) (N : zM), j_X11_readWay_28 (J l) b N = j_X11_readWay_39 b u2 N := by
      by_cases c2 : l = 16
      · refine ⟨J 1, Or.inl ⟨rfl, c2⟩, fun b N => ?_⟩
        unfold j_X11_readWay_28
        simp (disch := omega) only [↓reduceIte, J_lit, Int.cast_ofNat_Int, J_lt_t, J_lt_f, J_le_t, J_le_f, J_eq_t, J_eq_f, within_t, within_f, isIn_t, isIn_f, inRow_t, inRow_f, isCell_t, isCell_f, inb_t]
      · refine ⟨J 0, Or.inr ⟨rfl, c2⟩, fun b N => ?_⟩
        unfold j_X11_readWay_28
        simp (disch := omega) only [↓reduceIte, J_lit, Int.cast_ofNat_Int, J_lt_t, J_lt_f, J_le_t, J_le_f, J_eq_t, J_eq_f, within_t, within_f, isIn_t, isIn_f, inRow_t, inRow_f, isCell_t, isCell_f, inb_t]
    by_cases c : kk = 149
    · have eu := hk80.2 c
      refine ⟨J 1, u2, Or.inl ⟨rfl, c⟩, bu2, ?_, ?_⟩
      · unfold b_X8_readWays_10
        simp (disch := omega) only [↓reduceIte, J_lit, J_neg, Int.cast_ofNat_Int, J_lt_t, J_lt_f, J_le_t, J_le_f, J_eq_t, J_eq_f, within_t, within_f, isIn_t, isIn_f, inRow_t, inRow_f, isCell_t, isCell_f, inb_t, hkd, bind_s, k1]
      · unfold f_X11_readWay
        simp (disch := omega) only [↓reduceIte, J_lit, J_neg, Int.cast_ofNat_Int, w1, bnd2_s, sp_walker, eu, r2]
    · have eu : ¬ u = J (pkK 21) := fun e => c (hk80.1 e)
      refine ⟨J 0, u2, Or.inr ⟨rfl, c⟩, bu2, ?_, ?_⟩
      · unfold b_X8_readWays_10
        simp (disch := omega) only [↓reduceIte, J_lit, J_neg, Int.cast_ofNat_Int, J_lt_t, J_lt_f, J_le_t, J_le_f, J_eq_t, J_eq_f, within_t, within_f, isIn_t, isIn_f, inRow_t, inRow_f, isCell_t, isCell_f, inb_t, hkd, bind_s, k1]
      · unfold f_X11_readWay
        simp (disch := omega) only [↓reduceIte, J_lit, J_neg, Int.cast_ofNat_Int, w1, bnd2_s, sp_walker, eu, r2]
  rw [cbeg, rbeg]
  have rsplit : j_X11_readWay_39 u1 u2 (mset N 257 9 (J (P j))) = (f_X11_mayBegin u1 u2 (mset N 257 9 (J (P j)))).bind fun M39 => bnd2 (f_X11_number (0 : Int32) ((M39 258 (ix (940 : Int32))) - (1 : Int32)) M39) rWay := rfl
  rw [rsplit]
  unfold j_X8_readWays_39_10
  have ew : J (wn : Int) - J 1 = J ((wn : Int) - 1) := J_sub _ _
  rcases i_begin hat (kk = 149) (l = 16) (fun e => ⟨21, by omega, by rw [k1, e]⟩) bu1 bu2 (x := l) (y := 16) (by omega) (by omega) (by omega) with ⟨b1, b2, b3, b4, b5⟩ | ⟨k, hk, b4, b5⟩
  · rw [mset_2] at b5
    have nx1 := i_next h b3
    have h1 := TS_next h b3
    have hn1 := TS_n h1
    have hN1 : mset N 257 9 (J (E j)) 258 940 = J wn := by simp (disch := omega) only [mset_ne, mset_eq, mrow_ne, mrow_eq, upd_eq, upd_ne]; exact hN
    have i940 : ix (J 940) = 940 := by decide
    rcases i_num h1 (lo := 0) (hi := (wn : Int) - 1) (by omega) (by omega) (by omega) (by omega) with ⟨w, a1, a2, a3, a4, a5, a6⟩ | ⟨k, e, hk, a5, a6⟩
    · have h2 := TS_next h1 a3
      have hne : ¬ J (w : Int) = J (-1) := by rw [J_eq (by omega) (by omega) (by omega) (by omega)]; omega
      have hy2 : WyR (mset (mset M 78 7 (J (j + 1 : Nat))) 78 7 (J (j + 1 + 1 : Nat)) 63) (mset (mset M 78 7 (J (j + 1 : Nat))) 78 7 (J (j + 1 + 1 : Nat)) 64) (mset (mset M 78 7 (J (j + 1 : Nat))) 78 7 (J (j + 1 + 1 : Nat)) 65) (mset (mset N 257 9 (J (E j))) 257 9 (J (E (j + 1))) 263) := by
        simp (disch := omega) only [mset_ne, mset_eq, mrow_ne, mrow_eq, upd_eq, upd_ne]
        exact hy
      rcases i_way h2 (w := w) (by omega) hy2 with ⟨j', q', M1, N1, g1, g2, g3, g4, g5, g6, g7, g8⟩ | ⟨M1, N1, g2, g3, g4, g7, g8⟩
      · left
        refine ⟨j', q', M1, N1, by omega, by omega, ?_, ?_, g4, g5, fun i hi => ?_, FrC_t (FrC_7 _ _) (FrC_t (FrC_7 _ _) g7), FrN_t (FrN_9 _ _) (FrN_t (FrN_9 _ _) g8)⟩
        · simp (disch := omega) only [↓reduceIte, J_lit, J_neg, Int.cast_ofNat_Int, J_lt_t, J_lt_f, J_le_t, J_le_f, J_eq_t, J_eq_f, within_t, within_f, isIn_t, isIn_f, inRow_t, inRow_f, isCell_t, isCell_f, inb_t, b4, bnd2_s, nx1, bind_s, ew, a5, hne, g2]
          rw [J_s]
        · simp (disch := omega) only [J_lit, Int.cast_ofNat_Int, b5, bind_s, i940, hN1, ew, a6, bnd2_s]
          exact g3
        · rw [g6 i hi]
          simp (disch := omega) only [mset_ne, mset_eq, mrow_ne, mrow_eq, upd_eq, upd_ne]
      · right
        refine ⟨M1, N1, ?_, ?_, g4, FrC_t (FrC_7 _ _) (FrC_t (FrC_7 _ _) g7), FrN_t (FrN_9 _ _) (FrN_t (FrN_9 _ _) g8)⟩
        · simp (disch := omega) only [↓reduceIte, J_lit, J_neg, Int.cast_ofNat_Int, J_lt_t, J_lt_f, J_le_t, J_le_f, J_eq_t, J_eq_f, within_t, within_f, isIn_t, isIn_f, inRow_t, inRow_f, isCell_t, isCell_f, inb_t, b4, bnd2_s, nx1, bind_s, ew, a5, hne, g2]
        · simp (disch := omega) only [J_lit, Int.cast_ofNat_Int, b5, bind_s, i940, hN1, ew, a6, bnd2_s]
          exact g3
    · right
      have nf : rF (mset (mset N 257 9 (J (E j))) 257 9 (J e)) k (P (j + 1)) 257 10 = J (P (j + 1)) := rF_10 _ _ _
      have hpl : P (j + 1) < 2147483648 := by omega
      refine ⟨cF (mset M 78 7 (J (j + 1 : Nat))) k (P (j + 1)), rF (mset (mset N 257 9 (J (E j))) 257 9 (J e)) k (P (j + 1)), ?_, ?_, FL_of (by omega), FrC_t (FrC_7 _ _) (FrC_c _ _ _), FrN_t (FrN_9 _ _) (FrN_t (FrN_9 _ _) (FrN_r2 _ _ _))⟩
      · simp (disch := omega) only [↓reduceIte, J_lit, J_neg, Int.cast_ofNat_Int, J_lt_t, J_lt_f, J_le_t, J_le_f, J_eq_t, J_eq_f, within_t, within_f, isIn_t, isIn_f, inRow_t, inRow_f, isCell_t, isCell_f, inb_t, b4, bnd2_s, nx1, bind_s, ew, a5]
      · simp (disch := omega) only [J_lit, Int.cast_ofNat_Int, b5, bind_s, i940, hN1, ew, a6, bnd2_s]
        rw [rWay_n hpl nf]
        simp only [bind_s, n_sign hpl nf]
  · right
    have nf : rF (mset N 257 9 (J (P j))) k (P j) 257 10 = J (P j) := rF_10 _ _ _
    have hpl : P j < 2147483648 := by omega
    refine ⟨cF M k (P j), rF (mset N 257 9 (J (P j))) k (P j), ?_, ?_, FL_of (by omega), FrC_c _ _ _, FrN_t (FrN_9 _ _) (FrN_r2 _ _ _)⟩
    · simp (disch := omega) only [↓reduceIte, J_lit, J_neg, Int.cast_ofNat_Int, J_lt_t, J_lt_f, J_le_t, J_le_f, J_eq_t, J_eq_f, within_t, within_f, isIn_t, isIn_f, inRow_t, inRow_f, isCell_t, isCell_f, inb_t, b4, bnd2_s]
    · simp (disch := omega) only [b5, bind_s, n_number hpl nf, bnd2_s, rWay_n hpl nf, n_sign hpl nf]
theorem LN63 : LN 63 = 16 := by decide +kernel
def DY (wn : Nat) (N0 : zM) (_ : Nat) (M N : zM) : Prop := WyR (M 63) (M 64) (M 65) (N 263) ∧ (∀ i, ¬ (1925 ≤ i ∧ i < 2325) → N 263 i = N0 263 i) ∧ N 258 940 = J wn
theorem p_ways {tp : Nat → Nat} {n NN : Nat} {P E : Nat → Nat} {M N : zM} {wn : Nat} (h : TS M N tp n NN P E 0 0) (hwn : wn ≤ 16) (hN : N 258 940 = J wn) (hz : ∀ i, i < 16 → N 263 (1925 + 25 * i) = J 0) :
    (∃ (l' : Nat) (M' N' : zM), l' ≤ 16 ∧ f_X8_readWays 54 (J wn) M = some (J l', M') ∧ loopW (fun s => b_X11_text_131 (J 2) s.1 s.2) (J 0, N) = some (J l', N') ∧ DY wn N l' M' N' ∧ (N' 257 10 = J (-1) ∧ M' 78 1 = J 0 ∧ M' 78 2 = J (-1)) ∧ FrC M M' ∧ FrN N N') ∨
    (∃ (v : Int32) (M' N' : zM), f_X8_readWays 54 (J wn) M = some (J (-1), M') ∧ loopW (fun s => b_X11_text_131 (J 2) s.1 s.2) (J 0, N) = some (v, N') ∧ FL M' N' ∧ FrC M M' ∧ FrN N N') := by
  have fM := t_fill (a := 63) (J 0) M (by rw [LN63]; decide)
  rw [LN63] at fM
  have fC : FrC M (mrow M 63 (fun i => if i < 16 then J 0 else M 63 i)) := ⟨fun j h1 h2 => by simp (disch := omega) only [mset_ne, mset_eq, mrow_ne, mrow_eq, upd_eq, upd_ne], fun i h1 h2 h3 => by simp (disch := omega) only [mset_ne, mset_eq, mrow_ne, mrow_eq, upd_eq, upd_ne]⟩
  have key := p_lines (tp := tp) (n := n) (NN := NN) (P := P) (E := E) (k := 2) (by omega) (b_X8_readWays_10 54 (J wn)) (DY wn N)
    (fun l M' N' v hd => by
      unfold DY at *
      simp (disch := omega) only [mset_ne, mset_eq, mrow_ne, mrow_eq, upd_eq, upd_ne]
      exact hd)
    (fun l M' hl ⟨j, h1, h2, h3⟩ => by
      unfold b_X8_readWays_10 f_X5_kind
      simp (disch := omega) only [↓grd_s, ↓reduceIte, J_lit, Int.cast_ofNat_Int, J_lt_t, J_lt_f, J_le_t, J_le_f, J_eq_t, J_eq_f, within_t, within_f, isIn_t, isIn_f, inRow_t, inRow_f, isCell_t, isCell_f, inb_t, ix_Jn, ix_J, Int.reduceToNat, Int.toNat_natCast, h1, h3, bind_s])
    (fun l j q M' N' ht hj hl hd => by
      rcases l_ways ht hj hl hwn hd.2.2 hd.1 with ⟨j', q', M2, N2, g1, g2, g3, g4, g5, g6, g7, g9, g10⟩ | ⟨M2, N2, g3, g4, g5, g9, g10⟩
      · exact Or.inl ⟨j', q', M2, N2, g1, g2, g3, g4, g5, ⟨g6, fun i hi => (g7 i hi).trans (hd.2.1 i hi), by rw [g10.1 258 (by decide) (by decide) (by decide)]; exact hd.2.2⟩, g9, g10⟩
      · exact Or.inr ⟨M2, N2, g3, g4, g5, g9, g10⟩)
    NN 0 0 0 (mrow M 63 (fun i => if i < 16 then J 0 else M 63 i)) N (by omega) (TS_fr h (by simp (disch := omega) only [mset_ne, mset_eq, mrow_ne, mrow_eq, upd_eq, upd_ne]) (by simp (disch := omega) only [mset_ne, mset_eq, mrow_ne, mrow_eq, upd_eq, upd_ne]) (by simp (disch := omega) only [mset_ne, mset_eq, mrow_ne, mrow_eq, upd_eq, upd_ne]) (by simp (disch := omega) only [mset_ne, mset_eq, mrow_ne, mrow_eq, upd_eq, upd_ne]) rfl rfl rfl rfl) (by omega) ⟨fun w hw => ⟨0, by omega, by rw [mrow_eq]; exact if_pos hw, hz w hw, fun i hi => by omega⟩, fun _ _ => rfl, hN⟩
  unfold f_X8_readWays j_X8_readWays_88
  simp only [J_lit, Int.cast_ofNat_Int, Nat.reduceAdd, fM, bind_s]
  rcases key with ⟨l', M', N', f1, f2, f3, f4, f5, f6, f7⟩ | ⟨v, M', N', f2, f3, f4, f6, f7⟩
  · left
    have f2' : loopW (fun s => b_X8_readWays_10 54 (J wn) s.1 s.2) (J 0, mrow M 63 (fun i => if i < 16 then J 0 else M 63 i)) = some (.inl (J l', M')) := f2
    refine ⟨l', M', N', f1, ?_, f3, f4, f5, FrC_t fC f6, f7⟩
    rw [f2']
    rfl
  · right
    have f2' : loopW (fun s => b_X8_readWays_10 54 (J wn) s.1 s.2) (J 0, mrow M 63 (fun i => if i < 16 then J 0 else M 63 i)) = some (.inr (J (-1), M')) := f2
    refine ⟨v, M', N', ?_, f3, f4, FrC_t fC f6, f7⟩
    rw [f2']
    rfl
