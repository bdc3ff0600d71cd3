/-! ===== a text: lines of stones ===== -/
theorem i_place {M N : zM} {tp : Nat → Nat} {n NN : Nat} {P E : Nat → Nat} {j q : Nat} (h : TS M N tp n NN P E j q) :
    (∃ (x y : Nat) (M' N1 N2 : zM), x ≤ 11 ∧ y ≤ 11 ∧ f_X8_readPlace 54 M = some (J (12 * y + x : Nat), M') ∧ f_X11_number (J 0) (J 11) N = some (J x, N1) ∧ f_X11_number (J 0) (J 11) N1 = some (J y, N2) ∧ (∃ q', TS M' N2 tp n NN P E (j + 2) q') ∧ (∀ i, i ≠ 78 → M' i = M i) ∧ (∀ i, i ≠ 257 → N2 i = N i) ∧ FrC M M' ∧ FrN N N2) ∨
    (∃ (a b : Int32) (M' N1 N2 : zM), f_X8_readPlace 54 M = some (J (-1), M') ∧ f_X11_number (J 0) (J 11) N = some (a, N1) ∧ f_X11_number (J 0) (J 11) N1 = some (b, N2) ∧ FL M' N2 ∧ FrC M M' ∧ FrN N N2) := by
  have hn := TS_n h
  unfold f_X8_readPlace j_X8_readPlace_24
  rcases i_num h (lo := 0) (hi := 11) (by omega) (by omega) (by omega) (by omega) with ⟨x, v1, v2, v3, v4, v5, v6⟩ | ⟨k, e, hk, v5, v6⟩
  · have h1 := TS_next h v3
    have hn1 := TS_n h1
    have nex : ¬ J (x : Int) = J (-1) := by
      rw [J_eq (by omega) (by omega) (by omega) (by omega)]; omega
    rcases i_num h1 (lo := 0) (hi := 11) (by omega) (by omega) (by omega) (by omega) with ⟨y, w1, w2, w3, w4, w5, w6⟩ | ⟨k, e, hk, w5, w6⟩
    · have ney : ¬ J (y : Int) = J (-1) := by
        rw [J_eq (by omega) (by omega) (by omega) (by omega)]; omega
      left
      refine ⟨x, y, _, _, _, by omega, by omega, ?_, v6, w6, ⟨_, TS_next h1 w3⟩, fun i hi => by simp (disch := omega) only [mset_ne, mset_eq, mrow_ne, mrow_eq, upd_eq, upd_ne], fun i hi => by simp (disch := omega) only [mset_ne, mset_eq, mrow_ne, mrow_eq, upd_eq, upd_ne], FrC_t (FrC_7 _ _) (FrC_7 _ _), FrN_t (FrN_9 _ _) (FrN_9 _ _)⟩
      simp (disch := omega) only [↓reduceIte, J_lit, J_neg, Int.cast_ofNat_Int, J_lt_t, J_lt_f, J_le_t, J_le_f, J_eq_t, J_eq_f, within_t, within_f, isIn_t, isIn_f, inRow_t, inRow_f, isCell_t, isCell_f, inb_t, v5, w5, bnd2_s, nex, ney, J_mul, J_add]
      rfl
    · right
      refine ⟨_, _, cF (mset M 78 7 (J (j + 1 : Nat))) k (P (j + 1)), _, _, ?_, v6, w6, FL_of (by omega), FrC_t (FrC_7 _ _) (FrC_c _ _ _), FrN_t (FrN_9 _ _) (FrN_t (FrN_9 _ _) (FrN_r2 _ _ _))⟩
      simp (disch := omega) only [↓reduceIte, J_lit, J_neg, Int.cast_ofNat_Int, J_lt_t, J_lt_f, J_le_t, J_le_f, J_eq_t, J_eq_f, within_t, within_f, isIn_t, isIn_f, inRow_t, inRow_f, isCell_t, isCell_f, inb_t, v5, w5, bnd2_s, nex]
  · right
    have nf : rF (mset N 257 9 (J e)) k (P j) 257 10 = J (P j) := rF_10 _ _ _
    refine ⟨_, _, cF M k (P j), _, _, ?_, v6, n_number (by omega) nf _ _, FL_of (by omega), FrC_c _ _ _, FrN_t (FrN_9 _ _) (FrN_r2 _ _ _)⟩
    simp (disch := omega) only [↓reduceIte, J_lit, J_neg, Int.cast_ofNat_Int, J_lt_t, J_lt_f, J_le_t, J_le_f, J_eq_t, J_eq_f, within_t, within_f, isIn_t, isIn_f, inRow_t, inRow_f, isCell_t, isCell_f, inb_t, v5, bnd2_s]
def inR (x1 y1 x2 y2 i : Nat) : Prop := min x1 x2 ≤ i % 12 ∧ i % 12 ≤ max x1 x2 ∧ min y1 y2 ≤ i / 12 ∧ i / 12 ≤ max y1 y2
theorem p_fillC {M : zM} {x1 y1 x2 y2 : Nat} (v : Int32) (hx1 : x1 ≤ 11) (hy1 : y1 ≤ 11) (hx2 : x2 ≤ 11) (hy2 : y2 ≤ 11) : ∃ M', j_X8_readArea_45 54 v (J (12 * y1 + x1 : Nat)) (J (12 * y2 + x2 : Nat)) M = some (J 1, M') ∧ (∀ i, i < 144 → (inR x1 y1 x2 y2 i → M' 62 i = v) ∧ (¬ inR x1 y1 x2 y2 i → M' 62 i = M 62 i)) ∧ ∀ j, j ≠ 62 → M' j = M j := by
  have a1 : irem (J ((12 * y1 + x1 : Nat) : Int)) (J 12) = J (x1 : Int) := by rw [J_rem (by omega) (by omega) (by omega) (by omega)]; exact congrArg J (by omega)
  have a2 : irem (J ((12 * y2 + x2 : Nat) : Int)) (J 12) = J (x2 : Int) := by rw [J_rem (by omega) (by omega) (by omega) (by omega)]; exact congrArg J (by omega)
  have a3 : f_J9_min_7cf53 (J (x1 : Int)) (J (x2 : Int)) = J ((min x1 x2 : Nat) : Int) := by rw [t_min2 (by omega) (by omega) (by omega) (by omega)]; exact congrArg J (by omega)
  have a4 : f_J9_max_7cf53 (J (x1 : Int)) (J (x2 : Int)) = J ((max x1 x2 : Nat) : Int) := by rw [t_max2 (by omega) (by omega) (by omega) (by omega)]; exact congrArg J (by omega)
  have a5 : f_J9_min_7cf53 (J ((12 * y1 + x1 : Nat) : Int)) (J ((12 * y2 + x2 : Nat) : Int)) / J 12 = J ((min y1 y2 : Nat) : Int) := by
    rw [t_min2 (by omega) (by omega) (by omega) (by omega), J_div (by omega) (by omega) (by omega) (by omega)]; exact congrArg J (by omega)
  have a6 : f_J9_max_7cf53 (J ((12 * y1 + x1 : Nat) : Int)) (J ((12 * y2 + x2 : Nat) : Int)) / J 12 = J ((max y1 y2 : Nat) : Int) := by
    rw [t_max2 (by omega) (by omega) (by omega) (by omega), J_div (by omega) (by omega) (by omega) (by omega)]; exact congrArg J (by omega)
  have key : Wp (loopW (fun s => b_X8_readArea_99 54 v (J ((min x1 x2 : Nat) : Int)) (J ((max x1 x2 : Nat) : Int)) (J ((max y1 y2 : Nat) : Int)) s.1 s.2) (J ((min y1 y2 : Nat) : Int), M)) (fun M' => (∀ i, i < 144 → (inR x1 y1 x2 y2 i → M' 62 i = v) ∧ (¬ inR x1 y1 x2 y2 i → M' 62 i = M 62 i)) ∧ ∀ j, j ≠ 62 → M' j = M j) := by
    refine loop_fr (fun Y s => s.1 = J Y ∧ (∀ i, i < 144 → (inR x1 y1 x2 y2 i ∧ i / 12 < Y → s.2 62 i = v) ∧ (¬ (inR x1 y1 x2 y2 i ∧ i / 12 < Y) → s.2 62 i = M 62 i)) ∧ ∀ j, j ≠ 62 → s.2 j = M j) (min y1 y2) (max y1 y2 + 1) (by omega) ⟨rfl, fun i _ => ⟨fun h => by unfold inR at h; omega, fun _ => rfl⟩, fun _ _ => rfl⟩ ?_ ?_
    · rintro Y ⟨s1, A⟩ hy1' hy2' ⟨e1, e2, e3⟩
      simp only at e1 e2 e3
      subst e1
      unfold b_X8_readArea_99 j_X8_readArea_137_99
      simp (disch := omega) only [↓reduceIte, J_lt_t, J_lt_f, J_le_t, J_le_f, J_eq_t, J_eq_f, within_t, within_f, isIn_t, isIn_f, inRow_t, inRow_f, isCell_t, isCell_f, inb_t]
      refine wp_bind ?_
      refine wp_mono (P := fun A' => (∀ i, i < 144 → (inR x1 y1 x2 y2 i ∧ i / 12 < Y + 1 → A' 62 i = v) ∧ (¬ (inR x1 y1 x2 y2 i ∧ i / 12 < Y + 1) → A' 62 i = M 62 i)) ∧ ∀ j, j ≠ 62 → A' j = M j) ?_ (fun A' hA => wp_some ⟨J_s _, hA⟩)
      refine loop_fr (fun X s => s.1 = J X ∧ (∀ i, i < 144 → (inR x1 y1 x2 y2 i ∧ (i / 12 < Y ∨ i / 12 = Y ∧ i % 12 < X) → s.2 62 i = v) ∧ (¬ (inR x1 y1 x2 y2 i ∧ (i / 12 < Y ∨ i / 12 = Y ∧ i % 12 < X)) → s.2 62 i = M 62 i)) ∧ ∀ j, j ≠ 62 → s.2 j = M j) (min x1 x2) (max x1 x2 + 1) (by omega) ⟨rfl, fun i hi => ⟨fun h => ?_, fun h => ?_⟩, e3⟩ ?_ ?_
      · refine (e2 i hi).1 ⟨h.1, ?_⟩
        unfold inR at h
        omega
      · refine (e2 i hi).2 (fun q => h ⟨q.1, Or.inl q.2⟩)
      · rintro X ⟨s1, A1⟩ hx1' hx2' ⟨g1, g2, g3⟩
        simp only at g1 g2 g3
        subst g1
        have ei : J 12 * J (Y : Int) + J (X : Int) = J ((12 * Y + X : Nat) : Int) := by rw [J_mul, J_add]; rfl
        unfold b_X8_readArea_110_99
        simp (disch := omega) only [↓nm_s, ↓grd_s, ↓reduceIte, J_lit, Int.cast_ofNat_Int, J_lt_t, J_lt_f, J_le_t, J_le_f, J_eq_t, J_eq_f, within_t, within_f, isIn_t, isIn_f, inRow_t, inRow_f, isCell_t, isCell_f, inb_t, ix_Jn, ix_J, Int.reduceToNat, Int.toNat_natCast, Nat.reduceAdd, ei]
        refine wp_some ⟨J_s _, fun i hi => ?_, fun j hj => by simp (disch := omega) only [mset_ne, mset_eq, mrow_ne, mrow_eq, upd_eq, upd_ne]; exact g3 j hj⟩
        simp only
        by_cases e : i = 12 * Y + X
        · subst e
          simp (disch := omega) only [mset_ne, mset_eq, mrow_ne, mrow_eq, upd_eq, upd_ne]
          refine ⟨fun _ => trivial, fun h => ?_⟩
          exfalso
          refine h ⟨?_, Or.inr ⟨by omega, by omega⟩⟩
          unfold inR
          omega
        · simp (disch := omega) only [mset_ne, mset_eq, mrow_ne, mrow_eq, upd_eq, upd_ne]
          refine ⟨fun h => (g2 i hi).1 ⟨h.1, by omega⟩, fun h => (g2 i hi).2 (fun q => h ⟨q.1, by omega⟩)⟩
      · rintro ⟨s1, A1⟩ ⟨g1, g2, g3⟩
        simp only at g1 g2 g3
        subst g1
        unfold b_X8_readArea_110_99
        simp (disch := omega) only [↓reduceIte, J_lt_t, J_lt_f, J_le_t, J_le_f, J_eq_t, J_eq_f, within_t, within_f, isIn_t, isIn_f, inRow_t, inRow_f, isCell_t, isCell_f, inb_t]
        refine wp_some ⟨fun i hi => ⟨fun h => (g2 i hi).1 ⟨h.1, ?_⟩, fun h => (g2 i hi).2 (fun q => h ⟨q.1, by omega⟩)⟩, g3⟩
        unfold inR at h
        omega
    · rintro ⟨s1, A⟩ ⟨e1, e2, e3⟩
      simp only at e1 e2 e3
      subst e1
      unfold b_X8_readArea_99
      simp (disch := omega) only [↓reduceIte, J_lt_t, J_lt_f, J_le_t, J_le_f, J_eq_t, J_eq_f, within_t, within_f, isIn_t, isIn_f, inRow_t, inRow_f, isCell_t, isCell_f, inb_t]
      refine wp_some ⟨fun i hi => ⟨fun h => (e2 i hi).1 ⟨h, ?_⟩, fun h => (e2 i hi).2 (fun q => h q.1)⟩, e3⟩
      unfold inR at h
      omega
  obtain ⟨M', e, k1, k2⟩ := key
  refine ⟨M', ?_, k1, k2⟩
  unfold j_X8_readArea_45 j_X8_readArea_143
  simp (disch := omega) only [↓nm_s, J_lit, Int.cast_ofNat_Int, a1, a2, a3, a4, a5, a6, e, bind_s]
theorem p_fillN {N : zM} {x1 y1 x2 y2 : Nat} (v : Int32) (hf : N 257 10 = J (-1)) (hx1 : x1 ≤ 11) (hy1 : y1 ≤ 11) (hx2 : x2 ≤ 11) (hy2 : y2 ≤ 11) : ∃ N', j_X11_readStones_190 v (J x1) (J y1) (J x2) (J y2) N = some N' ∧ (∀ i, i < 144 → (inR x1 y1 x2 y2 i → N' 263 i = v) ∧ (¬ inR x1 y1 x2 y2 i → N' 263 i = N 263 i)) ∧ (∀ i, 144 ≤ i → N' 263 i = N 263 i) ∧ ∀ j, j ≠ 263 → N' j = N j := by
  have key : Wp (loopW (fun s => b_X11_readStones_193 v (J x1) (J y1) (J x2) (J y2) s.1 s.2) (J 0, N)) (fun N' => (∀ i, i < 144 → (inR x1 y1 x2 y2 i → N' 263 i = v) ∧ (¬ inR x1 y1 x2 y2 i → N' 263 i = N 263 i)) ∧ (∀ i, 144 ≤ i → N' 263 i = N 263 i) ∧ ∀ j, j ≠ 263 → N' j = N j) := by
    refine loop_up (fun k s => s.1 = J k ∧ (∀ i, i < k → (inR x1 y1 x2 y2 i → s.2 263 i = v) ∧ (¬ inR x1 y1 x2 y2 i → s.2 263 i = N 263 i)) ∧ (∀ i, k ≤ i → s.2 263 i = N 263 i) ∧ ∀ j, j ≠ 263 → s.2 j = N j) 144 ⟨rfl, fun i hi => by omega, fun _ _ => rfl, fun _ _ => rfl⟩ ?_ ?_
    · rintro k ⟨s1, B⟩ hk ⟨e1, e2, e3, e4⟩
      simp only at e1 e2 e3 e4
      subst e1
      have ft : f_X11_fine B = J 1 := fine_t (by rw [e4 257 (by decide)]; exact hf)
      have a1 : irem (J (k : Int)) (J 12) = J ((k % 12 : Nat) : Int) := by rw [J_rem (by omega) (by omega) (by omega) (by omega)]; rfl
      have a2 : J (k : Int) / J 12 = J ((k / 12 : Nat) : Int) := by rw [J_div (by omega) (by omega) (by omega) (by omega)]; rfl
      -- whether it is within
      have beg : b_X11_readStones_193 v (J x1) (J y1) (J x2) (J y2) (J k) B = j_X11_readStones_291_193 v (J x1) (J y1) (J x2) (J y2) (J k) (@ite Int32 (inR x1 y1 x2 y2 k) (Classical.propDecidable _) (J 1) (J 0)) B := by
        unfold b_X11_readStones_193 j_X11_readStones_227_193 j_X11_readStones_241_193 j_X11_readStones_266_193 j_X11_readStones_280_193 j_X11_readStones_290_193
        by_cases c : inR x1 y1 x2 y2 k
        · rw [if_pos c]
          unfold inR at c
          by_cases d1 : x2 ≤ x1 <;> by_cases d2 : y2 ≤ y1 <;> simp (disch := omega) only [↓reduceIte, J_lit, Int.cast_ofNat_Int, J_lt_t, J_lt_f, J_le_t, J_le_f, J_eq_t, J_eq_f, within_t, within_f, isIn_t, isIn_f, inRow_t, inRow_f, isCell_t, isCell_f, inb_t, ft, a1, a2]
        · rw [if_neg c]
          unfold inR at c
          by_cases d3 : min x1 x2 ≤ k % 12 ∧ k % 12 ≤ max x1 x2
          · by_cases d1 : x2 ≤ x1 <;> by_cases d2 : y2 ≤ y1 <;> simp (disch := omega) only [↓reduceIte, J_lit, Int.cast_ofNat_Int, J_lt_t, J_lt_f, J_le_t, J_le_f, J_eq_t, J_eq_f, within_t, within_f, isIn_t, isIn_f, inRow_t, inRow_f, isCell_t, isCell_f, inb_t, ft, a1, a2]
          · by_cases d1 : x2 ≤ x1 <;> simp (disch := omega) only [↓reduceIte, J_lit, Int.cast_ofNat_Int, J_lt_t, J_lt_f, J_le_t, J_le_f, J_eq_t, J_eq_f, within_t, within_f, isIn_t, isIn_f, inRow_t, inRow_f, isCell_t, isCell_f, inb_t, ft, a1, a2]
      rw [beg]
      unfold j_X11_readStones_291_193 j_X11_readStones_315_193
      by_cases c : inR x1 y1 x2 y2 k
      · rw [if_pos c]
        simp (disch := omega) only [↓nm_s, ↓grd_s, ↓reduceIte, J_lit, Int.cast_ofNat_Int, J_lt_t, J_lt_f, J_le_t, J_le_f, J_eq_t, J_eq_f, within_t, within_f, isIn_t, isIn_f, inRow_t, inRow_f, isCell_t, isCell_f, inb_t, ix_Jn, ix_J, Int.reduceToNat, Int.toNat_natCast]
        refine wp_some ⟨J_s _, fun i hi => ?_, fun i hi => by simp (disch := omega) only [mset_ne, mset_eq, mrow_ne, mrow_eq, upd_eq, upd_ne]; exact e3 i (by omega), fun j hj => by simp (disch := omega) only [mset_ne, mset_eq, mrow_ne, mrow_eq, upd_eq, upd_ne]; exact e4 j hj⟩
        simp only
        by_cases e : i = k
        · subst e
          simp (disch := omega) only [mset_ne, mset_eq, mrow_ne, mrow_eq, upd_eq, upd_ne]
          exact ⟨fun _ => trivial, fun h => absurd c h⟩
        · simp (disch := omega) only [mset_ne, mset_eq, mrow_ne, mrow_eq, upd_eq, upd_ne]
          exact e2 i (by omega)
      · rw [if_neg c]
        simp (disch := omega) only [↓nm_s, ↓grd_s, ↓reduceIte, J_lit, Int.cast_ofNat_Int, J_lt_t, J_lt_f, J_le_t, J_le_f, J_eq_t, J_eq_f, within_t, within_f, isIn_t, isIn_f, inRow_t, inRow_f, isCell_t, isCell_f, inb_t, ix_Jn, ix_J, Int.reduceToNat, Int.toNat_natCast]
        refine wp_some ⟨J_s _, fun i hi => ?_, fun i hi => by simp (disch := omega) only [mset_ne, mset_eq, mrow_ne, mrow_eq, upd_eq, upd_ne]; exact e3 i (by omega), fun j hj => by simp (disch := omega) only [mset_ne, mset_eq, mrow_ne, mrow_eq, upd_eq, upd_ne]; exact e4 j hj⟩
        simp only
        by_cases e : i = k
        · subst e
          simp (disch := omega) only [mset_ne, mset_eq, mrow_ne, mrow_eq, upd_eq, upd_ne]
          exact ⟨fun h => absurd h c, fun _ => e3 i (Nat.le_refl _)⟩
        · simp (disch := omega) only [mset_ne, mset_eq, mrow_ne, mrow_eq, upd_eq, upd_ne]
          exact e2 i (by omega)
    · rintro ⟨s1, B⟩ ⟨e1, e2, e3, e4⟩
      simp only at e1 e2 e3 e4
      subst e1
      unfold b_X11_readStones_193
      simp (disch := omega) only [↓reduceIte, J_lit, Int.cast_ofNat_Int, J_lt_t, J_lt_f, J_le_t, J_le_f, J_eq_t, J_eq_f, within_t, within_f, isIn_t, isIn_f, inRow_t, inRow_f, isCell_t, isCell_f, inb_t]
      exact wp_some ⟨e2, e3, e4⟩
  obtain ⟨N', e, k⟩ := key
  refine ⟨N', ?_, k⟩
  unfold j_X11_readStones_190 j_X11_readStones_322
  rw [show (0 : Int32) = J 0 from rfl, e]
  rfl
theorem n_190 {N : zM} {p : Nat} (hp : p < 2147483648) (h : N 257 10 = J p) (v a b c d : Int32) : j_X11_readStones_190 v a b c d N = some N := by
  unfold j_X11_readStones_190 j_X11_readStones_322
  rw [loopW_eq]
  unfold b_X11_readStones_193
  simp (disch := omega) only [↓reduceIte, J_lit, Int.cast_ofNat_Int, J_lt_t, J_lt_f, J_le_t, J_le_f, J_eq_t, J_eq_f, within_t, within_f, isIn_t, isIn_f, inRow_t, inRow_f, isCell_t, isCell_f, inb_t, fine_f hp h, bind_s]
