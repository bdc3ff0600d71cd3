/-! ===== a text that was read: the law, the watch ===== -/
theorem tx_ok {k l : Nat} (hk : k < 4) {N' : zM} (h10 : N' 257 10 = J (-1)) : ∃ N3, (∀ j, j ≠ 258 → j ≠ 263 → N3 j = N' j) ∧ (∀ i, i < 2425 → (i = 941 + k → N3 258 i = J l) ∧ (i ≠ 941 + k → N3 258 i = N' 263 i)) ∧ j_X11_text_211 (J k) (J l) N' = if J (k : Int) = J 1 then (f_X11_drivesOut N3).bind fun M => j_X11_text_270 (J k) (J l) M else j_X11_text_270 (J k) (J l) N3 := by
  have ec := t_copies (a := 263) (b := 258) (n := 2425) (mset N' 263 (941 + k) (J l)) (by decide) (by rw [LN263']; decide) (by rw [LN258]; decide) (by decide)
  have ec' : f_X11_copies 263 258 (J 2425) (mset N' 263 (941 + k) (J l)) = _ := ec
  have ft := fine_t h10
  have e1 : J 941 + J (k : Int) = J ((941 + k : Nat) : Int) := by rw [J_add]; exact congrArg J (by omega)
  refine ⟨mrow (mset N' 263 (941 + k) (J l)) 258 (va_cpy (mset N' 263 (941 + k) (J l) 263) (mset N' 263 (941 + k) (J l) 258) 0 0 2425), fun j h1 h2 => by simp (disch := omega) only [mset_ne, mset_eq, mrow_ne, mrow_eq, upd_eq, upd_ne], fun i hi => ⟨fun e => ?_, fun e => ?_⟩, ?_⟩
  · subst e
    rw [mrow_eq, cpy_in hi]
    simp (disch := omega) only [mset_ne, mset_eq, mrow_ne, mrow_eq, upd_eq, upd_ne]
  · rw [mrow_eq, cpy_in hi]
    simp (disch := omega) only [mset_ne, mset_eq, mrow_ne, mrow_eq, upd_eq, upd_ne]
  · unfold j_X11_text_211
    have f0 : ¬ f_X11_fine N' = J 0 := by rw [ft]; decide
    simp (disch := omega) only [↓nm_s, ↓grd_s, ↓reduceIte, J_lit, Int.cast_ofNat_Int, f0, e1, J_lt_t, J_lt_f, J_le_t, J_le_f, J_eq_t, J_eq_f, within_t, within_f, isIn_t, isIn_f, inRow_t, inRow_f, isCell_t, isCell_f, inb_t, ix_Jn, ix_J, Int.reduceToNat, Int.toNat_natCast, ec', bind_s]
theorem tx_270 {k l : Nat} (hk : k < 4) (h2 : k ≠ 2) (N : zM) : j_X11_text_270 (J k) (J l) N = some (J l, if k = 0 then N else mset N 257 4 (J 0)) := by
  unfold j_X11_text_270
  have e : loopW (fun s => b_X11_text_272 (J k) (J l) s.1 s.2) ((0 : Int32), N) = some N := by
    rw [loopW_eq]
    unfold b_X11_text_272
    simp (disch := omega) only [↓reduceIte, J_lit, Int.cast_ofNat_Int, J_lt_t, J_lt_f, J_le_t, J_le_f, J_eq_t, J_eq_f, within_t, within_f, isIn_t, isIn_f, inRow_t, inRow_f, isCell_t, isCell_f, inb_t]
  rw [e]
  simp only [bind_s]
  unfold j_X11_text_306
  by_cases c : k = 0
  · subst c
    rfl
  · rw [if_neg c]
    simp (disch := omega) only [↓nm_s, ↓reduceIte, J_lit, Int.cast_ofNat_Int, J_lt_t, J_lt_f, J_le_t, J_le_f, J_eq_t, J_eq_f, within_t, within_f, isIn_t, isIn_f, inRow_t, inRow_f, isCell_t, isCell_f, inb_t]
theorem s_watch {M N M' N' : zM} {l : Nat} (hI : IC M N) (hG : Ga M N M' N') (h1 : M' 78 1 = J 0) (h2 : M' 78 2 = J (-1)) (h10 : N' 257 10 = J (-1)) (hl : l ≤ 16) (hD : ∀ i, i < l → M' 66 i = N' 263 (2325 + 2 * i) ∧ M' 67 i = N' 263 (2326 + 2 * i)) (hN : ∀ i, i < 2425 → ¬ (2325 ≤ i ∧ i < 2357) → N' 263 i = N 258 i) :
    ∃ M1 N1, f_X10_settle (J 3) (J l) M' = some (J l, M1) ∧ j_X11_text_211 (J 3) (J l) N' = some (J l, N1) ∧ IC M1 N1 := by
  obtain ⟨n, m, k, u, o, ks, a1, a2, a3, a4, a5, a6, a7, a8, a9, a10⟩ := hI
  obtain ⟨g1, g2, g3, g4, g5, g6, g7, g8⟩ := hG
  obtain ⟨N3, t1, t2, t3⟩ := tx_ok (k := 3) (l := l) (by omega) h10
  obtain ⟨A, q1, q2, q3, q4, q5⟩ := p_ct3 (a := 40) (b := 54) (by omega) (mset M' 61 3 (J l))
  have hρ : ∀ i, i < 2425 → i ≠ 944 → ¬ (2325 ≤ i ∧ i < 2357) → N3 258 i = N 258 i := fun i c1 c2 c3 => by rw [(t2 i c1).2 (by omega)]; exact hN i c1 c3
  have hA : ∀ j, (j < 54 ∨ 68 ≤ j) → j ≠ 47 → j ≠ 52 → j ≠ 53 → j ≠ 78 → j ≠ 80 → j ≠ 81 → j ≠ 82 → A j = M j := fun j c1 c2 c3 c4 c5 c6 c7 c8 => by
    rw [q5 j (by omega) (by omega) (by omega), mset_ne (by omega)]
    exact g1 j (by omega) c5 c6 c7 c8
  have A78 : A 78 = M' 78 := by rw [q5 78 (by omega) (by omega) (by omega), mset_ne (by omega)]
  have A47 : ∀ i, i ≠ 3 → A 47 i = M 47 i := fun i hi => by
    rw [q3 i hi, mset_ne (by omega), g1 47 (by omega) (by omega) (by omega) (by omega) (by omega)]
  have A473 : A 47 3 = J l := by
    rw [q2]
    simp (disch := omega) only [mset_ne, mset_eq, mrow_ne, mrow_eq, upd_eq, upd_ne]
  refine ⟨mset A 0 4 (J 0), mset N3 257 4 (J 0), ?_, ?_, ?_⟩
  · unfold f_X10_settle f_X10_forget j_X10_settle_37
    have ne : ¬ J (l : Int) = J (-1) := by rw [J_eq (by omega) (by omega) (by omega) (by omega)]; omega
    simp (disch := omega) only [↓nm_s, ↓grd_s, ↓reduceIte, J_lit, J_neg, Int.cast_ofNat_Int, J_lt_t, J_lt_f, J_le_t, J_le_f, J_eq_t, J_eq_f, within_t, within_f, isIn_t, isIn_f, inRow_t, inRow_f, isCell_t, isCell_f, inb_t, ix_Jn, ix_J, Int.reduceToNat, Int.toNat_natCast, ne, q1, bind_s]
  · have t3' : j_X11_text_211 (J 3) (J l) N' = _ := t3
    rw [t3', if_neg (by decide), tx_270 (by omega) (by omega)]
    rfl
  · have e8 : mset N3 257 4 (J 0) 258 = N3 258 := by simp (disch := omega) only [mset_ne, mset_eq, mrow_ne, mrow_eq, upd_eq, upd_ne]
    refine IC_txs a1 a2 a4 a5 a8 a9 a10 (u' := 0) (o' := o) (ks' := ks) ?_ ?_ ?_ (fun i hi => by rw [e8]; exact hρ i (by omega) (by omega) (by omega)) ?_ (fun j c1 c2 c3 c4 c5 c6 => by rw [mset_ne (by omega)]; exact hA j (by omega) (by omega) (by omega) (by omega) c3 c4 c5 c6) ?_ ?_ ?_ ?_ ?_ ?_
    · rw [e8]
      exact Sq_ro2 (fun j hj => hρ j (by omega) (by omega) (by omega)) (Sq_fr (fun j c1 c2 => by rw [mset_ne (by omega)]; exact hA j (by omega) (by omega) (by omega) (by omega) (by omega) (by omega) (by omega) (by omega)) a2)
    · rw [e8]
      obtain ⟨x1, x2, x3, x4⟩ := a3
      refine ⟨fun i hi => ?_, ?_, ?_, ?_⟩
      · simp (disch := omega) only [mset_ne, mset_eq, mrow_ne, mrow_eq, upd_eq, upd_ne]
        by_cases e : i = 3
        · subst e
          rw [(t2 944 (by omega)).1 rfl]
          exact A473
        · rw [A47 i e, hρ _ (by omega) (by omega) (by omega)]
          exact x1 i hi
      · simp (disch := omega) only [mset_ne, mset_eq, mrow_ne, mrow_eq, upd_eq, upd_ne]
        rw [hA 41 (by omega) (by omega) (by omega) (by omega) (by omega) (by omega) (by omega) (by omega), hA 42 (by omega) (by omega) (by omega) (by omega) (by omega) (by omega) (by omega) (by omega), hA 43 (by omega) (by omega) (by omega) (by omega) (by omega) (by omega) (by omega) (by omega), hA 44 (by omega) (by omega) (by omega) (by omega) (by omega) (by omega) (by omega) (by omega), hA 45 (by omega) (by omega) (by omega) (by omega) (by omega) (by omega) (by omega) (by omega)]
        exact LwR_ro2 (hρ _ (by omega) (by omega) (by omega)) (fun j c1 c2 => hρ j (by omega) (by omega) (by omega)) x2
      · simp (disch := omega) only [mset_ne, mset_eq, mrow_ne, mrow_eq, upd_eq, upd_ne]
        rw [hA 49 (by omega) (by omega) (by omega) (by omega) (by omega) (by omega) (by omega) (by omega), hA 50 (by omega) (by omega) (by omega) (by omega) (by omega) (by omega) (by omega) (by omega), hA 51 (by omega) (by omega) (by omega) (by omega) (by omega) (by omega) (by omega) (by omega)]
        exact WyR_ro2 (fun j c1 c2 => hρ j (by omega) (by omega) (by omega)) x3
      · refine ⟨l, hl, ?_, fun i hi => ?_⟩
        · simp (disch := omega) only [mset_ne, mset_eq, mrow_ne, mrow_eq, upd_eq, upd_ne]
          exact A473
        · simp (disch := omega) only [mset_ne, mset_eq, mrow_ne, mrow_eq, upd_eq, upd_ne]
          obtain ⟨y1, y2⟩ := q4 i (by omega)
          have y1' : A 52 i = M' 66 i := by
            rw [mset_ne (by omega)] at y1; exact y1
          have y2' : A 53 i = M' 67 i := by
            rw [mset_ne (by omega)] at y2; exact y2
          rw [y1', y2', (t2 _ (by omega)).2 (by omega), (t2 _ (by omega)).2 (by omega)]
          exact hD i hi
    · exact Un_0 a7.2.1 (by simp (disch := omega) only [mset_ne, mset_eq, mrow_ne, mrow_eq, upd_eq, upd_ne]; rw [hA 0 (by omega) (by omega) (by omega) (by omega) (by omega) (by omega) (by omega) (by omega)]; exact a7.2.2.1) (by simp (disch := omega) only [mset_ne, mset_eq, mrow_ne, mrow_eq, upd_eq, upd_ne]) (by simp (disch := omega) only [mset_ne, mset_eq, mrow_ne, mrow_eq, upd_eq, upd_ne])
    · simp (disch := omega) only [mset_ne, mset_eq, mrow_ne, mrow_eq, upd_eq, upd_ne]
      rw [hA 0 (by omega) (by omega) (by omega) (by omega) (by omega) (by omega) (by omega) (by omega)]
    · simp (disch := omega) only [mset_ne, mset_eq, mrow_ne, mrow_eq, upd_eq, upd_ne]
      rw [A78]; exact g2
    · simp (disch := omega) only [mset_ne, mset_eq, mrow_ne, mrow_eq, upd_eq, upd_ne]
      rw [A78, t1 257 (by decide) (by decide), h1, g7]
    · simp (disch := omega) only [mset_ne, mset_eq, mrow_ne, mrow_eq, upd_eq, upd_ne]
      rw [A78, t1 257 (by decide) (by decide), h2, g8]
    · simp (disch := omega) only [mset_ne, mset_eq, mrow_ne, mrow_eq, upd_eq, upd_ne]
      rw [t1 257 (by decide) (by decide), g5]
    · simp (disch := omega) only [mset_ne, mset_eq, mrow_ne, mrow_eq, upd_eq, upd_ne]
      rw [t1 257 (by decide) (by decide), g6]
    · simp (disch := omega) only [mset_ne, mset_eq, mrow_ne, mrow_eq, upd_eq, upd_ne]
      rw [t1 260 (by decide) (by decide), g3 260 (by decide) (by decide) (by decide)]
/-- what was read of a law -/
def DLw (N0 : zM) (l : Nat) (M N : zM) : Prop := M 55 0 = J l ∧ (∃ c : Nat → Nat, c 0 = 0 ∧ ∀ k, k < l → LnR (M 56) (M 57) (M 58) (M 59) (N 263) k (c k) (c (k + 1))) ∧ ∀ i, ¬ (945 ≤ i ∧ i < 1925) → N 263 i = N0 263 i
theorem s_law {M N M' N' : zM} {l : Nat} (hI : IC M N) (hG : Ga M N M' N') (h1 : M' 78 1 = J 0) (h2 : M' 78 2 = J (-1)) (h10 : N' 257 10 = J (-1)) (hl : l ≤ 16) (hD0 : M' 55 0 = J l) (hD : ∃ c : Nat → Nat, c 0 = 0 ∧ ∀ k, k < l → LnR (M' 56) (M' 57) (M' 58) (M' 59) (N' 263) k (c k) (c (k + 1))) (hN : ∀ i, i < 2425 → ¬ (945 ≤ i ∧ i < 1925) → N' 263 i = N 258 i) :
    ∃ M1 N1, f_X10_settle (J 0) (J l) M' = some (J l, M1) ∧ j_X11_text_211 (J 0) (J l) N' = some (J l, N1) ∧ IC M1 N1 := by
  obtain ⟨n, m, k, u, o, ks, a1, a2, a3, a4, a5, a6, a7, a8, a9, a10⟩ := hI
  obtain ⟨g1, g2, g3, g4, g5, g6, g7, g8⟩ := hG
  obtain ⟨N3, t1, t2, t3⟩ := tx_ok (k := 0) (l := l) (by omega) h10
  obtain ⟨A, q1, q2, q3, q4, q5, q6, q7⟩ := p_ct0 (a := 40) (b := 54) (by omega) (mset M' 61 0 (J l))
  have hρ : ∀ i, i < 2425 → i ≠ 941 → ¬ (945 ≤ i ∧ i < 1925) → N3 258 i = N 258 i := fun i c1 c2 c3 => by rw [(t2 i c1).2 (by omega)]; exact hN i c1 c3
  have hA : ∀ j, (j < 41 ∨ j = 46 ∨ (47 < j ∧ j < 54) ∨ 68 ≤ j) → j ≠ 78 → j ≠ 80 → j ≠ 81 → j ≠ 82 → A j = M j := fun j c1 c5 c6 c7 c8 => by
    rw [q7 j (by omega), mset_ne (by omega)]
    exact g1 j (by omega) c5 c6 c7 c8
  have A78 : A 78 = M' 78 := by rw [q7 78 (by omega), mset_ne (by omega)]
  have A47 : ∀ i, i ≠ 0 → A 47 i = M 47 i := fun i hi => by
    rw [q3 i hi, mset_ne (by omega), g1 47 (by omega) (by omega) (by omega) (by omega) (by omega)]
  have A470 : A 47 0 = J l := by
    rw [q2]
    simp (disch := omega) only [mset_ne, mset_eq, mrow_ne, mrow_eq, upd_eq, upd_ne]
  refine ⟨A, N3, ?_, ?_, ?_⟩
  · unfold f_X10_settle f_X10_forget j_X10_settle_37
    have ne : ¬ J (l : Int) = J (-1) := by rw [J_eq (by omega) (by omega) (by omega) (by omega)]; omega
    simp (disch := omega) only [↓nm_s, ↓grd_s, ↓reduceIte, J_lit, J_neg, Int.cast_ofNat_Int, J_lt_t, J_lt_f, J_le_t, J_le_f, J_eq_t, J_eq_f, within_t, within_f, isIn_t, isIn_f, inRow_t, inRow_f, isCell_t, isCell_f, inb_t, ix_Jn, ix_J, Int.reduceToNat, Int.toNat_natCast, ne, Int.toNat_zero, Int.reduceToNat, q1, bind_s]
  · have t3' : j_X11_text_211 (J 0) (J l) N' = _ := t3
    rw [t3', if_neg (by decide), tx_270 (by omega) (by omega)]
    rfl
  · refine IC_txs a1 a2 a4 a5 a8 a9 a10 (u' := u) (o' := o) (ks' := ks) ?_ ?_ ?_ (fun i hi => hρ i (by omega) (by omega) (by omega)) ?_ (fun j c1 c2 c3 c4 c5 c6 => hA j (by omega) c3 c4 c5 c6) ?_ ?_ ?_ ?_ ?_ ?_
    · exact Sq_ro2 (fun j hj => hρ j (by omega) (by omega) (by omega)) (Sq_fr (fun j c1 c2 => hA j (by omega) (by omega) (by omega) (by omega) (by omega)) a2)
    · obtain ⟨x1, x2, x3, x4⟩ := a3
      refine ⟨fun i hi => ?_, ?_, ?_, ?_⟩
      · show A 47 i = _
        by_cases e : i = 0
        · subst e
          rw [(t2 941 (by omega)).1 rfl]
          exact A470
        · rw [A47 i e, hρ _ (by omega) (by omega) (by omega)]
          exact x1 i hi
      · obtain ⟨c, d1, d2⟩ := hD
        have key : LwR (M' 55) (M' 56) (M' 57) (M' 58) (M' 59) (N3 258) := ⟨l, c, hl, hD0, (t2 941 (by omega)).1 rfl, d1, fun k hk => LnR_ro2 (by omega) (fun j c1 c2 => (t2 j (by omega)).2 (by omega)) (d2 k hk)⟩
        refine LwR_r ?_ (fun i hi => ?_) (fun i hi => ?_) key
        · have := q4
          rw [mset_ne (by omega)] at this
          exact this
        · obtain ⟨y1, y2, y3⟩ := q5 i hi
          rw [mset_ne (by omega)] at y1 y2 y3
          exact ⟨y1, y2, y3⟩
        · have := q6 i hi
          rw [mset_ne (by omega)] at this
          exact this
      · show WyR (A 49) (A 50) (A 51) _
        rw [hA 49 (by omega) (by omega) (by omega) (by omega) (by omega), hA 50 (by omega) (by omega) (by omega) (by omega) (by omega), hA 51 (by omega) (by omega) (by omega) (by omega) (by omega)]
        exact WyR_ro2 (fun j c1 c2 => hρ j (by omega) (by omega) (by omega)) x3
      · show HrR (A 47) (A 52) (A 53) _
        rw [hA 52 (by omega) (by omega) (by omega) (by omega) (by omega), hA 53 (by omega) (by omega) (by omega) (by omega) (by omega)]
        exact HrR_ro2 (fun j c1 c2 => hρ j (by omega) (by omega) (by omega)) (HrR_r (A47 3 (by omega)) (fun i _ => ⟨rfl, rfl⟩) x4)
    · exact Un_ro2 (by rw [hA 0 (by omega) (by omega) (by omega) (by omega) (by omega)]) (by rw [hA 0 (by omega) (by omega) (by omega) (by omega) (by omega)]) (by rw [t1 257 (by decide) (by decide)]; exact g4) (fun j c1 c2 => hA j (by omega) (by omega) (by omega) (by omega) (by omega)) (hA 69 (by omega) (by omega) (by omega) (by omega) (by omega)) (fun i hi => hρ i (by omega) (by omega) (by omega)) (by rw [t1 261 (by decide) (by decide)]; exact g3 261 (by decide) (by decide) (by decide)) a2.1.2.2 a7
    · rw [hA 0 (by omega) (by omega) (by omega) (by omega) (by omega)]
    · rw [A78]; exact g2
    · rw [A78, t1 257 (by decide) (by decide), h1, g7]
    · rw [A78, t1 257 (by decide) (by decide), h2, g8]
    · rw [t1 257 (by decide) (by decide), g5]
    · rw [t1 257 (by decide) (by decide), g6]
    · rw [t1 260 (by decide) (by decide), g3 260 (by decide) (by decide) (by decide)]
