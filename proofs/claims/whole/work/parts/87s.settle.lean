/-! ===== a text that was read: ways ===== -/
theorem p_beginWays {B : zM} {n : Nat} (hn : n ≤ 16) (h2 : B 1 2 = J n) : Wp (f_X7_beginWays 1 B) (fun B' => (∀ j, j < 4 ∨ 20 ≤ j → B' j = B j) ∧ ∀ w, w < 16 → (w < n → B' (4 + w) 8 = J 0 ∧ B' (4 + w) 9 = J 0) ∧ (∀ i, i ≠ 8 → i ≠ 9 → B' (4 + w) i = B (4 + w) i)) := by
  unfold f_X7_beginWays j_X7_beginWays_25
  refine wp_bind ?_
  refine wp_mono (P := fun B' => (∀ j, j < 4 ∨ 20 ≤ j → B' j = B j) ∧ ∀ w, w < 16 → (w < n → B' (4 + w) 8 = J 0 ∧ B' (4 + w) 9 = J 0) ∧ (∀ i, i ≠ 8 → i ≠ 9 → B' (4 + w) i = B (4 + w) i)) ?_ (fun _ h => wp_some h)
  refine loop_up (fun k s => s.1 = J k ∧ (∀ j, j < 4 ∨ 20 ≤ j → s.2 j = B j) ∧ ∀ w, w < 16 → (w < k → s.2 (4 + w) 8 = J 0 ∧ s.2 (4 + w) 9 = J 0) ∧ (∀ i, i ≠ 8 → i ≠ 9 → s.2 (4 + w) i = B (4 + w) i)) n ⟨rfl, fun _ _ => rfl, fun w _ => ⟨fun h => by omega, fun _ _ _ => rfl⟩⟩ ?_ ?_
  · rintro k ⟨s, A⟩ hk ⟨e1, e2, e3⟩
    simp only at e1 e2 e3
    subst e1
    have A2 : A 1 2 = J n := by rw [e2 1 (by omega)]; exact h2
    unfold b_X7_beginWays_2 f_X9_beginWay
    simp (disch := omega) only [↓nm_s, ↓grd_s, ↓reduceIte, J_lit, Int.cast_ofNat_Int, J_lt_t, J_lt_f, J_le_t, J_le_f, J_eq_t, J_eq_f, within_t, within_f, isIn_t, isIn_f, inRow_t, inRow_f, isCell_t, isCell_f, inb_t, ix_Jn, ix_J, Int.reduceToNat, Int.toNat_natCast, A2, bind_s, Nat.reduceAdd]
    refine wp_some ⟨J_s k, fun j hj => ?_, fun w hw => ⟨fun h => ?_, fun i c1 c2 => ?_⟩⟩
    · simp only
      simp (disch := omega) only [mset_ne, mset_eq, mrow_ne, mrow_eq, upd_eq, upd_ne]
      exact e2 j hj
    · simp only
      by_cases c : w = k
      · subst c
        exact ⟨by simp (disch := omega) only [mset_ne, mset_eq, mrow_ne, mrow_eq, upd_eq, upd_ne], by simp (disch := omega) only [mset_ne, mset_eq, mrow_ne, mrow_eq, upd_eq, upd_ne]⟩
      · simp (disch := omega) only [mset_ne, mset_eq, mrow_ne, mrow_eq, upd_eq, upd_ne]
        exact (e3 w hw).1 (by omega)
    · simp only
      by_cases c : w = k
      · subst c
        simp (disch := omega) only [mset_ne, mset_eq, mrow_ne, mrow_eq, upd_eq, upd_ne]
        exact (e3 w hw).2 i c1 c2
      · simp (disch := omega) only [mset_ne, mset_eq, mrow_ne, mrow_eq, upd_eq, upd_ne]
        exact (e3 w hw).2 i c1 c2
  · rintro ⟨s, A⟩ ⟨e1, e2, e3⟩
    simp only at e1 e2 e3
    subst e1
    have A2 : A 1 2 = J n := by rw [e2 1 (by omega)]; exact h2
    unfold b_X7_beginWays_2
    simp (disch := omega) only [↓reduceIte, J_lit, Int.cast_ofNat_Int, J_lt_t, J_lt_f, J_le_t, J_le_f, J_eq_t, J_eq_f, within_t, within_f, isIn_t, isIn_f, inRow_t, inRow_f, isCell_t, isCell_f, inb_t, A2]
    exact wp_some ⟨e2, e3⟩
theorem tx_272 (v : Int32) (N : zM) : Wp (loopW (fun s => b_X11_text_272 (J 2) v s.1 s.2) (J 0, N)) (fun N' => (∀ j, j ≠ 258 → N' j = N j) ∧ (∀ w, w < 16 → N' 258 (152 + 12 * w) = J 0) ∧ ∀ i, (∀ w, w < 16 → i ≠ 152 + 12 * w) → N' 258 i = N 258 i) := by
  refine loop_up (fun k s => s.1 = J k ∧ (∀ j, j ≠ 258 → s.2 j = N j) ∧ (∀ w, w < k → s.2 258 (152 + 12 * w) = J 0) ∧ ∀ i, (∀ w, w < 16 → i ≠ 152 + 12 * w) → s.2 258 i = N 258 i) 16 ⟨rfl, fun _ _ => rfl, fun w h => by omega, fun _ _ => rfl⟩ ?_ ?_
  · rintro k ⟨s, A⟩ hk ⟨e1, e2, e3, e4⟩
    simp only at e1 e2 e3 e4
    subst e1
    have ei : J 144 + J 12 * J (k : Int) + J 8 = J ((152 + 12 * k : Nat) : Int) := by rw [J_mul, J_add, J_add]; exact congrArg J (by omega)
    unfold b_X11_text_272
    simp (disch := omega) only [↓nm_s, ↓grd_s, ↓reduceIte, J_lit, Int.cast_ofNat_Int, ei, J_lt_t, J_lt_f, J_le_t, J_le_f, J_eq_t, J_eq_f, within_t, within_f, isIn_t, isIn_f, inRow_t, inRow_f, isCell_t, isCell_f, inb_t, ix_Jn, ix_J, Int.reduceToNat, Int.toNat_natCast]
    refine wp_some ⟨J_s k, fun j hj => ?_, fun w hw => ?_, fun i hi => ?_⟩
    · simp only
      simp (disch := omega) only [mset_ne, mset_eq, mrow_ne, mrow_eq, upd_eq, upd_ne]
      exact e2 j hj
    · simp only
      by_cases c : w = k
      · subst c
        simp (disch := omega) only [mset_ne, mset_eq, mrow_ne, mrow_eq, upd_eq, upd_ne]
      · have : 152 + 12 * w ≠ 152 + 12 * k := by omega
        simp (disch := omega) only [mset_ne, mset_eq, mrow_ne, mrow_eq, upd_eq, upd_ne]
        exact e3 w (by omega)
    · simp only
      have := hi k (by omega)
      simp (disch := omega) only [mset_ne, mset_eq, mrow_ne, mrow_eq, upd_eq, upd_ne]
      exact e4 i hi
  · rintro ⟨s, A⟩ ⟨e1, e2, e3, e4⟩
    simp only at e1 e2 e3 e4
    subst e1
    unfold b_X11_text_272
    simp (disch := omega) only [↓reduceIte, J_lit, Int.cast_ofNat_Int, J_lt_t, J_lt_f, J_le_t, J_le_f, J_eq_t, J_eq_f, within_t, within_f, isIn_t, isIn_f, inRow_t, inRow_f, isCell_t, isCell_f, inb_t]
    exact wp_some ⟨e2, e3, e4⟩
theorem s_ways {M N M' N' : zM} {l : Nat} (hI : IC M N) (hG : Ga M N M' N') (h1 : M' 78 1 = J 0) (h2 : M' 78 2 = J (-1)) (h10 : N' 257 10 = J (-1)) (hl : l ≤ 16) (hD : WyR (M' 63) (M' 64) (M' 65) (N' 263)) (hN : ∀ i, i < 2425 → ¬ (1925 ≤ i ∧ i < 2325) → N' 263 i = N 258 i) :
    ∃ M1 N1, f_X10_settle (J 2) (J l) M' = some (J l, M1) ∧ j_X11_text_211 (J 2) (J l) N' = some (J l, N1) ∧ IC M1 N1 := by
  obtain ⟨n, m, k, u, o, ks, a1, a2, a3, a4, a5, a6, a7, a8, a9, a10⟩ := hI
  obtain ⟨g1, g2, g3, g4, g5, g6, g7, g8⟩ := hG
  obtain ⟨N3, t1, t2, t3⟩ := tx_ok (k := 2) (l := l) (by omega) h10
  obtain ⟨A, q1, q2, q3, q4, q5, q6⟩ := p_ct2 (a := 40) (b := 54) (by omega) (mset M' 61 2 (J l))
  have hn := a2.1.1
  have hρ : ∀ i, i < 2425 → i ≠ 943 → ¬ (1925 ≤ i ∧ i < 2325) → N3 258 i = N 258 i := fun i c1 c2 c3 => by rw [(t2 i c1).2 (by omega)]; exact hN i c1 c3
  have hA : ∀ j, (j < 49 ∨ (51 < j ∧ j < 54) ∨ 68 ≤ j) → j ≠ 47 → j ≠ 78 → j ≠ 80 → j ≠ 81 → j ≠ 82 → A j = M j := fun j c1 c2 c5 c6 c7 c8 => by
    rw [q6 j (by omega) (by omega), mset_ne (by omega)]
    exact g1 j (by omega) c5 c6 c7 c8
  have A78 : A 78 = M' 78 := by rw [q6 78 (by omega) (by omega), mset_ne (by omega)]
  have A47 : ∀ i, i ≠ 2 → A 47 i = M 47 i := fun i hi => by
    rw [q3 i hi, mset_ne (by omega), g1 47 (by omega) (by omega) (by omega) (by omega) (by omega)]
  have A472 : A 47 2 = J l := by
    rw [q2]
    simp (disch := omega) only [mset_ne, mset_eq, mrow_ne, mrow_eq, upd_eq, upd_ne]
  have hB2 : mset A 0 4 (J 0) 1 2 = J n := by
    rw [mset_ne (by omega), hA 1 (by omega) (by omega) (by omega) (by omega) (by omega) (by omega)]
    exact a2.2.1.1
  obtain ⟨B, b1, b2, b3⟩ := p_beginWays hn hB2
  obtain ⟨N4, r1, r2, r3, r4⟩ := tx_272 (J l) N3
  have hB : ∀ j, (j < 4 ∨ 20 ≤ j) → j ≠ 0 → B j = A j := fun j c1 c2 => by rw [b2 j c1, mset_ne (by omega)]
  have hBw : ∀ w, w < 16 → ∀ i, i ≠ 8 → i ≠ 9 → B (4 + w) i = M (4 + w) i := fun w hw i c1 c2 => by
    rw [(b3 w hw).2 i c1 c2, mset_ne (by omega), hA (4 + w) (by omega) (by omega) (by omega) (by omega) (by omega) (by omega)]
  have hσ : ∀ i, i < 2425 → i ≠ 943 → ¬ (1925 ≤ i ∧ i < 2325) → (∀ w, w < 16 → i ≠ 152 + 12 * w) → N4 258 i = N 258 i := fun i c1 c2 c3 c4 => by rw [r4 i c4]; exact hρ i c1 c2 c3
  have hWy : WyR (A 49) (A 50) (A 51) (N4 258) := by
    refine WyR_r (fun i hi => ?_) (fun i hi => ?_) (WyR_ro2 (fun j c1 c2 => ?_) hD)
    · have := q4 i hi
      rw [mset_ne (by omega)] at this
      exact this
    · obtain ⟨y1, y2⟩ := q5 i hi
      rw [mset_ne (by omega)] at y1 y2
      exact ⟨y1, y2⟩
    · rw [r4 j (fun w hw => by omega)]
      exact (t2 j (by omega)).2 (by omega)
  refine ⟨B, mset N4 257 4 (J 0), ?_, ?_, ?_⟩
  · unfold f_X10_settle f_X10_forget j_X10_settle_37
    have ne : ¬ J (l : Int) = J (-1) := by rw [J_eq (by omega) (by omega) (by omega) (by omega)]; omega
    simp (disch := omega) only [↓nm_s, ↓grd_s, ↓reduceIte, J_lit, J_neg, Int.cast_ofNat_Int, J_lt_t, J_lt_f, J_le_t, J_le_f, J_eq_t, J_eq_f, within_t, within_f, isIn_t, isIn_f, inRow_t, inRow_f, isCell_t, isCell_f, inb_t, ix_Jn, ix_J, Int.reduceToNat, Int.toNat_natCast, ne, q1, bind_s, b1]
  · have t3' : j_X11_text_211 (J 2) (J l) N' = _ := t3
    have r1' : loopW (fun s => b_X11_text_272 (J ((2 : Nat) : Int)) (J l) s.1 s.2) ((0 : Int32), N3) = some N4 := r1
    rw [t3', if_neg (by decide)]
    unfold j_X11_text_270 j_X11_text_306
    rw [r1']
    rfl
  · have e8 : mset N4 257 4 (J 0) 258 = N4 258 := by simp (disch := omega) only [mset_ne, mset_eq, mrow_ne, mrow_eq, upd_eq, upd_ne]
    have hN4 : ∀ j, j ≠ 258 → j ≠ 263 → N4 j = N' j := fun j c1 c2 => by rw [r2 j c1]; exact t1 j c1 c2
    refine IC_txs a1 a2 a4 a5 a8 a9 a10 (u' := 0) (o' := o) (ks' := ks) ?_ ?_ ?_ (fun i hi => by rw [e8]; exact hσ i (by omega) (by omega) (by omega) (fun w hw => by omega)) ?_ (fun j c1 c2 c3 c4 c5 c6 => by rw [hB j (by omega) (by omega)]; exact hA j (by omega) (by omega) c3 c4 c5 c6) ?_ ?_ ?_ ?_ ?_ ?_
    · rw [e8]
      obtain ⟨hb, he, hr, hc, hwk, hz, hd⟩ := a2
      have hB1 : B 1 = M 1 := by rw [hB 1 (by omega) (by omega), hA 1 (by omega) (by omega) (by omega) (by omega) (by omega) (by omega)]
      have hB3 : B (1 + 2) = M (1 + 2) := by rw [hB 3 (by omega) (by omega), hA 3 (by omega) (by omega) (by omega) (by omega) (by omega) (by omega)]
      refine ⟨hb, ?_, ?_, ?_, ?_, ?_, ?_⟩
      · rw [hB1, hσ 937 (by omega) (by omega) (by omega) (fun w hw => by omega), hσ 938 (by omega) (by omega) (by omega) (fun w hw => by omega)]
        exact he
      · rw [hσ 940 (by omega) (by omega) (by omega) (fun w hw => by omega), hσ 936 (by omega) (by omega) (by omega) (fun w hw => by omega), hσ 939 (by omega) (by omega) (by omega) (fun w hw => by omega)]
        exact hr
      · intro i hi
        rw [hB3, hσ i (by omega) (by omega) (by omega) (fun w hw => by omega)]
        exact hc i hi
      · intro w hw
        have hw16 : w < 16 := by omega
        show WkR (B (4 + w)) _ w m
        have hwk' : WkR (M (4 + w)) (N 258) w m := hwk w hw
        have f := hBw w hw16
        have s : ∀ i, i < 12 → i ≠ 8 → N4 258 (144 + 12 * w + i) = N 258 (144 + 12 * w + i) := fun i c1 c2 => hσ _ (by omega) (by omega) (by omega) (fun w' hw' => by omega)
        have s1 : N4 258 (145 + 12 * w) = N 258 (145 + 12 * w) := hσ _ (by omega) (by omega) (by omega) (fun w' hw' => by omega)
        obtain ⟨w1, w2, w3, w4, w5, w6, w7⟩ := hwk'
        refine ⟨?_, ?_, ?_, ?_, ?_, ?_, fun hi1 => ?_⟩
        · rw [f 0 (by omega) (by omega), hσ _ (by omega) (by omega) (by omega) (fun w' hw' => by omega)]; exact w1
        · rw [f 1 (by omega) (by omega), hσ _ (by omega) (by omega) (by omega) (fun w' hw' => by omega)]; exact w2
        · rw [f 1 (by omega) (by omega)]; exact w3
        · rw [f 10 (by omega) (by omega), hσ _ (by omega) (by omega) (by omega) (fun w' hw' => by omega)]; exact w4
        · rw [f 11 (by omega) (by omega), hσ _ (by omega) (by omega) (by omega) (fun w' hw' => by omega)]; exact w5
        · rw [f 12 (by omega) (by omega), hσ _ (by omega) (by omega) (by omega) (fun w' hw' => by omega)]; exact w6
        · rw [f 1 (by omega) (by omega)] at hi1
          obtain ⟨v1, v2, v3, v4, v5, v6, v7, v8, v9, v10, v11⟩ := w7 hi1
          rw [f 2 (by omega) (by omega), f 3 (by omega) (by omega), f 4 (by omega) (by omega), f 5 (by omega) (by omega), f 6 (by omega) (by omega), f 7 (by omega) (by omega), hσ (146 + 12 * w) (by omega) (by omega) (by omega) (fun w' hw' => by omega), hσ (147 + 12 * w) (by omega) (by omega) (by omega) (fun w' hw' => by omega), hσ (148 + 12 * w) (by omega) (by omega) (by omega) (fun w' hw' => by omega), hσ (149 + 12 * w) (by omega) (by omega) (by omega) (fun w' hw' => by omega), hσ (150 + 12 * w) (by omega) (by omega) (by omega) (fun w' hw' => by omega), hσ (151 + 12 * w) (by omega) (by omega) (by omega) (fun w' hw' => by omega)]
          refine ⟨v1, v2, v3, v4, v5, v6, v7, v8, v9, v10, ?_⟩
          obtain ⟨L, y1, y2, y3, y4⟩ := hWy w hw16
          refine ⟨0, 0, 0, L, ((b3 w hw16).1 hw).1, ((b3 w hw16).1 hw).2, r3 w hw16, Nat.zero_le _, y3, y1, ?_⟩
          by_cases c : L = 0
          · subst c
            exact Or.inr ⟨rfl, Nat.le_refl _⟩
          · left
            obtain ⟨_, _, A', z1, z2, z3⟩ := y4 0 (by omega)
            refine ⟨by omega, ?_, rfl⟩
            unfold amt
            rw [z3, J_toInt (by omega) (by omega)]
            omega
      · intro w c1 c2 i hi
        by_cases e : i = 8
        · subst e
          rw [show 144 + 12 * w + 8 = 152 + 12 * w by omega]
          exact r3 w c2
        · rw [hσ _ (by omega) (by omega) (by omega) (fun w' hw' => by omega)]
          exact hz w c1 c2 i hi
      · intro v w hv hw hne
        show B (4 + v) 1 = 1 → B (4 + w) 1 = 1 → atR (B (4 + v)) ≠ atR (B (4 + w))
        have := hd v w hv hw hne
        unfold atR at *
        rw [hBw v (by omega) 1 (by omega) (by omega), hBw w (by omega) 1 (by omega) (by omega), hBw v (by omega) 3 (by omega) (by omega), hBw w (by omega) 3 (by omega) (by omega), hBw v (by omega) 2 (by omega) (by omega), hBw w (by omega) 2 (by omega) (by omega)]
        exact this
    · rw [e8]
      obtain ⟨x1, x2, x3, x4⟩ := a3
      refine ⟨fun i hi => ?_, ?_, ?_, ?_⟩
      · show B 47 i = _
        rw [hB 47 (by omega) (by omega)]
        by_cases e : i = 2
        · subst e
          rw [r4 _ (fun w hw => by omega), (t2 943 (by omega)).1 rfl]
          exact A472
        · rw [A47 i e, hσ _ (by omega) (by omega) (by omega) (fun w hw => by omega)]
          exact x1 i hi
      · show LwR (B 41) (B 42) (B 43) (B 44) (B 45) _
        rw [hB 41 (by omega) (by omega), hB 42 (by omega) (by omega), hB 43 (by omega) (by omega), hB 44 (by omega) (by omega), hB 45 (by omega) (by omega), hA 41 (by omega) (by omega) (by omega) (by omega) (by omega) (by omega), hA 42 (by omega) (by omega) (by omega) (by omega) (by omega) (by omega), hA 43 (by omega) (by omega) (by omega) (by omega) (by omega) (by omega), hA 44 (by omega) (by omega) (by omega) (by omega) (by omega) (by omega), hA 45 (by omega) (by omega) (by omega) (by omega) (by omega) (by omega)]
        exact LwR_ro2 (hσ _ (by omega) (by omega) (by omega) (fun w hw => by omega)) (fun j c1 c2 => hσ j (by omega) (by omega) (by omega) (fun w hw => by omega)) x2
      · show WyR (B 49) (B 50) (B 51) _
        rw [hB 49 (by omega) (by omega), hB 50 (by omega) (by omega), hB 51 (by omega) (by omega)]
        exact hWy
      · show HrR (B 47) (B 52) (B 53) _
        rw [hB 47 (by omega) (by omega), hB 52 (by omega) (by omega), hB 53 (by omega) (by omega), hA 52 (by omega) (by omega) (by omega) (by omega) (by omega) (by omega), hA 53 (by omega) (by omega) (by omega) (by omega) (by omega) (by omega)]
        exact HrR_ro2 (fun j c1 c2 => hσ j (by omega) (by omega) (by omega) (fun w hw => by omega)) (HrR_r (A47 3 (by omega)) (fun i _ => ⟨rfl, rfl⟩) x4)
    · refine Un_0 a7.2.1 ?_ ?_ (by simp (disch := omega) only [mset_ne, mset_eq, mrow_ne, mrow_eq, upd_eq, upd_ne])
      · rw [b2 0 (by omega)]
        simp (disch := omega) only [mset_ne, mset_eq, mrow_ne, mrow_eq, upd_eq, upd_ne]
        rw [hA 0 (by omega) (by omega) (by omega) (by omega) (by omega) (by omega)]; exact a7.2.2.1
      · rw [b2 0 (by omega)]
        simp (disch := omega) only [mset_ne, mset_eq, mrow_ne, mrow_eq, upd_eq, upd_ne]
    · rw [b2 0 (by omega)]
      simp (disch := omega) only [mset_ne, mset_eq, mrow_ne, mrow_eq, upd_eq, upd_ne]
      rw [hA 0 (by omega) (by omega) (by omega) (by omega) (by omega) (by omega)]
    · rw [hB 78 (by omega) (by omega), A78]; exact g2
    · simp (disch := omega) only [mset_ne, mset_eq, mrow_ne, mrow_eq, upd_eq, upd_ne]
      rw [hB 78 (by omega) (by omega), A78, hN4 257 (by decide) (by decide), h1, g7]
    · simp (disch := omega) only [mset_ne, mset_eq, mrow_ne, mrow_eq, upd_eq, upd_ne]
      rw [hB 78 (by omega) (by omega), A78, hN4 257 (by decide) (by decide), h2, g8]
    · simp (disch := omega) only [mset_ne, mset_eq, mrow_ne, mrow_eq, upd_eq, upd_ne]
      rw [hN4 257 (by decide) (by decide), g5]
    · simp (disch := omega) only [mset_ne, mset_eq, mrow_ne, mrow_eq, upd_eq, upd_ne]
      rw [hN4 257 (by decide) (by decide), g6]
    · simp (disch := omega) only [mset_ne, mset_eq, mrow_ne, mrow_eq, upd_eq, upd_ne]
      rw [hN4 260 (by decide) (by decide), g3 260 (by decide) (by decide) (by decide)]
