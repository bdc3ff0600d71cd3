/-! ===== of, over ===== -/
theorem c_of (p q : Int32) : Cl2 (f_X10_of p q) (f_X11_of p q) := by
  intro M N hI
  obtain ⟨z, rfl, l1, l2⟩ := J_ex p
  obtain ⟨y, rfl, l3, l4⟩ := J_ex q
  have hI2 := hI
  obtain ⟨n, m, k, u, o, ks, a1, a2, a3, a4, a5, a6, a7, a8, a9, a10⟩ := hI2
  have hn := a2.1.1
  have e2 := a2.2.1.1
  have g2 := a2.2.2.1.1
  unfold f_X10_of f_X11_of
  by_cases c1 : 0 ≤ z ∧ z < n
  · obtain ⟨w, rfl⟩ : ∃ w : Nat, z = w := ⟨z.toNat, by omega⟩
    have hwk : WkR (M (4 + w)) (N 258) w m := a2.2.2.2.2.1 w (by omega)
    rw [has_t hn e2 (by omega) (by omega), isW_t hn g2 (by omega) (by omega)]
    have hS := Sq_tk (J 1) a2
    have hT := Tx_tk (J 1) a3
    have ask : ∀ kind : Nat, kind < 3 → y = 11 + kind → ∃ u1 M1 N1, ((some (J 1)).bind fun _ => grd (inb (J w) 16) (if J y < (2 : Int32) then (j_X10_of_52 (J y) (1 + 3 + ix (J w)) M) else (if (7 : Int32) < J y then (j_X10_of_52 (J y) (1 + 3 + ix (J w)) M) else (some (J 0, M))))) = some (u1, M1) ∧ f_X11_tells (J (y - 11)) (J w) (mset (tkR N) 257 6 (J 1)) = some (u1, N1) ∧ IC M1 N1 := by
      intro kind hk hy
      obtain ⟨v, M', N', b1, b2, b3, b4⟩ := s_ask (kind := kind) (w := w) hk hS hT (by omega)
      refine ⟨v, M', N', ?_, ?_, ?_⟩
      · unfold j_X10_of_52
        rcases (show kind = 0 ∨ kind = 1 ∨ kind = 2 by omega) with e | e | e <;> subst e
        · have hy' : y = 11 := by omega
          subst hy'
          rw [show J (128 + ((0 : Nat) : Int)) = J 128 from rfl] at b1
          simp (disch := omega) only [↓nm_s, ↓grd_s, ↓reduceIte, J_lit, J_nI, J_add, J_sub, J_mul, J_neg, Int.cast_ofNat_Int, J_lt_t, J_lt_f, J_le_t, J_le_f, J_eq_t, J_eq_f, within_t, within_f, isIn_t, isIn_f, inRow_t, inRow_f, isCell_t, isCell_f, inb_t, ix_Jn, ix_J, Int.reduceToNat, Int.toNat_natCast, mset_ne, mset_eq, mrow_ne, mrow_eq, upd_eq, upd_ne, bind_s, bnd2_s, not_true_eq_false, not_false_eq_true, Nat.reduceAdd, b1]
        · have hy' : y = 12 := by omega
          subst hy'
          rw [show J (128 + ((1 : Nat) : Int)) = J 129 from rfl] at b1
          simp (disch := omega) only [↓nm_s, ↓grd_s, ↓reduceIte, J_lit, J_nI, J_add, J_sub, J_mul, J_neg, Int.cast_ofNat_Int, J_lt_t, J_lt_f, J_le_t, J_le_f, J_eq_t, J_eq_f, within_t, within_f, isIn_t, isIn_f, inRow_t, inRow_f, isCell_t, isCell_f, inb_t, ix_Jn, ix_J, Int.reduceToNat, Int.toNat_natCast, mset_ne, mset_eq, mrow_ne, mrow_eq, upd_eq, upd_ne, bind_s, bnd2_s, not_true_eq_false, not_false_eq_true, Nat.reduceAdd, b1]
        · have hy' : y = 13 := by omega
          subst hy'
          rw [show J (128 + ((2 : Nat) : Int)) = J 130 from rfl] at b1
          simp (disch := omega) only [↓nm_s, ↓grd_s, ↓reduceIte, J_lit, J_nI, J_add, J_sub, J_mul, J_neg, Int.cast_ofNat_Int, J_lt_t, J_lt_f, J_le_t, J_le_f, J_eq_t, J_eq_f, within_t, within_f, isIn_t, isIn_f, inRow_t, inRow_f, isCell_t, isCell_f, inb_t, ix_Jn, ix_J, Int.reduceToNat, Int.toNat_natCast, mset_ne, mset_eq, mrow_ne, mrow_eq, upd_eq, upd_ne, bind_s, bnd2_s, not_true_eq_false, not_false_eq_true, Nat.reduceAdd, b1]
      · rw [show J (y - 11) = J (kind : Int) from congrArg J (by omega)]
        exact b2
      · refine IC_scN (fun j h1 h2 h3 h4 => ?_) (fun i hi => ?_) (IC_scM (fun j h1 h2 => b3 j (by unfold scC at h2; omega) (by unfold scC at h2; omega)) (fun i _ => by rw [b3 70 (by omega) (by omega)]) (fun i _ => by rw [b3 78 (by omega) (by omega)]) (by rw [b3 83 (by omega) (by omega)]) (by rw [b3 95 (by omega) (by omega)]) hI)
        · rw [b4 j (by omega) (by omega), tk_ne N (J 1) h4 h3]
        · rw [b4 257 (by omega) (by omega), tk_7 N (J 1) (by omega)]
    have hfl : ∀ i, i < 2425 → mset (tkR N) 257 6 (J 1) 259 i = N 258 i := fun i hi => tk_s N (J 1) i hi
    by_cases c2 : 0 ≤ y ∧ y ≤ 13
    · by_cases c3 : 11 ≤ y
      · obtain ⟨u1, M1, N1, b1, b2, b3⟩ := ask (y - 11).toNat (by omega) (by omega)
        simp (disch := omega) only [↓nm_s, ↓grd_s, ↓reduceIte, J_lit, J_nI, J_add, J_sub, J_mul, J_neg, Int.cast_ofNat_Int, J_lt_t, J_lt_f, J_le_t, J_le_f, J_eq_t, J_eq_f, within_t, within_f, isIn_t, isIn_f, inRow_t, inRow_f, isCell_t, isCell_f, inb_t, ix_Jn, ix_J, Int.reduceToNat, Int.toNat_natCast, mset_ne, mset_eq, mrow_ne, mrow_eq, upd_eq, upd_ne, bind_s, bnd2_s, not_true_eq_false, not_false_eq_true, Nat.reduceAdd, t_take, b2] at b1 ⊢
        rw [b1]
        exact ⟨_, _, _, rfl, rfl, b3⟩
      · obtain ⟨w0, w1, wb, w10, w11, w12, win⟩ := hwk
        have f0 := hfl (144 + 12 * w) (by omega)
        have f1 := hfl (145 + 12 * w) (by omega)
        have f2 := hfl (146 + 12 * w) (by omega)
        have f3 := hfl (147 + 12 * w) (by omega)
        have f4 := hfl (148 + 12 * w) (by omega)
        have f5 := hfl (149 + 12 * w) (by omega)
        have f6 := hfl (150 + 12 * w) (by omega)
        have f7 := hfl (151 + 12 * w) (by omega)
        have f9 := hfl (153 + 12 * w) (by omega)
        have f10 := hfl (154 + 12 * w) (by omega)
        have f11 := hfl (155 + 12 * w) (by omega)
        rw [← w0] at f0
        rw [← w1] at f1
        rw [← w10] at f9
        rw [← w11] at f10
        rw [← w12] at f11
        unfold j_X10_of_52 j_X11_of_78 f_X10_whereOf
        rcases wb with wb | wb
        · have wb' : M (4 + w) 1 = J 0 := wb
          rcases (show y = 0 ∨ y = 1 ∨ y = 2 ∨ y = 3 ∨ y = 4 ∨ y = 5 ∨ y = 6 ∨ y = 7 ∨ y = 8 ∨ y = 9 ∨ y = 10 by omega) with e | e | e | e | e | e | e | e | e | e | e <;> subst e <;> simp (disch := omega) only [↓nm_s, ↓grd_s, ↓reduceIte, J_lit, J_nI, J_add, J_sub, J_mul, J_neg, Int.cast_ofNat_Int, J_lt_t, J_lt_f, J_le_t, J_le_f, J_eq_t, J_eq_f, within_t, within_f, isIn_t, isIn_f, inRow_t, inRow_f, isCell_t, isCell_f, inb_t, ix_Jn, ix_J, Int.reduceToNat, Int.toNat_natCast, mset_ne, mset_eq, mrow_ne, mrow_eq, upd_eq, upd_ne, bind_s, bnd2_s, not_true_eq_false, not_false_eq_true, Nat.reduceAdd, t_take, th0, ts0, ta0, th1, ts1, ta1, th2, ts2, ta2, th3, ts3, ta3, th4, ts4, ta4, th5, ts5, ta5, th6, ts6, ta6, th7, ts7, ta7, th8, ts8, ta8, th9, ts9, ta9, th10, ts10, ta10, th11, ts11, ta11, f0, f1, f9, f10, f11, wb', Int.reduceAdd, Int.reduceSub] <;> exact ⟨_, _, _, rfl, rfl, IC_tk (J 1) hI⟩
        · obtain ⟨h2, h3, h4, h5, h6, h7, _⟩ := win wb
          rw [← h2] at f2
          rw [← h3] at f3
          rw [← h4] at f4
          rw [← h5] at f5
          rw [← h6] at f6
          rw [← h7] at f7
          have wb' : M (4 + w) 1 = J 1 := wb
          rcases (show y = 0 ∨ y = 1 ∨ y = 2 ∨ y = 3 ∨ y = 4 ∨ y = 5 ∨ y = 6 ∨ y = 7 ∨ y = 8 ∨ y = 9 ∨ y = 10 by omega) with e | e | e | e | e | e | e | e | e | e | e <;> subst e <;> simp (disch := omega) only [↓nm_s, ↓grd_s, ↓reduceIte, J_lit, J_nI, J_add, J_sub, J_mul, J_neg, Int.cast_ofNat_Int, J_lt_t, J_lt_f, J_le_t, J_le_f, J_eq_t, J_eq_f, within_t, within_f, isIn_t, isIn_f, inRow_t, inRow_f, isCell_t, isCell_f, inb_t, ix_Jn, ix_J, Int.reduceToNat, Int.toNat_natCast, mset_ne, mset_eq, mrow_ne, mrow_eq, upd_eq, upd_ne, bind_s, bnd2_s, not_true_eq_false, not_false_eq_true, Nat.reduceAdd, t_take, th0, ts0, ta0, th1, ts1, ta1, th2, ts2, ta2, th3, ts3, ta3, th4, ts4, ta4, th5, ts5, ta5, th6, ts6, ta6, th7, ts7, ta7, th8, ts8, ta8, th9, ts9, ta9, th10, ts10, ta10, th11, ts11, ta11, f0, f1, f2, f3, f4, f5, f6, f7, f9, f10, f11, wb', Int.reduceAdd, Int.reduceSub] <;> exact ⟨_, _, _, rfl, rfl, IC_tk (J 1) hI⟩
    · unfold j_X10_of_52
      by_cases c3 : y < 0
      · simp (disch := omega) only [↓nm_s, ↓grd_s, ↓reduceIte, J_lit, J_nI, J_add, J_sub, J_mul, J_neg, Int.cast_ofNat_Int, J_lt_t, J_lt_f, J_le_t, J_le_f, J_eq_t, J_eq_f, within_t, within_f, isIn_t, isIn_f, inRow_t, inRow_f, isCell_t, isCell_f, inb_t, ix_Jn, ix_J, Int.reduceToNat, Int.toNat_natCast, mset_ne, mset_eq, mrow_ne, mrow_eq, upd_eq, upd_ne, bind_s, bnd2_s, not_true_eq_false, not_false_eq_true, Nat.reduceAdd]
        exact ⟨_, _, _, rfl, rfl, hI⟩
      · simp (disch := omega) only [↓nm_s, ↓grd_s, ↓reduceIte, J_lit, J_nI, J_add, J_sub, J_mul, J_neg, Int.cast_ofNat_Int, J_lt_t, J_lt_f, J_le_t, J_le_f, J_eq_t, J_eq_f, within_t, within_f, isIn_t, isIn_f, inRow_t, inRow_f, isCell_t, isCell_f, inb_t, ix_Jn, ix_J, Int.reduceToNat, Int.toNat_natCast, mset_ne, mset_eq, mrow_ne, mrow_eq, upd_eq, upd_ne, bind_s, bnd2_s, not_true_eq_false, not_false_eq_true, Nat.reduceAdd]
        exact ⟨_, _, _, rfl, rfl, hI⟩
  · rw [has_f hn e2 l1 l2 c1, isW_f hn g2 l1 l2 c1]
    simp (disch := omega) only [↓nm_s, ↓grd_s, ↓reduceIte, J_lit, J_nI, J_add, J_sub, J_mul, J_neg, Int.cast_ofNat_Int, J_lt_t, J_lt_f, J_le_t, J_le_f, J_eq_t, J_eq_f, within_t, within_f, isIn_t, isIn_f, inRow_t, inRow_f, isCell_t, isCell_f, inb_t, ix_Jn, ix_J, Int.reduceToNat, Int.toNat_natCast, mset_ne, mset_eq, mrow_ne, mrow_eq, upd_eq, upd_ne, bind_s, bnd2_s, not_true_eq_false, not_false_eq_true, Nat.reduceAdd]
    exact ⟨_, _, _, rfl, rfl, hI⟩
theorem over_key {A B : zM} {n k w : Nat} (hn : n ≤ 16) (hw : w < n) (ht : A 83 0 = 1) (ht2 : B 257 6 = 1) : ∀ (r i m : Nat) (A1 B1 : zM), i + r = 60 → m + r ≤ 10090 → Th A B A1 B1 n m k →
    ∃ v A2 B2 m', (loopW (fun s => b_X10_over_21 (J w) s.1 s.2.1 s.2.2) (J (-1), J (i + 1 : Nat), A1)) = some (v, A2) ∧ ((loopW (fun s => b_X11_over_27 (J w) s.1 s.2) (J (i + 1 : Nat), B1)).bind (fun q => Sum.elim (fun r => j_X11_over_54 r) some q)) = some (v, B2) ∧ Th A B A2 B2 n m' k := by
  intro r
  induction r with
  | zero =>
    intro i m A1 B1 hi hm hT
    refine ⟨J (-1), A1, B1, m, ?_, ?_, hT⟩
    · refine loop_en (s := (J (-1), J (i + 1 : Nat), A1)) ?_
      unfold b_X10_over_21
      simp (disch := omega) only [↓nm_s, ↓grd_s, ↓reduceIte, J_lit, J_nI, J_add, J_sub, J_mul, J_neg, Int.cast_ofNat_Int, J_lt_t, J_lt_f, J_le_t, J_le_f, J_eq_t, J_eq_f, within_t, within_f, isIn_t, isIn_f, inRow_t, inRow_f, isCell_t, isCell_f, inb_t, ix_Jn, ix_J, Int.reduceToNat, Int.toNat_natCast, mset_ne, mset_eq, mrow_ne, mrow_eq, upd_eq, upd_ne, bind_s, bnd2_s, not_true_eq_false, not_false_eq_true, Nat.reduceAdd]
    · rw [loop_en (B := fun s : Int32 × zM => b_X11_over_27 (J w) s.1 s.2) (s := (J (i + 1 : Nat), B1)) (r := .inl B1) (by
        unfold b_X11_over_27
        simp (disch := omega) only [↓nm_s, ↓grd_s, ↓reduceIte, J_lit, J_nI, J_add, J_sub, J_mul, J_neg, Int.cast_ofNat_Int, J_lt_t, J_lt_f, J_le_t, J_le_f, J_eq_t, J_eq_f, within_t, within_f, isIn_t, isIn_f, inRow_t, inRow_f, isCell_t, isCell_f, inb_t, ix_Jn, ix_J, Int.reduceToNat, Int.toNat_natCast, mset_ne, mset_eq, mrow_ne, mrow_eq, upd_eq, upd_ne, bind_s, bnd2_s, not_true_eq_false, not_false_eq_true, Nat.reduceAdd])]
      rfl
  | succ r ih =>
    intro i m A1 B1 hi hm hT
    obtain ⟨A2, B2, q1, q2, q3⟩ := Th_step hT (by omega) ht ht2
    have hT2 := q3
    obtain ⟨⟨k', _, hD⟩, _⟩ := q3
    have e2 := hD.1.2.1.1
    have hwk : WkR (A2 (4 + w)) (B2 259) w (m + 1) := hD.1.2.2.2.2.1 w hw
    have h145 : B2 259 (145 + 12 * w) = A2 (4 + w) 1 := hwk.2.1.symm
    rcases hwk.2.2.1 with hin | hin
    · have hin' : A2 (4 + w) 1 = J 0 := hin
      refine ⟨J (i + 1 : Nat), A2, B2, m + 1, ?_, ?_, hT2⟩
      · rw [loop_st (B := fun s : Int32 × Int32 × zM => b_X10_over_21 (J w) s.1 s.2.1 s.2.2) (s := (J (-1), J (i + 1 : Nat), A1)) (s' := (J (i + 1 : Nat), J (i + 2 : Nat), A2)) (by
          unfold b_X10_over_21 j_X10_over_52_21
          simp (disch := omega) only [↓nm_s, ↓grd_s, ↓reduceIte, J_lit, J_nI, J_add, J_sub, J_mul, J_neg, Int.cast_ofNat_Int, J_lt_t, J_lt_f, J_le_t, J_le_f, J_eq_t, J_eq_f, within_t, within_f, isIn_t, isIn_f, inRow_t, inRow_f, isCell_t, isCell_f, inb_t, ix_Jn, ix_J, Int.reduceToNat, Int.toNat_natCast, mset_ne, mset_eq, mrow_ne, mrow_eq, upd_eq, upd_ne, bind_s, bnd2_s, not_true_eq_false, not_false_eq_true, Nat.reduceAdd, q1, hasIn_t hn e2 hw, hin']
          rfl)]
        refine loop_en (s := (J (i + 1 : Nat), J (i + 2 : Nat), A2)) ?_
        unfold b_X10_over_21
        by_cases c : i = 59
        · simp (disch := omega) only [↓nm_s, ↓grd_s, ↓reduceIte, J_lit, J_nI, J_add, J_sub, J_mul, J_neg, Int.cast_ofNat_Int, J_lt_t, J_lt_f, J_le_t, J_le_f, J_eq_t, J_eq_f, within_t, within_f, isIn_t, isIn_f, inRow_t, inRow_f, isCell_t, isCell_f, inb_t, ix_Jn, ix_J, Int.reduceToNat, Int.toNat_natCast, mset_ne, mset_eq, mrow_ne, mrow_eq, upd_eq, upd_ne, bind_s, bnd2_s, not_true_eq_false, not_false_eq_true, Nat.reduceAdd]
        · simp (disch := omega) only [↓nm_s, ↓grd_s, ↓reduceIte, J_lit, J_nI, J_add, J_sub, J_mul, J_neg, Int.cast_ofNat_Int, J_lt_t, J_lt_f, J_le_t, J_le_f, J_eq_t, J_eq_f, within_t, within_f, isIn_t, isIn_f, inRow_t, inRow_f, isCell_t, isCell_f, inb_t, ix_Jn, ix_J, Int.reduceToNat, Int.toNat_natCast, mset_ne, mset_eq, mrow_ne, mrow_eq, upd_eq, upd_ne, bind_s, bnd2_s, not_true_eq_false, not_false_eq_true, Nat.reduceAdd]
      · rw [loop_en (B := fun s : Int32 × zM => b_X11_over_27 (J w) s.1 s.2) (s := (J (i + 1 : Nat), B1)) (r := .inr (J (i + 1 : Nat), B2)) (by
          unfold b_X11_over_27
          simp (disch := omega) only [↓nm_s, ↓grd_s, ↓reduceIte, J_lit, J_nI, J_add, J_sub, J_mul, J_neg, Int.cast_ofNat_Int, J_lt_t, J_lt_f, J_le_t, J_le_f, J_eq_t, J_eq_f, within_t, within_f, isIn_t, isIn_f, inRow_t, inRow_f, isCell_t, isCell_f, inb_t, ix_Jn, ix_J, Int.reduceToNat, Int.toNat_natCast, mset_ne, mset_eq, mrow_ne, mrow_eq, upd_eq, upd_ne, bind_s, bnd2_s, not_true_eq_false, not_false_eq_true, Nat.reduceAdd, q2, th0, ts0, ta0, th1, ts1, ta1, th2, ts2, ta2, th3, ts3, ta3, th4, ts4, ta4, th5, ts5, ta5, th6, ts6, ta6, th7, ts7, ta7, th8, ts8, ta8, th9, ts9, ta9, th10, ts10, ta10, th11, ts11, ta11, h145, hin'])]
        rfl
    · have hin' : A2 (4 + w) 1 = J 1 := hin
      obtain ⟨v, A3, B3, m', r1, r2, r3⟩ := ih (i + 1) (m + 1) A2 B2 (by omega) (by omega) hT2
      refine ⟨v, A3, B3, m', ?_, ?_, r3⟩
      · rw [loop_st (B := fun s : Int32 × Int32 × zM => b_X10_over_21 (J w) s.1 s.2.1 s.2.2) (s := (J (-1), J (i + 1 : Nat), A1)) (s' := (J (-1), J (i + 1 + 1 : Nat), A2)) (by
          unfold b_X10_over_21 j_X10_over_52_21
          simp (disch := omega) only [↓nm_s, ↓grd_s, ↓reduceIte, J_lit, J_nI, J_add, J_sub, J_mul, J_neg, Int.cast_ofNat_Int, J_lt_t, J_lt_f, J_le_t, J_le_f, J_eq_t, J_eq_f, within_t, within_f, isIn_t, isIn_f, inRow_t, inRow_f, isCell_t, isCell_f, inb_t, ix_Jn, ix_J, Int.reduceToNat, Int.toNat_natCast, mset_ne, mset_eq, mrow_ne, mrow_eq, upd_eq, upd_ne, bind_s, bnd2_s, not_true_eq_false, not_false_eq_true, Nat.reduceAdd, q1, hasIn_t hn e2 hw, hin']
          rfl)]
        exact r1
      · rw [loop_st (B := fun s : Int32 × zM => b_X11_over_27 (J w) s.1 s.2) (s := (J (i + 1 : Nat), B1)) (s' := (J (i + 1 + 1 : Nat), B2)) (by
          unfold b_X11_over_27
          simp (disch := omega) only [↓nm_s, ↓grd_s, ↓reduceIte, J_lit, J_nI, J_add, J_sub, J_mul, J_neg, Int.cast_ofNat_Int, J_lt_t, J_lt_f, J_le_t, J_le_f, J_eq_t, J_eq_f, within_t, within_f, isIn_t, isIn_f, inRow_t, inRow_f, isCell_t, isCell_f, inb_t, ix_Jn, ix_J, Int.reduceToNat, Int.toNat_natCast, mset_ne, mset_eq, mrow_ne, mrow_eq, upd_eq, upd_ne, bind_s, bnd2_s, not_true_eq_false, not_false_eq_true, Nat.reduceAdd, q2, th0, ts0, ta0, th1, ts1, ta1, th2, ts2, ta2, th3, ts3, ta3, th4, ts4, ta4, th5, ts5, ta5, th6, ts6, ta6, th7, ts7, ta7, th8, ts8, ta8, th9, ts9, ta9, th10, ts10, ta10, th11, ts11, ta11, h145, hin']
          rfl)]
        exact r2
theorem c_over (p : Int32) : Cl2 (f_X10_over p) (f_X11_over p) := by
  intro M N hI
  obtain ⟨z, rfl, l1, l2⟩ := J_ex p
  obtain ⟨n, m, k, A, h1, a2, h3, h4, h5, h6⟩ := s_thought hI
  have hn := a2.1.1
  have e2 := a2.2.1.1
  have g2 := a2.2.2.1.1
  unfold f_X10_over f_X11_over
  by_cases c1 : 0 ≤ z ∧ z < n
  · obtain ⟨w, rfl⟩ : ∃ w : Nat, z = w := ⟨z.toNat, by omega⟩
    have hwk : WkR (M (4 + w)) (N 258) w m := a2.2.2.2.2.1 w (by omega)
    rw [hasIn_t hn e2 (by omega), isW_t hn g2 (by omega) (by omega)]
    have h145 : mset (tkR N) 257 6 (J 1) 259 (145 + 12 * w) = M (4 + w) 1 := by rw [tk_s N (J 1) _ (by omega), hwk.2.1]
    rcases hwk.2.2.1 with hin | hin
    · have hin' : M (4 + w) 1 = J 0 := hin
      simp (disch := omega) only [↓nm_s, ↓grd_s, ↓reduceIte, J_lit, J_nI, J_add, J_sub, J_mul, J_neg, Int.cast_ofNat_Int, J_lt_t, J_lt_f, J_le_t, J_le_f, J_eq_t, J_eq_f, within_t, within_f, isIn_t, isIn_f, inRow_t, inRow_f, isCell_t, isCell_f, inb_t, ix_Jn, ix_J, Int.reduceToNat, Int.toNat_natCast, mset_ne, mset_eq, mrow_ne, mrow_eq, upd_eq, upd_ne, bind_s, bnd2_s, not_true_eq_false, not_false_eq_true, Nat.reduceAdd, hin', t_take, th0, ts0, ta0, th1, ts1, ta1, th2, ts2, ta2, th3, ts3, ta3, th4, ts4, ta4, th5, ts5, ta5, th6, ts6, ta6, th7, ts7, ta7, th8, ts8, ta8, th9, ts9, ta9, th10, ts10, ta10, th11, ts11, ta11, h145]
      exact ⟨_, _, _, rfl, rfl, IC_tk (J 1) hI⟩
    · have hin' : M (4 + w) 1 = J 1 := hin
      obtain ⟨v, A2, B2, m', r1, r2, r3⟩ := over_key hn (w := w) (by omega) h4 (by simp (disch := omega) only [mset_ne, mset_eq, mrow_ne, mrow_eq, upd_eq, upd_ne]; rfl) 60 0 m A (mset (tkR N) 257 6 (J 1)) (by omega) (by omega) h5
      obtain ⟨A'', r4, r5⟩ := h6 m' A2 B2 r3
      have r1' : loopW (fun s => b_X10_over_21 (J w) s.1 s.2.1 s.2.2) (J (-1), J 1, A) = some (v, A2) := r1
      have r2' : ((loopW (fun s => b_X11_over_27 (J w) s.1 s.2) (J 1, mset (tkR N) 257 6 (J 1))).bind (fun q => Sum.elim (fun r => j_X11_over_54 r) some q)) = some (v, B2) := r2
      unfold j_X10_over_58
      simp (disch := omega) only [↓nm_s, ↓grd_s, ↓reduceIte, J_lit, J_nI, J_add, J_sub, J_mul, J_neg, Int.cast_ofNat_Int, J_lt_t, J_lt_f, J_le_t, J_le_f, J_eq_t, J_eq_f, within_t, within_f, isIn_t, isIn_f, inRow_t, inRow_f, isCell_t, isCell_f, inb_t, ix_Jn, ix_J, Int.reduceToNat, Int.toNat_natCast, mset_ne, mset_eq, mrow_ne, mrow_eq, upd_eq, upd_ne, bind_s, bnd2_s, not_true_eq_false, not_false_eq_true, Nat.reduceAdd, hin', t_take, th0, ts0, ta0, th1, ts1, ta1, th2, ts2, ta2, th3, ts3, ta3, th4, ts4, ta4, th5, ts5, ta5, th6, ts6, ta6, th7, ts7, ta7, th8, ts8, ta8, th9, ts9, ta9, th10, ts10, ta10, th11, ts11, ta11, h145, h3, r1', r2', r4]
      exact ⟨_, _, _, rfl, rfl, r5⟩
  · rw [hasIn_f hn e2 l1 l2 c1, isW_f hn g2 l1 l2 c1]
    simp (disch := omega) only [↓nm_s, ↓grd_s, ↓reduceIte, J_lit, J_nI, J_add, J_sub, J_mul, J_neg, Int.cast_ofNat_Int, J_lt_t, J_lt_f, J_le_t, J_le_f, J_eq_t, J_eq_f, within_t, within_f, isIn_t, isIn_f, inRow_t, inRow_f, isCell_t, isCell_f, inb_t, ix_Jn, ix_J, Int.reduceToNat, Int.toNat_natCast, mset_ne, mset_eq, mrow_ne, mrow_eq, upd_eq, upd_ne, bind_s, bnd2_s, not_true_eq_false, not_false_eq_true, Nat.reduceAdd]
    exact ⟨_, _, _, rfl, rfl, hI⟩
