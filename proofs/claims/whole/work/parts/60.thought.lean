/-! ===== in thought ===== -/
theorem s_sum {M N : zM} {n m b k : Nat} (h : SqB M 1 (N 259) n m b k) {q : Nat} (hq : q = 1 ∨ q = 2) : ∃ a, f_X7_sum 1 (J q) M = some a ∧ f_X11_sumOf (J (8 + q : Nat)) N = some a := by
  obtain ⟨⟨hn, _, _⟩, ⟨e2, _⟩, ⟨g2, _⟩, _, hw, _⟩ := h
  have key : W2 (loopW (fun s => b_X7_sum_26 1 (J q) s.1 s.2 M) (J 0, J 0)) (loopW (fun s => b_X11_sumOf_4 (J (8 + q : Nat)) s.1 s.2 N) (J 0, J 0)) (fun a b => a = b) := by
    refine loopR (fun k s t => s.2 = J k ∧ t = s) n ⟨rfl, rfl⟩ ?_ ?_
    · rintro k ⟨s1, s2⟩ t hk ⟨e, rfl⟩
      simp only at e
      subst e
      unfold b_X7_sum_26 b_X11_sumOf_4 j_X7_sum_61_26
      obtain ⟨w0, w1, wb, w10, w11, _⟩ := hw k hk
      have w10' : M (4 + k) 10 = N 259 (153 + 12 * k) := w10
      have w11' : M (4 + k) 11 = N 259 (154 + 12 * k) := w11
      rcases hq with e | e <;> subst e
      · rw [show J ((8 + 1 : Nat) : Int) = J 9 from rfl, show J ((1 : Nat) : Int) = J 1 from rfl]
        simp (disch := omega) only [↓nm_s, ↓grd_s, ↓reduceIte, J_lit, J_nI, J_add, J_sub, J_mul, J_neg, Int.cast_ofNat_Int, J_lt_t, J_lt_f, J_le_t, J_le_f, J_eq_t, J_eq_f, within_t, within_f, isIn_t, isIn_f, inRow_t, inRow_f, isCell_t, isCell_f, inb_t, ix_Jn, ix_J, Int.reduceToNat, Int.toNat_natCast, mset_ne, mset_eq, mrow_ne, mrow_eq, upd_eq, upd_ne, bind_s, bnd2_s, not_true_eq_false, not_false_eq_true, Nat.reduceAdd, e2, g2, th0, ts0, ta0, th1, ts1, ta1, th2, ts2, ta2, th3, ts3, ta3, th4, ts4, ta4, th5, ts5, ta5, th6, ts6, ta6, th7, ts7, ta7, th8, ts8, ta8, th9, ts9, ta9, th10, ts10, ta10, th11, ts11, ta11, w10']
        exact w2_some ⟨rfl, rfl⟩
      · rw [show J ((8 + 2 : Nat) : Int) = J 10 from rfl, show J ((2 : Nat) : Int) = J 2 from rfl]
        simp (disch := omega) only [↓nm_s, ↓grd_s, ↓reduceIte, J_lit, J_nI, J_add, J_sub, J_mul, J_neg, Int.cast_ofNat_Int, J_lt_t, J_lt_f, J_le_t, J_le_f, J_eq_t, J_eq_f, within_t, within_f, isIn_t, isIn_f, inRow_t, inRow_f, isCell_t, isCell_f, inb_t, ix_Jn, ix_J, Int.reduceToNat, Int.toNat_natCast, mset_ne, mset_eq, mrow_ne, mrow_eq, upd_eq, upd_ne, bind_s, bnd2_s, not_true_eq_false, not_false_eq_true, Nat.reduceAdd, e2, g2, th0, ts0, ta0, th1, ts1, ta1, th2, ts2, ta2, th3, ts3, ta3, th4, ts4, ta4, th5, ts5, ta5, th6, ts6, ta6, th7, ts7, ta7, th8, ts8, ta8, th9, ts9, ta9, th10, ts10, ta10, th11, ts11, ta11, w11']
        exact w2_some ⟨rfl, rfl⟩
    · rintro ⟨s1, s2⟩ t ⟨e, rfl⟩
      simp only at e
      subst e
      unfold b_X7_sum_26 b_X11_sumOf_4
      simp (disch := omega) only [↓nm_s, ↓grd_s, ↓reduceIte, J_lit, J_nI, J_add, J_sub, J_mul, J_neg, Int.cast_ofNat_Int, J_lt_t, J_lt_f, J_le_t, J_le_f, J_eq_t, J_eq_f, within_t, within_f, isIn_t, isIn_f, inRow_t, inRow_f, isCell_t, isCell_f, inb_t, ix_Jn, ix_J, Int.reduceToNat, Int.toNat_natCast, mset_ne, mset_eq, mrow_ne, mrow_eq, upd_eq, upd_ne, bind_s, bnd2_s, not_true_eq_false, not_false_eq_true, Nat.reduceAdd, e2, g2]
      exact w2_some rfl
  obtain ⟨a, b, e1, e3, rfl⟩ := key
  refine ⟨a, ?_, ?_⟩
  · unfold f_X7_sum j_X7_sum_69
    rw [show (0 : Int32) = J 0 from rfl, e1, if_neg (by rw [J_eq (by omega) (by omega) (by omega) (by omega)]; omega), show (3 : Int32) = J 3 from rfl, if_neg (by rw [J_eq (by omega) (by omega) (by omega) (by omega)]; omega)]
    rfl
  · unfold f_X11_sumOf j_X11_sumOf_31
    rw [show (0 : Int32) = J 0 from rfl, e3]
    rfl
theorem IC_thought {M A N N' : zM} (hI : IC M N) {n m k : Nat} (a2 : Sq M 1 (N 258) n m k) (hS : Sq A 1 (N 258) n m k) (h1 : ∀ j, j = 0 ∨ (39 ≤ j ∧ j ≠ 46 ∧ j ≠ 69 ∧ j ≠ 83 ∧ j ≠ 84) → A j = M j) (h83 : A 83 0 = M 83 0) (h69 : ∀ i, i < 4 * k → A 69 i = M 69 i) (g : ∀ j, j ≠ 257 → j ≠ 259 → j ≠ 265 → j ≠ 266 → N' j = N j) (g7 : ∀ i, i ≠ 6 → N' 257 i = N 257 i) : IC A N' := by
  obtain ⟨n', m', k', u, o, ks, b1, b2, b3, b4, b5, b6, b7, b8, b9, b10⟩ := hI
  have hk := a2.1.2.2
  have hn := a2.1.1
  have hm := a2.1.2.1
  have en : n' = n := by
    have := b2.2.1.1
    rw [a2.2.1.1] at this
    have := (J_eq (by omega) (by omega) (by omega) (by have := b2.1.1; omega)).mp this
    omega
  have em : m' = m := by
    have := b2.2.1.2.1
    rw [a2.2.1.2.1] at this
    have := (J_eq (by omega) (by omega) (by omega) (by omega)).mp this
    omega
  have ek : k' = k := by
    have := b2.2.1.2.2.1
    rw [a2.2.1.2.2.1] at this
    have := (J_eq (by omega) (by omega) (by omega) (by have := b2.1.2.2; omega)).mp this
    omega
  subst en em ek
  have e8 : N' 258 = N 258 := g 258 (by decide) (by decide) (by decide) (by decide)
  refine ⟨n', m', k', u, o, ks, b1, by rw [e8]; exact hS, ?_, ?_, ?_, ?_, ?_, ?_, ?_, by rw [h83]; exact b10⟩
  · rw [e8]
    exact Tx_fr (fun j _ _ _ => h1 j (by omega)) b3
  · rw [e8]
    intro i hi
    rw [h69 i hi]
    exact b4 i hi
  · rw [e8]
    exact Rw_fr (fun j _ _ => h1 j (by omega)) (by rw [h1 70 (by omega)]) (by rw [h1 70 (by omega)]) b5
  · exact Tp_fr (fun i _ => by rw [h1 78 (by omega)]) (fun i _ => by rw [h1 79 (by omega)]) (g7 7 (by omega)) (fun i _ => by rw [g 262 (by decide) (by decide) (by decide) (by decide)]) (g7 13 (by omega)) (g7 14 (by omega)) b6
  · exact Un_fr (by rw [h1 0 (by omega)]) (by rw [h1 0 (by omega)]) (g7 4 (by omega)) (fun j _ _ => h1 j (by omega)) h69 (fun i _ _ => by rw [e8]) (g 261 (by decide) (by decide) (by decide) (by decide)) (Nat.le_refl _) hk b7
  · exact Im_fr (by rw [h1 0 (by omega)]) (fun j _ _ => h1 j (by omega)) (g7 5 (by omega)) (fun i _ => by rw [g 260 (by decide) (by decide) (by decide) (by decide)]) b8
  · exact Vl_fr (by rw [h1 95 (by omega)]) (h1 99 (by omega)) b9
/-- what stays while minutes go in thought, from A on -/
def Th (A B A' B' : zM) (n m k : Nat) : Prop := (∃ k', k ≤ k' ∧ Dy A' B' n m m k') ∧ (∀ j, j = 0 ∨ (20 ≤ j ∧ j ≠ 46 ∧ j ≠ 69 ∧ j ≠ 83 ∧ j ≠ 84) → A' j = A j) ∧ (A' 83 0 = A 83 0) ∧ (∀ i, i < 4 * k → A' 69 i = A 69 i) ∧ (∀ j, j ≠ 259 → j ≠ 265 → j ≠ 266 → B' j = B j)
theorem Th_step {A B A1 B1 : zM} {n m k : Nat} (h : Th A B A1 B1 n m k) (hm : m ≤ 10090) (ht : A 83 0 = 1) (ht2 : B 257 6 = 1) : ∃ A2 B2, f_X1_pass A1 = some A2 ∧ f_X11_goesMinute B1 = some B2 ∧ Th A B A2 B2 n (m + 1) k := by
  obtain ⟨⟨k1, hk, hD⟩, f1, f2, f3, f4⟩ := h
  obtain ⟨A2, B2, k2, q1, q2, d1, d2, d3, d4, d5, d6, _⟩ := s_min hD hm (by rw [f2, f4 257 (by decide) (by decide) (by decide), ht, ht2]) (Or.inr (by rw [f2, ht]))
  refine ⟨A2, B2, q1, q2, ⟨k2, by omega, d1⟩, fun j hj => by rw [d3 j (by omega), f1 j hj], by rw [d4 0 (by omega), f2], fun i hi => by rw [d5 i (by omega), f3 i hi], fun j h1 h2 h3 => by rw [d6 j h1 h2 h3, f4 j h1 h2 h3]⟩
/-- thought begins, and ends -/
theorem s_thought {M N : zM} (hI : IC M N) : ∃ n m k A, m < 10000 ∧ Sq M 1 (N 258) n m k ∧ f_X10_beginThought M = some A ∧ A 83 0 = 1 ∧ Th A (mset (tkR N) 257 6 (J 1)) A (mset (tkR N) 257 6 (J 1)) n m k ∧
    ∀ m' A' B', Th A (mset (tkR N) 257 6 (J 1)) A' B' n m' k → ∃ A'', f_X10_endThought A' = some A'' ∧ IC A'' B' := by
  have hI2 := hI
  obtain ⟨n, m, k, u, o, ks, a1, a2, a3, a4, a5, a6, a7, a8, a9, a10⟩ := hI2
  obtain ⟨A0, q1, q2, q3⟩ := p_sqcp (a := 20) (b := 1) (by omega) a2
  refine ⟨n, m, k, mset A0 83 0 (J 1), a1, a2, ?_, ?_, ?_, ?_⟩
  · unfold f_X10_beginThought
    rw [q1, bind_s]
    rfl
  · simp (disch := omega) only [mset_ne, mset_eq, mrow_ne, mrow_eq, upd_eq, upd_ne]
    rfl
  · refine ⟨⟨k, Nat.le_refl _, ⟨Sq_tk (J 1) (Sq_fr (fun j _ _ => by rw [mset_ne (by omega), q3 j (by omega)]) a2), Tx_tk (J 1) (Tx_fr (fun j _ _ _ => by rw [mset_ne (by omega), q3 j (by omega)]) a3), ?_⟩⟩, fun _ _ => rfl, rfl, fun _ _ => rfl, fun _ _ _ _ => rfl⟩
    rw [mset_ne (by omega), q3 69 (by omega)]
    exact Bk_tk (J 1) a2.1.2.2 a4
  · rintro m' A' B' ⟨_, f1, f2, f3, f4⟩
    have hS : Sq (mset A' 83 0 (J 0)) 20 (N 258) n m k := by
      refine Sq_fr (fun j h1 h2 => ?_) (q2 _ _ _ _ a2)
      rw [mset_ne (by omega), f1 j (by omega), mset_ne (by omega)]
    obtain ⟨A'', r1, r2, r3⟩ := p_sqcp (a := 1) (b := 20) (by omega) hS
    refine ⟨A'', ?_, ?_⟩
    · unfold f_X10_endThought
      rw [nm_s, show (0 : Int32) = J 0 from rfl, r1, bind_s]
    · refine IC_thought hI a2 (r2 _ _ _ _ hS) (fun j hj => ?_) ?_ (fun i hi => ?_) (fun j h1 h2 h3 h4 => ?_) (fun i hi => ?_)
      · rw [r3 j (by omega), mset_ne (by omega), f1 j (by omega), mset_ne (by omega), q3 j (by omega)]
      · rw [r3 83 (by omega), mset_eq, upd_eq, a10]
        rfl
      · rw [r3 69 (by omega), mset_ne (by omega), f3 i hi, mset_ne (by omega), q3 69 (by omega)]
      · rw [f4 j h2 h3 h4, tk_ne N (J 1) h1 h2]
      · rw [f4 257 (by decide) (by decide) (by decide), tk_7 N (J 1) hi]
theorem c_goes (p q : Int32) : Cl2 (f_X10_goes p q) (f_X11_goes p q) := by
  intro M N hI
  obtain ⟨z, rfl, l1, l2⟩ := J_ex p
  obtain ⟨y, rfl, l3, l4⟩ := J_ex q
  unfold f_X10_goes f_X11_goes
  by_cases c1 : 1 ≤ z ∧ z ≤ 60
  · by_cases c2 : 0 ≤ y ∧ y ≤ 3
    · obtain ⟨q, rfl⟩ : ∃ q : Nat, z = q := ⟨z.toNat, by omega⟩
      obtain ⟨n, m, k, A, h1, h2, h3, h4, h5, h6⟩ := s_thought hI
      have key : W2 (loopW (fun s => b_X10_goes_28 (J q) (J y) s.1 s.2) (J 0, A)) (loopW (fun s => b_X11_goes_27 (J q) (J y) s.1 s.2) (J 0, mset (tkR N) 257 6 (J 1))) (fun A' B' => Th A (mset (tkR N) 257 6 (J 1)) A' B' n (m + q) k) := by
        refine loopR (fun i s t => s.1 = J i ∧ t.1 = J i ∧ Th A (mset (tkR N) 257 6 (J 1)) s.2 t.2 n (m + i) k) q ⟨rfl, rfl, h5⟩ ?_ ?_
        · rintro i ⟨s1, A1⟩ ⟨t1, B1⟩ hi ⟨e1, e2, e3⟩
          simp only at e1 e2 e3
          subst e1 e2
          obtain ⟨A2, B2, r1, r2, r3⟩ := Th_step e3 (by omega) h4 (by simp (disch := omega) only [mset_ne, mset_eq, mrow_ne, mrow_eq, upd_eq, upd_ne]; rfl)
          unfold b_X10_goes_28 b_X11_goes_27
          simp (disch := omega) only [↓nm_s, ↓grd_s, ↓reduceIte, J_lit, J_nI, J_add, J_sub, J_mul, J_neg, Int.cast_ofNat_Int, J_lt_t, J_lt_f, J_le_t, J_le_f, J_eq_t, J_eq_f, within_t, within_f, isIn_t, isIn_f, inRow_t, inRow_f, isCell_t, isCell_f, inb_t, ix_Jn, ix_J, Int.reduceToNat, Int.toNat_natCast, mset_ne, mset_eq, mrow_ne, mrow_eq, upd_eq, upd_ne, bind_s, bnd2_s, not_true_eq_false, not_false_eq_true, Nat.reduceAdd, r1, r2]
          exact w2_some ⟨rfl, rfl, r3⟩
        · rintro ⟨s1, A1⟩ ⟨t1, B1⟩ ⟨e1, e2, e3⟩
          simp only at e1 e2 e3
          subst e1 e2
          unfold b_X10_goes_28 b_X11_goes_27
          simp (disch := omega) only [↓nm_s, ↓grd_s, ↓reduceIte, J_lit, J_nI, J_add, J_sub, J_mul, J_neg, Int.cast_ofNat_Int, J_lt_t, J_lt_f, J_le_t, J_le_f, J_eq_t, J_eq_f, within_t, within_f, isIn_t, isIn_f, inRow_t, inRow_f, isCell_t, isCell_f, inb_t, ix_Jn, ix_J, Int.reduceToNat, Int.toNat_natCast, mset_ne, mset_eq, mrow_ne, mrow_eq, upd_eq, upd_ne, bind_s, bnd2_s, not_true_eq_false, not_false_eq_true, Nat.reduceAdd]
          exact w2_some e3
      obtain ⟨A', B', r1, r2, r3⟩ := key
      obtain ⟨A'', r4, r5⟩ := h6 _ A' B' r3
      obtain ⟨⟨k', _, hD⟩, _⟩ := r3
      simp (disch := omega) only [↓nm_s, ↓grd_s, ↓reduceIte, J_lit, J_nI, J_add, J_sub, J_mul, J_neg, Int.cast_ofNat_Int, J_lt_t, J_lt_f, J_le_t, J_le_f, J_eq_t, J_eq_f, within_t, within_f, isIn_t, isIn_f, inRow_t, inRow_f, isCell_t, isCell_f, inb_t, ix_Jn, ix_J, Int.reduceToNat, Int.toNat_natCast, mset_ne, mset_eq, mrow_ne, mrow_eq, upd_eq, upd_ne, bind_s, bnd2_s, not_true_eq_false, not_false_eq_true, Nat.reduceAdd, h3, t_take]
      rw [r1, r2, bind_s, bind_s]
      unfold j_X10_goes_46 j_X11_goes_42
      rcases (show y = 0 ∨ y = 1 ∨ y = 2 ∨ y = 3 by omega) with e | e | e | e <;> subst e
      · obtain ⟨a, s1, s2⟩ := s_inside hD.1
        simp (disch := omega) only [↓nm_s, ↓grd_s, ↓reduceIte, J_lit, J_nI, J_add, J_sub, J_mul, J_neg, Int.cast_ofNat_Int, J_lt_t, J_lt_f, J_le_t, J_le_f, J_eq_t, J_eq_f, within_t, within_f, isIn_t, isIn_f, inRow_t, inRow_f, isCell_t, isCell_f, inb_t, ix_Jn, ix_J, Int.reduceToNat, Int.toNat_natCast, mset_ne, mset_eq, mrow_ne, mrow_eq, upd_eq, upd_ne, bind_s, bnd2_s, not_true_eq_false, not_false_eq_true, Nat.reduceAdd, s1, s2, r4]
        exact ⟨_, _, _, rfl, rfl, r5⟩
      · obtain ⟨a, s1, s2⟩ := s_sum hD.1 (q := 1) (Or.inl rfl)
        rw [show J ((1 : Nat) : Int) = J 1 from rfl] at s1
        rw [show J ((8 + 1 : Nat) : Int) = J 9 from rfl] at s2
        simp (disch := omega) only [↓nm_s, ↓grd_s, ↓reduceIte, J_lit, J_nI, J_add, J_sub, J_mul, J_neg, Int.cast_ofNat_Int, J_lt_t, J_lt_f, J_le_t, J_le_f, J_eq_t, J_eq_f, within_t, within_f, isIn_t, isIn_f, inRow_t, inRow_f, isCell_t, isCell_f, inb_t, ix_Jn, ix_J, Int.reduceToNat, Int.toNat_natCast, mset_ne, mset_eq, mrow_ne, mrow_eq, upd_eq, upd_ne, bind_s, bnd2_s, not_true_eq_false, not_false_eq_true, Nat.reduceAdd, s1, s2, r4]
        exact ⟨_, _, _, rfl, rfl, r5⟩
      · obtain ⟨a, s1, s2⟩ := s_sum hD.1 (q := 2) (Or.inr rfl)
        rw [show J ((2 : Nat) : Int) = J 2 from rfl] at s1
        rw [show J ((8 + 2 : Nat) : Int) = J 10 from rfl] at s2
        simp (disch := omega) only [↓nm_s, ↓grd_s, ↓reduceIte, J_lit, J_nI, J_add, J_sub, J_mul, J_neg, Int.cast_ofNat_Int, J_lt_t, J_lt_f, J_le_t, J_le_f, J_eq_t, J_eq_f, within_t, within_f, isIn_t, isIn_f, inRow_t, inRow_f, isCell_t, isCell_f, inb_t, ix_Jn, ix_J, Int.reduceToNat, Int.toNat_natCast, mset_ne, mset_eq, mrow_ne, mrow_eq, upd_eq, upd_ne, bind_s, bnd2_s, not_true_eq_false, not_false_eq_true, Nat.reduceAdd, s1, s2, r4]
        exact ⟨_, _, _, rfl, rfl, r5⟩
      · have e4 : A' 1 4 = B' 259 937 := hD.1.2.1.2.2.2.1
        have s1 : f_X7_sum 1 (J 3) A' = some (B' 259 937) := by
          unfold f_X7_sum
          simp (disch := omega) only [↓nm_s, ↓grd_s, ↓reduceIte, J_lit, J_nI, J_add, J_sub, J_mul, J_neg, Int.cast_ofNat_Int, J_lt_t, J_lt_f, J_le_t, J_le_f, J_eq_t, J_eq_f, within_t, within_f, isIn_t, isIn_f, inRow_t, inRow_f, isCell_t, isCell_f, inb_t, ix_Jn, ix_J, Int.reduceToNat, Int.toNat_natCast, mset_ne, mset_eq, mrow_ne, mrow_eq, upd_eq, upd_ne, bind_s, bnd2_s, not_true_eq_false, not_false_eq_true, Nat.reduceAdd, e4]
        simp (disch := omega) only [↓nm_s, ↓grd_s, ↓reduceIte, J_lit, J_nI, J_add, J_sub, J_mul, J_neg, Int.cast_ofNat_Int, J_lt_t, J_lt_f, J_le_t, J_le_f, J_eq_t, J_eq_f, within_t, within_f, isIn_t, isIn_f, inRow_t, inRow_f, isCell_t, isCell_f, inb_t, ix_Jn, ix_J, Int.reduceToNat, Int.toNat_natCast, mset_ne, mset_eq, mrow_ne, mrow_eq, upd_eq, upd_ne, bind_s, bnd2_s, not_true_eq_false, not_false_eq_true, Nat.reduceAdd, s1, r4]
        exact ⟨_, _, _, rfl, rfl, r5⟩
    · by_cases c3 : y < 0
      · simp (disch := omega) only [↓nm_s, ↓grd_s, ↓reduceIte, J_lit, J_nI, J_add, J_sub, J_mul, J_neg, Int.cast_ofNat_Int, J_lt_t, J_lt_f, J_le_t, J_le_f, J_eq_t, J_eq_f, within_t, within_f, isIn_t, isIn_f, inRow_t, inRow_f, isCell_t, isCell_f, inb_t, ix_Jn, ix_J, Int.reduceToNat, Int.toNat_natCast, mset_ne, mset_eq, mrow_ne, mrow_eq, upd_eq, upd_ne, bind_s, bnd2_s, not_true_eq_false, not_false_eq_true, Nat.reduceAdd]
        exact ⟨_, _, _, rfl, rfl, hI⟩
      · simp (disch := omega) only [↓nm_s, ↓grd_s, ↓reduceIte, J_lit, J_nI, J_add, J_sub, J_mul, J_neg, Int.cast_ofNat_Int, J_lt_t, J_lt_f, J_le_t, J_le_f, J_eq_t, J_eq_f, within_t, within_f, isIn_t, isIn_f, inRow_t, inRow_f, isCell_t, isCell_f, inb_t, ix_Jn, ix_J, Int.reduceToNat, Int.toNat_natCast, mset_ne, mset_eq, mrow_ne, mrow_eq, upd_eq, upd_ne, bind_s, bnd2_s, not_true_eq_false, not_false_eq_true, Nat.reduceAdd]
        exact ⟨_, _, _, rfl, rfl, hI⟩
  · by_cases c3 : z < 1
    · simp (disch := omega) only [↓nm_s, ↓grd_s, ↓reduceIte, J_lit, J_nI, J_add, J_sub, J_mul, J_neg, Int.cast_ofNat_Int, J_lt_t, J_lt_f, J_le_t, J_le_f, J_eq_t, J_eq_f, within_t, within_f, isIn_t, isIn_f, inRow_t, inRow_f, isCell_t, isCell_f, inb_t, ix_Jn, ix_J, Int.reduceToNat, Int.toNat_natCast, mset_ne, mset_eq, mrow_ne, mrow_eq, upd_eq, upd_ne, bind_s, bnd2_s, not_true_eq_false, not_false_eq_true, Nat.reduceAdd]
      exact ⟨_, _, _, rfl, rfl, hI⟩
    · simp (disch := omega) only [↓nm_s, ↓grd_s, ↓reduceIte, J_lit, J_nI, J_add, J_sub, J_mul, J_neg, Int.cast_ofNat_Int, J_lt_t, J_lt_f, J_le_t, J_le_f, J_eq_t, J_eq_f, within_t, within_f, isIn_t, isIn_f, inRow_t, inRow_f, isCell_t, isCell_f, inb_t, ix_Jn, ix_J, Int.reduceToNat, Int.toNat_natCast, mset_ne, mset_eq, mrow_ne, mrow_eq, upd_eq, upd_ne, bind_s, bnd2_s, not_true_eq_false, not_false_eq_true, Nat.reduceAdd]
      exact ⟨_, _, _, rfl, rfl, hI⟩
