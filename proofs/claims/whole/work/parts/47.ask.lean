theorem J_andn (a b : Nat) : J a &&& J b = J ((a &&& b : Nat) : Int) := by
  rw [← J_nI, ← J_nI, ← J_nI]
  apply Int32.toBitVec_inj.1
  show BitVec.ofNat 32 a &&& BitVec.ofNat 32 b = BitVec.ofNat 32 (a &&& b)
  apply BitVec.eq_of_getLsbD_eq
  intro i hi
  simp [hi]
theorem J_orn (a b : Nat) : J a ||| J b = J ((a ||| b : Nat) : Int) := by
  rw [← J_nI, ← J_nI, ← J_nI]
  apply Int32.toBitVec_inj.1
  show BitVec.ofNat 32 a ||| BitVec.ofNat 32 b = BitVec.ofNat 32 (a ||| b)
  apply BitVec.eq_of_getLsbD_eq
  intro i hi
  simp [hi]
theorem J_subn {a b : Nat} (h : b ≤ a) : J a - J b = J ((a - b : Nat) : Int) := by
  rw [J_sub]
  exact congrArg J (by omega)
theorem J_addn (a b : Nat) : J a + J b = J ((a + b : Nat) : Int) := by
  rw [J_add]
  exact congrArg J (by omega)
theorem iush_bv {v : Int32} {s : Nat} (h : (iush v (J s)).toBitVec = v.toBitVec >>> s) {a : Nat} (hv : v = J a) (ha : a < 2147483648) : iush v (J s) = J ((a / 2 ^ s : Nat) : Int) := by
  apply Int32.toBitVec_inj.1
  rw [h, hv, ← J_nI, ← J_nI]
  show BitVec.ofNat 32 a >>> s = BitVec.ofNat 32 (a / 2 ^ s)
  apply BitVec.eq_of_toNat_eq
  rw [BitVec.toNat_ushiftRight, BitVec.toNat_ofNat, BitVec.toNat_ofNat, Nat.mod_eq_of_lt (by omega), Nat.shiftRight_eq_div_pow]
  have : a / 2 ^ s ≤ a := Nat.div_le_self _ _
  rw [Nat.mod_eq_of_lt (by omega)]
theorem t_bitCount {n : Nat} (h : n < 65536) : f_J6_bitCount_0f7a4 (J n) = J (bc n) := by
  unfold f_J6_bitCount_0f7a4 bc
  simp only [nm_eq]
  have i1 : ∀ a : Nat, a < 2147483648 → iush (J a) 1 = J ((a / 2 : Nat) : Int) := fun a ha => iush_bv (s := 1) rfl rfl ha
  have i2 : ∀ a : Nat, a < 2147483648 → iush (J a) 2 = J ((a / 4 : Nat) : Int) := fun a ha => iush_bv (s := 2) rfl rfl ha
  have i4 : ∀ a : Nat, a < 2147483648 → iush (J a) 4 = J ((a / 16 : Nat) : Int) := fun a ha => iush_bv (s := 4) rfl rfl ha
  have i8 : ∀ a : Nat, a < 2147483648 → iush (J a) 8 = J ((a / 256 : Nat) : Int) := fun a ha => iush_bv (s := 8) rfl rfl ha
  have i16 : ∀ a : Nat, a < 2147483648 → iush (J a) 16 = J ((a / 65536 : Nat) : Int) := fun a ha => iush_bv (s := 16) rfl rfl ha
  have m1 : (1431655765 : Int32) = J ((1431655765 : Nat) : Int) := rfl
  have m2 : (858993459 : Int32) = J ((858993459 : Nat) : Int) := rfl
  have m3 : (252645135 : Int32) = J ((252645135 : Nat) : Int) := rfl
  have m4 : (63 : Int32) = J ((63 : Nat) : Int) := rfl
  have l1 : (n / 2 &&& 1431655765) ≤ n / 2 := Nat.and_le_left
  rw [i1 n (by omega), m1, J_andn, J_subn (by omega)]
  generalize hv : n - (n / 2 &&& 1431655765) = v
  have lv : v < 65536 := by omega
  have l2 : (v &&& 858993459) ≤ v := Nat.and_le_left
  have l3 : (v / 4 &&& 858993459) ≤ v / 4 := Nat.and_le_left
  rw [i2 v (by omega), m2, J_andn, J_andn, J_addn]
  generalize hw : (v &&& 858993459) + (v / 4 &&& 858993459) = w
  have l4 : (w + w / 16 &&& 252645135) ≤ w + w / 16 := Nat.and_le_left
  rw [i4 w (by omega), J_addn, m3, J_andn]
  generalize hx : (w + w / 16 &&& 252645135) = x
  rw [i8 x (by omega), J_addn]
  rw [i16 _ (by omega), J_addn, m4, J_andn]
theorem shl1 : ∀ k : Nat, k < 16 → (1 : Int32) <<< (J k &&& 31) = J ((2 ^ k : Nat) : Int) := by decide +kernel
theorem s_inside {M N : zM} {n m b k : Nat} (h : SqB M 1 (N 259) n m b k) : ∃ a, f_X7_sum 1 (J 0) M = some a ∧ f_X11_inside N = some a := by
  obtain ⟨⟨hn, _, _⟩, ⟨e2, _⟩, ⟨g2, _⟩, _, hw, _⟩ := h
  have key : W2 (loopW (fun s => b_X7_insideSet_4 1 s.1 s.2 M) (J 0, J 0)) (loopW (fun s => b_X11_inside_4 s.1 s.2 N) (J 0, J 0)) (fun a b => ∃ S : Nat, S < 65536 ∧ a = J S ∧ b = J (bc S)) := by
    refine loopR (fun k s t => s.2 = J k ∧ t.2 = J k ∧ ∃ S : Nat, S < 2 ^ k ∧ s.1 = J S ∧ t.1 = J (bc S)) n ⟨rfl, rfl, 0, by decide, rfl, rfl⟩ ?_ ?_
    · rintro k ⟨s1, s2⟩ ⟨t1, t2⟩ hk ⟨e, e', S, hS, e3, e4⟩
      simp only at e e' e3 e4
      subst e e' e3 e4
      unfold b_X7_insideSet_4 b_X11_inside_4 j_X7_insideSet_30_4
      obtain ⟨w0, w1, wb, _, _, _, win⟩ := hw k hk
      have w1' : M (1 + 3 + k) 1 = N 259 (145 + 12 * k) := w1
      have hS2 : S < 2 ^ (k + 1) := by rw [Nat.pow_succ]; omega
      rcases wb with wb | wb
      · have wb' : M (1 + 3 + k) 1 = J 0 := wb
        have wb2 : N 259 (145 + 12 * k) = J 0 := by rw [← w1']; exact wb'
        simp (disch := omega) only [↓nm_eq, ↓grd_if, ↓reduceIte, J_lit, J_nI, J_add, J_sub, J_mul, J_neg, Int.cast_ofNat_Int, J_lt_t, J_lt_f, J_le_t, J_le_f, J_eq_t, J_eq_f, within_t, within_f, isIn_t, isIn_f, inRow_t, inRow_f, isCell_t, isCell_f, inb_t, ix_Jn, ix_J, Int.reduceToNat, Int.toNat_natCast, mset_ne, mset_eq, mrow_ne, mrow_eq, upd_eq, upd_ne, bind_some, bnd2_some, not_true_eq_false, not_false_eq_true, Nat.reduceAdd, e2, g2, th0, ts0, ta0, th1, ts1, ta1, th2, ts2, ta2, th3, ts3, ta3, th4, ts4, ta4, th5, ts5, ta5, th6, ts6, ta6, th7, ts7, ta7, th8, ts8, ta8, th9, ts9, ta9, th10, ts10, ta10, th11, ts11, ta11, wb', wb2]
        exact w2_some ⟨rfl, rfl, S, hS2, rfl, congrArg J (by omega)⟩
      · have wb' : M (1 + 3 + k) 1 = J 1 := wb
        have wb2 : N 259 (145 + 12 * k) = J 1 := by rw [← w1']; exact wb'
        have es : J 1 <<< (J k &&& J 31) = J ((2 ^ k : Nat) : Int) := shl1 k (by omega)
        have ho : S ||| 2 ^ k = S + 2 ^ k := by
          have := Nat.two_pow_add_eq_or_of_lt hS 1
          rw [Nat.mul_one] at this
          rw [Nat.or_comm, ← this, Nat.add_comm]
        simp (disch := omega) only [↓nm_eq, ↓grd_if, ↓reduceIte, J_lit, J_add, Int.cast_ofNat_Int, J_lt_t, J_lt_f, J_le_t, J_le_f, J_eq_t, J_eq_f, within_t, within_f, isIn_t, isIn_f, inRow_t, inRow_f, isCell_t, isCell_f, inb_t, ix_Jn, ix_J, Int.reduceToNat, Int.toNat_natCast, bind_some, Nat.reduceAdd, e2, g2, th0, ts0, ta0, th1, ts1, ta1, th2, ts2, ta2, th3, ts3, ta3, th4, ts4, ta4, th5, ts5, ta5, th6, ts6, ta6, th7, ts7, ta7, th8, ts8, ta8, th9, ts9, ta9, th10, ts10, ta10, th11, ts11, ta11, wb', wb2, es, J_orn, ho]
        refine w2_some ⟨rfl, rfl, S + 2 ^ k, by rw [Nat.pow_succ]; omega, rfl, ?_⟩
        rw [bc_step (by omega) hS]
        exact congrArg J (by omega)
    · rintro ⟨s1, s2⟩ ⟨t1, t2⟩ ⟨e, e', S, hS, e3, e4⟩
      simp only at e e' e3 e4
      subst e e' e3 e4
      unfold b_X7_insideSet_4 b_X11_inside_4
      simp (disch := omega) only [↓nm_eq, ↓grd_if, ↓reduceIte, J_lit, J_nI, J_add, J_sub, J_mul, J_neg, Int.cast_ofNat_Int, J_lt_t, J_lt_f, J_le_t, J_le_f, J_eq_t, J_eq_f, within_t, within_f, isIn_t, isIn_f, inRow_t, inRow_f, isCell_t, isCell_f, inb_t, ix_Jn, ix_J, Int.reduceToNat, Int.toNat_natCast, mset_ne, mset_eq, mrow_ne, mrow_eq, upd_eq, upd_ne, bind_some, bnd2_some, not_true_eq_false, not_false_eq_true, Nat.reduceAdd, e2, g2]
      refine w2_some ⟨S, ?_, rfl, rfl⟩
      have : 2 ^ n ≤ 2 ^ 16 := Nat.pow_le_pow_right (by decide) hn
      omega
  obtain ⟨a, b, e1, e3, S, hS, rfl, rfl⟩ := key
  refine ⟨J (bc S), ?_, ?_⟩
  · unfold f_X7_sum f_X7_insideSet
    rw [show (0 : Int32) = J 0 from rfl, e1]
    simp (disch := omega) only [↓nm_eq, ↓grd_if, ↓reduceIte, J_lit, J_nI, J_add, J_sub, J_mul, J_neg, Int.cast_ofNat_Int, J_lt_t, J_lt_f, J_le_t, J_le_f, J_eq_t, J_eq_f, within_t, within_f, isIn_t, isIn_f, inRow_t, inRow_f, isCell_t, isCell_f, inb_t, ix_Jn, ix_J, Int.reduceToNat, Int.toNat_natCast, mset_ne, mset_eq, mrow_ne, mrow_eq, upd_eq, upd_ne, bind_some, bnd2_some, not_true_eq_false, not_false_eq_true, Nat.reduceAdd]
    unfold j_X7_insideSet_36
    simp (disch := omega) only [↓nm_eq, ↓grd_if, ↓reduceIte, J_lit, J_nI, J_add, J_sub, J_mul, J_neg, Int.cast_ofNat_Int, J_lt_t, J_lt_f, J_le_t, J_le_f, J_eq_t, J_eq_f, within_t, within_f, isIn_t, isIn_f, inRow_t, inRow_f, isCell_t, isCell_f, inb_t, ix_Jn, ix_J, Int.reduceToNat, Int.toNat_natCast, mset_ne, mset_eq, mrow_ne, mrow_eq, upd_eq, upd_ne, bind_some, bnd2_some, not_true_eq_false, not_false_eq_true, Nat.reduceAdd, t_bitCount]
  · unfold f_X11_inside
    rw [show (0 : Int32) = J 0 from rfl, e3]
    rfl
/-! ===== the watch ===== -/
def wv (ρ : Nat → Int32) (m : Int32) : Nat → Int32
  | 0 => J 0
  | i + 1 => if m < ρ (2325 + 2 * i) then wv ρ m i else ρ (2326 + 2 * i)
theorem t_watchNow {N : zM} {nh m : Nat} (hnh : nh ≤ 16) (h1 : N 259 944 = J nh) (h2 : N 259 936 = J m) : f_X11_watchNow N = some (wv (N 259) (J m) nh) := by
  have key : Wp (loopW (fun s => b_X11_watchNow_4 s.1 s.2 N) (J 0, J 0)) (fun v => v = wv (N 259) (J m) nh) := by
    refine loop_up (fun k s => s = (wv (N 259) (J m) k, J k)) nh rfl ?_ ?_
    · rintro k s hk rfl
      unfold b_X11_watchNow_4 j_X11_watchNow_54_4
      have i1 : (2325 + 2 * (k : Int)).toNat = 2325 + 2 * k := by omega
      have i2 : (2325 + 2 * (k : Int) + 1).toNat = 2326 + 2 * k := by omega
      simp (disch := omega) only [↓nm_eq, ↓grd_if, ↓reduceIte, J_lit, J_nI, J_add, J_sub, J_mul, J_neg, Int.cast_ofNat_Int, J_lt_t, J_lt_f, J_le_t, J_le_f, J_eq_t, J_eq_f, within_t, within_f, isIn_t, isIn_f, inRow_t, inRow_f, isCell_t, isCell_f, inb_t, ix_Jn, ix_J, Int.reduceToNat, Int.toNat_natCast, mset_ne, mset_eq, mrow_ne, mrow_eq, upd_eq, upd_ne, bind_some, bnd2_some, not_true_eq_false, not_false_eq_true, Nat.reduceAdd, h1, h2, i1, i2]
      by_cases c : J m < N 259 (2325 + 2 * k)
      · rw [if_pos c]
        refine wp_some ?_
        simp only [wv, c, if_true]
        rfl
      · rw [if_neg c]
        refine wp_some ?_
        simp only [wv, c, if_false]
        rfl
    · rintro s rfl
      unfold b_X11_watchNow_4
      simp (disch := omega) only [↓nm_eq, ↓grd_if, ↓reduceIte, J_lit, J_nI, J_add, J_sub, J_mul, J_neg, Int.cast_ofNat_Int, J_lt_t, J_lt_f, J_le_t, J_le_f, J_eq_t, J_eq_f, within_t, within_f, isIn_t, isIn_f, inRow_t, inRow_f, isCell_t, isCell_f, inb_t, ix_Jn, ix_J, Int.reduceToNat, Int.toNat_natCast, mset_ne, mset_eq, mrow_ne, mrow_eq, upd_eq, upd_ne, bind_some, bnd2_some, not_true_eq_false, not_false_eq_true, Nat.reduceAdd, h1]
      exact wp_some rfl
  obtain ⟨v, e, rfl⟩ := key
  unfold f_X11_watchNow
  rw [show (0 : Int32) = J 0 from rfl, e]
  rfl
theorem t_watchAt {M : zM} {ρ : Nat → Int32} {nh m : Nat} (hnh : nh ≤ 16) (h1 : M 47 3 = J nh) (hh : ∀ i, i < nh → M 52 i = ρ (2325 + 2 * i) ∧ M 53 i = ρ (2326 + 2 * i)) : f_X8_watchAt 40 (J m) M = some (wv ρ (J m) nh) := by
  have key : ∀ i : Nat, i ≤ nh → (loopW (fun s => b_X8_watchAt_9 40 (J m) s M) (J ((i : Int) - 1))).bind (fun q => Sum.elim (fun _ => j_X8_watchAt_36 40 M) some q) = some (wv ρ (J m) i) := by
    intro i
    induction i with
    | zero =>
      intro _
      rw [loop_en (r := .inl ()) (by
        unfold b_X8_watchAt_9
        simp (disch := omega) only [↓nm_eq, ↓grd_if, ↓reduceIte, J_lit, J_nI, J_add, J_sub, J_mul, J_neg, Int.cast_ofNat_Int, J_lt_t, J_lt_f, J_le_t, J_le_f, J_eq_t, J_eq_f, within_t, within_f, isIn_t, isIn_f, inRow_t, inRow_f, isCell_t, isCell_f, inb_t, ix_Jn, ix_J, Int.reduceToNat, Int.toNat_natCast, mset_ne, mset_eq, mrow_ne, mrow_eq, upd_eq, upd_ne, bind_some, bnd2_some, not_true_eq_false, not_false_eq_true, Nat.reduceAdd])]
      rfl
    | succ i ih =>
      intro hi
      obtain ⟨q1, q2⟩ := hh i (by omega)
      have ei : ((i + 1 : Nat) : Int) - 1 = (i : Int) := by omega
      rw [ei]
      by_cases c : J m < ρ (2325 + 2 * i)
      · rw [loop_st (s' := J ((i : Int) - 1)) (by
          unfold b_X8_watchAt_9
          simp (disch := omega) only [↓nm_eq, ↓grd_if, ↓reduceIte, J_lit, J_nI, J_add, J_sub, J_mul, J_neg, Int.cast_ofNat_Int, J_lt_t, J_lt_f, J_le_t, J_le_f, J_eq_t, J_eq_f, within_t, within_f, isIn_t, isIn_f, inRow_t, inRow_f, isCell_t, isCell_f, inb_t, ix_Jn, ix_J, Int.reduceToNat, Int.toNat_natCast, mset_ne, mset_eq, mrow_ne, mrow_eq, upd_eq, upd_ne, bind_some, bnd2_some, not_true_eq_false, not_false_eq_true, Nat.reduceAdd, q1, c]
          rfl), ih (by omega)]
        simp only [wv, c, if_true]
      · rw [loop_en (r := .inr (ρ (2326 + 2 * i))) (by
          unfold b_X8_watchAt_9
          simp (disch := omega) only [↓nm_eq, ↓grd_if, ↓reduceIte, J_lit, J_nI, J_add, J_sub, J_mul, J_neg, Int.cast_ofNat_Int, J_lt_t, J_lt_f, J_le_t, J_le_f, J_eq_t, J_eq_f, within_t, within_f, isIn_t, isIn_f, inRow_t, inRow_f, isCell_t, isCell_f, inb_t, ix_Jn, ix_J, Int.reduceToNat, Int.toNat_natCast, mset_ne, mset_eq, mrow_ne, mrow_eq, upd_eq, upd_ne, bind_some, bnd2_some, not_true_eq_false, not_false_eq_true, Nat.reduceAdd, q1, q2, c])]
        simp only [wv, c, if_false]
        rfl
  unfold f_X8_watchAt
  have := key nh (Nat.le_refl _)
  simp (disch := omega) only [↓nm_eq, J_lit, J_nI, J_add, J_sub, J_mul, J_neg, Int.cast_ofNat_Int, ix_Jn, ix_J, Int.reduceToNat, Int.toNat_natCast, Nat.reduceAdd, h1]
  exact this
