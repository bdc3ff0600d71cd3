/-! ===== round: places come to again ===== -/
theorem cnt_3 (P : Nat → Prop) : ∀ n, (cnt P n = 0 ∧ ∀ i, i < n → ¬ P i) ∨ (cnt P n = 1 ∧ ∃ r, r < n ∧ P r ∧ ∀ i, i < n → P i → i = r) ∨ (2 ≤ cnt P n ∧ ∃ r r', r < r' ∧ r' < n ∧ P r ∧ P r') := by
  intro n
  induction n with
  | zero => exact Or.inl ⟨rfl, fun i h => by omega⟩
  | succ n ih =>
    by_cases c : P n
    · rw [cnt_t c]
      rcases ih with ⟨h1, h2⟩ | ⟨h1, r, h2, h3, h4⟩ | ⟨h1, r, r', h2, h3, h4, h5⟩
      · refine Or.inr (Or.inl ⟨by omega, n, by omega, c, fun i hi hp => ?_⟩)
        by_cases e : i = n
        · exact e
        · exact absurd hp (h2 i (by omega))
      · exact Or.inr (Or.inr ⟨by omega, r, n, h2, by omega, h3, c⟩)
      · exact Or.inr (Or.inr ⟨by omega, r, r', h2, by omega, h4, h5⟩)
    · rw [cnt_f c]
      rcases ih with ⟨h1, h2⟩ | ⟨h1, r, h2, h3, h4⟩ | ⟨h1, r, r', h2, h3, h4, h5⟩
      · refine Or.inl ⟨h1, fun i hi => ?_⟩
        by_cases e : i = n
        · subst e; exact c
        · exact h2 i (by omega)
      · refine Or.inr (Or.inl ⟨h1, r, by omega, h3, fun i hi hp => ?_⟩)
        by_cases e : i = n
        · subst e; exact absurd hp c
        · exact h4 i (by omega) hp
      · exact Or.inr (Or.inr ⟨by omega, r, r', h2, by omega, h4, h5⟩)
def Fi (key : Nat → Int) (n i : Nat) : Prop := (∀ j, j < i → key j ≠ key i) ∧ ∃ j, i < j ∧ j < n ∧ key j = key i
theorem cnt_again (key : Nat → Int) : ∀ n, cnt (Fi key n) n = cnt (fun i => cnt (fun k => key k = key i) i = 1) n := by
  intro n
  induction n with
  | zero => rfl
  | succ n ih =>
    have nn : ∀ m, m ≤ n + 1 → ¬ Fi key m n := by
      rintro m hm ⟨_, j, h1, h2, _⟩
      omega
    have e0 : cnt (Fi key n) (n + 1) = cnt (Fi key n) n := cnt_f (nn n (by omega))
    rcases cnt_3 (fun k => key k = key n) n with ⟨h1, h2⟩ | ⟨h1, r, h2, h3, h4⟩ | ⟨h1, r, r', h2, h3, h4, h5⟩
    · rw [cnt_f (P := fun i => cnt (fun k => key k = key i) i = 1) (n := n) (by simp only [h1]; omega), ← ih, ← e0]
      refine cnt_cg _ (fun i hi => ?_)
      constructor
      · rintro ⟨a, j, b, c, d⟩
        by_cases e : j = n
        · subst e; exact absurd d.symm (h2 i b)
        · exact ⟨a, j, b, by omega, d⟩
      · rintro ⟨a, j, b, c, d⟩
        exact ⟨a, j, b, by omega, d⟩
    · rw [cnt_t (P := fun i => cnt (fun k => key k = key i) i = 1) (n := n) h1, ← ih, ← e0]
      have h3' : key r = key n := h3
      rw [cnt_one (P := Fi key n) (Q := Fi key (n + 1)) (r := r) ?_ ?_ (n + 1), if_pos (by omega)]
      · rintro ⟨a, j, b, c, d⟩
        have := h4 j c (d.trans h3')
        omega
      · intro i
        constructor
        · rintro ⟨a, j, b, c, d⟩
          by_cases e : j = n
          · subst e; exact Or.inr (h4 i b d.symm)
          · exact Or.inl ⟨a, j, b, by omega, d⟩
        · rintro (⟨a, j, b, c, d⟩ | rfl)
          · exact ⟨a, j, b, by omega, d⟩
          · refine ⟨fun j hj e => ?_, n, h2, by omega, h3'.symm⟩
            have := h4 j (by omega) (e.trans h3')
            omega
    · rw [cnt_f (P := fun i => cnt (fun k => key k = key i) i = 1) (n := n) (by omega), ← ih, ← e0]
      have h4' : key r = key n := h4
      have h5' : key r' = key n := h5
      refine cnt_cg _ (fun i hi => ?_)
      constructor
      · rintro ⟨a, j, b, c, d⟩
        by_cases e : j = n
        · subst e
          have hir : i ≤ r := by
            rcases Nat.lt_or_ge r i with q | q
            · exact absurd (h4'.trans d) (a r q)
            · exact q
          exact ⟨a, r', by omega, h3, h5'.trans d⟩
        · exact ⟨a, j, b, by omega, d⟩
      · rintro ⟨a, j, b, c, d⟩
        exact ⟨a, j, b, by omega, d⟩
/-! ===== round: the walk of both ===== -/
def RoB (k S : Nat) (w a : Int) (px py : Nat → Int) : Prop := S ≤ k ∧ -(k : Int) ≤ w ∧ w ≤ k ∧ (∀ i : Nat, i ≤ S → -(i : Int) ≤ px i ∧ px i ≤ i ∧ -(i : Int) ≤ py i ∧ py i ≤ i) ∧ -24 * (k : Int) ≤ a ∧ a ≤ 24 * (k : Int)
def RoC (M A : zM) (S : Nat) (a : Int) (px py : Nat → Int) : Prop := A 70 9 = J (px S) ∧ A 70 10 = J (py S) ∧ A 70 11 = J a ∧ (∀ i, i ≤ S → A 77 i = J (49 * py i + px i)) ∧ (∀ j, j ≠ 70 → j ≠ 77 → A j = M j) ∧ (∀ c, c < 9 → A 70 c = M 70 c)
def RoN (N B : zM) (S : Nat) (w a : Int) (px py : Nat → Int) : Prop := B 257 28 = J (S + 1 : Nat) ∧ B 257 29 = J w ∧ B 257 30 = J a ∧ (∀ i, i ≤ S → B 271 i = J (px i) ∧ B 272 i = J (py i)) ∧ (∀ j, j ≠ 257 → j ≠ 271 → j ≠ 272 → B j = N j) ∧ (∀ c, c < 28 → B 257 c = N 257 c)
def wsm (mv : Nat → Nat) : Nat → Int
  | 0 => 0
  | k + 1 => wsm mv k + (if mv k = 2 then 1 else -(mv k : Int))
theorem p_rd {M N : zM} {n : Nat} {mv : Nat → Nat} (hn : n ≤ 24) (hM : M 70 3 = J n) (hN : N 258 2383 = J n) (hm : ∀ i, i < n → M 73 i = J (mv i) ∧ N 258 (2384 + i) = J (mv i) ∧ mv i < 3) {A0 B0 : zM} (hA : RoC M A0 0 0 (fun _ => 0) (fun _ => 0)) (hB : RoN N B0 0 0 0 (fun _ => 0) (fun _ => 0)) :
    W2 (loopW (fun s => b_X6_walk_28 70 s.1 s.2.1 s.2.2.1 s.2.2.2) (J 0, J 0, J 0, A0)) (loopW (fun s => b_X11_goesRound_31 s.1 s.2) (J 0, B0)) (fun q B => ∃ (S : Nat) (w a : Int) (px py : Nat → Int), q.1 = J S ∧ w = wsm mv n ∧ RoB n S w a px py ∧ RoC M q.2 S a px py ∧ RoN N B S w a px py) := by
  refine loopR (fun k s t => ∃ (S : Nat) (w a : Int) (px py : Nat → Int), s.1 = J (w % 4) ∧ s.2.1 = J S ∧ s.2.2.1 = J k ∧ t.1 = J k ∧ w = wsm mv k ∧ RoB k S w a px py ∧ RoC M s.2.2.2 S a px py ∧ RoN N t.2 S w a px py) n ?_ ?_ ?_
  · exact ⟨0, 0, 0, fun _ => 0, fun _ => 0, rfl, rfl, rfl, rfl, rfl, ⟨by omega, by omega, by omega, fun i hi => by simp only; omega, by omega, by omega⟩, hA, hB⟩
  · rintro k ⟨s1, s2, s3, A⟩ ⟨t1, B⟩ hk ⟨S, w, a, px, py, e1, e2, e3, e4, ew, ⟨b1, b2, b3, b4, b5, b6⟩, ⟨c1, c2, c3, c4, c5, c6⟩, ⟨d1, d2, d3, d4, d5, d6⟩⟩
    simp only at e1 e2 e3 e4 c1 c2 c3 c4 c5 c6 d1 d2 d3 d4 d5 d6
    subst e1 e2 e3 e4
    obtain ⟨m1, m2, m3⟩ := hm k hk
    have a3 : A 70 3 = J n := by rw [c6 3 (by omega)]; exact hM
    have a73 : A 73 = M 73 := c5 73 (by decide) (by decide)
    have b258 : B 258 = N 258 := d5 258 (by decide) (by decide) (by decide)
    have i1 : (2384 + (k : Int)).toNat = 2384 + k := by omega
    obtain ⟨f, hf⟩ : ∃ f : Nat, w % 4 = (f : Int) := ⟨(w % 4).toNat, by omega⟩
    have hf4 : f < 4 := by omega
    obtain ⟨x1, x2, y1, y2⟩ := b4 S (Nat.le_refl _)
    obtain ⟨g1, g2⟩ := d4 S (Nat.le_refl _)
    unfold b_X6_walk_28 b_X11_goesRound_31 j_X6_walk_61_28 j_X6_walk_147_28 j_X11_goesRound_78_31 j_X11_goesRound_211_31
    rcases (show mv k = 0 ∨ mv k = 1 ∨ mv k = 2 by omega) with q | q | q
    · have z0 := t_zsx f hf4
      have z1 := t_zsy f hf4
      have z2 := t_gx f hf4
      have z3 := t_gy f hf4
      have fw : (w + 24) % 4 = (f : Int) := by omega
      rw [q] at m1 m2
      have is1 : ((S + 1 : Nat) : Int) - 1 = (S : Int) := by omega
      have is2 : ((S : Int) + 1).toNat = S + 1 := by omega
      have bx := dx_b f hf4
      have by' := dy_b f hf4
      simp (disch := omega) only [↓nm_s, ↓grd_s, ↓reduceIte, J_lit, J_nI, J_add, J_sub, J_mul, J_neg, Int.cast_ofNat_Int, J_lt_t, J_lt_f, J_le_t, J_le_f, J_eq_t, J_eq_f, within_t, within_f, isIn_t, isIn_f, inRow_t, inRow_f, isCell_t, isCell_f, inb_t, ix_Jn, ix_J, Int.reduceToNat, Int.toNat_natCast, mset_ne, mset_eq, mrow_ne, mrow_eq, upd_eq, upd_ne, bind_s, bnd2_s, not_true_eq_false, not_false_eq_true, Nat.reduceAdd, a3, a73, m1, m2, b258, hN, i1, hf, z0, z1, z2, z3, c1, c2, c3, d1, d2, d3, g1, g2, Int.natCast_zero, Int.add_zero, J_rem, fw, is1, is2]
      refine w2_some ⟨S + 1, w, a + (px S * dyI f - py S * dxI f), fun i => if i = S + 1 then px S + dxI f else px i, fun i => if i = S + 1 then py S + dyI f else py i, congrArg J hf.symm, rfl, rfl, rfl, by show _ = wsm mv k + (if mv k = 2 then 1 else -(mv k : Int)); rw [q, ← ew, if_neg (by decide)]; omega, ⟨by omega, by omega, by omega, fun i hi => ?_, ?_, ?_⟩, ⟨?_, ?_, ?_, fun i hi => ?_, fun j h1 h2 => ?_, fun c hc => ?_⟩, ⟨?_, ?_, ?_, fun i hi => ?_, fun j h1 h2 h3 => ?_, fun c hc => ?_⟩⟩
      · by_cases e : i = S + 1
        · simp only [e, if_true]
          omega
        · simp only [e, if_false]
          exact b4 i (by omega)
      · rcases (show f = 0 ∨ f = 1 ∨ f = 2 ∨ f = 3 by omega) with e | e | e | e <;> subst e <;> simp [dxI, dyI] <;> omega
      · rcases (show f = 0 ∨ f = 1 ∨ f = 2 ∨ f = 3 by omega) with e | e | e | e <;> subst e <;> simp [dxI, dyI] <;> omega
      · simp only [if_true]
        simp (disch := omega) only [mset_ne, mset_eq, mrow_ne, mrow_eq, upd_eq, upd_ne]
      · simp only [if_true]
        simp (disch := omega) only [mset_ne, mset_eq, mrow_ne, mrow_eq, upd_eq, upd_ne]
      · simp (disch := omega) only [mset_ne, mset_eq, mrow_ne, mrow_eq, upd_eq, upd_ne]
      · by_cases e : i = S + 1
        · subst e
          simp only [if_true]
          simp (disch := omega) only [mset_ne, mset_eq, mrow_ne, mrow_eq, upd_eq, upd_ne]
        · simp only [e, if_false]
          simp (disch := omega) only [mset_ne, mset_eq, mrow_ne, mrow_eq, upd_eq, upd_ne]
          exact c4 i (by omega)
      · simp (disch := omega) only [mset_ne, mset_eq, mrow_ne, mrow_eq, upd_eq, upd_ne]
        exact c5 j h1 h2
      · simp (disch := omega) only [mset_ne, mset_eq, mrow_ne, mrow_eq, upd_eq, upd_ne]
        exact c6 c hc
      · simp (disch := omega) only [mset_ne, mset_eq, mrow_ne, mrow_eq, upd_eq, upd_ne]
        exact congrArg J (by omega)
      · simp (disch := omega) only [mset_ne, mset_eq, mrow_ne, mrow_eq, upd_eq, upd_ne]
      · simp (disch := omega) only [mset_ne, mset_eq, mrow_ne, mrow_eq, upd_eq, upd_ne]
        congr 1
        rw [Int.mul_add, Int.add_mul, Int.mul_comm (dxI f)]
        omega
      · by_cases e : i = S + 1
        · subst e
          simp only [if_true]
          simp (disch := omega) only [mset_ne, mset_eq, mrow_ne, mrow_eq, upd_eq, upd_ne]
          exact ⟨trivial, trivial⟩
        · simp only [e, if_false]
          simp (disch := omega) only [mset_ne, mset_eq, mrow_ne, mrow_eq, upd_eq, upd_ne]
          exact d4 i (by omega)
      · simp (disch := omega) only [mset_ne, mset_eq, mrow_ne, mrow_eq, upd_eq, upd_ne]
        exact d5 j h1 h2 h3
      · simp (disch := omega) only [mset_ne, mset_eq, mrow_ne, mrow_eq, upd_eq, upd_ne]
        exact d6 c hc
    · rw [q] at m1 m2
      simp (disch := omega) only [↓nm_s, ↓grd_s, ↓reduceIte, J_lit, J_nI, J_add, J_sub, J_mul, J_neg, Int.cast_ofNat_Int, J_lt_t, J_lt_f, J_le_t, J_le_f, J_eq_t, J_eq_f, within_t, within_f, isIn_t, isIn_f, inRow_t, inRow_f, isCell_t, isCell_f, inb_t, ix_Jn, ix_J, Int.reduceToNat, Int.toNat_natCast, mset_ne, mset_eq, mrow_ne, mrow_eq, upd_eq, upd_ne, bind_s, bnd2_s, not_true_eq_false, not_false_eq_true, Nat.reduceAdd, a3, a73, m1, m2, b258, hN, i1, d2, Int.natCast_one, J_and3]
      refine w2_some ⟨S, w - 1, a, px, py, ?_, rfl, rfl, rfl, by show _ = wsm mv k + (if mv k = 2 then 1 else -(mv k : Int)); rw [q, ← ew, if_neg (by decide)]; omega, ⟨by omega, by omega, by omega, b4, by omega, by omega⟩, ⟨c1, c2, c3, c4, c5, c6⟩, ⟨?_, ?_, ?_, fun i hi => ?_, fun j h1 h2 h3 => ?_, fun c hc => ?_⟩⟩
      · exact congrArg J (by omega)
      · simp (disch := omega) only [mset_ne, mset_eq, mrow_ne, mrow_eq, upd_eq, upd_ne]
        exact d1
      · simp (disch := omega) only [mset_ne, mset_eq, mrow_ne, mrow_eq, upd_eq, upd_ne]
        exact congrArg J (by omega)
      · simp (disch := omega) only [mset_ne, mset_eq, mrow_ne, mrow_eq, upd_eq, upd_ne]
        exact d3
      · simp (disch := omega) only [mset_ne, mset_eq, mrow_ne, mrow_eq, upd_eq, upd_ne]
        exact d4 i hi
      · simp (disch := omega) only [mset_ne, mset_eq, mrow_ne, mrow_eq, upd_eq, upd_ne]
        exact d5 j h1 h2 h3
      · simp (disch := omega) only [mset_ne, mset_eq, mrow_ne, mrow_eq, upd_eq, upd_ne]
        exact d6 c hc
    · rw [q] at m1 m2
      simp (disch := omega) only [↓nm_s, ↓grd_s, ↓reduceIte, J_lit, J_nI, J_add, J_sub, J_mul, J_neg, Int.cast_ofNat_Int, J_lt_t, J_lt_f, J_le_t, J_le_f, J_eq_t, J_eq_f, within_t, within_f, isIn_t, isIn_f, inRow_t, inRow_f, isCell_t, isCell_f, inb_t, ix_Jn, ix_J, Int.reduceToNat, Int.toNat_natCast, mset_ne, mset_eq, mrow_ne, mrow_eq, upd_eq, upd_ne, bind_s, bnd2_s, not_true_eq_false, not_false_eq_true, Nat.reduceAdd, a3, a73, m1, m2, b258, hN, i1, d2, J_and3]
      refine w2_some ⟨S, w + 1, a, px, py, ?_, rfl, rfl, rfl, by show _ = wsm mv k + (if mv k = 2 then 1 else -(mv k : Int)); rw [q, ← ew, if_pos rfl], ⟨by omega, by omega, by omega, b4, by omega, by omega⟩, ⟨c1, c2, c3, c4, c5, c6⟩, ⟨?_, ?_, ?_, fun i hi => ?_, fun j h1 h2 h3 => ?_, fun c hc => ?_⟩⟩
      · exact congrArg J (by omega)
      · simp (disch := omega) only [mset_ne, mset_eq, mrow_ne, mrow_eq, upd_eq, upd_ne]
        exact d1
      · simp (disch := omega) only [mset_ne, mset_eq, mrow_ne, mrow_eq, upd_eq, upd_ne]
      · simp (disch := omega) only [mset_ne, mset_eq, mrow_ne, mrow_eq, upd_eq, upd_ne]
        exact d3
      · simp (disch := omega) only [mset_ne, mset_eq, mrow_ne, mrow_eq, upd_eq, upd_ne]
        exact d4 i hi
      · simp (disch := omega) only [mset_ne, mset_eq, mrow_ne, mrow_eq, upd_eq, upd_ne]
        exact d5 j h1 h2 h3
      · simp (disch := omega) only [mset_ne, mset_eq, mrow_ne, mrow_eq, upd_eq, upd_ne]
        exact d6 c hc
  · rintro ⟨s1, s2, s3, A⟩ ⟨t1, B⟩ ⟨S, w, a, px, py, e1, e2, e3, e4, ew, hb, hc, hd⟩
    simp only at e1 e2 e3 e4 hc hd
    subst e1 e2 e3 e4
    have a3 : A 70 3 = J n := by rw [hc.2.2.2.2.2 3 (by omega)]; exact hM
    have b258 : B 258 = N 258 := hd.2.2.2.2.1 258 (by decide) (by decide) (by decide)
    unfold b_X6_walk_28 b_X11_goesRound_31
    simp (disch := omega) only [↓reduceIte, J_lit, Int.cast_ofNat_Int, J_lt_t, J_lt_f, J_le_t, J_le_f, J_eq_t, J_eq_f, within_t, within_f, isIn_t, isIn_f, inRow_t, inRow_f, isCell_t, isCell_f, inb_t, ix_Jn, ix_J, Int.reduceToNat, Int.toNat_natCast, a3, b258, hN]
    exact w2_some ⟨S, w, a, px, py, rfl, ew, hb, hc, hd⟩
