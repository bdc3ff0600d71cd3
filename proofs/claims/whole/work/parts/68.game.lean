/-! ===== a game with bends ===== -/
def bitg (c : Nat) : Nat := if c < 5 then 2 ^ c else 0
def org (a b c d : Nat) : Nat := bitg a ||| bitg b ||| bitg c ||| bitg d
def lmg (R : Nat) : Nat := if R % 2 = 0 then 0 else if R / 2 % 2 = 0 then 1 else if R / 4 % 2 = 0 then 2 else if R / 8 % 2 = 0 then 3 else 4
def gmT (a b c d : Nat) : Bool := decide (org a b c d < 32) && decide (org a b c d / 2 ^ lmg (org a b c d) % 2 = 0) && (decide (lmg (org a b c d) ≠ a)) && (decide (lmg (org a b c d) ≠ b)) && (decide (lmg (org a b c d) ≠ c)) && (decide (lmg (org a b c d) ≠ d)) && (List.range (lmg (org a b c d))).all (fun u => (u == a || u == b || u == c || u == d) && decide (org a b c d / 2 ^ u % 2 = 1))
theorem gm_all : ∀ a, a < 6 → ∀ b, b < 6 → ∀ c, c < 6 → ∀ d, d < 6 → gmT a b c d = true := by decide +kernel
theorem lmg_4 (R : Nat) : lmg R ≤ 4 := by
  unfold lmg
  repeat' split
  all_goals omega
theorem gm_one {a b c d : Nat} (ha : a < 6) (hb : b < 6) (hc : c < 6) (hd : d < 6) : org a b c d < 32 ∧ org a b c d / 2 ^ lmg (org a b c d) % 2 = 0 ∧ (lmg (org a b c d) ≠ a ∧ lmg (org a b c d) ≠ b ∧ lmg (org a b c d) ≠ c ∧ lmg (org a b c d) ≠ d) ∧ ∀ u, u < lmg (org a b c d) → (u = a ∨ u = b ∨ u = c ∨ u = d) ∧ org a b c d / 2 ^ u % 2 = 1 := by
  have h := gm_all a ha b hb c hc d hd
  unfold gmT at h
  simp only [Bool.and_eq_true, decide_eq_true_eq, List.all_eq_true, List.mem_range, Bool.or_eq_true, beq_iff_eq] at h
  obtain ⟨⟨⟨⟨⟨⟨h1, h2⟩, h3⟩, h4⟩, h5⟩, h6⟩, h7⟩ := h
  refine ⟨h1, h2, ⟨h3, h4, h5, h6⟩, fun u hu => ?_⟩
  obtain ⟨q1, q2⟩ := h7 u hu
  refine ⟨?_, q2⟩
  rcases q1 with ((q | q) | q) | q
  · exact Or.inl q
  · exact Or.inr (Or.inl q)
  · exact Or.inr (Or.inr (Or.inl q))
  · exact Or.inr (Or.inr (Or.inr q))
theorem t_bit : ∀ R : Nat, R < 32 → ∀ v : Nat, v < 6 → (decide (((J R >>> (J v &&& 31)) &&& 1) = 1)) = decide (R / 2 ^ v % 2 = 1) := by decide +kernel
theorem t_bit2 {R v : Nat} (hR : R < 32) (hv : v < 6) : (((J R >>> (J v &&& 31)) &&& 1) = 1) ↔ R / 2 ^ v % 2 = 1 := by
  have := t_bit R hR v hv
  exact decide_eq_decide.mp this
theorem t_leastC {R : Nat} (hR : R < 32) (h0 : R / 2 ^ lmg R % 2 = 0) (h1 : ∀ u, u < lmg R → R / 2 ^ u % 2 = 1) : f_X4_leastMissing (J R) = some (J (lmg R)) := by
  have h4 := lmg_4 R
  have key : Wp (loopW (fun s => b_X4_leastMissing_2 (J R) s) (J 0)) (fun v => v = J (lmg R)) := by
    refine loop_up (fun k s => s = J k) (lmg R) rfl ?_ ?_
    · rintro k s hk rfl
      unfold b_X4_leastMissing_2
      rw [if_neg (show ¬ (4 : Int32) ≤ J k by rw [show (4 : Int32) = J 4 from rfl, J_le (by omega) (by omega) (by omega) (by omega)]; omega), if_pos ((t_bit2 hR (by omega)).mpr (h1 k hk)), show (1 : Int32) = J 1 from rfl, J_add]
      exact wp_some rfl
    · rintro s rfl
      unfold b_X4_leastMissing_2
      by_cases c : lmg R = 4
      · rw [c, if_pos (show (4 : Int32) ≤ J ((4 : Nat) : Int) by decide)]
        exact wp_some rfl
      · rw [if_neg (show ¬ (4 : Int32) ≤ J (lmg R) by rw [show (4 : Int32) = J 4 from rfl, J_le (by omega) (by omega) (by omega) (by omega)]; omega), if_neg (fun e => by have := (t_bit2 hR (by omega)).mp e; omega)]
        exact wp_some rfl
  obtain ⟨v, e, rfl⟩ := key
  unfold f_X4_leastMissing j_X4_leastMissing_22
  rw [show (0 : Int32) = J 0 from rfl, e]
  rfl
theorem t_leastR {R : Nat} (hR : R < 32) (h0 : R / 2 ^ lmg R % 2 = 0) (h1 : ∀ u, u < lmg R → R / 2 ^ u % 2 = 1) (a b c : Int32) (N : zM) : loopW (fun s => b_X11_layValues_70_2_9 a b c (J R) s N) (J 0) = some (J (lmg R)) := by
  have h4 := lmg_4 R
  have key : Wp (loopW (fun s => b_X11_layValues_70_2_9 a b c (J R) s N) (J 0)) (fun v => v = J (lmg R)) := by
    refine loop_up (fun k s => s = J k) (lmg R) rfl ?_ ?_
    · rintro k s hk rfl
      unfold b_X11_layValues_70_2_9
      rw [if_pos ((t_bit2 hR (by omega)).mpr (h1 k hk)), show (1 : Int32) = J 1 from rfl, J_add]
      exact wp_some rfl
    · rintro s rfl
      unfold b_X11_layValues_70_2_9
      rw [if_neg (fun e => by have := (t_bit2 hR (by omega)).mp e; omega)]
      exact wp_some rfl
  obtain ⟨v, e, rfl⟩ := key
  exact e
/-- the value of where the k-th move goes; 5: it can't be gone -/
def mvv (f : Nat → Int32) (x y k : Nat) : Nat := match gmv x y k with
  | none => 5
  | some q => (f q).toInt.toNat
theorem gone_some {x y k q : Nat} (hxy : x + y ≤ 60) (hk : k < 4) (h : gmv x y k = some q) : q < 3721 ∧ ∃ x' y', q = 61 * y' + x' ∧ x' + y' < x + y := by
  rcases (show k = 0 ∨ k = 1 ∨ k = 2 ∨ k = 3 by omega) with e | e | e | e <;> subst e <;> simp only [gmv] at h
  · by_cases c : 2 ≤ x
    · rw [if_pos c] at h
      injection h with h
      exact ⟨by omega, x - 2, y + 1, by omega, by omega⟩
    · rw [if_neg c] at h
      cases h
  · by_cases c : 2 ≤ x ∧ 1 ≤ y
    · rw [if_pos c] at h
      injection h with h
      exact ⟨by omega, x - 2, y - 1, by omega, by omega⟩
    · rw [if_neg c] at h
      cases h
  · by_cases c : 2 ≤ y
    · rw [if_pos c] at h
      injection h with h
      exact ⟨by omega, x + 1, y - 2, by omega, by omega⟩
    · rw [if_neg c] at h
      cases h
  · by_cases c : 1 ≤ x ∧ 2 ≤ y
    · rw [if_pos c] at h
      injection h with h
      exact ⟨by omega, x - 1, y - 2, by omega, by omega⟩
    · rw [if_neg c] at h
      cases h
theorem zg20 : zsV 2 0 = J (-2) := by decide +kernel
theorem zg21 : zsV 2 1 = J (-2) := by decide +kernel
theorem zg22 : zsV 2 2 = J (1) := by decide +kernel
theorem zg23 : zsV 2 3 = J (-1) := by decide +kernel
theorem zg30 : zsV 3 0 = J (1) := by decide +kernel
theorem zg31 : zsV 3 1 = J (-1) := by decide +kernel
theorem zg32 : zsV 3 2 = J (-2) := by decide +kernel
theorem zg33 : zsV 3 3 = J (-2) := by decide +kernel
theorem t_gone {x y k : Nat} (hxy : x + y ≤ 60) (hk : k < 4) (M : zM) : f_X4_gone (J x) (J y) (J k) M = some (match gmv x y k with | none => J (-1) | some q => J q) ∧ f_X11_bend (J x) (J y) (J k) = (match gmv x y k with | none => J (-1) | some q => J q) := by
  unfold f_X4_gone f_X11_bend j_X11_bend_25 j_X11_bend_50
  rcases (show k = 0 ∨ k = 1 ∨ k = 2 ∨ k = 3 by omega) with e | e | e | e <;> subst e <;> simp only [gmv]
  · by_cases c : 2 ≤ x
    · simp only [c, ↓reduceIte, and_self]
      have t0 : (61 : Int) * ((y : Int) + 1) + ((x : Int) + -2) = ((61 * (y + 1) + (x - 2) : Nat) : Int) := by omega
      have t1 : (61 : Int) * ((y : Int) + 1) + ((x : Int) - 2) = ((61 * (y + 1) + (x - 2) : Nat) : Int) := by omega
      simp (disch := omega) only [↓nm_s, ↓grd_s, ↓reduceIte, J_lit, J_nI, J_add, J_sub, J_mul, J_neg, Int.cast_ofNat_Int, J_lt_t, J_lt_f, J_le_t, J_le_f, J_eq_t, J_eq_f, within_t, within_f, isIn_t, isIn_f, inRow_t, inRow_f, isCell_t, isCell_f, inb_t, ix_Jn, ix_J, Int.reduceToNat, Int.toNat_natCast, mset_ne, mset_eq, mrow_ne, mrow_eq, upd_eq, upd_ne, bind_s, bnd2_s, not_true_eq_false, not_false_eq_true, Nat.reduceAdd, J_and3, zg20, zg21, zg22, zg23, zg30, zg31, zg32, zg33, Int.reduceMod, Int.cast_ofNat_Int, Int.natCast_zero, Int.natCast_one, t0, t1]
      exact ⟨trivial, trivial⟩
    · simp only [c, ↓reduceIte]
      simp (disch := omega) only [↓nm_s, ↓grd_s, ↓reduceIte, J_lit, J_nI, J_add, J_sub, J_mul, J_neg, Int.cast_ofNat_Int, J_lt_t, J_lt_f, J_le_t, J_le_f, J_eq_t, J_eq_f, within_t, within_f, isIn_t, isIn_f, inRow_t, inRow_f, isCell_t, isCell_f, inb_t, ix_Jn, ix_J, Int.reduceToNat, Int.toNat_natCast, mset_ne, mset_eq, mrow_ne, mrow_eq, upd_eq, upd_ne, bind_s, bnd2_s, not_true_eq_false, not_false_eq_true, Nat.reduceAdd, J_and3, zg20, zg21, zg22, zg23, zg30, zg31, zg32, zg33, Int.reduceMod, Int.cast_ofNat_Int, Int.natCast_zero, Int.natCast_one]
      exact ⟨trivial, trivial⟩
  · by_cases c : 2 ≤ x ∧ 1 ≤ y
    · simp only [c, ↓reduceIte, and_self]
      have t0 : (61 : Int) * ((y : Int) + -1) + ((x : Int) + -2) = ((61 * (y - 1) + (x - 2) : Nat) : Int) := by omega
      have t1 : (61 : Int) * ((y : Int) + -1) + ((x : Int) - 2) = ((61 * (y - 1) + (x - 2) : Nat) : Int) := by omega
      have t2 : (61 : Int) * ((y : Int) - 1) + ((x : Int) + -2) = ((61 * (y - 1) + (x - 2) : Nat) : Int) := by omega
      have t3 : (61 : Int) * ((y : Int) - 1) + ((x : Int) - 2) = ((61 * (y - 1) + (x - 2) : Nat) : Int) := by omega
      simp (disch := omega) only [↓nm_s, ↓grd_s, ↓reduceIte, J_lit, J_nI, J_add, J_sub, J_mul, J_neg, Int.cast_ofNat_Int, J_lt_t, J_lt_f, J_le_t, J_le_f, J_eq_t, J_eq_f, within_t, within_f, isIn_t, isIn_f, inRow_t, inRow_f, isCell_t, isCell_f, inb_t, ix_Jn, ix_J, Int.reduceToNat, Int.toNat_natCast, mset_ne, mset_eq, mrow_ne, mrow_eq, upd_eq, upd_ne, bind_s, bnd2_s, not_true_eq_false, not_false_eq_true, Nat.reduceAdd, J_and3, zg20, zg21, zg22, zg23, zg30, zg31, zg32, zg33, Int.reduceMod, Int.cast_ofNat_Int, Int.natCast_zero, Int.natCast_one, t0, t1, t2, t3]
      exact ⟨trivial, trivial⟩
    · simp only [c, ↓reduceIte]
      by_cases c2 : x < 2
      · simp (disch := omega) only [↓nm_s, ↓grd_s, ↓reduceIte, J_lit, J_nI, J_add, J_sub, J_mul, J_neg, Int.cast_ofNat_Int, J_lt_t, J_lt_f, J_le_t, J_le_f, J_eq_t, J_eq_f, within_t, within_f, isIn_t, isIn_f, inRow_t, inRow_f, isCell_t, isCell_f, inb_t, ix_Jn, ix_J, Int.reduceToNat, Int.toNat_natCast, mset_ne, mset_eq, mrow_ne, mrow_eq, upd_eq, upd_ne, bind_s, bnd2_s, not_true_eq_false, not_false_eq_true, Nat.reduceAdd, J_and3, zg20, zg21, zg22, zg23, zg30, zg31, zg32, zg33, Int.reduceMod, Int.cast_ofNat_Int, Int.natCast_zero, Int.natCast_one]
        exact ⟨trivial, trivial⟩
      · simp (disch := omega) only [↓nm_s, ↓grd_s, ↓reduceIte, J_lit, J_nI, J_add, J_sub, J_mul, J_neg, Int.cast_ofNat_Int, J_lt_t, J_lt_f, J_le_t, J_le_f, J_eq_t, J_eq_f, within_t, within_f, isIn_t, isIn_f, inRow_t, inRow_f, isCell_t, isCell_f, inb_t, ix_Jn, ix_J, Int.reduceToNat, Int.toNat_natCast, mset_ne, mset_eq, mrow_ne, mrow_eq, upd_eq, upd_ne, bind_s, bnd2_s, not_true_eq_false, not_false_eq_true, Nat.reduceAdd, J_and3, zg20, zg21, zg22, zg23, zg30, zg31, zg32, zg33, Int.reduceMod, Int.cast_ofNat_Int, Int.natCast_zero, Int.natCast_one]
        exact ⟨trivial, trivial⟩
  · by_cases c : 2 ≤ y
    · simp only [c, ↓reduceIte, and_self]
      have t0 : (61 : Int) * ((y : Int) + -2) + ((x : Int) + 1) = ((61 * (y - 2) + (x + 1) : Nat) : Int) := by omega
      have t1 : (61 : Int) * ((y : Int) - 2) + ((x : Int) + 1) = ((61 * (y - 2) + (x + 1) : Nat) : Int) := by omega
      simp (disch := omega) only [↓nm_s, ↓grd_s, ↓reduceIte, J_lit, J_nI, J_add, J_sub, J_mul, J_neg, Int.cast_ofNat_Int, J_lt_t, J_lt_f, J_le_t, J_le_f, J_eq_t, J_eq_f, within_t, within_f, isIn_t, isIn_f, inRow_t, inRow_f, isCell_t, isCell_f, inb_t, ix_Jn, ix_J, Int.reduceToNat, Int.toNat_natCast, mset_ne, mset_eq, mrow_ne, mrow_eq, upd_eq, upd_ne, bind_s, bnd2_s, not_true_eq_false, not_false_eq_true, Nat.reduceAdd, J_and3, zg20, zg21, zg22, zg23, zg30, zg31, zg32, zg33, Int.reduceMod, Int.cast_ofNat_Int, Int.natCast_zero, Int.natCast_one, t0, t1]
      exact ⟨trivial, trivial⟩
    · simp only [c, ↓reduceIte]
      simp (disch := omega) only [↓nm_s, ↓grd_s, ↓reduceIte, J_lit, J_nI, J_add, J_sub, J_mul, J_neg, Int.cast_ofNat_Int, J_lt_t, J_lt_f, J_le_t, J_le_f, J_eq_t, J_eq_f, within_t, within_f, isIn_t, isIn_f, inRow_t, inRow_f, isCell_t, isCell_f, inb_t, ix_Jn, ix_J, Int.reduceToNat, Int.toNat_natCast, mset_ne, mset_eq, mrow_ne, mrow_eq, upd_eq, upd_ne, bind_s, bnd2_s, not_true_eq_false, not_false_eq_true, Nat.reduceAdd, J_and3, zg20, zg21, zg22, zg23, zg30, zg31, zg32, zg33, Int.reduceMod, Int.cast_ofNat_Int, Int.natCast_zero, Int.natCast_one]
      exact ⟨trivial, trivial⟩
  · by_cases c : 1 ≤ x ∧ 2 ≤ y
    · simp only [c, ↓reduceIte, and_self]
      have t0 : (61 : Int) * ((y : Int) + -2) + ((x : Int) + -1) = ((61 * (y - 2) + (x - 1) : Nat) : Int) := by omega
      have t1 : (61 : Int) * ((y : Int) + -2) + ((x : Int) - 1) = ((61 * (y - 2) + (x - 1) : Nat) : Int) := by omega
      have t2 : (61 : Int) * ((y : Int) - 2) + ((x : Int) + -1) = ((61 * (y - 2) + (x - 1) : Nat) : Int) := by omega
      have t3 : (61 : Int) * ((y : Int) - 2) + ((x : Int) - 1) = ((61 * (y - 2) + (x - 1) : Nat) : Int) := by omega
      simp (disch := omega) only [↓nm_s, ↓grd_s, ↓reduceIte, J_lit, J_nI, J_add, J_sub, J_mul, J_neg, Int.cast_ofNat_Int, J_lt_t, J_lt_f, J_le_t, J_le_f, J_eq_t, J_eq_f, within_t, within_f, isIn_t, isIn_f, inRow_t, inRow_f, isCell_t, isCell_f, inb_t, ix_Jn, ix_J, Int.reduceToNat, Int.toNat_natCast, mset_ne, mset_eq, mrow_ne, mrow_eq, upd_eq, upd_ne, bind_s, bnd2_s, not_true_eq_false, not_false_eq_true, Nat.reduceAdd, J_and3, zg20, zg21, zg22, zg23, zg30, zg31, zg32, zg33, Int.reduceMod, Int.cast_ofNat_Int, Int.natCast_zero, Int.natCast_one, t0, t1, t2, t3]
      exact ⟨trivial, trivial⟩
    · simp only [c, ↓reduceIte]
      by_cases c2 : x < 1
      · simp (disch := omega) only [↓nm_s, ↓grd_s, ↓reduceIte, J_lit, J_nI, J_add, J_sub, J_mul, J_neg, Int.cast_ofNat_Int, J_lt_t, J_lt_f, J_le_t, J_le_f, J_eq_t, J_eq_f, within_t, within_f, isIn_t, isIn_f, inRow_t, inRow_f, isCell_t, isCell_f, inb_t, ix_Jn, ix_J, Int.reduceToNat, Int.toNat_natCast, mset_ne, mset_eq, mrow_ne, mrow_eq, upd_eq, upd_ne, bind_s, bnd2_s, not_true_eq_false, not_false_eq_true, Nat.reduceAdd, J_and3, zg20, zg21, zg22, zg23, zg30, zg31, zg32, zg33, Int.reduceMod, Int.cast_ofNat_Int, Int.natCast_zero, Int.natCast_one]
        exact ⟨trivial, trivial⟩
      · simp (disch := omega) only [↓nm_s, ↓grd_s, ↓reduceIte, J_lit, J_nI, J_add, J_sub, J_mul, J_neg, Int.cast_ofNat_Int, J_lt_t, J_lt_f, J_le_t, J_le_f, J_eq_t, J_eq_f, within_t, within_f, isIn_t, isIn_f, inRow_t, inRow_f, isCell_t, isCell_f, inb_t, ix_Jn, ix_J, Int.reduceToNat, Int.toNat_natCast, mset_ne, mset_eq, mrow_ne, mrow_eq, upd_eq, upd_ne, bind_s, bnd2_s, not_true_eq_false, not_false_eq_true, Nat.reduceAdd, J_and3, zg20, zg21, zg22, zg23, zg30, zg31, zg32, zg33, Int.reduceMod, Int.cast_ofNat_Int, Int.natCast_zero, Int.natCast_one]
        exact ⟨trivial, trivial⟩
