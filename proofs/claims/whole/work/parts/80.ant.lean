/-! ===== the ant: where it goes ===== -/
def fc {α : Type} (n : Nat) (k : Nat → α) : α := match n with
  | 0 => k 0
  | j + 1 => k (j + 1)
theorem fc_eq {α : Type} (n : Nat) (k : Nat → α) : fc n k = k n := by cases n <;> rfl
def anX (f : Nat) : Nat := if f = 1 then 2 else if f = 3 then 0 else 1
def anY (f : Nat) : Nat := if f = 0 then 2 else if f = 2 then 0 else 1
def anF (f : Nat) (b : Bool) : Nat := (f + cond b 3 1) % 4
def an1 (s : Nat × Nat × Nat × Nat) : Nat × Nat × Nat × Nat := (s.1 + anX (anF s.2.2.1 (s.2.2.2.testBit (81 * s.2.1 + s.1))) - 1, s.2.1 + anY (anF s.2.2.1 (s.2.2.2.testBit (81 * s.2.1 + s.1))) - 1, anF s.2.2.1 (s.2.2.2.testBit (81 * s.2.1 + s.1)), s.2.2.2 ^^^ 2 ^ (81 * s.2.1 + s.1))
def anI : Nat → Nat × Nat × Nat × Nat
  | 0 => (40, 40, 0, 0)
  | k + 1 => an1 (anI k)
noncomputable def anC (n : Nat) : Nat → Nat → Nat → Nat → Bool :=
  Nat.rec (motive := fun _ => Nat → Nat → Nat → Nat → Bool) (fun _ _ _ _ => true) (fun _ ih x y f m =>
    (Nat.ble 1 x && Nat.ble x 79 && Nat.ble 1 y && Nat.ble y 79 && Nat.ble f 3) &&
    fc (anF f (m.testBit (81 * y + x))) fun f' => fc (m ^^^ 2 ^ (81 * y + x)) fun m' => fc (x + anX f' - 1) fun x' => fc (y + anY f' - 1) fun y' => ih x' y' f' m') n
theorem anC_s (n x y f m : Nat) : anC (n + 1) x y f m = ((Nat.ble 1 x && Nat.ble x 79 && Nat.ble 1 y && Nat.ble y 79 && Nat.ble f 3) && anC n (x + anX (anF f (m.testBit (81 * y + x))) - 1) (y + anY (anF f (m.testBit (81 * y + x))) - 1) (anF f (m.testBit (81 * y + x))) (m ^^^ 2 ^ (81 * y + x))) := by
  show ((Nat.ble 1 x && Nat.ble x 79 && Nat.ble 1 y && Nat.ble y 79 && Nat.ble f 3) && fc (anF f (m.testBit (81 * y + x))) fun f' => fc (m ^^^ 2 ^ (81 * y + x)) fun m' => fc (x + anX f' - 1) fun x' => fc (y + anY f' - 1) fun y' => anC n x' y' f' m') = _
  simp only [fc_eq]
set_option maxRecDepth 1000000 in
theorem anC_all : anC 2000 40 40 0 0 = true := by decide +kernel
theorem anC_in : ∀ n k x y f m, anC n x y f m = true → anI k = (x, y, f, m) → ∀ j, j < n → 1 ≤ (anI (k + j)).1 ∧ (anI (k + j)).1 ≤ 79 ∧ 1 ≤ (anI (k + j)).2.1 ∧ (anI (k + j)).2.1 ≤ 79 ∧ (anI (k + j)).2.2.1 ≤ 3 := by
  intro n
  induction n with
  | zero => intro k x y f m _ _ j hj; omega
  | succ n ih =>
    intro k x y f m h e j hj
    rw [anC_s] at h
    simp only [Bool.and_eq_true, Nat.ble_eq] at h
    obtain ⟨⟨⟨⟨⟨h1, h2⟩, h3⟩, h4⟩, h5⟩, h6⟩ := h
    by_cases c : j = 0
    · subst c
      rw [Nat.add_zero, e]
      exact ⟨h1, h2, h3, h4, h5⟩
    · have := ih (k + 1) _ _ _ _ h6 (by rw [anI, e]; rfl) (j - 1) (by omega)
      rw [show k + 1 + (j - 1) = k + j by omega] at this
      exact this
theorem an_in {k : Nat} (hk : k < 2000) : 1 ≤ (anI k).1 ∧ (anI k).1 ≤ 79 ∧ 1 ≤ (anI k).2.1 ∧ (anI k).2.1 ≤ 79 ∧ (anI k).2.2.1 ≤ 3 := by
  have := anC_in 2000 0 40 40 0 0 anC_all rfl k hk
  rw [Nat.zero_add] at this
  exact this
/-! ===== the ant: both ===== -/
theorem t_field {x y : Int} (h1 : -1000 ≤ x) (h2 : x ≤ 1000) (h3 : -1000 ≤ y) (h4 : y ≤ 1000) : f_X4_field (J x) (J y) = if -40 ≤ x ∧ x ≤ 40 ∧ -40 ≤ y ∧ y ≤ 40 then J (81 * (y + 40) + x + 40) else J (-1) := by
  unfold f_X4_field
  rw [(t_abs h1 h2).1, (t_abs h3 h4).1]
  by_cases c1 : 0 ≤ x
  · rw [if_pos c1]
    by_cases c2 : 0 ≤ y
    · rw [if_pos c2]
      by_cases d : x ≤ 40
      · by_cases d2 : y ≤ 40
        · simp (disch := omega) only [↓nm_s, ↓grd_s, ↓reduceIte, J_lit, J_nI, J_add, J_sub, J_mul, J_neg, Int.cast_ofNat_Int, J_lt_t, J_lt_f, J_le_t, J_le_f, J_eq_t, J_eq_f, within_t, within_f, isIn_t, isIn_f, inRow_t, inRow_f, isCell_t, isCell_f, inb_t, ix_Jn, ix_J, Int.reduceToNat, Int.toNat_natCast, mset_ne, mset_eq, mrow_ne, mrow_eq, upd_eq, upd_ne, bind_s, bnd2_s, not_true_eq_false, not_false_eq_true, Nat.reduceAdd]
          rw [if_pos (by omega)]
        · simp (disch := omega) only [↓nm_s, ↓grd_s, ↓reduceIte, J_lit, J_nI, J_add, J_sub, J_mul, J_neg, Int.cast_ofNat_Int, J_lt_t, J_lt_f, J_le_t, J_le_f, J_eq_t, J_eq_f, within_t, within_f, isIn_t, isIn_f, inRow_t, inRow_f, isCell_t, isCell_f, inb_t, ix_Jn, ix_J, Int.reduceToNat, Int.toNat_natCast, mset_ne, mset_eq, mrow_ne, mrow_eq, upd_eq, upd_ne, bind_s, bnd2_s, not_true_eq_false, not_false_eq_true, Nat.reduceAdd]
          rw [if_neg (by omega)]
      · simp (disch := omega) only [↓nm_s, ↓grd_s, ↓reduceIte, J_lit, J_nI, J_add, J_sub, J_mul, J_neg, Int.cast_ofNat_Int, J_lt_t, J_lt_f, J_le_t, J_le_f, J_eq_t, J_eq_f, within_t, within_f, isIn_t, isIn_f, inRow_t, inRow_f, isCell_t, isCell_f, inb_t, ix_Jn, ix_J, Int.reduceToNat, Int.toNat_natCast, mset_ne, mset_eq, mrow_ne, mrow_eq, upd_eq, upd_ne, bind_s, bnd2_s, not_true_eq_false, not_false_eq_true, Nat.reduceAdd]
        rw [if_neg (by omega)]
    · rw [if_neg c2]
      by_cases d : x ≤ 40
      · by_cases d2 : -40 ≤ y
        · simp (disch := omega) only [↓nm_s, ↓grd_s, ↓reduceIte, J_lit, J_nI, J_add, J_sub, J_mul, J_neg, Int.cast_ofNat_Int, J_lt_t, J_lt_f, J_le_t, J_le_f, J_eq_t, J_eq_f, within_t, within_f, isIn_t, isIn_f, inRow_t, inRow_f, isCell_t, isCell_f, inb_t, ix_Jn, ix_J, Int.reduceToNat, Int.toNat_natCast, mset_ne, mset_eq, mrow_ne, mrow_eq, upd_eq, upd_ne, bind_s, bnd2_s, not_true_eq_false, not_false_eq_true, Nat.reduceAdd]
          rw [if_pos (by omega)]
        · simp (disch := omega) only [↓nm_s, ↓grd_s, ↓reduceIte, J_lit, J_nI, J_add, J_sub, J_mul, J_neg, Int.cast_ofNat_Int, J_lt_t, J_lt_f, J_le_t, J_le_f, J_eq_t, J_eq_f, within_t, within_f, isIn_t, isIn_f, inRow_t, inRow_f, isCell_t, isCell_f, inb_t, ix_Jn, ix_J, Int.reduceToNat, Int.toNat_natCast, mset_ne, mset_eq, mrow_ne, mrow_eq, upd_eq, upd_ne, bind_s, bnd2_s, not_true_eq_false, not_false_eq_true, Nat.reduceAdd]
          rw [if_neg (by omega)]
      · simp (disch := omega) only [↓nm_s, ↓grd_s, ↓reduceIte, J_lit, J_nI, J_add, J_sub, J_mul, J_neg, Int.cast_ofNat_Int, J_lt_t, J_lt_f, J_le_t, J_le_f, J_eq_t, J_eq_f, within_t, within_f, isIn_t, isIn_f, inRow_t, inRow_f, isCell_t, isCell_f, inb_t, ix_Jn, ix_J, Int.reduceToNat, Int.toNat_natCast, mset_ne, mset_eq, mrow_ne, mrow_eq, upd_eq, upd_ne, bind_s, bnd2_s, not_true_eq_false, not_false_eq_true, Nat.reduceAdd]
        rw [if_neg (by omega)]
  · rw [if_neg c1]
    by_cases c2 : 0 ≤ y
    · rw [if_pos c2]
      by_cases d : -40 ≤ x
      · by_cases d2 : y ≤ 40
        · simp (disch := omega) only [↓nm_s, ↓grd_s, ↓reduceIte, J_lit, J_nI, J_add, J_sub, J_mul, J_neg, Int.cast_ofNat_Int, J_lt_t, J_lt_f, J_le_t, J_le_f, J_eq_t, J_eq_f, within_t, within_f, isIn_t, isIn_f, inRow_t, inRow_f, isCell_t, isCell_f, inb_t, ix_Jn, ix_J, Int.reduceToNat, Int.toNat_natCast, mset_ne, mset_eq, mrow_ne, mrow_eq, upd_eq, upd_ne, bind_s, bnd2_s, not_true_eq_false, not_false_eq_true, Nat.reduceAdd]
          rw [if_pos (by omega)]
        · simp (disch := omega) only [↓nm_s, ↓grd_s, ↓reduceIte, J_lit, J_nI, J_add, J_sub, J_mul, J_neg, Int.cast_ofNat_Int, J_lt_t, J_lt_f, J_le_t, J_le_f, J_eq_t, J_eq_f, within_t, within_f, isIn_t, isIn_f, inRow_t, inRow_f, isCell_t, isCell_f, inb_t, ix_Jn, ix_J, Int.reduceToNat, Int.toNat_natCast, mset_ne, mset_eq, mrow_ne, mrow_eq, upd_eq, upd_ne, bind_s, bnd2_s, not_true_eq_false, not_false_eq_true, Nat.reduceAdd]
          rw [if_neg (by omega)]
      · simp (disch := omega) only [↓nm_s, ↓grd_s, ↓reduceIte, J_lit, J_nI, J_add, J_sub, J_mul, J_neg, Int.cast_ofNat_Int, J_lt_t, J_lt_f, J_le_t, J_le_f, J_eq_t, J_eq_f, within_t, within_f, isIn_t, isIn_f, inRow_t, inRow_f, isCell_t, isCell_f, inb_t, ix_Jn, ix_J, Int.reduceToNat, Int.toNat_natCast, mset_ne, mset_eq, mrow_ne, mrow_eq, upd_eq, upd_ne, bind_s, bnd2_s, not_true_eq_false, not_false_eq_true, Nat.reduceAdd]
        rw [if_neg (by omega)]
    · rw [if_neg c2]
      by_cases d : -40 ≤ x
      · by_cases d2 : -40 ≤ y
        · simp (disch := omega) only [↓nm_s, ↓grd_s, ↓reduceIte, J_lit, J_nI, J_add, J_sub, J_mul, J_neg, Int.cast_ofNat_Int, J_lt_t, J_lt_f, J_le_t, J_le_f, J_eq_t, J_eq_f, within_t, within_f, isIn_t, isIn_f, inRow_t, inRow_f, isCell_t, isCell_f, inb_t, ix_Jn, ix_J, Int.reduceToNat, Int.toNat_natCast, mset_ne, mset_eq, mrow_ne, mrow_eq, upd_eq, upd_ne, bind_s, bnd2_s, not_true_eq_false, not_false_eq_true, Nat.reduceAdd]
          rw [if_pos (by omega)]
        · simp (disch := omega) only [↓nm_s, ↓grd_s, ↓reduceIte, J_lit, J_nI, J_add, J_sub, J_mul, J_neg, Int.cast_ofNat_Int, J_lt_t, J_lt_f, J_le_t, J_le_f, J_eq_t, J_eq_f, within_t, within_f, isIn_t, isIn_f, inRow_t, inRow_f, isCell_t, isCell_f, inb_t, ix_Jn, ix_J, Int.reduceToNat, Int.toNat_natCast, mset_ne, mset_eq, mrow_ne, mrow_eq, upd_eq, upd_ne, bind_s, bnd2_s, not_true_eq_false, not_false_eq_true, Nat.reduceAdd]
          rw [if_neg (by omega)]
      · simp (disch := omega) only [↓nm_s, ↓grd_s, ↓reduceIte, J_lit, J_nI, J_add, J_sub, J_mul, J_neg, Int.cast_ofNat_Int, J_lt_t, J_lt_f, J_le_t, J_le_f, J_eq_t, J_eq_f, within_t, within_f, isIn_t, isIn_f, inRow_t, inRow_f, isCell_t, isCell_f, inb_t, ix_Jn, ix_J, Int.reduceToNat, Int.toNat_natCast, mset_ne, mset_eq, mrow_ne, mrow_eq, upd_eq, upd_ne, bind_s, bnd2_s, not_true_eq_false, not_false_eq_true, Nat.reduceAdd]
        rw [if_neg (by omega)]
def bvI (m p : Nat) : Int := if m.testBit p then 1 else 0
def AnB (A B : zM) (m : Nat) : Prop := ∀ u v : Nat, u ≤ 80 → v ≤ 80 → A 96 (81 * v + u) = J (bvI m (81 * v + u)) ∧ B 276 (128 * ((v + 88) % 128) + (u + 88) % 128) = J (bvI m (81 * v + u))
theorem bvI_x (m p q : Nat) : bvI (m ^^^ 2 ^ p) q = if q = p then 1 - bvI m q else bvI m q := by
  unfold bvI
  rw [Nat.testBit_xor, Nat.testBit_two_pow]
  by_cases c : q = p
  · subst c
    rw [if_pos rfl]
    cases m.testBit q <;> simp
  · rw [if_neg c]
    have : decide (p = q) = false := by simp; exact fun h => c h.symm
    rw [this]
    cases m.testBit q <;> simp
theorem AnB_s {A B : zM} {m x y : Nat} (h : AnB A B m) (hx : x ≤ 80) (hy : y ≤ 80) {a b : Int32} (ha : a = J (1 - bvI m (81 * y + x))) (hb : b = J (1 - bvI m (81 * y + x))) : AnB (mset A 96 (81 * y + x) a) (mset B 276 (128 * ((y + 88) % 128) + (x + 88) % 128) b) (m ^^^ 2 ^ (81 * y + x)) := by
  intro u v hu hv
  obtain ⟨h1, h2⟩ := h u v hu hv
  rw [bvI_x]
  by_cases c : 81 * v + u = 81 * y + x
  · have e1 : u = x := by omega
    have e2 : v = y := by omega
    subst e1 e2
    rw [if_pos rfl]
    simp (disch := omega) only [mset_ne, mset_eq, mrow_ne, mrow_eq, upd_eq, upd_ne]
    exact ⟨ha, hb⟩
  · rw [if_neg c]
    simp (disch := omega) only [mset_ne, mset_eq, mrow_ne, mrow_eq, upd_eq, upd_ne]
    exact ⟨h1, h2⟩
theorem t_turn3 (f : Nat) (hf : f < 4) : f_X11_turned (J f) (J 0) = J ((anF f true : Nat) : Int) ∧ f_X11_turned (J f) (J 1) = J ((anF f false : Nat) : Int) := by
  have : f = 0 ∨ f = 1 ∨ f = 2 ∨ f = 3 := by omega
  rcases this with e | e | e | e <;> subst e <;> exact ⟨by decide +kernel, by decide +kernel⟩
theorem an_x (f : Nat) (hf : f < 4) : (anX f : Int) = dxI f + 1 ∧ (anY f : Int) = dyI f + 1 := by
  have : f = 0 ∨ f = 1 ∨ f = 2 ∨ f = 3 := by omega
  rcases this with e | e | e | e <;> subst e <;> exact ⟨by decide +kernel, by decide +kernel⟩
