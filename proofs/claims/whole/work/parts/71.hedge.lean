/-! ===== the hedge ===== -/
def ab (a b : Nat) : Nat := if a ≤ b then b - a else a - b
theorem ab_le {a b : Nat} (ha : a < 31) (hb : b < 31) : ab a b ≤ 30 := by unfold ab; split <;> omega
theorem t_absd {a b : Nat} (ha : a < 31) (hb : b < 31) : f_J9_abs_0f7a4 (J a - J b) = J (ab a b) ∧ f_X11_abs (J a - J b) = J (ab a b) := by
  have := t_abs (a := (a : Int) - b) (by omega) (by omega)
  rw [J_sub]
  have e : (if 0 ≤ (a : Int) - b then (a : Int) - b else -((a : Int) - b)) = (ab a b : Nat) := by
    unfold ab
    by_cases h : a ≤ b
    · by_cases h2 : a = b
      · subst h2
        rw [if_pos h, if_pos (by omega)]
        omega
      · rw [if_pos h, if_neg (by omega)]
        omega
    · rw [if_neg h, if_pos (by omega)]
      omega
  rw [e] at this
  exact this
/-- the least of w x + |a - x|, and of what was -/
def mn (w : Nat → Nat) (a : Nat) (i0 : Nat) : Nat → Nat
  | 0 => i0
  | k + 1 => if w k + ab a k < mn w a i0 k then w k + ab a k else mn w a i0 k
theorem mn_le (w : Nat → Nat) (a i0 : Nat) : ∀ k, mn w a i0 k ≤ i0 ∧ ∀ x, x < k → mn w a i0 k ≤ w x + ab a x := by
  intro k
  induction k with
  | zero => exact ⟨Nat.le_refl _, fun x h => by omega⟩
  | succ k ih =>
    obtain ⟨h1, h2⟩ := ih
    simp only [mn]
    split
    · refine ⟨by omega, fun x hx => ?_⟩
      by_cases e : x = k
      · subst e; exact Nat.le_refl _
      · have := h2 x (by omega); omega
    · refine ⟨h1, fun x hx => ?_⟩
      by_cases e : x = k
      · subst e; omega
      · exact h2 x (by omega)
theorem mn_at (w : Nat → Nat) (a i0 : Nat) : ∀ k, mn w a i0 k = i0 ∨ ∃ x, x < k ∧ mn w a i0 k = w x + ab a x := by
  intro k
  induction k with
  | zero => exact Or.inl rfl
  | succ k ih =>
    simp only [mn]
    split
    · exact Or.inr ⟨k, by omega, rfl⟩
    · rcases ih with h | ⟨x, hx, h⟩
      · exact Or.inl h
      · exact Or.inr ⟨x, by omega, h⟩
theorem p_hin {N : zM} {w : Nat → Nat} {to t0 : Nat} (hto : to < 31) (ht0 : t0 ≤ 9999) (hw : ∀ x, x < 31 → N 273 x = J (w x) ∧ w x ≤ 9999) (h0 : N 274 to = J t0) (a b c : Int32) :
    Wp (loopW (fun s => b_X11_hedge_116_33_66 a b c (J to) s.1 s.2) (J 0, N)) (fun N' => N' 274 to = J (mn w to t0 31) ∧ (∀ x, x ≠ to → N' 274 x = N 274 x) ∧ ∀ j, j ≠ 274 → N' j = N j) := by
  refine loop_up (fun k s => s.1 = J k ∧ s.2 274 to = J (mn w to t0 k) ∧ (∀ x, x ≠ to → s.2 274 x = N 274 x) ∧ ∀ j, j ≠ 274 → s.2 j = N j) 31 ⟨rfl, h0, fun _ _ => rfl, fun _ _ => rfl⟩ ?_ ?_
  · rintro k ⟨s1, A⟩ hk ⟨e1, e2, e3, e4⟩
    simp only at e1 e2 e3 e4
    subst e1
    obtain ⟨q1, q2⟩ := hw k hk
    have q3 : A 273 k = J (w k) := by rw [e4 273 (by decide)]; exact q1
    have q4 := (t_absd hto hk).2
    have q5 := ab_le hto hk
    have q6 := (mn_le w to t0 k).1
    unfold b_X11_hedge_116_33_66 j_X11_hedge_171_33_66_116
    by_cases c : w k + ab to k < mn w to t0 k
    · simp (disch := omega) only [↓nm_s, ↓grd_s, ↓reduceIte, J_lit, Int.cast_ofNat_Int, J_lt_t, J_lt_f, J_le_t, J_le_f, J_eq_t, J_eq_f, within_t, within_f, isIn_t, isIn_f, inRow_t, inRow_f, isCell_t, isCell_f, inb_t, ix_Jn, ix_J, Int.reduceToNat, Int.toNat_natCast, q3, q4, J_add, e2]
      refine wp_some ⟨rfl, ?_, ?_, ?_⟩
      · simp only [mn, c, if_true]
        simp (disch := omega) only [mset_ne, mset_eq, mrow_ne, mrow_eq, upd_eq, upd_ne]
        exact congrArg J (by omega)
      · intro x hx
        simp (disch := omega) only [mset_ne, mset_eq, mrow_ne, mrow_eq, upd_eq, upd_ne]
        exact e3 x hx
      · intro j hj
        simp (disch := omega) only [mset_ne, mset_eq, mrow_ne, mrow_eq, upd_eq, upd_ne]
        exact e4 j hj
    · simp (disch := omega) only [↓nm_s, ↓grd_s, ↓reduceIte, J_lit, Int.cast_ofNat_Int, J_lt_t, J_lt_f, J_le_t, J_le_f, J_eq_t, J_eq_f, within_t, within_f, isIn_t, isIn_f, inRow_t, inRow_f, isCell_t, isCell_f, inb_t, ix_Jn, ix_J, Int.reduceToNat, Int.toNat_natCast, q3, q4, J_add, e2]
      refine wp_some ⟨rfl, ?_, ?_, ?_⟩
      · simp only [mn, c, if_false]
        simp (disch := omega) only [mset_ne, mset_eq, mrow_ne, mrow_eq, upd_eq, upd_ne]
      · intro x hx
        simp (disch := omega) only [mset_ne, mset_eq, mrow_ne, mrow_eq, upd_eq, upd_ne]
        exact e3 x hx
      · intro j hj
        simp (disch := omega) only [mset_ne, mset_eq, mrow_ne, mrow_eq, upd_eq, upd_ne]
        exact e4 j hj
  · rintro ⟨s1, A⟩ ⟨e1, e2, e3, e4⟩
    simp only at e1 e2 e3 e4
    subst e1
    unfold b_X11_hedge_116_33_66
    simp (disch := omega) only [↓reduceIte, J_lit, Int.cast_ofNat_Int, J_lt_t, J_lt_f, J_le_t, J_le_f, J_eq_t, J_eq_f, within_t, within_f, isIn_t, isIn_f, inRow_t, inRow_f, isCell_t, isCell_f, inb_t]
    exact wp_some ⟨e2, e3, e4⟩
theorem mn_again (w : Nat → Nat) (a : Nat) : mn w a (mn w a 9999 31) 31 = mn w a 9999 31 := by
  have h := mn_le w a (mn w a 9999 31) 31
  have h' := mn_le w a 9999 31
  rcases mn_at w a (mn w a 9999 31) 31 with e | ⟨x, hx, e⟩
  · exact e
  · have := h'.2 x hx
    have := h.1
    omega
