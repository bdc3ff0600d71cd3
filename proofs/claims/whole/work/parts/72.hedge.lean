/-- the gaps, as numbers -/
def Gp (ρ : Nat → Int32) (n : Nat) (rw gt : Nat → Nat) : Prop := n ≤ 8 ∧ ρ 2408 = J n ∧ ∀ g, g < n → ρ (2409 + 2 * g) = J (rw g) ∧ rw g < 8 ∧ ρ (2410 + 2 * g) = J (gt g) ∧ gt g < 31
def Thn (N : zM) (w : Nat → Nat) (rw gt : Nat → Nat) (r k : Nat) : Prop := ∀ x, x < 31 → (N 274 x = J 9999 ∧ ∀ g, g < k → rw g = r → gt g ≠ x) ∨ (N 274 x = J (mn w x 9999 31) ∧ ∃ g, g < k ∧ rw g = r ∧ gt g = x)
theorem p_hgap {N : zM} {w : Nat → Nat} {n r : Nat} {rw gt : Nat → Nat} (hr : r < 8) (hG : Gp (N 258) n rw gt) (hw : ∀ x, x < 31 → N 273 x = J (w x) ∧ w x ≤ 9999) (h0 : ∀ x, x < 31 → N 274 x = J 9999) :
    Wp (loopW (fun s => b_X11_hedge_66_33 (J r) s.1 s.2.1 s.2.2) (J 0, J 0, N)) (fun q => ((q.1 = J 0 ∧ ∀ g, g < n → rw g ≠ r) ∨ (q.1 = J 1 ∧ ∃ g, g < n ∧ rw g = r)) ∧ Thn q.2 w rw gt r n ∧ ∀ j, j ≠ 274 → q.2 j = N j) := by
  obtain ⟨hn, g0, gs⟩ := hG
  refine loop_up (fun k s => s.2.1 = J k ∧ ((s.1 = J 0 ∧ ∀ g, g < k → rw g ≠ r) ∨ (s.1 = J 1 ∧ ∃ g, g < k ∧ rw g = r)) ∧ Thn s.2.2 w rw gt r k ∧ ∀ j, j ≠ 274 → s.2.2 j = N j) n ⟨rfl, Or.inl ⟨rfl, fun g h => by omega⟩, fun x hx => Or.inl ⟨h0 x hx, fun g h => by omega⟩, fun _ _ => rfl⟩ ?_ ?_
  · rintro k ⟨s1, s2, A⟩ hk ⟨e1, e2, e3, e4⟩
    simp only at e1 e2 e3 e4
    subst e1
    obtain ⟨q1, q2, q3, q4⟩ := gs k hk
    have i1 : (2409 + 2 * (k : Int)).toNat = 2409 + 2 * k := by omega
    have i2 : (2410 + 2 * (k : Int)).toNat = 2410 + 2 * k := by omega
    have eA : A 258 = N 258 := e4 258 (by decide)
    unfold b_X11_hedge_66_33 j_X11_hedge_178_33_66
    by_cases c : rw k = r
    · -- this gap is in the row
      have hwA : ∀ x, x < 31 → A 273 x = J (w x) ∧ w x ≤ 9999 := fun x hx => by rw [e4 273 (by decide)]; exact hw x hx
      have hin : Wp (loopW (fun s => b_X11_hedge_116_33_66 (J r) (J 1) (J k) (J (gt k)) s.1 s.2) (J 0, A)) (fun N' => N' 274 (gt k) = J (mn w (gt k) 9999 31) ∧ (∀ x, x ≠ gt k → N' 274 x = A 274 x) ∧ ∀ j, j ≠ 274 → N' j = A j) := by
        rcases e3 (gt k) q4 with ⟨h, _⟩ | ⟨h, _⟩
        · exact p_hin q4 (Nat.le_refl _) hwA h _ _ _
        · refine wp_mono (p_hin q4 (mn_le w (gt k) 9999 31).1 hwA h _ _ _) ?_
          rintro N' ⟨a, b⟩
          rw [mn_again] at a
          exact ⟨a, b⟩
      simp (disch := omega) only [↓nm_s, ↓grd_s, ↓reduceIte, J_lit, Int.cast_ofNat_Int, J_lt_t, J_lt_f, J_le_t, J_le_f, J_eq_t, J_eq_f, within_t, within_f, isIn_t, isIn_f, inRow_t, inRow_f, isCell_t, isCell_f, inb_t, ix_Jn, ix_J, Int.reduceToNat, Int.toNat_natCast, J_mul, J_add, eA, g0, i1, i2, q1, q3]
      refine wp_bind (wp_mono hin ?_)
      rintro B ⟨b1, b2, b3⟩
      refine wp_some ⟨rfl, Or.inr ⟨rfl, k, by omega, c⟩, ?_, fun j hj => (b3 j hj).trans (e4 j hj)⟩
      intro x hx
      by_cases ex : x = gt k
      · subst ex
        exact Or.inr ⟨b1, k, by omega, c, rfl⟩
      · rcases e3 x hx with ⟨h, h'⟩ | ⟨h, g, hg, h1, h2⟩
        · refine Or.inl ⟨(b2 x ex).trans h, fun g hg hr' => ?_⟩
          by_cases eg : g = k
          · subst eg; exact fun h => ex h.symm
          · exact h' g (by omega) hr'
        · exact Or.inr ⟨(b2 x ex).trans h, g, by omega, h1, h2⟩
    · simp (disch := omega) only [↓nm_s, ↓grd_s, ↓reduceIte, J_lit, Int.cast_ofNat_Int, J_lt_t, J_lt_f, J_le_t, J_le_f, J_eq_t, J_eq_f, within_t, within_f, isIn_t, isIn_f, inRow_t, inRow_f, isCell_t, isCell_f, inb_t, ix_Jn, ix_J, Int.reduceToNat, Int.toNat_natCast, J_mul, J_add, eA, g0, i1, i2, q1]
      refine wp_some ⟨rfl, ?_, ?_, e4⟩
      · rcases e2 with ⟨a, b⟩ | ⟨a, g, hg, h⟩
        · refine Or.inl ⟨a, fun g hg => ?_⟩
          by_cases eg : g = k
          · subst eg; exact c
          · exact b g (by omega)
        · exact Or.inr ⟨a, g, by omega, h⟩
      · intro x hx
        rcases e3 x hx with ⟨h, h'⟩ | ⟨h, g, hg, h1, h2⟩
        · refine Or.inl ⟨h, fun g hg hr' => ?_⟩
          by_cases eg : g = k
          · subst eg; exact absurd hr' c
          · exact h' g (by omega) hr'
        · exact Or.inr ⟨h, g, by omega, h1, h2⟩
  · rintro ⟨s1, s2, A⟩ ⟨e1, e2, e3, e4⟩
    simp only at e1 e2 e3 e4
    subst e1
    have eA : A 258 = N 258 := e4 258 (by decide)
    unfold b_X11_hedge_66_33
    simp (disch := omega) only [↓reduceIte, J_lit, Int.cast_ofNat_Int, J_lt_t, J_lt_f, J_le_t, J_le_f, J_eq_t, J_eq_f, within_t, within_f, isIn_t, isIn_f, inRow_t, inRow_f, isCell_t, isCell_f, inb_t, ix_Jn, ix_J, Int.reduceToNat, Int.toNat_natCast, eA, g0]
    exact wp_some ⟨e2, e3, e4⟩
