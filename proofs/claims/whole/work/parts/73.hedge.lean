/-- the class's least over the gaps of a row -/
def mcl (bs : Nat → Nat) (rw gt : Nat → Nat) (b a : Nat) : Nat → Nat
  | 0 => 1000000
  | k + 1 => if rw k = b ∧ bs k + ab (gt k) a < mcl bs rw gt b a k then bs k + ab (gt k) a else mcl bs rw gt b a k
theorem mcl_le (bs rw gt : Nat → Nat) (b a : Nat) : ∀ k, mcl bs rw gt b a k ≤ 1000000 ∧ ∀ g, g < k → rw g = b → mcl bs rw gt b a k ≤ bs g + ab (gt g) a := by
  intro k
  induction k with
  | zero => exact ⟨Nat.le_refl _, fun x h => by omega⟩
  | succ k ih =>
    obtain ⟨h1, h2⟩ := ih
    simp only [mcl]
    split
    · rename_i h
      refine ⟨by omega, fun g hg hr => ?_⟩
      by_cases e : g = k
      · subst e; exact Nat.le_refl _
      · have := h2 g (by omega) hr; omega
    · rename_i h
      refine ⟨h1, fun g hg hr => ?_⟩
      by_cases e : g = k
      · subst e
        have : ¬ bs g + ab (gt g) a < mcl bs rw gt b a g := fun c => h ⟨hr, c⟩
        omega
      · exact h2 g (by omega) hr
theorem mcl_at (bs rw gt : Nat → Nat) (b a : Nat) : ∀ k, mcl bs rw gt b a k = 1000000 ∨ ∃ g, g < k ∧ rw g = b ∧ mcl bs rw gt b a k = bs g + ab (gt g) a := by
  intro k
  induction k with
  | zero => exact Or.inl rfl
  | succ k ih =>
    simp only [mcl]
    split
    · rename_i h
      exact Or.inr ⟨k, by omega, h.1, rfl⟩
    · rcases ih with h | ⟨x, hx, h⟩
      · exact Or.inl h
      · exact Or.inr ⟨x, by omega, h⟩
theorem t_fewest {M : zM} {n b a : Nat} {rw gt bs : Nat → Nat} (hn : n ≤ 8) (ha : a < 31) (hb : b < 8) (g0 : M 70 6 = J n) (gs : ∀ g, g < n → M 74 g = J (rw g) ∧ rw g < 8 ∧ M 75 g = J (gt g) ∧ gt g < 31) (hbs : ∀ g, g < n → rw g = b → M 76 g = J (bs g) ∧ bs g ≤ 1000) : f_X6_fewestTo 70 (J a) (J b) M = some (J (mcl bs rw gt b a n)) := by
  have key : Wp (loopW (fun s => b_X6_fewestTo_13 70 (J a) (J b) s.1 s.2 M) (J 1000000, J 0)) (fun v => v = J (mcl bs rw gt b a n)) := by
    refine loop_up (fun k s => s = (J (mcl bs rw gt b a k), J k)) n rfl ?_ ?_
    · rintro k s hk rfl
      obtain ⟨q1, q2, q3, q4⟩ := gs k hk
      have hm := (mcl_le bs rw gt b a k).1
      have ha' := (t_absd q4 ha).1
      have hab := ab_le q4 ha
      unfold b_X6_fewestTo_13 j_X6_fewestTo_58_13 f_J9_min_7cf53
      by_cases c : rw k = b
      · obtain ⟨r1, r2⟩ := hbs k hk c
        by_cases c2 : bs k + ab (gt k) a < mcl bs rw gt b a k
        · simp (disch := omega) only [↓nm_s, ↓grd_s, ↓reduceIte, J_lit, Int.cast_ofNat_Int, J_lt_t, J_lt_f, J_le_t, J_le_f, J_eq_t, J_eq_f, within_t, within_f, isIn_t, isIn_f, inRow_t, inRow_f, isCell_t, isCell_f, inb_t, ix_Jn, ix_J, Int.reduceToNat, Int.toNat_natCast, Nat.reduceAdd, g0, q1, q3, r1, ha', J_add]
          refine wp_some ?_
          refine pr2 ?_ rfl
          simp only [mcl, c, c2, and_self, if_true]
          exact congrArg J (by omega)
        · simp (disch := omega) only [↓nm_s, ↓grd_s, ↓reduceIte, J_lit, Int.cast_ofNat_Int, J_lt_t, J_lt_f, J_le_t, J_le_f, J_eq_t, J_eq_f, within_t, within_f, isIn_t, isIn_f, inRow_t, inRow_f, isCell_t, isCell_f, inb_t, ix_Jn, ix_J, Int.reduceToNat, Int.toNat_natCast, Nat.reduceAdd, g0, q1, q3, r1, ha', J_add]
          refine wp_some ?_
          refine pr2 ?_ rfl
          simp only [mcl, c, c2, and_false, if_false]
      · simp (disch := omega) only [↓nm_s, ↓grd_s, ↓reduceIte, J_lit, Int.cast_ofNat_Int, J_lt_t, J_lt_f, J_le_t, J_le_f, J_eq_t, J_eq_f, within_t, within_f, isIn_t, isIn_f, inRow_t, inRow_f, isCell_t, isCell_f, inb_t, ix_Jn, ix_J, Int.reduceToNat, Int.toNat_natCast, Nat.reduceAdd, g0, q1, J_add]
        refine wp_some ?_
        refine pr2 ?_ rfl
        simp only [mcl, c, false_and, if_false]
    · rintro s rfl
      unfold b_X6_fewestTo_13
      simp (disch := omega) only [↓reduceIte, J_lt_t, J_lt_f, J_le_t, J_le_f, J_eq_t, J_eq_f, within_t, within_f, isIn_t, isIn_f, inRow_t, inRow_f, isCell_t, isCell_f, inb_t, g0]
      exact wp_some rfl
  obtain ⟨v, e, rfl⟩ := key
  unfold f_X6_fewestTo j_X6_fewestTo_64
  rw [show (-1 : Int32) = J (-1) from rfl, if_neg (by rw [J_eq (by omega) (by omega) (by omega) (by omega)]; omega), show ((1000000 : Int32), (0 : Int32)) = (J 1000000, J 0) from rfl, e]
  rfl
/-- the same least, by places or by gaps -/
theorem mn_mcl {w bs rw gt F : Nat → Nat} {r n a : Nat} (ha : a < 31) (hg : ∀ g, g < n → gt g < 31) (hb : ∀ g, g < n → rw g = r → bs g = F (gt g) ∧ F (gt g) ≤ 9000) (hne : ∃ g, g < n ∧ rw g = r) (hw : ∀ x, x < 31 → (w x = 9999 ∧ ∀ g, g < n → rw g = r → gt g ≠ x) ∨ (w x = F x ∧ ∃ g, g < n ∧ rw g = r ∧ gt g = x)) : mn w a 9999 31 = mcl bs rw gt r a n := by
  have sym : ∀ x y, ab x y = ab y x := by
    intro x y
    unfold ab
    split <;> split <;> omega
  obtain ⟨g0, hg0, hr0⟩ := hne
  have l1 := mn_le w a 9999 31
  have l2 := mcl_le bs rw gt r a n
  have b0 := hb g0 hg0 hr0
  have u1 : ∀ g, g < n → rw g = r → mn w a 9999 31 ≤ bs g + ab (gt g) a := by
    intro g hg' hr'
    have h := l1.2 (gt g) (hg g hg')
    rcases hw (gt g) (hg g hg') with ⟨_, h2⟩ | ⟨h2, _⟩
    · exact absurd rfl (h2 g hg' hr')
    · rw [h2, sym] at h
      rw [(hb g hg' hr').1]
      exact h
  have small : mcl bs rw gt r a n ≤ 9998 := by
    have := l2.2 g0 hg0 hr0
    have := ab_le (hg g0 hg0) ha
    omega
  apply Nat.le_antisymm
  · rcases mcl_at bs rw gt r a n with e | ⟨g, hg', hr', e⟩
    · omega
    · rw [e]
      exact u1 g hg' hr'
  · rcases mn_at w a 9999 31 with e | ⟨x, hx, e⟩
    · omega
    · rw [e]
      rcases hw x hx with ⟨h, _⟩ | ⟨h, g, hg', hr', ex⟩
      · omega
      · subst ex
        rw [h, ← (hb g hg' hr').1, sym]
        exact l2.2 g hg' hr'
