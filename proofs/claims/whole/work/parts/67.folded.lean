theorem enc3_d {X Y f : Nat} (hf : f < 4) (hY : Y < 131072) : enc3 X Y f % 4 = f ∧ enc3 X Y f / 4 / 131072 = X ∧ enc3 X Y f / 4 % 131072 = Y := by
  unfold enc3
  have e : ((X * 131072 + Y) * 4 + f) / 4 = X * 131072 + Y := by omega
  rw [e]
  refine ⟨by omega, by omega, by omega⟩
theorem t_turn2 : ∀ f : Nat, f < 4 → ∀ t : Nat, t < 2 → f_X11_turned (J f) (J t) = J (((f + (if t = 1 then 1 else 3)) % 4 : Nat) : Int) := by decide +kernel
theorem fx'_J : ∀ f : Nat, f < 4 → ∀ X : Nat, 1 ≤ X → ((fx' f X : Nat) : Int) = (X : Int) + dxI f := by
  intro f hf X hX
  unfold fx' dxI
  rcases (show f = 0 ∨ f = 1 ∨ f = 2 ∨ f = 3 by omega) with e | e | e | e <;> subst e <;> simp <;> omega
theorem fy'_J : ∀ f : Nat, f < 4 → ∀ Y : Nat, 1 ≤ Y → ((fy' f Y : Nat) : Int) = (Y : Int) + dyI f := by
  intro f hf Y hY
  unfold fy' dyI
  rcases (show f = 0 ∨ f = 1 ∨ f = 2 ∨ f = 3 by omega) with e | e | e | e <;> subst e <;> simp <;> omega
theorem p_foldedR {n : Nat} (hn1 : 1 ≤ n) (hn : n ≤ 15) (w : Int32) : loopW (fun s => b_X11_folded_61 (J n) w s.1 s.2.1 s.2.2.1 s.2.2.2) (J 0, J 1, J 0, J 1) = some (J (ee n).1, J (ee n).2) := by
  have hp : 2 ^ n ≤ 2 ^ 15 := Nat.pow_le_pow_right (by decide) hn
  have h1 : 1 ≤ 2 ^ n := Nat.two_pow_pos n
  have hs : J 1 <<< (J n &&& J 31) = J ((2 ^ n : Nat) : Int) := shl1 n (by omega)
  have key : Wp (loopW (fun s => b_X11_folded_61 (J n) w s.1 s.2.1 s.2.2.1 s.2.2.2) (J 0, J 1, J 0, J 1)) (fun r => r = (J (ee n).1, J (ee n).2)) := by
    refine loop_up (fun j s => ∃ X Y f : Nat, it3 j = enc3 X Y f ∧ f < 4 ∧ X ≤ 65536 + j ∧ 65536 ≤ X + j ∧ Y ≤ 65537 + j ∧ 65537 ≤ Y + j ∧ s = (J ((X : Int) - 65536), J ((Y : Int) - 65536), J f, J (j + 1 : Nat))) (2 ^ n - 1) ⟨65536, 65537, 0, rfl, by omega, by omega, by omega, by omega, by omega, rfl⟩ ?_ ?_
    · rintro j s hj ⟨X, Y, f, e1, e2, e3, e4, e5, e6, rfl⟩
      obtain ⟨d1, d2, d3⟩ := enc3_d (X := X) (Y := Y) e2 (by omega)
      have hfo := (ft_both (i := j + 1) (by omega) (by omega)).2
      have ht := ft_01 16 (j + 1)
      have ht2 : ft (j + 1) < 2 := by unfold ft; omega
      unfold b_X11_folded_61
      obtain ⟨g, hg⟩ : ∃ g : Nat, g = (f + (if ft (j + 1) = 1 then 1 else 3)) % 4 := ⟨_, rfl⟩
      have hg4 : g < 4 := by omega
      have htu := t_turn2 f e2 (ft (j + 1)) ht2
      rw [← hg] at htu
      simp (disch := omega) only [↓nm_s, ↓reduceIte, J_lt_t, J_lt_f, J_le_t, J_le_f, J_eq_t, J_eq_f, within_t, within_f, isIn_t, isIn_f, inRow_t, inRow_f, isCell_t, isCell_f, inb_t, J_lit, Int.cast_ofNat_Int, hs, hfo, bind_s, htu, t_gx, t_gy, J_add]
      have bx := dx_b g hg4
      have by' := dy_b g hg4
      have q1 := fx'_J g hg4 X (by omega)
      have q2 := fy'_J g hg4 Y (by omega)
      refine wp_some ⟨fx' g X, fy' g Y, g, ?_, hg4, by omega, by omega, by omega, by omega, ?_⟩
      · rw [it3, stp3, e1, d1, d2, d3, ← hg]
      · rw [q1, q2]
        refine pr2 ?_ (pr2 ?_ (pr2 rfl ?_))
        · exact congrArg J (by omega)
        · exact congrArg J (by omega)
        · exact congrArg J (by omega)
    · rintro s ⟨X, Y, f, e1, e2, e3, e4, e5, e6, rfl⟩
      unfold b_X11_folded_61
      simp (disch := omega) only [↓reduceIte, J_lt_t, J_lt_f, J_le_t, J_le_f, J_eq_t, J_eq_f, within_t, within_f, isIn_t, isIn_f, inRow_t, inRow_f, isCell_t, isCell_f, inb_t, J_lit, Int.cast_ofNat_Int, hs]
      refine wp_some ?_
      obtain ⟨d1, d2, d3⟩ := enc3_d (X := X) (Y := Y) e2 (by omega)
      obtain ⟨q1, q2⟩ := ee_S3 n (by omega)
      rw [S3_it, e1, d2] at q1
      rw [S3_it, e1, d3] at q2
      refine pr2 ?_ ?_
      · exact congrArg J (by omega)
      · exact congrArg J (by omega)
  obtain ⟨r, e, rfl⟩ := key
  exact e
theorem p_foldedC {n : Nat} (hn : n ≤ 15) (w : Int32) : f_X4_foldEnd (J n) w = some (if w = 0 then J (ee n).2 else J (ee n).1) := by
  have key : Wp (loopW (fun s => b_X4_foldEnd_8 (J n) w s.1 s.2.1 s.2.2) (J 0, J 1, J 0)) (fun r => r = (J (ee n).1, J (ee n).2)) := by
    refine loop_up (fun j s => s = (J (ee j).1, J (ee j).2, J j)) n rfl ?_ ?_
    · rintro j s hj rfl
      unfold b_X4_foldEnd_8
      simp (disch := omega) only [↓nm_s, ↓grd_s, ↓reduceIte, J_lit, J_nI, J_add, J_sub, J_mul, J_neg, Int.cast_ofNat_Int, J_lt_t, J_lt_f, J_le_t, J_le_f, J_eq_t, J_eq_f, within_t, within_f, isIn_t, isIn_f, inRow_t, inRow_f, isCell_t, isCell_f, inb_t, ix_Jn, ix_J, Int.reduceToNat, Int.toNat_natCast, mset_ne, mset_eq, mrow_ne, mrow_eq, upd_eq, upd_ne, bind_s, bnd2_s, not_true_eq_false, not_false_eq_true, Nat.reduceAdd]
      exact wp_some rfl
    · rintro s rfl
      unfold b_X4_foldEnd_8
      simp (disch := omega) only [↓nm_s, ↓grd_s, ↓reduceIte, J_lit, J_nI, J_add, J_sub, J_mul, J_neg, Int.cast_ofNat_Int, J_lt_t, J_lt_f, J_le_t, J_le_f, J_eq_t, J_eq_f, within_t, within_f, isIn_t, isIn_f, inRow_t, inRow_f, isCell_t, isCell_f, inb_t, ix_Jn, ix_J, Int.reduceToNat, Int.toNat_natCast, mset_ne, mset_eq, mrow_ne, mrow_eq, upd_eq, upd_ne, bind_s, bnd2_s, not_true_eq_false, not_false_eq_true, Nat.reduceAdd]
      exact wp_some rfl
  obtain ⟨r, e, rfl⟩ := key
  unfold f_X4_foldEnd j_X4_foldEnd_35
  rw [show ((0 : Int32), (1 : Int32), (0 : Int32)) = (J 0, J 1, J 0) from rfl, e, bind_s]
  by_cases c : w = 0
  · simp only [c, if_true]
  · simp only [c, if_false]
theorem c_folded (p q r : Int32) : Cl0 (f_X10_folded p q r) (fun _ => f_X11_folded p q r) := by
  intro M N hI
  obtain ⟨z, rfl, l1, l2⟩ := J_ex p
  obtain ⟨i, rfl, l3, l4⟩ := J_ex q
  obtain ⟨y, rfl, l5, l6⟩ := J_ex r
  unfold f_X10_folded f_X11_folded j_X10_folded_40 j_X10_folded_70 j_X11_folded_40
  by_cases c1 : 1 ≤ z ∧ z ≤ 15
  · obtain ⟨n, rfl⟩ : ∃ n : Nat, z = n := ⟨z.toNat, by omega⟩
    have hp : 2 ^ n ≤ 2 ^ 15 := Nat.pow_le_pow_right (by decide) (by omega)
    have h1 : 1 ≤ 2 ^ n := Nat.two_pow_pos n
    have hs : J 1 <<< (J n &&& J 31) = J ((2 ^ n : Nat) : Int) := shl1 n (by omega)
    by_cases c2 : 0 ≤ y ∧ y ≤ 2
    · rcases (show y = 0 ∨ y = 1 ∨ y = 2 by omega) with e | e | e <;> subst e
      · by_cases c3 : 1 ≤ i ∧ i < (2 ^ n : Nat)
        · obtain ⟨k, rfl⟩ : ∃ k : Nat, i = k := ⟨i.toNat, by omega⟩
          obtain ⟨q1, q2⟩ := ft_both (i := k) (by omega) (by omega)
          simp (disch := omega) only [↓nm_s, ↓reduceIte, J_lt_t, J_lt_f, J_le_t, J_le_f, J_eq_t, J_eq_f, within_t, within_f, isIn_t, isIn_f, inRow_t, inRow_f, isCell_t, isCell_f, inb_t, J_lit, Int.cast_ofNat_Int, J_sub, hs, bind_s, q1, q2]
          exact ⟨_, rfl, rfl⟩
        · by_cases c4 : i < 1
          · simp (disch := omega) only [↓nm_s, ↓reduceIte, J_lt_t, J_lt_f, J_le_t, J_le_f, J_eq_t, J_eq_f, within_t, within_f, isIn_t, isIn_f, inRow_t, inRow_f, isCell_t, isCell_f, inb_t, J_lit, Int.cast_ofNat_Int, J_sub, hs, bind_s]
            exact ⟨_, rfl, rfl⟩
          · simp (disch := omega) only [↓nm_s, ↓reduceIte, J_lt_t, J_lt_f, J_le_t, J_le_f, J_eq_t, J_eq_f, within_t, within_f, isIn_t, isIn_f, inRow_t, inRow_f, isCell_t, isCell_f, inb_t, J_lit, Int.cast_ofNat_Int, J_sub, hs, bind_s]
            exact ⟨_, rfl, rfl⟩
      · have q1 := p_foldedR (n := n) (by omega) (by omega) (J 1)
        have q2 := p_foldedC (n := n) (by omega) (J 1)
        rw [if_neg (by decide)] at q2
        unfold j_X11_folded_107
        simp (disch := omega) only [↓nm_s, ↓reduceIte, J_lt_t, J_lt_f, J_le_t, J_le_f, J_eq_t, J_eq_f, within_t, within_f, isIn_t, isIn_f, inRow_t, inRow_f, isCell_t, isCell_f, inb_t, J_lit, Int.cast_ofNat_Int, bind_s, q1, q2]
        exact ⟨_, rfl, rfl⟩
      · have q1 := p_foldedR (n := n) (by omega) (by omega) (J 2)
        have q2 := p_foldedC (n := n) (by omega) (J 0)
        rw [if_pos (show J 0 = 0 from rfl)] at q2
        unfold j_X11_folded_107
        simp (disch := omega) only [↓nm_s, ↓reduceIte, J_lt_t, J_lt_f, J_le_t, J_le_f, J_eq_t, J_eq_f, within_t, within_f, isIn_t, isIn_f, inRow_t, inRow_f, isCell_t, isCell_f, inb_t, J_lit, Int.cast_ofNat_Int, bind_s, q1, q2]
        exact ⟨_, rfl, rfl⟩
    · by_cases c3 : y < 0
      · simp (disch := omega) only [↓nm_s, ↓reduceIte, J_lt_t, J_lt_f, J_le_t, J_le_f, J_eq_t, J_eq_f, within_t, within_f, isIn_t, isIn_f, inRow_t, inRow_f, isCell_t, isCell_f, inb_t, J_lit, Int.cast_ofNat_Int, bind_s]
        exact ⟨_, rfl, rfl⟩
      · simp (disch := omega) only [↓nm_s, ↓reduceIte, J_lt_t, J_lt_f, J_le_t, J_le_f, J_eq_t, J_eq_f, within_t, within_f, isIn_t, isIn_f, inRow_t, inRow_f, isCell_t, isCell_f, inb_t, J_lit, Int.cast_ofNat_Int, bind_s]
        exact ⟨_, rfl, rfl⟩
  · by_cases c3 : z < 1
    · simp (disch := omega) only [↓nm_s, ↓reduceIte, J_lt_t, J_lt_f, J_le_t, J_le_f, J_eq_t, J_eq_f, within_t, within_f, isIn_t, isIn_f, inRow_t, inRow_f, isCell_t, isCell_f, inb_t, J_lit, Int.cast_ofNat_Int, bind_s]
      exact ⟨_, rfl, rfl⟩
    · simp (disch := omega) only [↓nm_s, ↓reduceIte, J_lt_t, J_lt_f, J_le_t, J_le_f, J_eq_t, J_eq_f, within_t, within_f, isIn_t, isIn_f, inRow_t, inRow_f, isCell_t, isCell_f, inb_t, J_lit, Int.cast_ofNat_Int, bind_s]
      exact ⟨_, rfl, rfl⟩
