/-! ===== squares are copied ===== -/
theorem p_wcopy {a b : Nat} (hab : a ≠ b) {M : zM} (hB : M b 1 = 0 ∨ M b 1 = 1) : Wp (f_X9_copyFrom a b M) (fun M' => (∀ j, j < 13 → M' a j = M b j) ∧ ∀ k, k ≠ a → M' k = M k) := by
  unfold f_X9_copyFrom
  simp (disch := omega) only [nm_eq, mset_ne, mset_eq, mrow_ne, mrow_eq, upd_eq, upd_ne]
  refine wp_grd hB (wp_some ⟨?_, fun k hk => by simp (disch := omega) only [mset_ne, mrow_ne]⟩)
  intro j hj
  rcases (show j = 0 ∨ j = 1 ∨ j = 2 ∨ j = 3 ∨ j = 4 ∨ j = 5 ∨ j = 6 ∨ j = 7 ∨ j = 8 ∨ j = 9 ∨ j = 10 ∨ j = 11 ∨ j = 12 by omega) with e | e | e | e | e | e | e | e | e | e | e | e | e <;> subst e <;> simp (disch := omega) only [mset_ne, mset_eq, mrow_ne, mrow_eq, upd_eq, upd_ne]
theorem p_sqcopy {a b n : Nat} (hab : a + 19 ≤ b ∨ b + 19 ≤ a) {M : zM} (hn : n ≤ 16) (h2 : M b 2 = J n) (hB : ∀ w, w < n → M (b + 3 + w) 1 = 0 ∨ M (b + 3 + w) 1 = 1) : Wp (f_X7_copyFrom a b M) (fun M' => (∀ i, 2 ≤ i → i < 7 → M' a i = M b i) ∧ (∀ i, i < 144 → M' (a + 2) i = M (b + 2) i) ∧ (∀ w, w < n → ∀ j, j < 13 → M' (a + 3 + w) j = M (b + 3 + w) j) ∧ ∀ k, k < a ∨ a + 19 ≤ k → M' k = M k) := by
  unfold f_X7_copyFrom
  simp (disch := omega) only [nm_eq, J_lit, J_nI, J_add, J_sub, J_mul, J_neg, Int.cast_ofNat_Int, ix_Jn, ix_J, Int.reduceToNat, Int.toNat_natCast]
  refine wp_bind ?_
  refine wp_mono (P := fun M' => (∀ i, i < 144 → M' (a + 2) i = M (b + 2) i) ∧ (∀ w, w < n → ∀ j, j < 13 → M' (a + 3 + w) j = M (b + 3 + w) j) ∧ ∀ k, k < a ∨ a + 19 ≤ k → M' k = M k) ?_ ?_
  · refine loop_up (fun k s => s.1 = J k ∧ (∀ i, i < 144 → s.2 (a + 2) i = M (b + 2) i) ∧ (∀ w, w < k → ∀ j, j < 13 → s.2 (a + 3 + w) j = M (b + 3 + w) j) ∧ ∀ k, k < a ∨ a + 19 ≤ k → s.2 k = M k) n ?_ ?_ ?_
    · refine ⟨rfl, ?_, fun w hw => by omega, fun k hk => by simp (disch := omega) only [mset_ne, mrow_ne]⟩
      intro i hi
      simp (disch := omega) only [mrow_eq, pk_cpy_in, Nat.zero_add, Nat.sub_zero]
    · rintro k ⟨s1, s2⟩ hk ⟨e1, f1, f2, f3⟩
      simp only at e1 f1 f2 f3
      subst e1
      unfold b_X7_copyFrom_18
      have eb : s2 b = M b := f3 b (by omega)
      simp (disch := omega) only [J_lit, J_nI, J_add, J_sub, J_mul, J_neg, Int.cast_ofNat_Int, ix_Jn, ix_J, Int.reduceToNat, Int.toNat_natCast, eb, h2, J_lt, J_le, J_eq, within0, isIn0, inRow0, isCell0, if_true, if_false, if_pos, if_neg, grd_J]
      refine wp_bind (wp_mono (p_wcopy (a := a + 3 + k) (b := b + 3 + k) (by omega) (by rw [f3 (b + 3 + k) (by omega)]; exact hB k hk)) ?_)
      rintro M' ⟨g1, g2⟩
      refine wp_some ⟨rfl, ?_, ?_, ?_⟩
      · intro i hi
        show M' (a + 2) i = _
        rw [g2 (a + 2) (by omega)]
        exact f1 i hi
      · intro w hw j hj
        show M' (a + 3 + w) j = _
        by_cases e : w = k
        · subst e
          rw [g1 j hj, f3 (b + 3 + w) (by omega)]
        · rw [g2 (a + 3 + w) (by omega)]
          exact f2 w (by omega) j hj
      · intro k' hk'
        show M' k' = _
        rw [g2 k' (by omega)]
        exact f3 k' hk'
    · rintro ⟨s1, s2⟩ ⟨e1, f1, f2, f3⟩
      simp only at e1 f1 f2 f3
      subst e1
      unfold b_X7_copyFrom_18
      have eb : s2 b = M b := f3 b (by omega)
      simp (disch := omega) only [eb, h2, J_lt, J_le, J_eq, within0, isIn0, inRow0, isCell0, if_true, if_false, if_pos, if_neg]
      exact wp_some ⟨f1, f2, f3⟩
  · rintro M1 ⟨f1, f2, f3⟩
    unfold j_X7_copyFrom_47
    have eb : M1 b = M b := f3 b (by omega)
    simp (disch := omega) only [nm_eq, mset_ne, mset_eq, mrow_ne, mrow_eq, upd_eq, upd_ne, eb]
    refine wp_some ⟨?_, ?_, ?_, ?_⟩
    · intro i hi1 hi2
      rcases (show i = 2 ∨ i = 3 ∨ i = 4 ∨ i = 5 ∨ i = 6 by omega) with e | e | e | e | e <;> subst e <;> simp (disch := omega) only [mset_ne, mset_eq, mrow_ne, mrow_eq, upd_eq, upd_ne]
    · intro i hi
      simp (disch := omega) only [mset_ne, mset_eq, mrow_ne, mrow_eq, upd_eq, upd_ne]
      exact f1 i hi
    · intro w hw j hj
      simp (disch := omega) only [mset_ne, mset_eq, mrow_ne, mrow_eq, upd_eq, upd_ne]
      exact f2 w hw j hj
    · intro k hk
      simp (disch := omega) only [mset_ne, mset_eq, mrow_ne, mrow_eq, upd_eq, upd_ne]
      exact f3 k hk
theorem Sq_inB {M : zM} {a : Nat} {ρ : Nat → Int32} {n m k : Nat} (h : Sq M a ρ n m k) : ∀ w, w < n → M (a + 3 + w) 1 = 0 ∨ M (a + 3 + w) 1 = 1 := fun w hw => (h.2.2.2.2.1 w hw).2.2.1
/-- a copy stands in the same relation -/
theorem p_sqcp {a b : Nat} (hab : a + 19 ≤ b ∨ b + 19 ≤ a) {M : zM} {ρ : Nat → Int32} {n m k : Nat} (h : Sq M b ρ n m k) : Wp (f_X7_copyFrom a b M) (fun M' => (∀ σ n' m' k', Sq M b σ n' m' k' → Sq M' a σ n' m' k') ∧ ∀ j, j < a ∨ a + 19 ≤ j → M' j = M j) := by
  refine wp_mono (p_sqcopy hab h.1.1 h.2.1.1 (Sq_inB h)) ?_
  rintro M' ⟨g1, g2, g3, g4⟩
  refine ⟨?_, g4⟩
  rintro σ n' m' k' ⟨b1, ⟨c1, c2, c3, c4, c5⟩, b3, b4, b5, b6, b7⟩
  have hnn : n' = n := by
    have := h.2.1.1
    rw [c1] at this
    have := (J_eq (by omega) (by omega) (by omega) (by have := h.1.1; omega)).mp this
    omega
  subst hnn
  refine ⟨b1, ⟨by rw [g1 2 (by omega) (by omega)]; exact c1, by rw [g1 3 (by omega) (by omega)]; exact c2, by rw [g1 6 (by omega) (by omega)]; exact c3, by rw [g1 4 (by omega) (by omega)]; exact c4, by rw [g1 5 (by omega) (by omega)]; exact c5⟩, b3, ?_, ?_, b6, ?_⟩
  · intro i hi
    rw [g2 i hi]
    exact b4 i hi
  · intro w hw
    exact WkR_r (fun j hj => g3 w hw j hj) (b5 w hw)
  · intro v w hv hw hne i1 i2
    rw [g3 v hv 1 (by omega)] at i1
    rw [g3 w hw 1 (by omega)] at i2
    have := b7 v w hv hw hne i1 i2
    unfold atR at this ⊢
    rw [g3 v hv 2 (by omega), g3 v hv 3 (by omega), g3 w hw 2 (by omega), g3 w hw 3 (by omega)]
    exact this
/-! ===== keep ===== -/
theorem p_keep {M : zM} {ρ : Nat → Int32} {n m k u o u1 o1 : Nat} (h : Sq M 1 ρ n m k) (hu : u ≤ 6) (ho : o < 6) (e3 : M 0 3 = J o) (e4 : M 0 4 = J u) (hu1 : u1 = if u = 6 then 5 else u) (ho1 : o1 = if u = 6 then (o + 1) % 6 else o) :
    Wp (f_X10_keep M) (fun M1 => M1 0 3 = J o1 ∧ M1 0 4 = J (u1 + 1 : Nat) ∧ (∀ i, i ≠ 3 → i ≠ 4 → M1 0 i = M 0 i) ∧ Sq M1 (143 + 19 * ((o1 + u1) % 6)) ρ n m k ∧ ∀ j, 1 ≤ j → (j < 143 + 19 * ((o1 + u1) % 6) ∨ 143 + 19 * ((o1 + u1) % 6) + 19 ≤ j) → M1 j = M j) := by
  have hmid : ∀ A : zM, A 0 3 = J o1 → A 0 4 = J u1 → (∀ i, i ≠ 3 → i ≠ 4 → A 0 i = M 0 i) → (∀ j, 1 ≤ j → A j = M j) → Wp (j_X10_keep_32 A) (fun M1 => M1 0 3 = J o1 ∧ M1 0 4 = J (u1 + 1 : Nat) ∧ (∀ i, i ≠ 3 → i ≠ 4 → M1 0 i = M 0 i) ∧ Sq M1 (143 + 19 * ((o1 + u1) % 6)) ρ n m k ∧ ∀ j, 1 ≤ j → (j < 143 + 19 * ((o1 + u1) % 6) ∨ 143 + 19 * ((o1 + u1) % 6) + 19 ≤ j) → M1 j = M j) := by
    intro A q1 q2 q3 q4
    have ho1' : o1 < 6 := by rw [ho1]; split <;> omega
    have hu1' : u1 ≤ 5 := by rw [hu1]; split <;> omega
    unfold j_X10_keep_32
    simp (disch := omega) only [J_lit, J_nI, J_add, J_sub, J_mul, J_neg, Int.cast_ofNat_Int, q1, q2, J_rem, grd_J, ix_Jn, ix_J, Int.reduceToNat, Int.toNat_natCast]
    have e : (((o1 : Int) + (u1 : Int)) % 6).toNat = (o1 + u1) % 6 := by omega
    rw [e]
    have hq : (o1 + u1) % 6 < 6 := Nat.mod_lt _ (by decide)
    have hA : Sq A 1 ρ n m k := Sq_fr (fun j c1 c2 => q4 j c1) h
    refine wp_bind (wp_mono (p_sqcp (a := 143 + 19 * ((o1 + u1) % 6)) (b := 1) (by omega) hA) ?_)
    rintro B ⟨b1, b2⟩
    have eb : B 0 = A 0 := b2 0 (by omega)
    simp (disch := omega) only [nm_eq, eb, q2, J_lit, J_nI, J_add, J_sub, J_mul, J_neg, Int.cast_ofNat_Int]
    refine wp_some ⟨?_, ?_, ?_, ?_, ?_⟩
    · simp (disch := omega) only [mset_ne, mset_eq, mrow_ne, mrow_eq, upd_eq, upd_ne]
      rw [eb]
      exact q1
    · simp (disch := omega) only [mset_ne, mset_eq, mrow_ne, mrow_eq, upd_eq, upd_ne]
      exact congrArg J (by omega)
    · intro i c1 c2
      simp (disch := omega) only [mset_ne, mset_eq, mrow_ne, mrow_eq, upd_eq, upd_ne]
      rw [eb]
      exact q3 i c1 c2
    · exact Sq_fr (fun j c1 c2 => by simp (disch := omega) only [mset_ne, mrow_ne]) (b1 ρ n m k hA)
    · intro j c1 c2
      simp (disch := omega) only [mset_ne, mset_eq, mrow_ne, mrow_eq, upd_eq, upd_ne]
      rw [b2 j (by omega)]
      exact q4 j c1
  unfold f_X10_keep
  by_cases h6 : u = 6
  · subst h6
    simp (disch := omega) only [J_lit, J_nI, J_add, J_sub, J_mul, J_neg, Int.cast_ofNat_Int, e3, e4, J_lt, J_le, J_eq, within0, isIn0, inRow0, isCell0, if_true, if_false, if_pos, if_neg, nm_eq, J_rem, mset_ne, mset_eq, mrow_ne, mrow_eq, upd_eq, upd_ne]
    refine hmid _ ?_ ?_ ?_ ?_
    · simp (disch := omega) only [mset_ne, mset_eq, mrow_ne, mrow_eq, upd_eq, upd_ne]
      rw [ho1, if_pos rfl]
      exact congrArg J (by omega)
    · simp (disch := omega) only [mset_ne, mset_eq, mrow_ne, mrow_eq, upd_eq, upd_ne]
      rw [hu1, if_pos rfl]
      exact congrArg J (by omega)
    · intro i c1 c2
      simp (disch := omega) only [mset_ne, mset_eq, mrow_ne, mrow_eq, upd_eq, upd_ne]
    · intro j c1
      simp (disch := omega) only [mset_ne, mset_eq, mrow_ne, mrow_eq, upd_eq, upd_ne]
  · simp (disch := omega) only [J_lit, J_nI, J_add, J_sub, J_mul, J_neg, Int.cast_ofNat_Int, e4, J_lt, J_le, J_eq, within0, isIn0, inRow0, isCell0, if_true, if_false, if_pos, if_neg]
    refine hmid M ?_ ?_ (fun _ _ _ => rfl) (fun _ _ => rfl)
    · rw [ho1, if_neg h6]
      exact e3
    · rw [hu1, if_neg h6]
      exact e4
theorem p_keepsPast {N : zM} {u u1 sh : Nat} (hu : u ≤ 6) (e4 : N 257 4 = J u) (hu1 : u1 = if u = 6 then 5 else u) (hsh : sh = if u = 6 then 1 else 0) :
    Wp (f_X11_keepsPast N) (fun N' => N' 257 4 = J (u1 + 1 : Nat) ∧ (∀ i, i ≠ 4 → N' 257 i = N 257 i) ∧ (∀ p, p < u1 → ∀ i, i < 940 → N' 261 (940 * p + i) = N 261 (940 * (p + sh) + i)) ∧ (∀ i, i < 940 → N' 261 (940 * u1 + i) = N 258 i) ∧ ∀ j, j ≠ 257 → j ≠ 261 → N' j = N j) := by
  have hu1' : u1 ≤ 5 := by rw [hu1]; split <;> omega
  have hmid : ∀ A : zM, A 257 4 = J u1 → (∀ i, i ≠ 4 → A 257 i = N 257 i) → (∀ i, i < 940 * u1 → A 261 i = N 261 (i + 940 * sh)) → (∀ j, j ≠ 257 → j ≠ 261 → A j = N j) → Wp (j_X11_keepsPast_54 A) (fun N' => N' 257 4 = J (u1 + 1 : Nat) ∧ (∀ i, i ≠ 4 → N' 257 i = N 257 i) ∧ (∀ p, p < u1 → ∀ i, i < 940 → N' 261 (940 * p + i) = N 261 (940 * (p + sh) + i)) ∧ (∀ i, i < 940 → N' 261 (940 * u1 + i) = N 258 i) ∧ ∀ j, j ≠ 257 → j ≠ 261 → N' j = N j) := by
    intro A q1 q2 q3 q4
    unfold j_X11_keepsPast_54
    refine wp_bind ?_
    refine wp_mono (P := fun B => B 257 = A 257 ∧ (∀ i, i < 940 * u1 → B 261 i = A 261 i) ∧ (∀ i, i < 940 → B 261 (940 * u1 + i) = N 258 i) ∧ ∀ j, j ≠ 261 → B j = A j) ?_ ?_
    · refine loop_up (fun k s => s.1 = J k ∧ s.2 257 = A 257 ∧ (∀ i, i < 940 * u1 → s.2 261 i = A 261 i) ∧ (∀ i, i < k → s.2 261 (940 * u1 + i) = N 258 i) ∧ ∀ j, j ≠ 261 → s.2 j = A j) 940 ?_ ?_ ?_
      · exact ⟨rfl, rfl, fun _ _ => rfl, fun i hi => by omega, fun _ _ => rfl⟩
      · rintro k ⟨s1, s2⟩ hk ⟨f0, f1, f2, f3, f4⟩
        simp only at f0 f1 f2 f3 f4
        subst f0
        unfold b_X11_keepsPast_56
        have e : (940 * (u1 : Int) + (k : Int)).toNat = 940 * u1 + k := by omega
        have ei : s2 258 = A 258 := f4 258 (by decide)
        have ei2 : A 258 = N 258 := q4 258 (by decide) (by decide)
        simp (disch := omega) only [J_lit, J_nI, J_add, J_sub, J_mul, J_neg, Int.cast_ofNat_Int, f1, q1, J_lt, J_le, J_eq, within0, isIn0, inRow0, isCell0, if_true, if_false, if_pos, if_neg, grd_J, ix_Jn, ix_J, Int.reduceToNat, Int.toNat_natCast, nm_eq, e, ei, ei2]
        refine wp_some ⟨rfl, ?_, ?_, ?_, ?_⟩
        · simp (disch := omega) only [mset_ne, mset_eq, mrow_ne, mrow_eq, upd_eq, upd_ne]
          exact f1
        · intro i hi
          simp (disch := omega) only [mset_ne, mset_eq, mrow_ne, mrow_eq, upd_eq, upd_ne]
          exact f2 i hi
        · intro i hi
          by_cases c : i = k
          · subst c
            simp (disch := omega) only [mset_ne, mset_eq, mrow_ne, mrow_eq, upd_eq, upd_ne]
          · simp (disch := omega) only [mset_ne, mset_eq, mrow_ne, mrow_eq, upd_eq, upd_ne]
            exact f3 i (by omega)
        · intro j hj
          simp (disch := omega) only [mset_ne, mset_eq, mrow_ne, mrow_eq, upd_eq, upd_ne]
          exact f4 j hj
      · rintro ⟨s1, s2⟩ ⟨f0, f1, f2, f3, f4⟩
        simp only at f0 f1 f2 f3 f4
        subst f0
        unfold b_X11_keepsPast_56
        simp (disch := omega) only [J_lit, J_nI, J_add, J_sub, J_mul, J_neg, Int.cast_ofNat_Int, J_lt, J_le, J_eq, within0, isIn0, inRow0, isCell0, if_true, if_false, if_pos, if_neg]
        exact wp_some ⟨f1, f2, f3, f4⟩
    · rintro B ⟨f1, f2, f3, f4⟩
      unfold j_X11_keepsPast_90
      simp (disch := omega) only [nm_eq, f1, q1, J_lit, J_nI, J_add, J_sub, J_mul, J_neg, Int.cast_ofNat_Int]
      refine wp_some ⟨?_, ?_, ?_, ?_, ?_⟩
      · simp (disch := omega) only [mset_ne, mset_eq, mrow_ne, mrow_eq, upd_eq, upd_ne]
        exact congrArg J (by omega)
      · intro i hi
        simp (disch := omega) only [mset_ne, mset_eq, mrow_ne, mrow_eq, upd_eq, upd_ne]
        rw [f1]
        exact q2 i hi
      · intro p hp i hi
        simp (disch := omega) only [mset_ne, mset_eq, mrow_ne, mrow_eq, upd_eq, upd_ne]
        rw [f2 _ (by omega), q3 _ (by omega)]
        congr 1
        omega
      · intro i hi
        simp (disch := omega) only [mset_ne, mset_eq, mrow_ne, mrow_eq, upd_eq, upd_ne]
        exact f3 i hi
      · intro j h1 h2
        simp (disch := omega) only [mset_ne, mset_eq, mrow_ne, mrow_eq, upd_eq, upd_ne]
        rw [f4 j h2]
        exact q4 j h1 h2
  unfold f_X11_keepsPast j_X11_keepsPast_40
  by_cases h6 : u = 6
  · subst h6
    simp (disch := omega) only [J_lit, J_nI, J_add, J_sub, J_mul, J_neg, Int.cast_ofNat_Int, e4, J_lt, J_le, J_eq, within0, isIn0, inRow0, isCell0, if_true, if_false, if_pos, if_neg]
    refine wp_bind ?_
    refine wp_mono (P := fun B => B 257 = N 257 ∧ (∀ i, i < 4700 → B 261 i = N 261 (i + 940)) ∧ ∀ j, j ≠ 261 → B j = N j) ?_ ?_
    · refine loop_up (fun k s => s.1 = J k ∧ s.2 257 = N 257 ∧ (∀ i, i < k → s.2 261 i = N 261 (i + 940)) ∧ (∀ i, k ≤ i → s.2 261 i = N 261 i) ∧ ∀ j, j ≠ 261 → s.2 j = N j) 4700 ?_ ?_ ?_
      · exact ⟨rfl, rfl, fun i hi => by omega, fun _ _ => rfl, fun _ _ => rfl⟩
      · rintro k ⟨s1, s2⟩ hk ⟨f0, f1, f2, f3, f4⟩
        simp only at f0 f1 f2 f3 f4
        subst f0
        unfold b_X11_keepsPast_11
        have e : ((k : Int) + 940).toNat = k + 940 := by omega
        simp (disch := omega) only [J_lit, J_nI, J_add, J_sub, J_mul, J_neg, Int.cast_ofNat_Int, J_lt, J_le, J_eq, within0, isIn0, inRow0, isCell0, if_true, if_false, if_pos, if_neg, grd_J, ix_Jn, ix_J, Int.reduceToNat, Int.toNat_natCast, nm_eq, e]
        refine wp_some ⟨rfl, ?_, ?_, ?_, ?_⟩
        · simp (disch := omega) only [mset_ne, mset_eq, mrow_ne, mrow_eq, upd_eq, upd_ne]
          exact f1
        · intro i hi
          by_cases c : i = k
          · subst c
            simp (disch := omega) only [mset_ne, mset_eq, mrow_ne, mrow_eq, upd_eq, upd_ne]
            exact f3 _ (by omega)
          · simp (disch := omega) only [mset_ne, mset_eq, mrow_ne, mrow_eq, upd_eq, upd_ne]
            exact f2 i (by omega)
        · intro i hi
          simp (disch := omega) only [mset_ne, mset_eq, mrow_ne, mrow_eq, upd_eq, upd_ne]
          exact f3 i (by omega)
        · intro j hj
          simp (disch := omega) only [mset_ne, mset_eq, mrow_ne, mrow_eq, upd_eq, upd_ne]
          exact f4 j hj
      · rintro ⟨s1, s2⟩ ⟨f0, f1, f2, f3, f4⟩
        simp only at f0 f1 f2 f3 f4
        subst f0
        unfold b_X11_keepsPast_11
        simp (disch := omega) only [J_lit, J_nI, J_add, J_sub, J_mul, J_neg, Int.cast_ofNat_Int, J_lt, J_le, J_eq, within0, isIn0, inRow0, isCell0, if_true, if_false, if_pos, if_neg]
        exact wp_some ⟨f1, f2, f4⟩
    · rintro B ⟨f1, f2, f3⟩
      simp (disch := omega) only [f1, e4, J_lt, J_le, J_eq, within0, isIn0, inRow0, isCell0, if_true, if_false, if_pos, if_neg, nm_eq]
      rw [if_pos rfl] at hu1 hsh
      subst hu1 hsh
      refine hmid _ ?_ ?_ ?_ ?_
      · simp (disch := omega) only [mset_ne, mset_eq, mrow_ne, mrow_eq, upd_eq, upd_ne]
        rfl
      · intro i hi
        simp (disch := omega) only [mset_ne, mset_eq, mrow_ne, mrow_eq, upd_eq, upd_ne]
        rw [f1]
      · intro i hi
        simp (disch := omega) only [mset_ne, mset_eq, mrow_ne, mrow_eq, upd_eq, upd_ne]
        rw [f2 i (by omega)]
      · intro j h1 h2
        simp (disch := omega) only [mset_ne, mset_eq, mrow_ne, mrow_eq, upd_eq, upd_ne]
        exact f3 j h2
  · rw [if_neg h6] at hu1 hsh
    subst hu1 hsh
    simp (disch := omega) only [J_lit, J_nI, J_add, J_sub, J_mul, J_neg, Int.cast_ofNat_Int, e4, J_lt, J_le, J_eq, within0, isIn0, inRow0, isCell0, if_true, if_false, if_pos, if_neg]
    exact hmid N e4 (fun _ _ => rfl) (fun i _ => rfl) (fun _ _ _ => rfl)
