/-! ===== hooks ===== -/
theorem t_plus {a b : Int} (h1 : 0 ≤ a) (h2 : a < 1000000007) (h3 : 0 ≤ b) (h4 : b < 1000000007) : f_X11_plus (J a) (J b) = J ((a + b) % 1000000007) := by
  unfold f_X11_plus
  simp (disch := omega) only [J_lit, J_nI, J_add, J_sub, J_mul, J_neg, Int.cast_ofNat_Int, J_lt]
  by_cases h : a < 1000000007 - b
  · rw [if_pos h]
    congr 1
    omega
  · rw [if_neg h]
    congr 1
    omega
theorem t_plus2 {a b : Int} (h1 : 0 ≤ a) (h2 : a < 1000000007) (h3 : 0 ≤ b) (h4 : b < 1000000007) : f_X2_plus (J a) (J b) = J ((a + b) % 1000000007) := by
  unfold f_X2_plus
  simp (disch := omega) only [J_lit, J_nI, J_add, J_sub, J_mul, J_neg, Int.cast_ofNat_Int, nm_eq, bind_some, bnd2_some, J_lt]
  by_cases h : a + b < 1000000007
  · rw [if_pos h]
    congr 1
    omega
  · rw [if_neg h]
    congr 1
    omega
def hkA : Nat → Nat × Nat × Nat
  | 0 => (1, 1, 2)
  | n + 1 => match hkA n with
    | (a, b, c) => (b, c, (2 * c + a) % 1000000007)
def hk (n : Nat) : Nat := (hkA n).1
def hkB (s : Nat) : Nat → Nat × Nat × Nat × Nat
  | 0 => (1, 0, 0, 0)
  | n + 1 => match hkB s n with
    | (a, b, c, d) => ((d + s * a) % 1000000007, (a + s * c) % 1000000007, (a + s * b) % 1000000007, ((b + c) % 1000000007 + s * a) % 1000000007)
theorem hk_eq : ∀ n, n < 41 → (hkB 1 n).1 = hk n := by decide +kernel
theorem hk_eq0 : ∀ n, n < 41 → (hkB 0 n).1 = if n % 3 = 0 then 2 ^ (n / 3) else 0 := by decide +kernel
theorem hkA_lt (n : Nat) : (hkA n).1 < 1000000007 ∧ (hkA n).2.1 < 1000000007 ∧ (hkA n).2.2 < 1000000007 := by
  induction n with
  | zero => decide
  | succ n ih =>
    obtain ⟨h1, h2, h3⟩ := ih
    exact ⟨h2, h3, Nat.mod_lt _ (by decide)⟩
theorem hk_rec (n : Nat) : hk (n + 3) = (2 * hk (n + 2) + hk n) % 1000000007 := rfl
theorem hkB_lt (s n : Nat) : (hkB s n).1 < 1000000007 ∧ (hkB s n).2.1 < 1000000007 ∧ (hkB s n).2.2.1 < 1000000007 ∧ (hkB s n).2.2.2 < 1000000007 := by
  cases n with
  | zero => exact ⟨by show 1 < _; decide, by show 0 < _; decide, by show 0 < _; decide, by show 0 < _; decide⟩
  | succ n => exact ⟨Nat.mod_lt _ (by decide), Nat.mod_lt _ (by decide), Nat.mod_lt _ (by decide), Nat.mod_lt _ (by decide)⟩
theorem J_i64 {z : Int} (h : -2147483648 ≤ z) (h2 : z < 2147483648) : (J z).toInt64 = Int64.ofInt z := by
  apply Int64.toInt_inj.mp
  rw [Int32.toInt_toInt64, J_toInt h h2, Int64.toInt_ofInt_of_le (by omega) (by omega)]
theorem i64_J {z : Int} (h : -9223372036854775808 ≤ z) (h2 : z < 9223372036854775808) : (Int64.ofInt z).toInt32 = J z := by
  rw [← Int32.ofInt_int64ToInt, Int64.toInt_ofInt_of_le h h2]
  rfl
theorem K_hook {a b : Nat} (ha : a < 1000000007) (hb : b < 1000000007) : ((((2 : Int64) * (J a).toInt64) + (J b).toInt64) - (((2 : Int64) * (J a).toInt64) + (J b).toInt64) / (1000000007 : Int64) * (1000000007 : Int64)).toInt32 = J (((2 * a + b) % 1000000007 : Nat) : Int) := by
  rw [J_i64 (by omega) (by omega), J_i64 (by omega) (by omega)]
  have e2 : (2 : Int64) = Int64.ofInt 2 := rfl
  have e7 : (1000000007 : Int64) = Int64.ofInt 1000000007 := rfl
  have e1 : Int64.minValue.toInt = -9223372036854775808 := rfl
  have e3 : Int64.maxValue.toInt = 9223372036854775807 := rfl
  rw [e2, e7, ← Int64.ofInt_mul, ← Int64.ofInt_add, ← Int64.ofInt_tdiv (by omega) (by omega) (by omega) (by omega), ← Int64.ofInt_mul, ← Int64.ofInt_sub]
  rw [Int.tdiv_eq_ediv_of_nonneg (by omega)]
  rw [i64_J (by omega) (by omega)]
  congr 1
  omega
theorem p_hooks10 {n : Nat} (hn : n ≤ 40) (M : zM) : Wp (f_X4_hooksAndSlabs (J n) M) (fun q => q.1 = J (hk n) ∧ ∀ k, k ≠ 98 → q.2 k = M k) := by
  unfold f_X4_hooksAndSlabs
  simp (disch := omega) only [nm_eq, bind_some, bnd2_some, J_lit, J_nI, J_add, J_sub, J_mul, J_neg, Int.cast_ofNat_Int, ix_Jn, ix_J, Int.reduceToNat, Int.toNat_natCast]
  refine wp_bind ?_
  by_cases h3 : n < 3
  · refine wp_mono (P := fun M' => (∀ i, i < 3 → M' 98 i = J (hk i)) ∧ ∀ k, k ≠ 98 → M' k = M k) ?_ ?_
    · rw [loopW_eq]
      unfold b_X4_hooksAndSlabs_23
      simp (disch := omega) only [J_lit, J_nI, J_add, J_sub, J_mul, J_neg, Int.cast_ofNat_Int, J_lt, if_pos]
      refine wp_some ⟨?_, fun k hk => by simp (disch := omega) only [mset_ne, mrow_ne]⟩
      intro i hi
      rcases (show i = 0 ∨ i = 1 ∨ i = 2 by omega) with e | e | e <;> subst e <;> simp (disch := omega) only [mset_ne, mset_eq, mrow_ne, mrow_eq, upd_eq, upd_ne] <;> rfl
    · rintro M' ⟨h1, h2⟩
      unfold j_X4_hooksAndSlabs_68
      simp (disch := omega) only [grd_J, ix_Jn]
      exact wp_some ⟨h1 n (by omega), h2⟩
  · refine wp_mono (P := fun M' => (∀ i, i < n + 1 → M' 98 i = J (hk i)) ∧ ∀ k, k ≠ 98 → M' k = M k) ?_ ?_
    · refine loop_fr (fun j s => s.1 = J (j : Int) ∧ (∀ i, i < j → s.2 98 i = J (hk i)) ∧ ∀ k, k ≠ 98 → s.2 k = M k) 3 (n + 1) (by omega) ?_ ?_ ?_
      · refine ⟨rfl, ?_, fun k hk => by simp (disch := omega) only [mset_ne, mrow_ne]⟩
        intro i hi
        rcases (show i = 0 ∨ i = 1 ∨ i = 2 by omega) with e | e | e <;> subst e <;> simp (disch := omega) only [mset_ne, mset_eq, mrow_ne, mrow_eq, upd_eq, upd_ne] <;> rfl
      · rintro j ⟨s1, s2⟩ h1 h2 ⟨e1, e2, e3⟩
        simp only at e1 e2 e3
        subst e1
        unfold b_X4_hooksAndSlabs_23
        simp (disch := omega) only [J_lit, J_nI, J_add, J_sub, J_mul, J_neg, Int.cast_ofNat_Int, nm_eq, bind_some, bnd2_some, J_lt, if_neg, grd_J, ix_J]
        have f1 : ((j : Int) - 1).toNat = j - 1 := by omega
        have f3 : ((j : Int) - 3).toNat = j - 3 := by omega
        have f0 : (j : Int).toNat = j := by omega
        rw [f1, f3, f0, e2 (j - 1) (by omega), e2 (j - 3) (by omega), K_hook (a := hk (j - 1)) (b := hk (j - 3)) (hkA_lt _).1 (hkA_lt _).1]
        refine wp_some ⟨by congr 1, ?_, fun k hk => (mset_ne hk).trans (e3 k hk)⟩
        intro i hi
        show mset s2 98 j _ 98 i = _
        by_cases e : i = j
        · subst e
          rw [mset_eq, upd_eq]
          obtain ⟨q, rfl⟩ : ∃ q, i = q + 3 := ⟨i - 3, by omega⟩
          rw [hk_rec]
          rfl
        · rw [mset_eq, upd_ne e]
          exact e2 i (by omega)
      · rintro ⟨s1, s2⟩ ⟨e1, e2, e3⟩
        simp only at e1 e2 e3
        subst e1
        unfold b_X4_hooksAndSlabs_23
        simp (disch := omega) only [J_lit, J_nI, J_add, J_sub, J_mul, J_neg, Int.cast_ofNat_Int, J_lt, if_pos]
        exact wp_some ⟨e2, e3⟩
    · rintro M' ⟨h1, h2⟩
      unfold j_X4_hooksAndSlabs_68
      simp (disch := omega) only [grd_J, ix_Jn]
      exact wp_some ⟨h1 n (by omega), h2⟩
theorem LN277 : LN 277 = 4 := by decide +kernel
theorem LN278 : LN 278 = 4 := by decide +kernel
theorem p_hooks11 {n s : Nat} (hn : n ≤ 40) (hs : s ≤ 1) (M : zM) : Wp ((loopW (fun q => b_X11_hooks_23 (J n) (J (1 - s : Nat)) q.1 q.2) ((0 : Int32), M)).bind (fun r => j_X11_hooks_49 (J n) (J (1 - s : Nat)) r)) (fun q => q.1 = J (hkB s n).1 ∧ ∀ k, k ≠ 277 → k ≠ 278 → q.2 k = M k) := by
  refine wp_bind ?_
  refine wp_mono (P := fun M' => (∀ i, i < 4 → M' 277 i = J (if i = 0 then 1 else 0)) ∧ ∀ k, k ≠ 277 → k ≠ 278 → M' k = M k) ?_ ?_
  · refine loop_up (fun j s => s.1 = J (j : Int) ∧ (∀ i, i < j → s.2 277 i = J (if i = 0 then 1 else 0)) ∧ ∀ k, k ≠ 277 → k ≠ 278 → s.2 k = M k) 4 ?_ ?_ ?_
    · exact ⟨rfl, fun i hi => by omega, fun k _ _ => rfl⟩
    · rintro j ⟨s1, s2⟩ h2 ⟨e1, e2, e3⟩
      simp only at e1 e2 e3
      subst e1
      unfold b_X11_hooks_23 j_X11_hooks_42_23
      simp (disch := omega) only [J_lit, J_nI, J_add, J_sub, J_mul, J_neg, Int.cast_ofNat_Int, nm_eq, bind_some, bnd2_some, J_le, J_eq, if_neg, grd_J, ix_Jn]
      by_cases hj : j = 0
      · subst hj
        rw [if_pos (by omega)]
        refine wp_some ⟨rfl, ?_, fun k k1 k2 => (mset_ne k1).trans (e3 k k1 k2)⟩
        intro i hi
        rw [show i = 0 by omega]
        show mset s2 277 0 _ 277 0 = _
        rw [mset_eq, upd_eq]
        rfl
      · rw [if_neg (by omega)]
        refine wp_some ⟨rfl, ?_, fun k k1 k2 => (mset_ne k1).trans (e3 k k1 k2)⟩
        intro i hi
        show mset s2 277 j _ 277 i = _
        by_cases e : i = j
        · subst e
          rw [mset_eq, upd_eq, if_neg hj]
        · rw [mset_eq, upd_ne e]
          exact e2 i (by omega)
    · rintro ⟨s1, s2⟩ ⟨e1, e2, e3⟩
      simp only at e1 e2 e3
      subst e1
      unfold b_X11_hooks_23
      simp (disch := omega) only [J_lit, J_nI, J_add, J_sub, J_mul, J_neg, Int.cast_ofNat_Int, J_le, if_pos]
      exact wp_some ⟨e2, e3⟩
  · rintro M1 ⟨h1, h2⟩
    unfold j_X11_hooks_49
    simp (disch := omega) only [J_lit, J_nI, J_add, J_sub, J_mul, J_neg, Int.cast_ofNat_Int, nm_eq, bind_some, bnd2_some]
    refine wp_bind ?_
    have es : (1 : Int) - ((1 - s : Nat) : Int) = (s : Int) := by omega
    rw [es]
    refine wp_mono (P := fun M' => M' 277 0 = J (hkB s n).1 ∧ ∀ k, k ≠ 277 → k ≠ 278 → M' k = M k) ?_ ?_
    · refine loop_up (fun j q => q.1 = J (j : Int) ∧ (q.2 277 0 = J (hkB s j).1 ∧ q.2 277 1 = J (hkB s j).2.1 ∧ q.2 277 2 = J (hkB s j).2.2.1 ∧ q.2 277 3 = J (hkB s j).2.2.2) ∧ ∀ k, k ≠ 277 → k ≠ 278 → q.2 k = M k) n ?_ ?_ ?_
      · exact ⟨rfl, ⟨h1 0 (by omega), h1 1 (by omega), h1 2 (by omega), h1 3 (by omega)⟩, h2⟩
      · rintro j ⟨s1, s2⟩ h4 ⟨e1, ⟨b0, b1, b2, b3⟩, e3⟩
        simp only at e1 e3 b0 b1 b2 b3
        subst e1
        obtain ⟨l0, l1, l2, l3⟩ := hkB_lt s j
        have hsa : ∀ x : Nat, x < 1000000007 → ((s : Int) * (x : Int)) < 1000000007 ∧ 0 ≤ (s : Int) * (x : Int) := by
          intro x hx
          rcases (show s = 0 ∨ s = 1 by omega) with e | e <;> subst e <;> simp <;> omega
        have m0 := hsa _ l0
        have m1 := hsa _ l1
        have m2 := hsa _ l2
        unfold b_X11_hooks_56
        simp (disch := omega) only [J_lit, J_nI, J_add, J_sub, J_mul, J_neg, Int.cast_ofNat_Int, nm_eq, bind_some, bnd2_some, J_le, if_neg, ix_Jn, ix_J, Int.reduceToNat, Int.toNat_natCast, mset_ne, mset_eq, mrow_ne, mrow_eq, upd_eq, upd_ne, b0, b1, b2, b3]
        rw [t_plus (by omega) (by omega) (by omega) (by omega), t_plus (by omega) (by omega) (by omega) (by omega), t_plus (by omega) (by omega) (by omega) (by omega), t_plus (a := ((hkB s j).2.1 : Int)) (by omega) (by omega) (by omega) (by omega), t_plus (by omega) (by omega) (by omega) (by omega)]
        have ec := t_copies (a := 278) (b := 277) (n := 4) (mset (mset (mset (mset s2 278 0 (J (((hkB s j).2.2.2 + s * (hkB s j).1 : Int) % 1000000007))) 278 1 (J (((hkB s j).1 + s * (hkB s j).2.2.1 : Int) % 1000000007))) 278 2 (J (((hkB s j).1 + s * (hkB s j).2.1 : Int) % 1000000007))) 278 3 (J ((((hkB s j).2.1 + (hkB s j).2.2.1 : Int) % 1000000007 + s * (hkB s j).1) % 1000000007))) (by decide) (by rw [LN278]; decide) (by rw [LN277]; decide) (by decide)
        refine wp_bind (wp_eq ec ?_)
        refine wp_some ⟨rfl, ⟨?_, ?_, ?_, ?_⟩, fun k k1 k2 => by simp (disch := omega) only [mset_ne, mrow_ne]; exact e3 k k1 k2⟩
        all_goals
          simp (disch := omega) only [mset_ne, mset_eq, mrow_ne, mrow_eq, upd_eq, upd_ne, pk_cpy_in, Nat.zero_add, Nat.sub_zero]
          congr 1
      · rintro ⟨s1, s2⟩ ⟨e1, e2, e3⟩
        simp only at e1 e2 e3
        subst e1
        unfold b_X11_hooks_56
        simp (disch := omega) only [J_lit, J_nI, J_add, J_sub, J_mul, J_neg, Int.cast_ofNat_Int, J_le, if_pos]
        exact wp_some ⟨e2.1, e3⟩
    · rintro M' ⟨h3, h4⟩
      unfold j_X11_hooks_181
      simp (disch := omega) only [J_lit, J_nI, J_add, J_sub, J_mul, J_neg, Int.cast_ofNat_Int, ix_Jn, ix_J, Int.reduceToNat, Int.toNat_natCast]
      exact wp_some ⟨h3, h4⟩
theorem t_hooksAlone : ∀ n : Nat, n < 41 → f_X4_hooksAlone (J n) = J ((if n % 3 = 0 then 2 ^ (n / 3) else 0 : Nat) : Int) := by decide +kernel
theorem c_hooks (p q : Int32) : Cl2 (f_X10_hooks p q) (f_X11_hooks p q) := by
  intro M N hI
  obtain ⟨z, rfl, l1, l2⟩ := J_ex p
  obtain ⟨y, rfl, l3, l4⟩ := J_ex q
  unfold f_X10_hooks f_X11_hooks
  simp (disch := omega) only [J_lit, J_nI, J_add, J_sub, J_mul, J_neg, Int.cast_ofNat_Int, J_lt, J_le, J_eq, within0, isIn0, inRow0, isCell0]
  by_cases c1 : 0 ≤ z ∧ z ≤ 40
  · by_cases c2 : 0 ≤ y ∧ y ≤ 1
    · obtain ⟨n, rfl⟩ : ∃ n : Nat, z = n := ⟨z.toNat, by omega⟩
      by_cases c3 : y = 0
      · subst c3
        obtain ⟨q1, e1, v1, f1⟩ := p_hooks10 (n := n) (by omega) M
        obtain ⟨q2, e2, v2, f2⟩ := p_hooks11 (n := n) (s := 1) (by omega) (by omega) N
        simp (disch := omega) only [if_true, if_false, if_pos, if_neg, e1, bnd2, bind_some]
        refine ⟨_, _, _, rfl, ?_, IC_scN (fun j a b c d => f2 j (by omega) (by omega)) (fun i hi => by rw [f2 257 (by omega) (by omega)]) (IC_scM (fun j a b => f1 j (by unfold scC at b; omega)) (fun i _ => by rw [f1 70 (by omega)]) (fun i _ => by rw [f1 78 (by omega)]) (by rw [f1 83 (by omega)]) (by rw [f1 95 (by omega)]) hI)⟩
        rw [show q1.1 = q2.1 by rw [v1, v2, hk_eq n (by omega)]]
        exact e2
      · have c4 : y = 1 := by omega
        subst c4
        obtain ⟨q2, e2, v2, f2⟩ := p_hooks11 (n := n) (s := 0) (by omega) (by omega) N
        simp (disch := omega) only [if_true, if_false, if_pos, if_neg]
        refine ⟨_, _, _, rfl, ?_, IC_scN (fun j a b c d => f2 j (by omega) (by omega)) (fun i hi => by rw [f2 257 (by omega) (by omega)]) hI⟩
        rw [show f_X4_hooksAlone (J n) = q2.1 by rw [v2, t_hooksAlone n (by omega), hk_eq0 n (by omega)]]
        exact e2
    · by_cases c3 : y < 0
      · simp (disch := omega) only [if_true, if_false, if_pos, if_neg]
        exact ⟨_, _, _, rfl, rfl, hI⟩
      · simp (disch := omega) only [if_true, if_false, if_pos, if_neg]
        exact ⟨_, _, _, rfl, rfl, hI⟩
  · by_cases c3 : z < 0
    · simp (disch := omega) only [if_true, if_false, if_pos, if_neg]
      exact ⟨_, _, _, rfl, rfl, hI⟩
    · simp (disch := omega) only [if_true, if_false, if_pos, if_neg]
      exact ⟨_, _, _, rfl, rfl, hI⟩
