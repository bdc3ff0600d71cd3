/-! ===== a folded paper ===== -/
def ftF : Nat → Nat → Nat
  | 0, _ => 0
  | k + 1, i => if i % 2 = 0 then ftF k (i / 2) else if i % 4 = 1 then 1 else 0
def ft (i : Nat) : Nat := ftF 16 i
theorem ft_loops : ∀ (k i : Nat), 1 ≤ i → i < 2 ^ k → k ≤ 16 → f_X4_foldTurn (J i) = some (J (ftF k i)) ∧ f_X11_fold (J i) = some (J (ftF k i)) := by
  intro k
  induction k with
  | zero => intro i h1 h2 _; simp at h2; omega
  | succ k ih =>
    intro i h1 h2 h3
    have hp : 2 ^ (k + 1) ≤ 2 ^ 16 := Nat.pow_le_pow_right (by decide) h3
    have hi : i < 65536 := by omega
    by_cases c : i % 2 = 0
    · obtain ⟨q1, q2⟩ := ih (i / 2) (by omega) (by rw [Nat.pow_succ] at h2; omega) (by omega)
      have e : ((i / 2 : Nat) : Int) = (i : Int) / 2 := by omega
      rw [e] at q1 q2
      have s1 : b_X4_foldTurn_2 (J i) = some (.inl (J ((i : Int) / 2))) := by
        unfold b_X4_foldTurn_2
        simp (disch := omega) only [↓nm_s, ↓grd_s, ↓reduceIte, J_lit, J_nI, J_add, J_sub, J_mul, J_neg, Int.cast_ofNat_Int, J_lt_t, J_lt_f, J_le_t, J_le_f, J_eq_t, J_eq_f, within_t, within_f, isIn_t, isIn_f, inRow_t, inRow_f, isCell_t, isCell_f, inb_t, ix_Jn, ix_J, Int.reduceToNat, Int.toNat_natCast, mset_ne, mset_eq, mrow_ne, mrow_eq, upd_eq, upd_ne, bind_s, bnd2_s, not_true_eq_false, not_false_eq_true, Nat.reduceAdd, J_rem, J_div]
      have s2 : b_X11_fold_2 (J i) = some (.inl (J ((i : Int) / 2))) := by
        unfold b_X11_fold_2
        simp (disch := omega) only [↓nm_s, ↓grd_s, ↓reduceIte, J_lit, J_nI, J_add, J_sub, J_mul, J_neg, Int.cast_ofNat_Int, J_lt_t, J_lt_f, J_le_t, J_le_f, J_eq_t, J_eq_f, within_t, within_f, isIn_t, isIn_f, inRow_t, inRow_f, isCell_t, isCell_f, inb_t, ix_Jn, ix_J, Int.reduceToNat, Int.toNat_natCast, mset_ne, mset_eq, mrow_ne, mrow_eq, upd_eq, upd_ne, bind_s, bnd2_s, not_true_eq_false, not_false_eq_true, Nat.reduceAdd, J_rem, J_div]
      unfold f_X4_foldTurn f_X11_fold at *
      rw [loop_st (B := fun s => b_X4_foldTurn_2 s) s1, loop_st (B := fun s => b_X11_fold_2 s) s2, q1, q2]
      simp only [ftF, c, if_true]
      exact ⟨trivial, trivial⟩
    · have s1 : b_X4_foldTurn_2 (J i) = some (.inr (J i)) := by
        unfold b_X4_foldTurn_2
        by_cases c1 : i = 1
        · simp (disch := omega) only [↓nm_s, ↓grd_s, ↓reduceIte, J_lit, J_nI, J_add, J_sub, J_mul, J_neg, Int.cast_ofNat_Int, J_lt_t, J_lt_f, J_le_t, J_le_f, J_eq_t, J_eq_f, within_t, within_f, isIn_t, isIn_f, inRow_t, inRow_f, isCell_t, isCell_f, inb_t, ix_Jn, ix_J, Int.reduceToNat, Int.toNat_natCast, mset_ne, mset_eq, mrow_ne, mrow_eq, upd_eq, upd_ne, bind_s, bnd2_s, not_true_eq_false, not_false_eq_true, Nat.reduceAdd]
        · simp (disch := omega) only [↓nm_s, ↓grd_s, ↓reduceIte, J_lit, J_nI, J_add, J_sub, J_mul, J_neg, Int.cast_ofNat_Int, J_lt_t, J_lt_f, J_le_t, J_le_f, J_eq_t, J_eq_f, within_t, within_f, isIn_t, isIn_f, inRow_t, inRow_f, isCell_t, isCell_f, inb_t, ix_Jn, ix_J, Int.reduceToNat, Int.toNat_natCast, mset_ne, mset_eq, mrow_ne, mrow_eq, upd_eq, upd_ne, bind_s, bnd2_s, not_true_eq_false, not_false_eq_true, Nat.reduceAdd, J_rem]
      have s2 : b_X11_fold_2 (J i) = some (.inr (J i)) := by
        unfold b_X11_fold_2
        simp (disch := omega) only [↓nm_s, ↓grd_s, ↓reduceIte, J_lit, J_nI, J_add, J_sub, J_mul, J_neg, Int.cast_ofNat_Int, J_lt_t, J_lt_f, J_le_t, J_le_f, J_eq_t, J_eq_f, within_t, within_f, isIn_t, isIn_f, inRow_t, inRow_f, isCell_t, isCell_f, inb_t, ix_Jn, ix_J, Int.reduceToNat, Int.toNat_natCast, mset_ne, mset_eq, mrow_ne, mrow_eq, upd_eq, upd_ne, bind_s, bnd2_s, not_true_eq_false, not_false_eq_true, Nat.reduceAdd, J_rem]
      unfold f_X4_foldTurn f_X11_fold
      rw [loop_en (B := fun s => b_X4_foldTurn_2 s) s1, loop_en (B := fun s => b_X11_fold_2 s) s2]
      unfold j_X4_foldTurn_20 j_X11_fold_15
      by_cases c4 : i % 4 = 1
      · simp (disch := omega) only [↓nm_s, ↓grd_s, ↓reduceIte, J_lit, J_nI, J_add, J_sub, J_mul, J_neg, Int.cast_ofNat_Int, J_lt_t, J_lt_f, J_le_t, J_le_f, J_eq_t, J_eq_f, within_t, within_f, isIn_t, isIn_f, inRow_t, inRow_f, isCell_t, isCell_f, inb_t, ix_Jn, ix_J, Int.reduceToNat, Int.toNat_natCast, mset_ne, mset_eq, mrow_ne, mrow_eq, upd_eq, upd_ne, bind_s, bnd2_s, not_true_eq_false, not_false_eq_true, Nat.reduceAdd, J_rem, ftF, c, c4, if_false, if_true]
        exact ⟨trivial, trivial⟩
      · simp (disch := omega) only [↓nm_s, ↓grd_s, ↓reduceIte, J_lit, J_nI, J_add, J_sub, J_mul, J_neg, Int.cast_ofNat_Int, J_lt_t, J_lt_f, J_le_t, J_le_f, J_eq_t, J_eq_f, within_t, within_f, isIn_t, isIn_f, inRow_t, inRow_f, isCell_t, isCell_f, inb_t, ix_Jn, ix_J, Int.reduceToNat, Int.toNat_natCast, mset_ne, mset_eq, mrow_ne, mrow_eq, upd_eq, upd_ne, bind_s, bnd2_s, not_true_eq_false, not_false_eq_true, Nat.reduceAdd, J_rem, ftF, c, c4, if_false, if_true]
        exact ⟨trivial, trivial⟩
theorem ft_both {i : Nat} (h1 : 1 ≤ i) (h2 : i < 65536) : f_X4_foldTurn (J i) = some (J (ft i)) ∧ f_X11_fold (J i) = some (J (ft i)) := ft_loops 16 i h1 h2 (Nat.le_refl _)
theorem ft_01 : ∀ (k i : Nat), ftF k i = 0 ∨ ftF k i = 1 := by
  intro k
  induction k with
  | zero => intro i; exact Or.inl rfl
  | succ k ih =>
    intro i
    simp only [ftF]
    split
    · exact ih _
    · split
      · exact Or.inr rfl
      · exact Or.inl rfl
/-! the way, coded as one number: x + 65536, y + 65536, facing -/
def fx' (f X : Nat) : Nat := if f = 1 then X + 1 else if f = 3 then X - 1 else X
def fy' (f Y : Nat) : Nat := if f = 0 then Y + 1 else if f = 2 then Y - 1 else Y
def enc3 (X Y f : Nat) : Nat := (X * 131072 + Y) * 4 + f
def stp3 (k s : Nat) : Nat :=
  (fun f => enc3 (fx' f (s / 4 / 131072)) (fy' f (s / 4 % 131072)) f) ((s % 4 + (if ft k = 1 then 1 else 3)) % 4)
def frc (n : Nat) (k : Nat → Nat) : Nat := match n with
  | 0 => k 0
  | m + 1 => k (m + 1)
theorem frc_eq (n : Nat) (k : Nat → Nat) : frc n k = k n := by cases n <;> rfl
def run3 : Nat → Nat → Nat → Nat
  | 0, m, s => stp3 m s
  | d + 1, m, s => frc (run3 d m s) (fun t => run3 d (m + 2 ^ d) t)
def it3 : Nat → Nat
  | 0 => enc3 65536 65537 0
  | k + 1 => stp3 (k + 1) (it3 k)
theorem run3_it : ∀ (d m : Nat), run3 d (m + 1) (it3 m) = it3 (m + 2 ^ d) := by
  intro d
  induction d with
  | zero => intro m; rfl
  | succ d ih =>
    intro m
    rw [run3, frc_eq, ih m, show m + 1 + 2 ^ d = (m + 2 ^ d) + 1 by omega, ih (m + 2 ^ d)]
    congr 1
    rw [Nat.pow_succ]
    omega
def S3 : Nat → Nat
  | 0 => enc3 65536 65537 0
  | n + 1 => run3 n (2 ^ n) (S3 n)
theorem S3_it (n : Nat) : S3 n = it3 (2 ^ n - 1) := by
  induction n with
  | zero => rfl
  | succ n ih =>
    have h := Nat.two_pow_pos n
    rw [S3, ih]
    have := run3_it n (2 ^ n - 1)
    rw [show 2 ^ n - 1 + 1 = 2 ^ n by omega, show 2 ^ n - 1 + 2 ^ n = 2 ^ (n + 1) - 1 by rw [Nat.pow_succ]; omega] at this
    exact this
/-- the other way: one fold more turns all by a right angle -/
def ee : Nat → Int × Int
  | 0 => (0, 1)
  | n + 1 => match ee n with
    | (x, y) => (x + y, y - x)
theorem ee_S3 : ∀ n, n < 16 → (S3 n / 4 / 131072 : Nat) = (65536 + (ee n).1).toNat ∧ (S3 n / 4 % 131072 : Nat) = (65536 + (ee n).2).toNat := by decide +kernel
