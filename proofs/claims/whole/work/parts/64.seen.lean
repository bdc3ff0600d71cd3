/-! ===== what is seen ===== -/
theorem msb_J {a : Int} (h1 : -2147483648 ≤ a) (h2 : a < 2147483648) : (J a).toBitVec.msb = decide (a < 0) := by
  rw [BitVec.msb_eq_toInt]
  have : (J a).toBitVec.toInt = a := J_toInt h1 h2
  rw [this]
theorem xor_nn {a b : Int} (h1 : -2147483648 ≤ a) (h2 : a < 2147483648) (h3 : 0 ≤ b) (h4 : b < 2147483648) : (0 ≤ (J a ^^^ J b)) ↔ 0 ≤ a := by
  rw [i_le]
  have e0 : (0 : Int32).toInt = 0 := rfl
  rw [e0]
  have e1 : (J a ^^^ J b).toBitVec.msb = decide ((J a ^^^ J b).toInt < 0) := BitVec.msb_eq_toInt
  have e2 : (J a ^^^ J b).toBitVec = (J a).toBitVec ^^^ (J b).toBitVec := rfl
  rw [e2, BitVec.msb_xor, msb_J h1 h2, msb_J (by omega) h4] at e1
  have e3 : decide (b < 0) = false := by simp; omega
  rw [e3] at e1
  by_cases h : a < 0
  · have e4 : decide (a < 0) = true := by simp [h]
    rw [e4] at e1
    have : (J a ^^^ J b).toInt < 0 := by
      have := e1.symm
      simpa using this
    omega
  · have e4 : decide (a < 0) = false := by simp [h]
    rw [e4] at e1
    have : ¬ (J a ^^^ J b).toInt < 0 := by
      have := e1.symm
      simpa using this
    omega
theorem t_floorDiv {a b : Int} (h1 : -1000000 ≤ a) (h2 : a ≤ 1000000) (h3 : 0 < b) (h4 : b ≤ 1000000) : f_J9_floorDiv_7cf53 (J a) (J b) = some (J (a / b)) := by
  unfold f_J9_floorDiv_7cf53
  rw [grd_t (J_ne0 (by omega) (by omega) (by omega)), nm_s]
  by_cases h : 0 ≤ a
  · rw [if_pos ((xor_nn (by omega) (by omega) (by omega) (by omega)).mpr h), J_div h (by omega) h3 (by omega)]
  · rw [if_neg (fun c => h ((xor_nn (by omega) (by omega) (by omega) (by omega)).mp c)), J_tdiv (by omega) (by omega) (by omega) (by omega), J_mul]
    have e1 := Int.mul_tdiv_add_tmod a b
    have e2 := Int.mul_ediv_add_emod a b
    have m1 := Int.emod_nonneg a (show b ≠ 0 by omega)
    have m2 := Int.emod_lt_of_pos a h3
    have m3 : -b < a.tmod b ∧ a.tmod b ≤ 0 := by
      have := Int.tmod_eq_emod (a := a) (b := b)
      constructor
      · have := Int.lt_tmod_of_pos a h3
        omega
      · have := Int.tmod_nonneg (a := -a) b (by omega)
        rw [Int.neg_tmod] at this
        omega
    have eb : b * (a.tdiv b - a / b) = a % b - a.tmod b := by
      rw [Int.mul_sub]
      omega
    by_cases c : a.tdiv b * b = a
    · rw [c, if_pos rfl]
      have hz : a.tmod b = 0 := by
        rw [Int.mul_comm] at c
        omega
      have : a.tdiv b = a / b := by
        rw [hz] at eb
        have hd : a.tdiv b - a / b = 0 := by
          by_cases h0 : a.tdiv b - a / b ≤ 0
          · by_cases h01 : a.tdiv b - a / b = 0
            · exact h01
            · have : b * (a.tdiv b - a / b) ≤ b * (-1) := Int.mul_le_mul_of_nonneg_left (by omega) (by omega)
              omega
          · have : b * 1 ≤ b * (a.tdiv b - a / b) := Int.mul_le_mul_of_nonneg_left (by omega) (by omega)
            omega
        omega
      rw [this]
    · have hr : -1000000 ≤ a.tdiv b * b ∧ a.tdiv b * b ≤ 1000000 := by
        rw [Int.mul_comm]
        omega
      rw [if_neg (by rw [J_eq (by omega) (by omega) (by omega) (by omega)]; exact c)]
      have hz : a.tmod b ≠ 0 := by
        intro hz
        apply c
        rw [Int.mul_comm]
        omega
      have : a.tdiv b - 1 = a / b := by
        have hd : a.tdiv b - a / b = 1 := by
          by_cases h0 : a.tdiv b - a / b ≤ 0
          · have : b * (a.tdiv b - a / b) ≤ b * 0 := Int.mul_le_mul_of_nonneg_left (by omega) (by omega)
            omega
          · by_cases h01 : a.tdiv b - a / b = 1
            · exact h01
            · have : b * 2 ≤ b * (a.tdiv b - a / b) := Int.mul_le_mul_of_nonneg_left (by omega) (by omega)
              omega
        omega
      rw [show (1 : Int32) = J 1 from rfl, J_sub, this]
theorem t_downBy {a b : Int} (h1 : -1000000 ≤ a) (h2 : a ≤ 1000000) (h3 : 0 < b) (h4 : b ≤ 1000000) : f_X11_downBy (J a) (J b) = some (J (a / b)) := by
  unfold f_X11_downBy
  by_cases h : 0 ≤ a
  · rw [if_pos (show 0 ≤ J a by rw [show (0 : Int32) = J 0 from rfl, J_le (by omega) (by omega) (by omega) (by omega)]; exact h), grd_t (J_ne0 (by omega) (by omega) (by omega)), J_div h (by omega) h3 (by omega)]
  · rw [if_neg (show ¬ 0 ≤ J a by rw [show (0 : Int32) = J 0 from rfl, J_le (by omega) (by omega) (by omega) (by omega)]; exact h), grd_t (J_ne0 (by omega) (by omega) (by omega)), J_neg, J_add, show (1 : Int32) = J 1 from rfl, J_sub, J_div (by omega) (by omega) h3 (by omega), J_neg]
    have e1 := Int.mul_ediv_add_emod a b
    have m1 := Int.emod_nonneg a (show b ≠ 0 by omega)
    have m2 := Int.emod_lt_of_pos a h3
    have e2 := Int.mul_ediv_add_emod (-a + b - 1) b
    have m3 := Int.emod_nonneg (-a + b - 1) (show b ≠ 0 by omega)
    have m4 := Int.emod_lt_of_pos (-a + b - 1) h3
    have : -((-a + b - 1) / b) = a / b := by
      have hd : a / b + (-a + b - 1) / b = 0 := by
        have eb : b * (a / b + (-a + b - 1) / b) = b - 1 - a % b - (-a + b - 1) % b := by
          rw [Int.mul_add]
          omega
        by_cases h0 : a / b + (-a + b - 1) / b ≤ 0
        · by_cases h01 : a / b + (-a + b - 1) / b = 0
          · exact h01
          · have : b * (a / b + (-a + b - 1) / b) ≤ b * (-1) := Int.mul_le_mul_of_nonneg_left (by omega) (by omega)
            omega
        · have : b * 1 ≤ b * (a / b + (-a + b - 1) / b) := Int.mul_le_mul_of_nonneg_left (by omega) (by omega)
          omega
      omega
    rw [this]
/-- the exact number on the line, to the nearest whole one -/
def nq (a : Int) (i L : Nat) : Int := (2 * (a * i) + L) / (2 * L)
def nqb (L i t : Nat) : Bool := !(decide (i < L) && decide (1 ≤ i) && decide (-(L : Int) ≤ (t : Int) - 11) && decide ((t : Int) - 11 ≤ L)) || ((decide ((t : Int) - 11 < 0) || (decide (0 ≤ nq ((t : Int) - 11) i L) && decide (nq ((t : Int) - 11) i L ≤ (t : Int) - 11))) && (decide (0 ≤ (t : Int) - 11) || (decide ((t : Int) - 11 ≤ nq ((t : Int) - 11) i L) && decide (nq ((t : Int) - 11) i L ≤ 0))) && (decide ((t : Int) - 11 ≠ L) || decide (nq ((t : Int) - 11) i L = i)) && (decide ((t : Int) - 11 ≠ -(L : Int)) || decide (nq ((t : Int) - 11) i L = -(i : Int))))
theorem nq_all : ∀ L : Nat, L < 12 → ∀ i : Nat, i < 12 → ∀ t : Nat, t < 23 → nqb L i t = true := by decide +kernel
theorem nq_b {a : Int} {i L : Nat} (hL : L < 12) (hi : i < L) (hi1 : 1 ≤ i) (h1 : -(L : Int) ≤ a) (h2 : a ≤ L) : (0 ≤ a → 0 ≤ nq a i L ∧ nq a i L ≤ a) ∧ (a < 0 → a ≤ nq a i L ∧ nq a i L ≤ 0) ∧ (a = L → nq a i L = i) ∧ (a = -(L : Int) → nq a i L = -(i : Int)) := by
  have := nq_all L hL i (by omega) (a + 11).toNat (by omega)
  unfold nqb at this
  rw [show ((a + 11).toNat : Int) - 11 = a by omega] at this
  simp only [hi, hi1, h1, h2, decide_true, Bool.and_self, Bool.not_true, Bool.false_or, Bool.and_eq_true, Bool.or_eq_true, decide_eq_true_eq] at this
  obtain ⟨⟨⟨q1, q2⟩, q3⟩, q4⟩ := this
  refine ⟨fun h => ?_, fun h => ?_, fun h => ?_, fun h => ?_⟩
  · rcases q1 with q | q
    · omega
    · exact q
  · rcases q2 with q | q
    · omega
    · exact q
  · rcases q3 with q | q
    · exact absurd h q
    · exact q
  · rcases q4 with q | q
    · exact absurd h q
    · exact q
theorem t_nearest {a : Int} {i L : Nat} (hL : L < 12) (hi : i < L) (h1 : -11 ≤ a) (h2 : a ≤ 11) : f_X2_nearest (J (a * i)) (J L) = some (J (nq a i L)) := by
  unfold f_X2_nearest nq
  have hb1 : -121 ≤ a * (i : Int) := by
    have : (-11) * (i : Int) ≤ a * (i : Int) := Int.mul_le_mul_of_nonneg_right h1 (by omega)
    omega
  have hb2 : a * (i : Int) ≤ 121 := by
    have : a * (i : Int) ≤ 11 * (i : Int) := Int.mul_le_mul_of_nonneg_right h2 (by omega)
    omega
  simp (disch := omega) only [↓nm_s, ↓grd_s, ↓reduceIte, J_lit, J_nI, J_add, J_sub, J_mul, J_neg, Int.cast_ofNat_Int, J_lt_t, J_lt_f, J_le_t, J_le_f, J_eq_t, J_eq_f, within_t, within_f, isIn_t, isIn_f, inRow_t, inRow_f, isCell_t, isCell_f, inb_t, ix_Jn, ix_J, Int.reduceToNat, Int.toNat_natCast, mset_ne, mset_eq, mrow_ne, mrow_eq, upd_eq, upd_ne, bind_s, bnd2_s, not_true_eq_false, not_false_eq_true, Nat.reduceAdd, t_floorDiv]
theorem t_abs {a : Int} (h1 : -1000 ≤ a) (h2 : a ≤ 1000) : f_J9_abs_0f7a4 (J a) = J (if 0 ≤ a then a else -a) ∧ f_X11_abs (J a) = J (if 0 ≤ a then a else -a) := by
  unfold f_J9_abs_0f7a4 f_X11_abs
  by_cases h : 0 ≤ a
  · simp (disch := omega) only [↓nm_s, ↓grd_s, ↓reduceIte, J_lit, J_nI, J_add, J_sub, J_mul, J_neg, Int.cast_ofNat_Int, J_lt_t, J_lt_f, J_le_t, J_le_f, J_eq_t, J_eq_f, within_t, within_f, isIn_t, isIn_f, inRow_t, inRow_f, isCell_t, isCell_f, inb_t, ix_Jn, ix_J, Int.reduceToNat, Int.toNat_natCast, mset_ne, mset_eq, mrow_ne, mrow_eq, upd_eq, upd_ne, bind_s, bnd2_s, not_true_eq_false, not_false_eq_true, Nat.reduceAdd, h]
    exact ⟨trivial, trivial⟩
  · simp (disch := omega) only [↓nm_s, ↓grd_s, ↓reduceIte, J_lit, J_nI, J_add, J_sub, J_mul, J_neg, Int.cast_ofNat_Int, J_lt_t, J_lt_f, J_le_t, J_le_f, J_eq_t, J_eq_f, within_t, within_f, isIn_t, isIn_f, inRow_t, inRow_f, isCell_t, isCell_f, inb_t, ix_Jn, ix_J, Int.reduceToNat, Int.toNat_natCast, mset_ne, mset_eq, mrow_ne, mrow_eq, upd_eq, upd_ne, bind_s, bnd2_s, not_true_eq_false, not_false_eq_true, Nat.reduceAdd, h]
    exact ⟨trivial, trivial⟩
