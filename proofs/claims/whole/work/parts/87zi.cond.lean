/-! ===== a law: a condition of the class, step by step ===== -/
theorem TS_bk {M N M' N' : zM} {tp : Nat → Nat} {n NN : Nat} {P E : Nat → Nat} {j q q' : Nat} (h : TS M N tp n NN P E j q) (h' : TS M' N' tp n NN P E j q') : TS M N' tp n NN P E j q' := ⟨h.1, h'.2.1, h.2.2.1, h.2.2.2.1, h'.2.2.2.2⟩
noncomputable def CLp (rS : Nat → Int32 → zM → Option (Int32 × zM)) (p : Nat) (o u k : Int32) (M : zM) : Option (Int32 × zM) := (loopW (fun s => b_X3_readCondition_13 rS 55 (J p) s.1 s.2.1 s.2.2.1 s.2.2.2) (o, u, k, M)).bind (fun q => Sum.elim (fun r => j_X3_readCondition_107 rS 55 r) some q)
theorem clp_eq (rS : Nat → Int32 → zM → Option (Int32 × zM)) (p : Nat) (o u k : Int32) (M : zM) : CLp rS p o u k M = (match b_X3_readCondition_13 rS 55 (J p) o u k M with | none => none | some (.inl s) => CLp rS p s.1 s.2.1 s.2.2.1 s.2.2.2 | some (.inr (.inl r)) => some (J 0, r) | some (.inr (.inr r)) => some r) := by
  unfold CLp
  rw [loopW_eq]
  simp only
  cases b_X3_readCondition_13 rS 55 (J p) o u k M with
  | none => rfl
  | some z =>
    cases z with
    | inl s => rfl
    | inr t =>
      cases t with
      | inl r => rfl
      | inr r => rfl
theorem clp_0 (rS : Nat → Int32 → zM → Option (Int32 × zM)) (p : Nat) (o k : Int32) (M : zM) : CLp rS p o (J 0) k M = some (J 0, M) := by
  have step : b_X3_readCondition_13 rS 55 (J p) o (J 0) k M = some (.inr (.inl M)) := by
    unfold b_X3_readCondition_13
    by_cases c : (400 : Int32) ≤ k
    · rw [if_pos c]
    · rw [if_neg c, if_pos (by rfl)]
  rw [clp_eq, step]
theorem clp_and {M N : zM} {tp : Nat → Nat} {n NN : Nat} {P E : Nat → Nat} {j q k p : Nat} (rS : Nat → Int32 → zM → Option (Int32 × zM)) (o : Int32) (h : TS M N tp n NN P E j q) (h1 : M 80 j = J 133) (hk : k < 400) (hj : j < NN) : CLp rS p o (J 1) (J k) M = (bnd2 (rS 55 (J p) (mset M 78 7 (J (j + 1 : Nat)))) fun u M1 => (f_X3_emit 55 (J 10133) M1).bind fun M2 => CLp rS p o u (J (k + 1 : Nat)) M2) := by
  have hkd := i_kind h
  have nx := i_next h hj
  have step : b_X3_readCondition_13 rS 55 (J p) o (J 1) (J k) M = (bnd2 (rS 55 (J p) (mset M 78 7 (J (j + 1 : Nat)))) fun u M1 => (f_X3_emit 55 (J 10133) M1).bind fun M2 => some (.inl (o, u, J (k : Int) + J 1, M2))) := by
    unfold b_X3_readCondition_13
    rw [hkd, h1]
    simp (disch := omega) only [↓reduceIte, J_lit, Int.cast_ofNat_Int, J_lt_t, J_lt_f, J_le_t, J_le_f, J_eq_t, J_eq_f, within_t, within_f, isIn_t, isIn_f, inRow_t, inRow_f, isCell_t, isCell_f, inb_t, bind_s]
    unfold j_X3_readCondition_51_13
    simp (disch := omega) only [↓reduceIte, J_lit, Int.cast_ofNat_Int, J_lt_t, J_lt_f, J_le_t, J_le_f, J_eq_t, J_eq_f, within_t, within_f, isIn_t, isIn_f, inRow_t, inRow_f, isCell_t, isCell_f, inb_t]
    unfold j_X3_readCondition_69_13
    rw [nx]
    simp (disch := omega) only [↓reduceIte, J_lit, Int.cast_ofNat_Int, J_lt_t, J_lt_f, J_le_t, J_le_f, J_eq_t, J_eq_f, within_t, within_f, isIn_t, isIn_f, inRow_t, inRow_f, isCell_t, isCell_f, inb_t, bind_s]
    unfold j_X3_readCondition_101_13
    simp (disch := omega) only [J_lit, Int.cast_ofNat_Int]
  rw [clp_eq, step]
  cases rS 55 (J p) (mset M 78 7 (J (j + 1 : Nat))) with
  | none => rfl
  | some y =>
    obtain ⟨a, b⟩ := y
    simp only [bnd2_s]
    cases f_X3_emit 55 (J 10133) b with
    | none => rfl
    | some z =>
      simp only [bind_s]
      rw [J_s]
theorem clp_or {M N : zM} {tp : Nat → Nat} {n NN : Nat} {P E : Nat → Nat} {j q k p o : Nat} (rS : Nat → Int32 → zM → Option (Int32 × zM)) (ho : o ≤ 1) (h : TS M N tp n NN P E j q) (h1 : M 80 j = J 132) (hk : k < 400) : CLp rS p (J o) (J 1) (J k) M = (if o = 1 then f_X3_emit 55 (J 10132) M else some M).bind fun M1 => (f_X5_next M1).bind fun M2 => bnd2 (rS 55 (J p) M2) fun u M3 => CLp rS p (J 1) u (J (k + 1 : Nat)) M3 := by
  have hkd := i_kind h
  have e69 : ∀ M1 : zM, j_X3_readCondition_51_13 rS 55 (J p) (J o) (J k) (J 132) M1 = (f_X5_next M1).bind fun M2 => bnd2 (rS 55 (J p) M2) fun u M3 => some (.inl (J 1, u, J (k : Int) + J 1, M3)) := by
    intro M1
    unfold j_X3_readCondition_51_13
    simp (disch := omega) only [↓reduceIte, J_lit, Int.cast_ofNat_Int, J_lt_t, J_lt_f, J_le_t, J_le_f, J_eq_t, J_eq_f, within_t, within_f, isIn_t, isIn_f, inRow_t, inRow_f, isCell_t, isCell_f, inb_t]
    unfold j_X3_readCondition_69_13
    simp (disch := omega) only [↓reduceIte, J_lit, Int.cast_ofNat_Int, J_lt_t, J_lt_f, J_le_t, J_le_f, J_eq_t, J_eq_f, within_t, within_f, isIn_t, isIn_f, inRow_t, inRow_f, isCell_t, isCell_f, inb_t]
    unfold j_X3_readCondition_101_13
    simp (disch := omega) only [J_lit, Int.cast_ofNat_Int]
  have step : b_X3_readCondition_13 rS 55 (J p) (J o) (J 1) (J k) M = (if o = 1 then f_X3_emit 55 (J 10132) M else some M).bind fun M1 => (f_X5_next M1).bind fun M2 => bnd2 (rS 55 (J p) M2) fun u M3 => some (.inl (J 1, u, J (k : Int) + J 1, M3)) := by
    unfold b_X3_readCondition_13
    rw [hkd, h1]
    by_cases c : o = 1
    · subst c
      simp (disch := omega) only [↓reduceIte, J_lit, Int.cast_ofNat_Int, J_lt_t, J_lt_f, J_le_t, J_le_f, J_eq_t, J_eq_f, within_t, within_f, isIn_t, isIn_f, inRow_t, inRow_f, isCell_t, isCell_f, inb_t, bind_s]
      refine congrArg (Option.bind _) (funext fun M1 => ?_)
      exact e69 M1
    · have c0 : o = 0 := by omega
      subst c0
      simp (disch := omega) only [↓reduceIte, J_lit, Int.cast_ofNat_Int, J_lt_t, J_lt_f, J_le_t, J_le_f, J_eq_t, J_eq_f, within_t, within_f, isIn_t, isIn_f, inRow_t, inRow_f, isCell_t, isCell_f, inb_t, bind_s]
      exact e69 M
  rw [clp_eq, step]
  cases (if o = 1 then f_X3_emit 55 (J 10132) M else some M) with
  | none => rfl
  | some y =>
    simp only [bind_s]
    cases f_X5_next y with
    | none => rfl
    | some z =>
      simp only [bind_s]
      cases rS 55 (J p) z with
      | none => rfl
      | some t =>
        obtain ⟨a, b⟩ := t
        simp only [bnd2_s]
        rw [J_s]
theorem clp_end {M N : zM} {tp : Nat → Nat} {n NN : Nat} {P E : Nat → Nat} {j q k p o : Nat} (rS : Nat → Int32 → zM → Option (Int32 × zM)) (ho : o ≤ 1) (h : TS M N tp n NN P E j q) (h1 : ¬ M 80 j = J 133) (h2 : ¬ M 80 j = J 132) (hk : k < 400) : CLp rS p (J o) (J 1) (J k) M = (if o = 1 then f_X3_emit 55 (J 10132) M else some M).bind fun M1 => some (J 1, M1) := by
  have hkd := i_kind h
  have e69 : ∀ M1 : zM, j_X3_readCondition_51_13 rS 55 (J p) (J o) (J k) (M 80 j) M1 = some (.inr (.inr (J 1, M1))) := by
    intro M1
    unfold j_X3_readCondition_51_13
    simp only [J_lit, Int.cast_ofNat_Int, h1, h2, if_false]
  have step : b_X3_readCondition_13 rS 55 (J p) (J o) (J 1) (J k) M = (if o = 1 then f_X3_emit 55 (J 10132) M else some M).bind fun M1 => some (.inr (.inr (J 1, M1))) := by
    unfold b_X3_readCondition_13
    rw [hkd]
    by_cases c : o = 1
    · subst c
      simp (disch := omega) only [↓reduceIte, J_lit, Int.cast_ofNat_Int, J_lt_t, J_lt_f, J_le_t, J_le_f, J_eq_t, J_eq_f, within_t, within_f, isIn_t, isIn_f, inRow_t, inRow_f, isCell_t, isCell_f, inb_t, bind_s, h1]
      refine congrArg (Option.bind _) (funext fun M1 => ?_)
      exact e69 M1
    · have c0 : o = 0 := by omega
      subst c0
      simp (disch := omega) only [↓reduceIte, J_lit, Int.cast_ofNat_Int, J_lt_t, J_lt_f, J_le_t, J_le_f, J_eq_t, J_eq_f, within_t, within_f, isIn_t, isIn_f, inRow_t, inRow_f, isCell_t, isCell_f, inb_t, bind_s, h1]
      exact e69 M
  rw [clp_eq, step]
  cases (if o = 1 then f_X3_emit 55 (J 10132) M else some M) with
  | none => rfl
  | some y => rfl
