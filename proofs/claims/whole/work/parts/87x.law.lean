/-! ===== a law: sums of both ===== -/
noncomputable def CL (v u k : Int32) (M : zM) : Option ((zM) ⊕ (Int32 × zM)) := loopW (fun s => b_X3_readSum_12 55 s.1 s.2.1 s.2.2.1 s.2.2.2) (v, u, k, M)
def wvL (w : Nat) : Int32 := if w = 0 then J (-1) else if w = 2 then J 43 else J 45
theorem cl_0 (v k : Int32) (M : zM) : CL v (J 0) k M = some (.inl M) := by
  unfold CL
  rw [loopW_eq]
  unfold b_X3_readSum_12
  simp only
  by_cases c : (400 : Int32) ≤ k
  · rw [if_pos c]
  · rw [if_neg c, if_pos (by rfl)]
theorem cl_mul {M N : zM} {tp : Nat → Nat} {n NN : Nat} {P E : Nat → Nat} {j q k : Nat} (v : Int32) (h : TS M N tp n NN P E j q) (h1 : M 80 j = J 42) (hk : k < 400) (hj : j < NN) : CL v (J 1) (J k) M = (bnd2 (f_X3_readUnit 55 (J 0) (mset M 78 7 (J (j + 1 : Nat)))) fun u M1 => (f_X3_emit 55 (J 10042) M1).bind fun M2 => CL v u (J (k + 1 : Nat)) M2) := by
  have hkd := i_kind h
  have nx := i_next h hj
  have e : J 10000 + J 42 = J 10042 := by decide
  rw [show CL v (J 1) (J k) M = loopW (fun s => b_X3_readSum_12 55 s.1 s.2.1 s.2.2.1 s.2.2.2) (v, J 1, J k, M) from rfl, loopW_eq]
  simp only
  have step : b_X3_readSum_12 55 v (J 1) (J k) M = (bnd2 (f_X3_readUnit 55 (J 0) (mset M 78 7 (J (j + 1 : Nat)))) fun u M1 => (f_X3_emit 55 (J 10042) M1).bind fun M2 => some (.inl (v, u, J (k : Int) + J 1, M2))) := by
    unfold b_X3_readSum_12
    rw [hkd, h1]
    simp (disch := omega) only [↓reduceIte, J_lit, Int.cast_ofNat_Int, J_lt_t, J_lt_f, J_le_t, J_le_f, J_eq_t, J_eq_f, within_t, within_f, isIn_t, isIn_f, inRow_t, inRow_f, isCell_t, isCell_f, inb_t, bind_s]
    unfold j_X3_readSum_44_12 j_X3_readSum_49_12
    simp (disch := omega) only [↓reduceIte, J_lit, Int.cast_ofNat_Int, J_lt_t, J_lt_f, J_le_t, J_le_f, J_eq_t, J_eq_f, within_t, within_f, isIn_t, isIn_f, inRow_t, inRow_f, isCell_t, isCell_f, inb_t]
    unfold j_X3_readSum_70_12 
    simp (disch := omega) only [↓reduceIte, J_lit, Int.cast_ofNat_Int, J_lt_t, J_lt_f, J_le_t, J_le_f, J_eq_t, J_eq_f, within_t, within_f, isIn_t, isIn_f, inRow_t, inRow_f, isCell_t, isCell_f, inb_t]
    unfold j_X3_readSum_91_12 
    rw [nx]
    simp (disch := omega) only [↓reduceIte, J_lit, Int.cast_ofNat_Int, J_lt_t, J_lt_f, J_le_t, J_le_f, J_eq_t, J_eq_f, within_t, within_f, isIn_t, isIn_f, inRow_t, inRow_f, isCell_t, isCell_f, inb_t, bind_s]
    unfold j_X3_readSum_109_12 j_X3_readSum_134_12
    simp (disch := omega) only [↓reduceIte, J_lit, Int.cast_ofNat_Int, e, J_lt_t, J_lt_f, J_le_t, J_le_f, J_eq_t, J_eq_f, within_t, within_f, isIn_t, isIn_f, inRow_t, inRow_f, isCell_t, isCell_f, inb_t]
  rw [step]
  cases f_X3_readUnit 55 (J 0) (mset M 78 7 (J (j + 1 : Nat))) with
  | none => rfl
  | some y =>
    obtain ⟨a, b⟩ := y
    simp only [bnd2_s]
    cases f_X3_emit 55 (J 10042) b with
    | none => rfl
    | some z =>
      simp only [bind_s]
      rw [J_s]
      rfl
theorem cl_div {M N : zM} {tp : Nat → Nat} {n NN : Nat} {P E : Nat → Nat} {j q k : Nat} (v : Int32) (h : TS M N tp n NN P E j q) (h1 : M 80 j = J 47) (hk : k < 400) (hj : j < NN) : CL v (J 1) (J k) M = (bnd2 (f_X3_readUnit 55 (J 1) (mset M 78 7 (J (j + 1 : Nat)))) fun u M1 => (f_X3_emit 55 (J 10047) M1).bind fun M2 => CL v u (J (k + 1 : Nat)) M2) := by
  have hkd := i_kind h
  have nx := i_next h hj
  have e : J 10000 + J 47 = J 10047 := by decide
  rw [show CL v (J 1) (J k) M = loopW (fun s => b_X3_readSum_12 55 s.1 s.2.1 s.2.2.1 s.2.2.2) (v, J 1, J k, M) from rfl, loopW_eq]
  simp only
  have step : b_X3_readSum_12 55 v (J 1) (J k) M = (bnd2 (f_X3_readUnit 55 (J 1) (mset M 78 7 (J (j + 1 : Nat)))) fun u M1 => (f_X3_emit 55 (J 10047) M1).bind fun M2 => some (.inl (v, u, J (k : Int) + J 1, M2))) := by
    unfold b_X3_readSum_12
    rw [hkd, h1]
    simp (disch := omega) only [↓reduceIte, J_lit, Int.cast_ofNat_Int, J_lt_t, J_lt_f, J_le_t, J_le_f, J_eq_t, J_eq_f, within_t, within_f, isIn_t, isIn_f, inRow_t, inRow_f, isCell_t, isCell_f, inb_t, bind_s]
    unfold j_X3_readSum_44_12 j_X3_readSum_49_12
    simp (disch := omega) only [↓reduceIte, J_lit, Int.cast_ofNat_Int, J_lt_t, J_lt_f, J_le_t, J_le_f, J_eq_t, J_eq_f, within_t, within_f, isIn_t, isIn_f, inRow_t, inRow_f, isCell_t, isCell_f, inb_t]
    unfold j_X3_readSum_70_12 
    simp (disch := omega) only [↓reduceIte, J_lit, Int.cast_ofNat_Int, J_lt_t, J_lt_f, J_le_t, J_le_f, J_eq_t, J_eq_f, within_t, within_f, isIn_t, isIn_f, inRow_t, inRow_f, isCell_t, isCell_f, inb_t]
    unfold j_X3_readSum_91_12 
    rw [nx]
    simp (disch := omega) only [↓reduceIte, J_lit, Int.cast_ofNat_Int, J_lt_t, J_lt_f, J_le_t, J_le_f, J_eq_t, J_eq_f, within_t, within_f, isIn_t, isIn_f, inRow_t, inRow_f, isCell_t, isCell_f, inb_t, bind_s]
    unfold j_X3_readSum_109_12 j_X3_readSum_134_12
    simp (disch := omega) only [↓reduceIte, J_lit, Int.cast_ofNat_Int, e, J_lt_t, J_lt_f, J_le_t, J_le_f, J_eq_t, J_eq_f, within_t, within_f, isIn_t, isIn_f, inRow_t, inRow_f, isCell_t, isCell_f, inb_t]
  rw [step]
  cases f_X3_readUnit 55 (J 1) (mset M 78 7 (J (j + 1 : Nat))) with
  | none => rfl
  | some y =>
    obtain ⟨a, b⟩ := y
    simp only [bnd2_s]
    cases f_X3_emit 55 (J 10047) b with
    | none => rfl
    | some z =>
      simp only [bind_s]
      rw [J_s]
      rfl
/-- the class behind the sign that waited -/
noncomputable def CT (k kk : Nat) (M : zM) : Option ((zM) ⊕ (Int32 × zM)) := if kk = 43 ∨ kk = 45 then (f_X5_next M).bind fun M1 => bnd2 (f_X3_readUnit 55 (J 0) M1) fun u M2 => CL (J kk) u (J (k + 1 : Nat)) M2 else some (.inr (J 1, M))
theorem cl_else {M N : zM} {tp : Nat → Nat} {n NN : Nat} {P E : Nat → Nat} {j q k kk w : Nat} (hw : w = 0 ∨ w = 2 ∨ w = 3) (h : TS M N tp n NN P E j q) (hkk : M 80 j = J kk) (hk2 : kk < 157) (h1 : kk ≠ 42) (h2 : kk ≠ 47) (hk : k < 400) : CL (wvL w) (J 1) (J k) M = (if w = 0 then some M else f_X3_emit 55 (J 10000 + wvL w) M).bind (CT k kk) := by
  have hkd := i_kind h
  rw [show CL (wvL w) (J 1) (J k) M = loopW (fun s => b_X3_readSum_12 55 s.1 s.2.1 s.2.2.1 s.2.2.2) (wvL w, J 1, J k, M) from rfl, loopW_eq]
  simp only
  have tail : ∀ M1 : zM, (match j_X3_readSum_70_12 55 (wvL w) (J k) (J kk) (J 0) M1 with | none => none | some (.inl s) => loopW (fun s => b_X3_readSum_12 55 s.1 s.2.1 s.2.2.1 s.2.2.2) s | some (.inr r) => some r) = CT k kk M1 := by
    intro M1
    unfold j_X3_readSum_70_12 j_X3_readSum_91_12 j_X3_readSum_109_12 j_X3_readSum_134_12 CT
    have fin : ∀ kk' : Int32, (match ((f_X5_next M1).bind fun M92 => bnd2 (f_X3_readUnit 55 (J 0) M92) fun u M2 => (some (.inl (kk', u, J (k : Int) + J 1, M2)) : Option ((Int32 × Int32 × Int32 × zM) ⊕ ((zM) ⊕ (Int32 × zM))))) with | none => none | some (.inl s) => loopW (fun s => b_X3_readSum_12 55 s.1 s.2.1 s.2.2.1 s.2.2.2) s | some (.inr r) => some r) = (f_X5_next M1).bind fun M92 => bnd2 (f_X3_readUnit 55 (J 0) M92) fun u M2 => CL kk' u (J (k + 1 : Nat)) M2 := by
      intro kk'
      cases f_X5_next M1 with
      | none => rfl
      | some y =>
        simp only [bind_s]
        cases f_X3_readUnit 55 (J 0) y with
        | none => rfl
        | some z =>
          obtain ⟨a, b⟩ := z
          simp only [bnd2_s]
          rw [J_s]
          rfl
    by_cases c1 : kk = 43
    · rw [if_pos (Or.inl c1)]
      simp (disch := omega) only [↓reduceIte, J_lit, Int.cast_ofNat_Int, J_lt_t, J_lt_f, J_le_t, J_le_f, J_eq_t, J_eq_f, within_t, within_f, isIn_t, isIn_f, inRow_t, inRow_f, isCell_t, isCell_f, inb_t]
      exact fin (J kk)
    · by_cases c2 : kk = 45
      · rw [if_pos (Or.inr c2)]
        simp (disch := omega) only [↓reduceIte, J_lit, Int.cast_ofNat_Int, J_lt_t, J_lt_f, J_le_t, J_le_f, J_eq_t, J_eq_f, within_t, within_f, isIn_t, isIn_f, inRow_t, inRow_f, isCell_t, isCell_f, inb_t]
        exact fin (J kk)
      · rw [if_neg (show ¬ (kk = 43 ∨ kk = 45) by omega)]
        simp (disch := omega) only [↓reduceIte, J_lit, Int.cast_ofNat_Int, J_lt_t, J_lt_f, J_le_t, J_le_f, J_eq_t, J_eq_f, within_t, within_f, isIn_t, isIn_f, inRow_t, inRow_f, isCell_t, isCell_f, inb_t]
  have hwv : (w = 0 ∧ wvL w = J (-1)) ∨ (w ≠ 0 ∧ ¬ wvL w = J (-1)) := by
    rcases hw with e | e | e <;> subst e
    · exact Or.inl ⟨rfl, rfl⟩
    · exact Or.inr ⟨by omega, by decide⟩
    · exact Or.inr ⟨by omega, by decide⟩
  have step : b_X3_readSum_12 55 (wvL w) (J 1) (J k) M = (if w = 0 then some M else f_X3_emit 55 (J 10000 + wvL w) M).bind (fun M1 => j_X3_readSum_70_12 55 (wvL w) (J k) (J kk) (J 0) M1) := by
    unfold b_X3_readSum_12 j_X3_readSum_49_12
    rcases hwv with ⟨e1, e2⟩ | ⟨e1, e2⟩
    · rw [if_pos e1]
      simp (disch := omega) only [↓reduceIte, J_lit, J_neg, Int.cast_ofNat_Int, J_lt_t, J_lt_f, J_le_t, J_le_f, J_eq_t, J_eq_f, within_t, within_f, isIn_t, isIn_f, inRow_t, inRow_f, isCell_t, isCell_f, inb_t, hkd, hkk, bind_s, e2]
    · rw [if_neg e1]
      simp (disch := omega) only [↓reduceIte, J_lit, J_neg, Int.cast_ofNat_Int, J_lt_t, J_lt_f, J_le_t, J_le_f, J_eq_t, J_eq_f, within_t, within_f, isIn_t, isIn_f, inRow_t, inRow_f, isCell_t, isCell_f, inb_t, hkd, hkk, bind_s, e2]
  rw [step]
  cases (if w = 0 then some M else f_X3_emit 55 (J 10000 + wvL w) M) with
  | none => rfl
  | some y =>
    simp only [bind_s]
    rw [← tail y]
    cases j_X3_readSum_70_12 55 (wvL w) (J k) (J kk) (J 0) y with
    | none => rfl
    | some z => cases z <;> rfl
