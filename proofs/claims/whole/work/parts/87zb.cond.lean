/-! ===== a law: where the reference stands in a condition ===== -/
noncomputable def FA (N : zM) : Option zM := loopW (fun s => b_X11_readEither_7 s.1 s.2) (J 1, N)
noncomputable def FC (s : Int32) (N : zM) : Option zM := (loopW (fun s => b_X11_readEither_46_7 s.1 s.2) (s, N)).bind fun r => loopW (fun s => b_X11_readEither_7 s.1 s.2) (r.1, r.2)
noncomputable def FB (N : zM) : Option zM := bnd2 (f_X11_goesOnWith N) fun u N1 => if u = J 0 then FC (J 0) N1 else FC (J 1) N1
noncomputable def FT (N : zM) : Option zM := (f_X11_readTwo N).bind fun N2 => if f_X11_fine N2 = J 0 then FC (J 0) N2 else FB N2
noncomputable def FO (N : zM) : Option zM := (loopW (fun s => b_X11_readOpening_2 s.1 s.2) (J 1, N)).bind FT
theorem fe_0 (N : zM) : loopW (fun s => b_X11_readEither_7 s.1 s.2) (J 0, N) = some N := by
  rw [loopW_eq]
  unfold b_X11_readEither_7
  rw [if_pos (by rfl)]
theorem fa_bad {N : zM} {p : Nat} (hp : p < 2147483648) (h : N 257 10 = J p) : FA N = some N := by
  unfold FA
  rw [loopW_eq]
  unfold b_X11_readEither_7
  rw [if_neg (show ¬ J 1 = (0 : Int32) by decide), if_pos (show f_X11_fine N = (0 : Int32) from fine_f hp h)]
theorem fc_bad {N : zM} {p : Nat} (hp : p < 2147483648) (h : N 257 10 = J p) : FC (J 0) N = some N := by
  unfold FC
  have e : loopW (fun s => b_X11_readEither_46_7 s.1 s.2) (J 0, N) = some (J 0, N) := by
    rw [loopW_eq]
    unfold b_X11_readEither_46_7
    rw [if_pos (by rfl), if_pos (show f_X11_fine N = (0 : Int32) from fine_f hp h)]
  rw [e]
  exact fe_0 N
theorem fc_end {N : zM} (h10 : N 257 10 = J (-1)) (h : N 257 19 = J 0) : FC (J 0) N = some N := by
  unfold FC
  have f0 : ¬ f_X11_fine N = (0 : Int32) := by rw [fine_t h10]; decide
  have e : loopW (fun s => b_X11_readEither_46_7 s.1 s.2) (J 0, N) = some (J 0, N) := by
    rw [loopW_eq]
    unfold b_X11_readEither_46_7
    rw [if_pos (by rfl), if_neg f0, if_pos (show N 257 19 ≤ (0 : Int32) by rw [h]; decide)]
  rw [e]
  exact fe_0 N
theorem fc_1 (N : zM) : FC (J 1) N = FA N := by
  unfold FC FA
  have e : loopW (fun s => b_X11_readEither_46_7 s.1 s.2) (J 1, N) = some (J 1, N) := by
    rw [loopW_eq]
    unfold b_X11_readEither_46_7
    rw [if_neg (show ¬ J 1 = (0 : Int32) by decide)]
  rw [e]
  rfl
/-- the body's end, seen from outside -/
theorem fe_45 (s : Int32) (N : zM) : (match j_X11_readEither_45_7 s N with | none => none | some (.inl t) => loopW (fun s => b_X11_readEither_7 s.1 s.2) t | some (.inr r) => some r) = FC s N := by
  unfold j_X11_readEither_45_7 FC
  cases loopW (fun s => b_X11_readEither_46_7 s.1 s.2) (s, N) with
  | none => rfl
  | some y => rfl
theorem fa_go {N : zM} (h10 : N 257 10 = J (-1)) : FA N = FO N := by
  have f0 : ¬ f_X11_fine N = (0 : Int32) := by rw [fine_t h10]; decide
  have step : b_X11_readEither_7 (J 1) N = (loopW (fun s => b_X11_readOpening_2 s.1 s.2) (J 1, N)).bind fun N1 => (f_X11_readTwo N1).bind fun N2 => if f_X11_fine N2 = J 0 then j_X11_readEither_45_7 (J 0) N2 else (bnd2 (f_X11_goesOnWith N2) fun u N3 => if u = J 0 then j_X11_readEither_45_7 (J 0) N3 else j_X11_readEither_45_7 (J 1) N3) := by
    unfold b_X11_readEither_7
    rw [if_neg (show ¬ J 1 = (0 : Int32) by decide), if_neg f0]
    unfold f_X11_readOpening j_X11_readOpening_80
    have e1 : loopW (fun s => b_X11_readOpening_2 s.1 s.2) ((1 : Int32), N) = loopW (fun s => b_X11_readOpening_2 s.1 s.2) (J 1, N) := rfl
    rw [e1]
    cases loopW (fun s => b_X11_readOpening_2 s.1 s.2) (J 1, N) with
    | none => rfl
    | some N1 => rfl
  have out : ∀ (s : Int32) (N2 : zM), (match j_X11_readEither_45_7 s N2 with | none => none | some (.inl t) => loopW (fun s => b_X11_readEither_7 s.1 s.2) t | some (.inr r) => some r) = FC s N2 := fe_45
  unfold FA FO
  rw [loopW_eq]
  simp only
  rw [step]
  cases loopW (fun s => b_X11_readOpening_2 s.1 s.2) (J 1, N) with
  | none => rfl
  | some N1 =>
    simp only [bind_s]
    unfold FT
    cases f_X11_readTwo N1 with
    | none => rfl
    | some N2 =>
      simp only [bind_s]
      by_cases c : f_X11_fine N2 = J 0
      · rw [if_pos c, if_pos c, ← out]
        cases j_X11_readEither_45_7 (J 0) N2 with
        | none => rfl
        | some z => cases z <;> rfl
      · rw [if_neg c, if_neg c]
        unfold FB
        cases f_X11_goesOnWith N2 with
        | none => rfl
        | some z =>
          obtain ⟨u, N3⟩ := z
          simp only [bnd2_s]
          by_cases c2 : u = J 0
          · rw [if_pos c2, if_pos c2, ← out]
            cases j_X11_readEither_45_7 (J 0) N3 with
            | none => rfl
            | some z => cases z <;> rfl
          · rw [if_neg c2, if_neg c2, ← out]
            cases j_X11_readEither_45_7 (J 1) N3 with
            | none => rfl
            | some z => cases z <;> rfl
