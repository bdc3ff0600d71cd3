/-! ===== a law: the class's loop with a counter beside it ===== -/
noncomputable def BL (l : Int32) (M : zM) : Option ((Int32 × zM) ⊕ ((Int32 × zM) ⊕ (Int32 × zM))) := match b_X3_read_10 55 M with
  | none => none
  | some (.inl M') => some (.inl (l + J 1, M'))
  | some (.inr (.inl M')) => some (.inr (.inl (l, M')))
  | some (.inr (.inr r)) => some (.inr (.inr r))
def blR (r : (Int32 × zM) ⊕ (Int32 × zM)) : zM ⊕ (Int32 × zM) := match r with | .inl x => .inl x.2 | .inr y => .inr y
theorem bl_loop : ∀ (m : Nat) (l : Int32) (M : zM) (r : (Int32 × zM) ⊕ (Int32 × zM)), loopN (fun s : Int32 × zM => BL s.1 s.2) m (l, M) = some r → loopN (fun s => b_X3_read_10 55 s) m M = some (blR r) := by
  intro m
  induction m with
  | zero =>
    intro l M r h
    exact absurd h (by simp [loopN])
  | succ m ih =>
    intro l M r h
    simp only [loopN] at h ⊢
    unfold BL at h
    cases hb : b_X3_read_10 55 M with
    | none => rw [hb] at h; exact absurd h (by simp)
    | some z =>
      rw [hb] at h
      cases z with
      | inl M' => exact ih _ M' r h
      | inr t =>
        cases t with
        | inl M' =>
          simp only [Option.some.injEq] at h
          subst h
          rfl
        | inr y =>
          simp only [Option.some.injEq] at h
          subst h
          rfl
theorem bl_W {l : Int32} {M : zM} {r : (Int32 × zM) ⊕ (Int32 × zM)} (h : loopW (fun s : Int32 × zM => BL s.1 s.2) (l, M) = some r) : loopW (fun s => b_X3_read_10 55 s) M = some (blR r) := by
  obtain ⟨m, hm⟩ := loopW_iff.1 h
  exact loopW_iff.2 ⟨m, bl_loop m l M r hm⟩
