/-! ===== what is owed yet: the reading of a law ===== -/
theorem p_law {tp : Nat → Nat} {n NN : Nat} {P E : Nat → Nat} {M N : zM} (h : TS M N tp n NN P E 0 0) (h17 : N 257 17 = J 0) (h12 : N 257 12 = J 0) :
    (∃ (l' : Nat) (M' N' : zM), l' ≤ 16 ∧ f_X3_read 55 M = some (J l', M') ∧ loopW (fun s => b_X11_text_131 (J 0) s.1 s.2) (J 0, N) = some (J l', N') ∧ DLw N l' M' N' ∧ (N' 257 10 = J (-1) ∧ M' 78 1 = J 0 ∧ M' 78 2 = J (-1)) ∧ FrC M M' ∧ FrN N N') ∨
    (∃ (v : Int32) (M' N' : zM), f_X3_read 55 M = some (J (-1), M') ∧ loopW (fun s => b_X11_text_131 (J 0) s.1 s.2) (J 0, N) = some (v, N') ∧ FL M' N' ∧ FrC M M' ∧ FrN N N') := sorry
