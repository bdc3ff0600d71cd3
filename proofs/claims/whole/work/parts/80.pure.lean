/-- OWED: the pure statement -/
theorem law_pure (L : Nat) (xs : Nat → Int32) (hL : L ≤ 3072) : f_law L xs Mst = some 1 := sorry
