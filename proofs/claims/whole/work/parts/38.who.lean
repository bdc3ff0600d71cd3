/-! ===== the reference's fields by name; who stands where ===== -/
theorem th0 {w : Nat} (N : zM) (h : w < 16) : f_X11_has (J w) (J 0) N = some (N 259 (144 + 12 * w)) := by
  rw [t_has N (by omega) (by omega) (by omega) (by omega), show (144 + 12 * (w : Int) + 0).toNat = 144 + 12 * w by omega]
theorem ts0 {w : Nat} (v : Int32) (N : zM) (h : w < 16) : f_X11_sets (J w) (J 0) v N = some (mset N 259 (144 + 12 * w) v) := by
  rw [t_sets v N (by omega) (by omega) (by omega) (by omega), show (144 + 12 * (w : Int) + 0).toNat = 144 + 12 * w by omega]
theorem ta0 {w : Nat} (v : Int32) (N : zM) (h : w < 16) : f_X11_adds (J w) (J 0) v N = some (mset N 259 (144 + 12 * w) (N 259 (144 + 12 * w) + v)) := by
  rw [t_adds v N (by omega) (by omega) (by omega) (by omega), show (144 + 12 * (w : Int) + 0).toNat = 144 + 12 * w by omega]
theorem th1 {w : Nat} (N : zM) (h : w < 16) : f_X11_has (J w) (J 1) N = some (N 259 (145 + 12 * w)) := by
  rw [t_has N (by omega) (by omega) (by omega) (by omega), show (144 + 12 * (w : Int) + 1).toNat = 145 + 12 * w by omega]
theorem ts1 {w : Nat} (v : Int32) (N : zM) (h : w < 16) : f_X11_sets (J w) (J 1) v N = some (mset N 259 (145 + 12 * w) v) := by
  rw [t_sets v N (by omega) (by omega) (by omega) (by omega), show (144 + 12 * (w : Int) + 1).toNat = 145 + 12 * w by omega]
theorem ta1 {w : Nat} (v : Int32) (N : zM) (h : w < 16) : f_X11_adds (J w) (J 1) v N = some (mset N 259 (145 + 12 * w) (N 259 (145 + 12 * w) + v)) := by
  rw [t_adds v N (by omega) (by omega) (by omega) (by omega), show (144 + 12 * (w : Int) + 1).toNat = 145 + 12 * w by omega]
theorem th2 {w : Nat} (N : zM) (h : w < 16) : f_X11_has (J w) (J 2) N = some (N 259 (146 + 12 * w)) := by
  rw [t_has N (by omega) (by omega) (by omega) (by omega), show (144 + 12 * (w : Int) + 2).toNat = 146 + 12 * w by omega]
theorem ts2 {w : Nat} (v : Int32) (N : zM) (h : w < 16) : f_X11_sets (J w) (J 2) v N = some (mset N 259 (146 + 12 * w) v) := by
  rw [t_sets v N (by omega) (by omega) (by omega) (by omega), show (144 + 12 * (w : Int) + 2).toNat = 146 + 12 * w by omega]
theorem ta2 {w : Nat} (v : Int32) (N : zM) (h : w < 16) : f_X11_adds (J w) (J 2) v N = some (mset N 259 (146 + 12 * w) (N 259 (146 + 12 * w) + v)) := by
  rw [t_adds v N (by omega) (by omega) (by omega) (by omega), show (144 + 12 * (w : Int) + 2).toNat = 146 + 12 * w by omega]
theorem th3 {w : Nat} (N : zM) (h : w < 16) : f_X11_has (J w) (J 3) N = some (N 259 (147 + 12 * w)) := by
  rw [t_has N (by omega) (by omega) (by omega) (by omega), show (144 + 12 * (w : Int) + 3).toNat = 147 + 12 * w by omega]
theorem ts3 {w : Nat} (v : Int32) (N : zM) (h : w < 16) : f_X11_sets (J w) (J 3) v N = some (mset N 259 (147 + 12 * w) v) := by
  rw [t_sets v N (by omega) (by omega) (by omega) (by omega), show (144 + 12 * (w : Int) + 3).toNat = 147 + 12 * w by omega]
theorem ta3 {w : Nat} (v : Int32) (N : zM) (h : w < 16) : f_X11_adds (J w) (J 3) v N = some (mset N 259 (147 + 12 * w) (N 259 (147 + 12 * w) + v)) := by
  rw [t_adds v N (by omega) (by omega) (by omega) (by omega), show (144 + 12 * (w : Int) + 3).toNat = 147 + 12 * w by omega]
theorem th4 {w : Nat} (N : zM) (h : w < 16) : f_X11_has (J w) (J 4) N = some (N 259 (148 + 12 * w)) := by
  rw [t_has N (by omega) (by omega) (by omega) (by omega), show (144 + 12 * (w : Int) + 4).toNat = 148 + 12 * w by omega]
theorem ts4 {w : Nat} (v : Int32) (N : zM) (h : w < 16) : f_X11_sets (J w) (J 4) v N = some (mset N 259 (148 + 12 * w) v) := by
  rw [t_sets v N (by omega) (by omega) (by omega) (by omega), show (144 + 12 * (w : Int) + 4).toNat = 148 + 12 * w by omega]
theorem ta4 {w : Nat} (v : Int32) (N : zM) (h : w < 16) : f_X11_adds (J w) (J 4) v N = some (mset N 259 (148 + 12 * w) (N 259 (148 + 12 * w) + v)) := by
  rw [t_adds v N (by omega) (by omega) (by omega) (by omega), show (144 + 12 * (w : Int) + 4).toNat = 148 + 12 * w by omega]
theorem th5 {w : Nat} (N : zM) (h : w < 16) : f_X11_has (J w) (J 5) N = some (N 259 (149 + 12 * w)) := by
  rw [t_has N (by omega) (by omega) (by omega) (by omega), show (144 + 12 * (w : Int) + 5).toNat = 149 + 12 * w by omega]
theorem ts5 {w : Nat} (v : Int32) (N : zM) (h : w < 16) : f_X11_sets (J w) (J 5) v N = some (mset N 259 (149 + 12 * w) v) := by
  rw [t_sets v N (by omega) (by omega) (by omega) (by omega), show (144 + 12 * (w : Int) + 5).toNat = 149 + 12 * w by omega]
theorem ta5 {w : Nat} (v : Int32) (N : zM) (h : w < 16) : f_X11_adds (J w) (J 5) v N = some (mset N 259 (149 + 12 * w) (N 259 (149 + 12 * w) + v)) := by
  rw [t_adds v N (by omega) (by omega) (by omega) (by omega), show (144 + 12 * (w : Int) + 5).toNat = 149 + 12 * w by omega]
theorem th6 {w : Nat} (N : zM) (h : w < 16) : f_X11_has (J w) (J 6) N = some (N 259 (150 + 12 * w)) := by
  rw [t_has N (by omega) (by omega) (by omega) (by omega), show (144 + 12 * (w : Int) + 6).toNat = 150 + 12 * w by omega]
theorem ts6 {w : Nat} (v : Int32) (N : zM) (h : w < 16) : f_X11_sets (J w) (J 6) v N = some (mset N 259 (150 + 12 * w) v) := by
  rw [t_sets v N (by omega) (by omega) (by omega) (by omega), show (144 + 12 * (w : Int) + 6).toNat = 150 + 12 * w by omega]
theorem ta6 {w : Nat} (v : Int32) (N : zM) (h : w < 16) : f_X11_adds (J w) (J 6) v N = some (mset N 259 (150 + 12 * w) (N 259 (150 + 12 * w) + v)) := by
  rw [t_adds v N (by omega) (by omega) (by omega) (by omega), show (144 + 12 * (w : Int) + 6).toNat = 150 + 12 * w by omega]
theorem th7 {w : Nat} (N : zM) (h : w < 16) : f_X11_has (J w) (J 7) N = some (N 259 (151 + 12 * w)) := by
  rw [t_has N (by omega) (by omega) (by omega) (by omega), show (144 + 12 * (w : Int) + 7).toNat = 151 + 12 * w by omega]
theorem ts7 {w : Nat} (v : Int32) (N : zM) (h : w < 16) : f_X11_sets (J w) (J 7) v N = some (mset N 259 (151 + 12 * w) v) := by
  rw [t_sets v N (by omega) (by omega) (by omega) (by omega), show (144 + 12 * (w : Int) + 7).toNat = 151 + 12 * w by omega]
theorem ta7 {w : Nat} (v : Int32) (N : zM) (h : w < 16) : f_X11_adds (J w) (J 7) v N = some (mset N 259 (151 + 12 * w) (N 259 (151 + 12 * w) + v)) := by
  rw [t_adds v N (by omega) (by omega) (by omega) (by omega), show (144 + 12 * (w : Int) + 7).toNat = 151 + 12 * w by omega]
theorem th8 {w : Nat} (N : zM) (h : w < 16) : f_X11_has (J w) (J 8) N = some (N 259 (152 + 12 * w)) := by
  rw [t_has N (by omega) (by omega) (by omega) (by omega), show (144 + 12 * (w : Int) + 8).toNat = 152 + 12 * w by omega]
theorem ts8 {w : Nat} (v : Int32) (N : zM) (h : w < 16) : f_X11_sets (J w) (J 8) v N = some (mset N 259 (152 + 12 * w) v) := by
  rw [t_sets v N (by omega) (by omega) (by omega) (by omega), show (144 + 12 * (w : Int) + 8).toNat = 152 + 12 * w by omega]
theorem ta8 {w : Nat} (v : Int32) (N : zM) (h : w < 16) : f_X11_adds (J w) (J 8) v N = some (mset N 259 (152 + 12 * w) (N 259 (152 + 12 * w) + v)) := by
  rw [t_adds v N (by omega) (by omega) (by omega) (by omega), show (144 + 12 * (w : Int) + 8).toNat = 152 + 12 * w by omega]
theorem th9 {w : Nat} (N : zM) (h : w < 16) : f_X11_has (J w) (J 9) N = some (N 259 (153 + 12 * w)) := by
  rw [t_has N (by omega) (by omega) (by omega) (by omega), show (144 + 12 * (w : Int) + 9).toNat = 153 + 12 * w by omega]
theorem ts9 {w : Nat} (v : Int32) (N : zM) (h : w < 16) : f_X11_sets (J w) (J 9) v N = some (mset N 259 (153 + 12 * w) v) := by
  rw [t_sets v N (by omega) (by omega) (by omega) (by omega), show (144 + 12 * (w : Int) + 9).toNat = 153 + 12 * w by omega]
theorem ta9 {w : Nat} (v : Int32) (N : zM) (h : w < 16) : f_X11_adds (J w) (J 9) v N = some (mset N 259 (153 + 12 * w) (N 259 (153 + 12 * w) + v)) := by
  rw [t_adds v N (by omega) (by omega) (by omega) (by omega), show (144 + 12 * (w : Int) + 9).toNat = 153 + 12 * w by omega]
theorem th10 {w : Nat} (N : zM) (h : w < 16) : f_X11_has (J w) (J 10) N = some (N 259 (154 + 12 * w)) := by
  rw [t_has N (by omega) (by omega) (by omega) (by omega), show (144 + 12 * (w : Int) + 10).toNat = 154 + 12 * w by omega]
theorem ts10 {w : Nat} (v : Int32) (N : zM) (h : w < 16) : f_X11_sets (J w) (J 10) v N = some (mset N 259 (154 + 12 * w) v) := by
  rw [t_sets v N (by omega) (by omega) (by omega) (by omega), show (144 + 12 * (w : Int) + 10).toNat = 154 + 12 * w by omega]
theorem ta10 {w : Nat} (v : Int32) (N : zM) (h : w < 16) : f_X11_adds (J w) (J 10) v N = some (mset N 259 (154 + 12 * w) (N 259 (154 + 12 * w) + v)) := by
  rw [t_adds v N (by omega) (by omega) (by omega) (by omega), show (144 + 12 * (w : Int) + 10).toNat = 154 + 12 * w by omega]
theorem th11 {w : Nat} (N : zM) (h : w < 16) : f_X11_has (J w) (J 11) N = some (N 259 (155 + 12 * w)) := by
  rw [t_has N (by omega) (by omega) (by omega) (by omega), show (144 + 12 * (w : Int) + 11).toNat = 155 + 12 * w by omega]
theorem ts11 {w : Nat} (v : Int32) (N : zM) (h : w < 16) : f_X11_sets (J w) (J 11) v N = some (mset N 259 (155 + 12 * w) v) := by
  rw [t_sets v N (by omega) (by omega) (by omega) (by omega), show (144 + 12 * (w : Int) + 11).toNat = 155 + 12 * w by omega]
theorem ta11 {w : Nat} (v : Int32) (N : zM) (h : w < 16) : f_X11_adds (J w) (J 11) v N = some (mset N 259 (155 + 12 * w) (N 259 (155 + 12 * w) + v)) := by
  rw [t_adds v N (by omega) (by omega) (by omega) (by omega), show (144 + 12 * (w : Int) + 11).toNat = 155 + 12 * w by omega]
theorem t_standsAt {w : Nat} (N : zM) (h : w < 16) : f_X11_standsAt (J w) N = some (J 12 * N 259 (147 + 12 * w) + N 259 (146 + 12 * w)) := by
  unfold f_X11_standsAt f_X11_place
  simp (disch := omega) only [J_lit, J_nI, J_add, J_sub, J_mul, J_neg, Int.cast_ofNat_Int, th0, ts0, ta0, th1, ts1, ta1, th2, ts2, ta2, th3, ts3, ta3, th4, ts4, ta4, th5, ts5, ta5, th6, ts6, ta6, th7, ts7, ta7, th8, ts8, ta8, th9, ts9, ta9, th10, ts10, ta10, th11, ts11, ta11, bind_some]
def tkR (N : zM) : zM := mrow N 259 (va_cpy (N 258) (N 259) 0 0 2425)
theorem t_take (N : zM) : f_X11_take N = some (mset (tkR N) 257 6 (J 1)) := by
  unfold f_X11_take tkR
  have e := t_copies (a := 258) (b := 259) (n := 2425) N (by decide) (by rw [LN258]; decide) (by rw [LN259]; decide) (by decide)
  rw [show (2425 : Int32) = J (2425 : Nat) from rfl, e]
  rfl
theorem t_begins (N : zM) : f_X11_begins N = some (mset (tkR N) 257 6 (J 0)) := by
  unfold f_X11_begins tkR
  have e := t_copies (a := 258) (b := 259) (n := 2425) N (by decide) (by rw [LN258]; decide) (by rw [LN259]; decide) (by decide)
  rw [show (2425 : Int32) = J (2425 : Nat) from rfl, e]
  rfl
theorem tk_s (N : zM) (v : Int32) : ∀ i, i < 2425 → mset (tkR N) 257 6 v 259 i = N 258 i := by
  intro i hi
  unfold tkR
  rw [mset_ne (by decide), mrow_eq, pk_cpy_in (by omega) (by omega)]
  congr 1
  omega
theorem tk_ne (N : zM) (v : Int32) {k : Nat} (h : k ≠ 257) (h2 : k ≠ 259) : mset (tkR N) 257 6 v k = N k := by
  unfold tkR
  rw [mset_ne h, mrow_ne h2]
theorem tk_7 (N : zM) (v : Int32) {i : Nat} (h : i ≠ 6) : mset (tkR N) 257 6 v 257 i = N 257 i := by
  unfold tkR
  rw [mset_eq, upd_ne h, mrow_ne (by decide)]
theorem IC_tk {M N : zM} (v : Int32) (h : IC M N) : IC M (mset (tkR N) 257 6 v) :=
  IC_scN (fun j _ _ h1 h2 => tk_ne N v h2 h1) (fun i hi => tk_7 N v (by omega)) h
theorem J_eqn {a b : Int} (h : a = b) : J a = J b := congrArg J h
/-- who stands at a place -/
theorem s_whoAt {M N : zM} {n m b k : Nat} (h : SqB M 1 (N 259) n m b k) (p : Int32) : ∃ a, f_X7_whoAt 1 p M = some a ∧ f_X11_whoIsAt p N = some a ∧ (a = J (-1) → ∀ v, v < n → M (1 + 3 + v) 1 = 1 → atR (M (1 + 3 + v)) ≠ p) := by
  obtain ⟨⟨hn, _, _⟩, ⟨e2, _⟩, ⟨g2, _⟩, _, hw, _⟩ := h
  have key : W2 (loopW (fun s => b_X7_whoAt_2 1 p s M) (J 0)) (loopW (fun s => b_X11_whoIsAt_2 p s N) (J 0)) (fun a b => a = b ∧ ((∃ v : Nat, v < 16 ∧ a = .inr (J v)) ∨ ∀ v, v < n → M (1 + 3 + v) 1 = 1 → atR (M (1 + 3 + v)) ≠ p)) := by
    refine loop2 (fun k s t => s = J k ∧ t = J k ∧ ∀ v, v < k → M (1 + 3 + v) 1 = 1 → atR (M (1 + 3 + v)) ≠ p) n ⟨rfl, rfl, fun v hv => by omega⟩ ?_ ?_
    · rintro k s t hk ⟨rfl, rfl, hfr⟩
      unfold b_X7_whoAt_2 b_X11_whoIsAt_2 j_X7_whoAt_37_2 j_X11_whoIsAt_35_2 f_X9_at
      obtain ⟨w0, w1, wb, _, _, _, win⟩ := hw k hk
      simp (disch := omega) only [J_lit, J_nI, J_add, J_sub, J_mul, J_neg, Int.cast_ofNat_Int, ix_Jn, ix_J, Int.reduceToNat, Int.toNat_natCast, e2, g2, J_lt, J_le, J_eq, within0, isIn0, inRow0, isCell0, if_true, if_false, if_pos, if_neg, grd_J, th0, ts0, ta0, th1, ts1, ta1, th2, ts2, ta2, th3, ts3, ta3, th4, ts4, ta4, th5, ts5, ta5, th6, ts6, ta6, th7, ts7, ta7, th8, ts8, ta8, th9, ts9, ta9, th10, ts10, ta10, th11, ts11, ta11, t_standsAt, bind_some]
      have w1' : M (1 + 3 + k) 1 = N 259 (145 + 12 * k) := w1
      rcases wb with wb | wb
      · have wb' : M (1 + 3 + k) 1 = J 0 := wb
        rw [w1'] at wb'
        simp only [w1', wb']
        rw [if_pos trivial, if_neg (by decide)]
        refine w2_some ⟨rfl, rfl, fun v hv hi => ?_⟩
        by_cases e : v = k
        · subst e
          rw [w1', wb'] at hi
          exact absurd hi (by decide)
        · exact hfr v (by omega) hi
      · obtain ⟨h2, h3, _⟩ := win wb
        have wb' : M (1 + 3 + k) 1 = J 1 := wb
        rw [if_neg (by rw [wb']; decide), h2, h3, if_pos (show N 259 (145 + 12 * k) = J 1 by rw [← w1', wb'])]
        by_cases hp : J 12 * N 259 (147 + 12 * k) + N 259 (146 + 12 * k) = p
        · simp only [hp, if_true]
          exact w2_some ⟨rfl, Or.inl ⟨k, by omega, rfl⟩⟩
        · simp only [hp, if_false]
          refine w2_some ⟨rfl, rfl, fun v hv hi => ?_⟩
          by_cases e : v = k
          · subst e
            unfold atR
            rw [h2, h3]
            exact hp
          · exact hfr v (by omega) hi
    · rintro s t ⟨rfl, rfl, hfr⟩
      unfold b_X7_whoAt_2 b_X11_whoIsAt_2
      simp (disch := omega) only [J_lit, J_nI, J_add, J_sub, J_mul, J_neg, Int.cast_ofNat_Int, ix_Jn, ix_J, Int.reduceToNat, Int.toNat_natCast, e2, g2, J_lt, J_le, J_eq, within0, isIn0, inRow0, isCell0, if_true, if_false, if_pos, if_neg]
      exact w2_some ⟨rfl, Or.inr hfr⟩
  obtain ⟨a, b, e1, e3, rfl, hor⟩ := key
  unfold f_X7_whoAt f_X11_whoIsAt
  rw [show (0 : Int32) = J 0 from rfl, e1, e3]
  cases a with
  | inl _ =>
    refine ⟨_, rfl, rfl, fun _ => ?_⟩
    rcases hor with ⟨v, _, e⟩ | hor
    · cases e
    · exact hor
  | inr v =>
    refine ⟨_, rfl, rfl, fun e => ?_⟩
    rcases hor with ⟨v', hv', e'⟩ | hor
    · injection e' with e'
      rw [e'] at e
      have := (J_eq (by omega) (by omega) (by omega) (by omega)).mp e
      omega
    · exact hor
