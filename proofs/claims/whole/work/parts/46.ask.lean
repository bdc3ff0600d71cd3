/-! ===== a run of codes ===== -/
theorem s_runs {M N : zM} {L : List (Nat × Int32)} {b : Bool} {c cE fr fE : Nat} (hcE : cE ≤ 400) (hfE : fE ≤ 450) (ht : tyL L [] = some [b]) (hok : ∀ q ∈ L, okQ q) (hc : RdC (M 45) c (encL L)) (hr : RdR (N 259) fr L) (hf : ∀ i, i < 10 → M 84 i = N 265 i) (e1 : c + (encL L).length = cE) (e2 : fr + L.length = fE) :
    ∃ v M' N', f_X3_run 41 (J c) (J cE) 84 M = some (v, M') ∧ f_X11_comesTo (J fr) (J fE) N = some (v, N') ∧ (∀ j, j ≠ 46 → M' j = M j) ∧ (∀ j, j ≠ 266 → N' j = N j) := by
  obtain ⟨M', N', h1, h2, ⟨_, h3, _⟩, h4, h5⟩ := s_codes hcE hfE L [] [b] M N c fr ht hok hc hr trivial (by decide) hf e1 e2
  simp only [List.length_nil] at h1 h2 h3
  refine ⟨M' 46 0, M', N', ?_, ?_, h4, h5⟩
  · unfold f_X3_run j_X3_run_175
    rw [show ((0 : Int32), J c, M) = (J (0 : Nat), J c, M) from rfl, h1]
    simp (disch := omega) only [↓nm_eq, ↓grd_if, ↓reduceIte, J_lit, J_nI, J_add, J_sub, J_mul, J_neg, Int.cast_ofNat_Int, J_lt_t, J_lt_f, J_le_t, J_le_f, J_eq_t, J_eq_f, within_t, within_f, isIn_t, isIn_f, inRow_t, inRow_f, isCell_t, isCell_f, inb_t, ix_Jn, ix_J, Int.reduceToNat, Int.toNat_natCast, mset_ne, mset_eq, mrow_ne, mrow_eq, upd_eq, upd_ne, bind_some, bnd2_some, not_true_eq_false, not_false_eq_true, Nat.reduceAdd]
  · unfold f_X11_comesTo j_X11_comesTo_164
    rw [show ((0 : Int32), J fr, N) = (J (0 : Nat), J fr, N) from rfl, h2]
    simp (disch := omega) only [↓nm_eq, ↓grd_if, ↓reduceIte, J_lit, J_nI, J_add, J_sub, J_mul, J_neg, Int.cast_ofNat_Int, J_lt_t, J_lt_f, J_le_t, J_le_f, J_eq_t, J_eq_f, within_t, within_f, isIn_t, isIn_f, inRow_t, inRow_f, isCell_t, isCell_f, inb_t, ix_Jn, ix_J, Int.reduceToNat, Int.toNat_natCast, mset_ne, mset_eq, mrow_ne, mrow_eq, upd_eq, upd_ne, bind_some, bnd2_some, not_true_eq_false, not_false_eq_true, Nat.reduceAdd]
    rw [h3]
theorem enc_pos {L : List (Nat × Int32)} {b : Bool} (h : tyL L [] = some [b]) : 0 < (encL L).length := by
  cases L with
  | nil => simp [tyL] at h
  | cons q L =>
    simp only [encL, List.length_append]
    have : 0 < (encC q).length := by
      unfold encC
      split <;> simp
    omega
theorem s_clamp (v : Int32) (a : Int) (ha : 0 ≤ a) (ha2 : a < 10000) (N : zM) : j_X11_tells_185 v (J a) N = some (f_J9_max_7cf53 (J 0) (f_J9_min_7cf53 v (J a)), N) := by
  obtain ⟨z, rfl, h1, h2⟩ := J_ex v
  unfold j_X11_tells_185 f_J9_max_7cf53 f_J9_min_7cf53
  by_cases c1 : 0 ≤ z
  · by_cases c2 : z ≤ a
    · simp (disch := omega) only [↓nm_eq, ↓grd_if, ↓reduceIte, J_lit, J_nI, J_add, J_sub, J_mul, J_neg, Int.cast_ofNat_Int, J_lt_t, J_lt_f, J_le_t, J_le_f, J_eq_t, J_eq_f, within_t, within_f, isIn_t, isIn_f, inRow_t, inRow_f, isCell_t, isCell_f, inb_t, ix_Jn, ix_J, Int.reduceToNat, Int.toNat_natCast, mset_ne, mset_eq, mrow_ne, mrow_eq, upd_eq, upd_ne, bind_some, bnd2_some, not_true_eq_false, not_false_eq_true, Nat.reduceAdd]
      by_cases c3 : 0 < z
      · simp (disch := omega) only [↓nm_eq, ↓grd_if, ↓reduceIte, J_lit, J_nI, J_add, J_sub, J_mul, J_neg, Int.cast_ofNat_Int, J_lt_t, J_lt_f, J_le_t, J_le_f, J_eq_t, J_eq_f, within_t, within_f, isIn_t, isIn_f, inRow_t, inRow_f, isCell_t, isCell_f, inb_t, ix_Jn, ix_J, Int.reduceToNat, Int.toNat_natCast, mset_ne, mset_eq, mrow_ne, mrow_eq, upd_eq, upd_ne, bind_some, bnd2_some, not_true_eq_false, not_false_eq_true, Nat.reduceAdd]
      · have : z = 0 := by omega
        subst this
        simp (disch := omega) only [↓nm_eq, ↓grd_if, ↓reduceIte, J_lit, J_nI, J_add, J_sub, J_mul, J_neg, Int.cast_ofNat_Int, J_lt_t, J_lt_f, J_le_t, J_le_f, J_eq_t, J_eq_f, within_t, within_f, isIn_t, isIn_f, inRow_t, inRow_f, isCell_t, isCell_f, inb_t, ix_Jn, ix_J, Int.reduceToNat, Int.toNat_natCast, mset_ne, mset_eq, mrow_ne, mrow_eq, upd_eq, upd_ne, bind_some, bnd2_some, not_true_eq_false, not_false_eq_true, Nat.reduceAdd]
    · simp (disch := omega) only [↓nm_eq, ↓grd_if, ↓reduceIte, J_lit, J_nI, J_add, J_sub, J_mul, J_neg, Int.cast_ofNat_Int, J_lt_t, J_lt_f, J_le_t, J_le_f, J_eq_t, J_eq_f, within_t, within_f, isIn_t, isIn_f, inRow_t, inRow_f, isCell_t, isCell_f, inb_t, ix_Jn, ix_J, Int.reduceToNat, Int.toNat_natCast, mset_ne, mset_eq, mrow_ne, mrow_eq, upd_eq, upd_ne, bind_some, bnd2_some, not_true_eq_false, not_false_eq_true, Nat.reduceAdd]
      by_cases c3 : 0 < a
      · simp (disch := omega) only [↓nm_eq, ↓grd_if, ↓reduceIte, J_lit, J_nI, J_add, J_sub, J_mul, J_neg, Int.cast_ofNat_Int, J_lt_t, J_lt_f, J_le_t, J_le_f, J_eq_t, J_eq_f, within_t, within_f, isIn_t, isIn_f, inRow_t, inRow_f, isCell_t, isCell_f, inb_t, ix_Jn, ix_J, Int.reduceToNat, Int.toNat_natCast, mset_ne, mset_eq, mrow_ne, mrow_eq, upd_eq, upd_ne, bind_some, bnd2_some, not_true_eq_false, not_false_eq_true, Nat.reduceAdd]
      · have : a = 0 := by omega
        subst this
        simp (disch := omega) only [↓nm_eq, ↓grd_if, ↓reduceIte, J_lit, J_nI, J_add, J_sub, J_mul, J_neg, Int.cast_ofNat_Int, J_lt_t, J_lt_f, J_le_t, J_le_f, J_eq_t, J_eq_f, within_t, within_f, isIn_t, isIn_f, inRow_t, inRow_f, isCell_t, isCell_f, inb_t, ix_Jn, ix_J, Int.reduceToNat, Int.toNat_natCast, mset_ne, mset_eq, mrow_ne, mrow_eq, upd_eq, upd_ne, bind_some, bnd2_some, not_true_eq_false, not_false_eq_true, Nat.reduceAdd]
  · simp (disch := omega) only [↓nm_eq, ↓grd_if, ↓reduceIte, J_lit, J_nI, J_add, J_sub, J_mul, J_neg, Int.cast_ofNat_Int, J_lt_t, J_lt_f, J_le_t, J_le_f, J_eq_t, J_eq_f, within_t, within_f, isIn_t, isIn_f, inRow_t, inRow_f, isCell_t, isCell_f, inb_t, ix_Jn, ix_J, Int.reduceToNat, Int.toNat_natCast, mset_ne, mset_eq, mrow_ne, mrow_eq, upd_eq, upd_ne, bind_some, bnd2_some, not_true_eq_false, not_false_eq_true, Nat.reduceAdd]
theorem s_tells {M N : zM} {kind : Nat} (hk : kind < 3) (hl : LwR (M 41) (M 42) (M 43) (M 44) (M 45) (N 259)) (hf : ∀ i, i < 10 → M 84 i = N 265 i) (u : Int32) :
    ∃ v M' N', (loopW (fun s => b_X3_tells_12 41 84 (J (128 + kind)) u s.1 s.2.1 s.2.2) ((0 : Int32), (0 : Int32), M)).bind (fun q => Sum.elim (fun r => j_X3_tells_104 41 84 (J (128 + kind)) r.1 r.2) some q) = some (v, M') ∧ j_X11_tells_61 (J kind) u N = some (v, N') ∧ (∀ j, j ≠ 46 → M' j = M j) ∧ (∀ j, j ≠ 266 → N' j = N j) := by
  obtain ⟨nl, c, n1, n2, n3, n4, n5⟩ := hl
  have key : W2 (loopW (fun s => b_X3_tells_12 41 84 (J (128 + kind)) u s.1 s.2.1 s.2.2) (J 0, J 0, M)) (loopW (fun s => b_X11_tells_65 (J kind) u s.1 s.2) (J 0, N)) (SumR (fun a b => a.1 = b.1 ∧ (∀ j, j ≠ 46 → a.2 j = M j) ∧ (∀ j, j ≠ 266 → b.2 j = N j)) NoR) := by
    refine loopR (fun k s t => s.1 = J (c k) ∧ s.2.1 = J k ∧ (∀ j, j ≠ 46 → s.2.2 j = M j) ∧ t.1 = J k ∧ (∀ j, j ≠ 266 → t.2 j = N j)) nl ?_ ?_ ?_
    · exact ⟨by rw [n4]; rfl, rfl, fun _ _ => rfl, rfl, fun _ _ => rfl⟩
    · rintro k ⟨s1, s2, A⟩ ⟨t1, B⟩ hkn ⟨e1, e2, e3, e4, e5⟩
      simp only at e1 e2 e3 e4 e5
      subst e1 e2 e4
      obtain ⟨kd, fr, L1, q1, q2, q3, q4, q5, q6, q7, q8, q9, q10, q11, q12, q13, q14⟩ := n5 k hkn
      have hA : ∀ j, j ≠ 46 → A j = M j := e3
      have hB : ∀ j, j ≠ 266 → B j = N j := e5
      have i0 : (945 + 5 * (k : Int)).toNat = 945 + 5 * k := by omega
      have i1 : (945 + 5 * (k : Int) + 1).toNat = 946 + 5 * k := by omega
      have i2 : (945 + 5 * (k : Int) + 2).toNat = 947 + 5 * k := by omega
      have i3 : (945 + 5 * (k : Int) + 3).toNat = 948 + 5 * k := by omega
      have i4 : (945 + 5 * (k : Int) + 4).toNat = 949 + 5 * k := by omega
      have hlen : c k + (encL L1).length ≤ 400 := by
        rcases q14 with ⟨_, a, _⟩ | ⟨L2, _, _, _, a, _⟩ <;> omega
      have hlen2 : fr + L1.length ≤ 450 := by
        rcases q14 with ⟨_, _, a⟩ | ⟨L2, _, _, _, _, _, _, a⟩ <;> omega
      -- the sum itself
      have sum : ∀ A B : zM, (∀ j, j ≠ 46 → A j = M j) → (∀ j, j ≠ 266 → B j = N j) → W2 (j_X3_tells_71_12 41 84 (J (128 + kind)) (J (c k)) (J k) A) (j_X11_tells_140_65 (J kind) (J (945 + 5 * (k : Int))) B) (SumR (fun s' t' => s'.1 = J (c (k + 1)) ∧ s'.2.1 = J (k + 1 : Nat) ∧ (∀ j, j ≠ 46 → s'.2.2 j = M j) ∧ t'.1 = J (k + 1 : Nat) ∧ (∀ j, j ≠ 266 → t'.2 j = N j)) (SumR (fun a b => a.1 = b.1 ∧ (∀ j, j ≠ 46 → a.2 j = M j) ∧ (∀ j, j ≠ 266 → b.2 j = N j)) NoR)) := by
        intro A B hA hB
        obtain ⟨v, M', N', g1, g2, g3, g4⟩ := s_runs (M := A) (N := B) (L := L1) (c := c k) (cE := c k + (encL L1).length) (fr := fr) (fE := fr + L1.length) hlen hlen2 q10 q11 (by rw [hA 45 (by decide)]; exact q8) (by rw [hB 259 (by decide)]; exact q7) (fun i hi => by rw [hA 84 (by decide), hB 265 (by decide)]; exact hf i hi) rfl rfl
        unfold j_X3_tells_71_12 j_X11_tells_140_65
        have A43 : A 43 = M 43 := hA 43 (by decide)
        have B259 : B 259 = N 259 := hB 259 (by decide)
        simp (disch := omega) only [↓nm_eq, ↓grd_if, ↓reduceIte, J_lit, J_nI, J_add, J_sub, J_mul, J_neg, Int.cast_ofNat_Int, J_lt_t, J_lt_f, J_le_t, J_le_f, J_eq_t, J_eq_f, within_t, within_f, isIn_t, isIn_f, inRow_t, inRow_f, isCell_t, isCell_f, inb_t, ix_Jn, ix_J, Int.reduceToNat, Int.toNat_natCast, mset_ne, mset_eq, mrow_ne, mrow_eq, upd_eq, upd_ne, bind_some, bnd2_some, not_true_eq_false, not_false_eq_true, Nat.reduceAdd, A43, B259, i1, i2, q4, q5]
        rw [q9, show J (((c k) : Int) + ((encL L1).length : Int)) = J ((c k + (encL L1).length : Nat) : Int) from congrArg J (by omega), g1, show J ((fr : Int) + (L1.length : Int)) = J ((fr + L1.length : Nat) : Int) from congrArg J (by omega), g2]
        exact w2_some ⟨rfl, fun j hj => (g3 j hj).trans (hA j hj), fun j hj => (g4 j hj).trans (hB j hj)⟩
      have nxt : ∀ A B : zM, (∀ j, j ≠ 46 → A j = M j) → (∀ j, j ≠ 266 → B j = N j) → W2 (j_X3_tells_89_12 41 84 (J (128 + kind)) u (J k) A) (j_X11_tells_166_65 (J kind) u (J k) B) (SumR (fun s' t' => s'.1 = J (c (k + 1)) ∧ s'.2.1 = J (k + 1 : Nat) ∧ (∀ j, j ≠ 46 → s'.2.2 j = M j) ∧ t'.1 = J (k + 1 : Nat) ∧ (∀ j, j ≠ 266 → t'.2 j = N j)) (SumR (fun a b => a.1 = b.1 ∧ (∀ j, j ≠ 46 → a.2 j = M j) ∧ (∀ j, j ≠ 266 → b.2 j = N j)) NoR)) := by
        intro A B hA hB
        unfold j_X3_tells_89_12 j_X11_tells_166_65
        have A44 : A 44 = M 44 := hA 44 (by decide)
        simp (disch := omega) only [↓nm_eq, ↓grd_if, ↓reduceIte, J_lit, J_nI, J_add, J_sub, J_mul, J_neg, Int.cast_ofNat_Int, J_lt_t, J_lt_f, J_le_t, J_le_f, J_eq_t, J_eq_f, within_t, within_f, isIn_t, isIn_f, inRow_t, inRow_f, isCell_t, isCell_f, inb_t, ix_Jn, ix_J, Int.reduceToNat, Int.toNat_natCast, mset_ne, mset_eq, mrow_ne, mrow_eq, upd_eq, upd_ne, bind_some, bnd2_some, not_true_eq_false, not_false_eq_true, Nat.reduceAdd, A44, q12]
        exact w2_some ⟨rfl, rfl, hA, rfl, hB⟩
      have A41 : A 41 = M 41 := hA 41 (by decide)
      have A42 : A 42 = M 42 := hA 42 (by decide)
      have A43 : A 43 = M 43 := hA 43 (by decide)
      have A44 : A 44 = M 44 := hA 44 (by decide)
      have B259 : B 259 = N 259 := hB 259 (by decide)
      unfold b_X3_tells_12 b_X11_tells_65
      by_cases hkd : kd = kind
      · subst hkd
        rcases q14 with ⟨a1, a2, a3⟩ | ⟨L2, a1, a2, a3, a4, a5, a6, a7⟩
        · rw [a2] at q12
          simp (disch := omega) only [↓nm_eq, ↓grd_if, ↓reduceIte, J_lit, J_nI, J_add, J_sub, J_mul, J_neg, Int.cast_ofNat_Int, J_lt_t, J_lt_f, J_le_t, J_le_f, J_eq_t, J_eq_f, within_t, within_f, isIn_t, isIn_f, inRow_t, inRow_f, isCell_t, isCell_f, inb_t, ix_Jn, ix_J, Int.reduceToNat, Int.toNat_natCast, mset_ne, mset_eq, mrow_ne, mrow_eq, upd_eq, upd_ne, bind_some, bnd2_some, not_true_eq_false, not_false_eq_true, Nat.reduceAdd, A41, A42, A43, A44, B259, n2, n3, i0, i4, q2, q3, q9, q12, a1]
          exact sum A B hA hB
        · have hp2 := enc_pos a5
          obtain ⟨v, M', N', g1, g2, g3, g4⟩ := s_runs (M := A) (N := B) (L := L2) (c := c k + (encL L1).length) (cE := c (k + 1)) (fr := fr + L1.length) (fE := fr + L1.length + L2.length) q13 a7 a5 a6 (by rw [hA 45 (by decide)]; exact a3) (by rw [hB 259 (by decide)]; exact a2) (fun i hi => by rw [hA 84 (by decide), hB 265 (by decide)]; exact hf i hi) a4.symm rfl
          have hM' : ∀ j, j ≠ 46 → M' j = M j := fun j hj => by rw [g3 j hj, hA j hj]
          have hN' : ∀ j, j ≠ 266 → N' j = N j := fun j hj => by rw [g4 j hj, hB j hj]
          rw [show J ((c k + (encL L1).length : Nat) : Int) = J (((c k) : Int) + ((encL L1).length : Int)) from congrArg J (by omega)] at g1
          rw [show J ((fr + L1.length + L2.length : Nat) : Int) = J ((fr : Int) + (L1.length : Int) + (L2.length : Int)) from congrArg J (by omega), show J ((fr + L1.length : Nat) : Int) = J ((fr : Int) + (L1.length : Int)) from congrArg J (by omega)] at g2
          simp (disch := omega) only [↓nm_eq, ↓grd_if, ↓reduceIte, J_lit, J_nI, J_add, J_sub, J_mul, J_neg, Int.cast_ofNat_Int, J_lt_t, J_lt_f, J_le_t, J_le_f, J_eq_t, J_eq_f, within_t, within_f, isIn_t, isIn_f, inRow_t, inRow_f, isCell_t, isCell_f, inb_t, ix_Jn, ix_J, Int.reduceToNat, Int.toNat_natCast, mset_ne, mset_eq, mrow_ne, mrow_eq, upd_eq, upd_ne, bind_some, bnd2_some, not_true_eq_false, not_false_eq_true, Nat.reduceAdd, A41, A42, A43, A44, B259, n2, n3, i0, i3, i4, q2, q3, q6, q9, q12, a1, g1, g2]
          by_cases hv : v = J 0
          · simp only [hv, ↓reduceIte]
            exact nxt M' N' hM' hN'
          · simp only [hv, ↓reduceIte]
            exact sum M' N' hM' hN'
      · simp (disch := omega) only [↓nm_eq, ↓grd_if, ↓reduceIte, J_lit, J_nI, J_add, J_sub, J_mul, J_neg, Int.cast_ofNat_Int, J_lt_t, J_lt_f, J_le_t, J_le_f, J_eq_t, J_eq_f, within_t, within_f, isIn_t, isIn_f, inRow_t, inRow_f, isCell_t, isCell_f, inb_t, ix_Jn, ix_J, Int.reduceToNat, Int.toNat_natCast, mset_ne, mset_eq, mrow_ne, mrow_eq, upd_eq, upd_ne, bind_some, bnd2_some, not_true_eq_false, not_false_eq_true, Nat.reduceAdd, A41, A42, B259, n2, n3, i0, q2, q3]
        exact nxt A B hA hB
    · rintro ⟨s1, s2, A⟩ ⟨t1, B⟩ ⟨e1, e2, e3, e4, e5⟩
      simp only at e1 e2 e3 e4 e5
      subst e1 e2 e4
      unfold b_X3_tells_12 b_X11_tells_65
      have A41 : A 41 = M 41 := e3 41 (by decide)
      have B259 : B 259 = N 259 := e5 259 (by decide)
      simp (disch := omega) only [↓nm_eq, ↓grd_if, ↓reduceIte, J_lit, J_nI, J_add, J_sub, J_mul, J_neg, Int.cast_ofNat_Int, J_lt_t, J_lt_f, J_le_t, J_le_f, J_eq_t, J_eq_f, within_t, within_f, isIn_t, isIn_f, inRow_t, inRow_f, isCell_t, isCell_f, inb_t, ix_Jn, ix_J, Int.reduceToNat, Int.toNat_natCast, mset_ne, mset_eq, mrow_ne, mrow_eq, upd_eq, upd_ne, bind_some, bnd2_some, not_true_eq_false, not_false_eq_true, Nat.reduceAdd, A41, B259, n2, n3]
      exact w2_some ⟨rfl, e3, e5⟩
  obtain ⟨p, q, h1, h2, h3⟩ := key
  match p, q, h3 with
  | .inl (v, M'), .inl (v', N'), ⟨h4, h5, h6⟩ =>
    subst h4
    have hcl : ∀ A : zM, j_X3_tells_104 41 84 (J (128 + kind)) v A = some (f_J9_max_7cf53 (J 0) (f_J9_min_7cf53 v (J (if kind = 2 then 99 else 1000))), A) ∧ j_X11_tells_172 (J kind) v A = some (f_J9_max_7cf53 (J 0) (f_J9_min_7cf53 v (J (if kind = 2 then 99 else 1000))), A) := by
      intro A
      unfold j_X3_tells_104 j_X11_tells_172 j_X3_tells_121
      by_cases e : kind = 2
      · subst e
        simp (disch := omega) only [↓nm_eq, ↓grd_if, ↓reduceIte, J_lit, J_nI, J_add, J_sub, J_mul, J_neg, Int.cast_ofNat_Int, J_lt_t, J_lt_f, J_le_t, J_le_f, J_eq_t, J_eq_f, within_t, within_f, isIn_t, isIn_f, inRow_t, inRow_f, isCell_t, isCell_f, inb_t, ix_Jn, ix_J, Int.reduceToNat, Int.toNat_natCast, mset_ne, mset_eq, mrow_ne, mrow_eq, upd_eq, upd_ne, bind_some, bnd2_some, not_true_eq_false, not_false_eq_true, Nat.reduceAdd, s_clamp]
        exact ⟨trivial, trivial⟩
      · simp (disch := omega) only [↓nm_eq, ↓grd_if, ↓reduceIte, J_lit, J_nI, J_add, J_sub, J_mul, J_neg, Int.cast_ofNat_Int, J_lt_t, J_lt_f, J_le_t, J_le_f, J_eq_t, J_eq_f, within_t, within_f, isIn_t, isIn_f, inRow_t, inRow_f, isCell_t, isCell_f, inb_t, ix_Jn, ix_J, Int.reduceToNat, Int.toNat_natCast, mset_ne, mset_eq, mrow_ne, mrow_eq, upd_eq, upd_ne, bind_some, bnd2_some, not_true_eq_false, not_false_eq_true, Nat.reduceAdd, s_clamp, e]
        exact ⟨trivial, trivial⟩
    refine ⟨f_J9_max_7cf53 (J 0) (f_J9_min_7cf53 v (J (if kind = 2 then 99 else 1000))), M', N', ?_, ?_, h5, h6⟩
    · rw [show ((0 : Int32), (0 : Int32), M) = (J 0, J 0, M) from rfl, h1]
      exact (hcl M').1
    · unfold j_X11_tells_61
      rw [show ((0 : Int32), N) = (J 0, N) from rfl, h2]
      exact (hcl N').2
/-! ===== how many are in ===== -/
def bc (n : Nat) : Nat :=
  (fun a => (fun b => (fun c => (fun d => (d + d / 65536) &&& 63) (c + c / 256)) ((b + b / 16) &&& 252645135)) ((a &&& 858993459) + ((a / 4) &&& 858993459))) (n - ((n / 2) &&& 1431655765))
def bcT (k : Nat) : Nat → Nat → Bool
  | 0, s => bc (s + 2 ^ k) == bc s + 1
  | d + 1, s => bcT k d s && bcT k d (s + 2 ^ d)
theorem bcT_all (k : Nat) : ∀ (d s i : Nat), bcT k d s = true → i < 2 ^ d → bc (s + i + 2 ^ k) = bc (s + i) + 1
  | 0, s, i, h, hi => by
    have : i = 0 := by simpa using hi
    subst this
    simpa [bcT] using h
  | d + 1, s, i, h, hi => by
    simp only [bcT, Bool.and_eq_true] at h
    by_cases c : i < 2 ^ d
    · exact bcT_all k d s i h.1 c
    · have := bcT_all k d (s + 2 ^ d) (i - 2 ^ d) h.2 (by rw [Nat.pow_succ] at hi; omega)
      rw [show s + 2 ^ d + (i - 2 ^ d) = s + i by omega] at this
      exact this
theorem bc_all : ∀ k, k < 16 → bcT k k 0 = true := by decide +kernel
theorem bc_step {k s : Nat} (hk : k < 16) (hs : s < 2 ^ k) : bc (s + 2 ^ k) = bc s + 1 := by
  have := bcT_all k k 0 s (bc_all k hk) hs
  rw [Nat.zero_add] at this
  exact this
