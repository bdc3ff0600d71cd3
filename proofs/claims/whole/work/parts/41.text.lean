/-! ===== texts are copied ===== -/
theorem loop_1 {σ ρ : Type} {B : σ → Option (σ ⊕ ρ)} {Q : ρ → Prop} {s : σ} (h : Wp (B s) (fun o => Sum.elim (fun s' => Wp (loopW B s') Q) Q o)) : Wp (loopW B s) Q := by
  obtain ⟨o, e, ho⟩ := h
  cases o with
  | inl s' =>
    obtain ⟨r, e2, hr⟩ := ho
    exact ⟨r, by rw [loopW_eq, e]; exact e2, hr⟩
  | inr r => exact ⟨r, by rw [loopW_eq, e], ho⟩
theorem RdC_r {f g : Nat → Int32} {c : Nat} {l : List Int32} (hl : c + l.length ≤ 400) (h : ∀ i, i < 400 → g i = f i) : RdC f c l → RdC g c l := by
  intro hr i v hv
  have hi : i < l.length := by
    rcases List.getElem?_eq_some_iff.mp hv with ⟨hi, _⟩
    exact hi
  rw [h _ (by omega)]
  exact hr i v hv
theorem LnR_r {r1 r2 r3 r4 s1 s2 s3 s4 ρ : Nat → Int32} {k c0 c1 : Nat} (hk : k < 16) (h : ∀ i, i < 16 → s1 i = r1 i ∧ s2 i = r2 i ∧ s3 i = r3 i) (h4 : ∀ i, i < 400 → s4 i = r4 i) : LnR r1 r2 r3 r4 ρ k c0 c1 → LnR s1 s2 s3 s4 ρ k c0 c1 := by
  obtain ⟨e1, e2, e3⟩ := h k hk
  rintro ⟨kind, fr, L1, q1, q2, q3, q4, q5, q6, q7, q8, q9, q10, q11, q12, q13, q14⟩
  have hl : c0 + (encL L1).length ≤ 400 := by
    rcases q14 with ⟨_, a, _⟩ | ⟨L2, _, _, _, a, _⟩ <;> omega
  refine ⟨kind, fr, L1, q1, by rw [e1]; exact q2, q3, q4, q5, q6, q7, RdC_r hl h4 q8, by rw [e2]; exact q9, q10, q11, by rw [e3]; exact q12, q13, ?_⟩
  rcases q14 with a | ⟨L2, a1, a2, a3, a4, a5⟩
  · exact Or.inl a
  · exact Or.inr ⟨L2, a1, a2, RdC_r (by omega) h4 a3, a4, a5⟩
theorem LwR_r {r0 r1 r2 r3 r4 s0 s1 s2 s3 s4 ρ : Nat → Int32} (h0 : s0 0 = r0 0) (h : ∀ i, i < 16 → s1 i = r1 i ∧ s2 i = r2 i ∧ s3 i = r3 i) (h4 : ∀ i, i < 400 → s4 i = r4 i) : LwR r0 r1 r2 r3 r4 ρ → LwR s0 s1 s2 s3 s4 ρ := by
  rintro ⟨nl, c, q1, q2, q3, q4, q5⟩
  exact ⟨nl, c, q1, by rw [h0]; exact q2, q3, q4, fun k hk => LnR_r (by omega) h h4 (q5 k hk)⟩
theorem WyR_r {r9 r10 r11 s9 s10 s11 ρ : Nat → Int32} (h9 : ∀ i, i < 16 → s9 i = r9 i) (h : ∀ i, i < 192 → s10 i = r10 i ∧ s11 i = r11 i) : WyR r9 r10 r11 ρ → WyR s9 s10 s11 ρ := by
  intro hy w hw
  obtain ⟨L, q1, q2, q3, q4⟩ := hy w hw
  refine ⟨L, q1, by rw [h9 w hw]; exact q2, q3, fun i hi => ?_⟩
  obtain ⟨e1, e2⟩ := h (12 * w + i) (by omega)
  rw [e1, e2]
  exact q4 i hi
theorem HrR_r {r7 r12 r13 s7 s12 s13 ρ : Nat → Int32} (h7 : s7 3 = r7 3) (h : ∀ i, i < 16 → s12 i = r12 i ∧ s13 i = r13 i) : HrR r7 r12 r13 ρ → HrR s7 s12 s13 ρ := by
  rintro ⟨nh, q1, q2, q3⟩
  refine ⟨nh, q1, by rw [h7]; exact q2, fun i hi => ?_⟩
  obtain ⟨e1, e2⟩ := h i (by omega)
  rw [e1, e2]
  exact q3 i hi
theorem p_ct0 {a b : Nat} (hab : a + 14 ≤ b ∨ b + 14 ≤ a) (M : zM) : Wp (f_X8_copyText a (J 0) b M) (fun M' => M' (a + 7) 0 = M (b + 7) 0 ∧ (∀ i, i ≠ 0 → M' (a + 7) i = M (a + 7) i) ∧ M' (a + 1) 0 = M (b + 1) 0 ∧ (∀ i, i < 16 → M' (a + 2) i = M (b + 2) i ∧ M' (a + 3) i = M (b + 3) i ∧ M' (a + 4) i = M (b + 4) i) ∧ (∀ i, i < 400 → M' (a + 5) i = M (b + 5) i) ∧ ∀ j, j < a + 1 ∨ j = a + 6 ∨ a + 7 < j → M' j = M j) := by
  unfold f_X8_copyText f_X3_copyFrom
  simp (disch := omega) only [J_lit, J_nI, J_add, J_sub, J_mul, J_neg, Int.cast_ofNat_Int, J_lt, J_le, J_eq, within0, isIn0, inRow0, isCell0, if_true, if_false, if_pos, if_neg, grd_J, ix_Jn, ix_J, Int.reduceToNat, Int.toNat_natCast, nm_eq, bind_some, bnd2_some, mset_ne, mset_eq, mrow_ne, mrow_eq, upd_eq, upd_ne]
  refine wp_some ⟨?_, ?_, ?_, ?_, ?_, ?_⟩
  · simp (disch := omega) only [mset_ne, mset_eq, mrow_ne, mrow_eq, upd_eq, upd_ne]
  · intro i hi
    simp (disch := omega) only [mset_ne, mset_eq, mrow_ne, mrow_eq, upd_eq, upd_ne]
  · simp (disch := omega) only [mset_ne, mset_eq, mrow_ne, mrow_eq, upd_eq, upd_ne]
  · intro i hi
    simp (disch := omega) only [mset_ne, mset_eq, mrow_ne, mrow_eq, upd_eq, upd_ne, Nat.add_assoc, Nat.reduceAdd, pk_cpy_in, Nat.sub_zero, Nat.zero_add, and_self]
  · intro i hi
    simp (disch := omega) only [mset_ne, mset_eq, mrow_ne, mrow_eq, upd_eq, upd_ne, Nat.add_assoc, Nat.reduceAdd, pk_cpy_in, Nat.sub_zero, Nat.zero_add]
  · intro j hj
    simp (disch := omega) only [mset_ne, mset_eq, mrow_ne, mrow_eq, upd_eq, upd_ne]
theorem p_ct1 {a b : Nat} (hab : a + 14 ≤ b ∨ b + 14 ≤ a) (M : zM) : Wp (f_X8_copyText a (J 1) b M) (fun M' => M' (a + 7) 1 = M (b + 7) 1 ∧ (∀ i, i ≠ 1 → M' (a + 7) i = M (a + 7) i) ∧ (∀ i, i < 144 → M' (a + 8) i = M (b + 8) i) ∧ ∀ j, j ≠ a + 7 → j ≠ a + 8 → M' j = M j) := by
  unfold f_X8_copyText
  simp (disch := omega) only [J_lit, J_nI, J_add, J_sub, J_mul, J_neg, Int.cast_ofNat_Int, J_lt, J_le, J_eq, within0, isIn0, inRow0, isCell0, if_true, if_false, if_pos, if_neg, grd_J, ix_Jn, ix_J, Int.reduceToNat, Int.toNat_natCast, nm_eq, bind_some, bnd2_some, mset_ne, mset_eq, mrow_ne, mrow_eq, upd_eq, upd_ne, Int.reduceToNat]
  refine wp_some ⟨?_, ?_, ?_, ?_⟩
  · simp (disch := omega) only [mset_ne, mset_eq, mrow_ne, mrow_eq, upd_eq, upd_ne]
  · intro i hi
    simp (disch := omega) only [mset_ne, mset_eq, mrow_ne, mrow_eq, upd_eq, upd_ne]
  · intro i hi
    simp (disch := omega) only [mset_ne, mset_eq, mrow_ne, mrow_eq, upd_eq, upd_ne, pk_cpy_in, Nat.sub_zero, Nat.zero_add]
  · intro j hj hj2
    simp (disch := omega) only [mset_ne, mset_eq, mrow_ne, mrow_eq, upd_eq, upd_ne]
theorem p_ct2 {a b : Nat} (hab : a + 14 ≤ b ∨ b + 14 ≤ a) (M : zM) : Wp (f_X8_copyText a (J 2) b M) (fun M' => M' (a + 7) 2 = M (b + 7) 2 ∧ (∀ i, i ≠ 2 → M' (a + 7) i = M (a + 7) i) ∧ (∀ i, i < 16 → M' (a + 9) i = M (b + 9) i) ∧ (∀ i, i < 192 → M' (a + 10) i = M (b + 10) i ∧ M' (a + 11) i = M (b + 11) i) ∧ ∀ j, j ≠ a + 7 → (j < a + 9 ∨ a + 11 < j) → M' j = M j) := by
  unfold f_X8_copyText
  simp (disch := omega) only [J_lit, J_nI, J_add, J_sub, J_mul, J_neg, Int.cast_ofNat_Int, J_lt, J_le, J_eq, within0, isIn0, inRow0, isCell0, if_true, if_false, if_pos, if_neg, grd_J, ix_Jn, ix_J, Int.reduceToNat, Int.toNat_natCast, nm_eq, bind_some, bnd2_some, mset_ne, mset_eq, mrow_ne, mrow_eq, upd_eq, upd_ne]
  refine wp_some ⟨?_, ?_, ?_, ?_, ?_⟩
  · simp (disch := omega) only [mset_ne, mset_eq, mrow_ne, mrow_eq, upd_eq, upd_ne]
  · intro i hi
    simp (disch := omega) only [mset_ne, mset_eq, mrow_ne, mrow_eq, upd_eq, upd_ne]
  · intro i hi
    simp (disch := omega) only [mset_ne, mset_eq, mrow_ne, mrow_eq, upd_eq, upd_ne, pk_cpy_in, Nat.sub_zero, Nat.zero_add]
  · intro i hi
    simp (disch := omega) only [mset_ne, mset_eq, mrow_ne, mrow_eq, upd_eq, upd_ne, pk_cpy_in, Nat.sub_zero, Nat.zero_add, and_self]
  · intro j hj hj2
    simp (disch := omega) only [mset_ne, mset_eq, mrow_ne, mrow_eq, upd_eq, upd_ne]
theorem p_ct3 {a b : Nat} (hab : a + 14 ≤ b ∨ b + 14 ≤ a) (M : zM) : Wp (f_X8_copyText a (J 3) b M) (fun M' => M' (a + 7) 3 = M (b + 7) 3 ∧ (∀ i, i ≠ 3 → M' (a + 7) i = M (a + 7) i) ∧ (∀ i, i < 16 → M' (a + 12) i = M (b + 12) i ∧ M' (a + 13) i = M (b + 13) i) ∧ ∀ j, j ≠ a + 7 → j ≠ a + 12 → j ≠ a + 13 → M' j = M j) := by
  unfold f_X8_copyText
  simp (disch := omega) only [J_lit, J_nI, J_add, J_sub, J_mul, J_neg, Int.cast_ofNat_Int, J_lt, J_le, J_eq, within0, isIn0, inRow0, isCell0, if_true, if_false, if_pos, if_neg, grd_J, ix_Jn, ix_J, Int.reduceToNat, Int.toNat_natCast, nm_eq, bind_some, bnd2_some, mset_ne, mset_eq, mrow_ne, mrow_eq, upd_eq, upd_ne]
  refine wp_some ⟨?_, ?_, ?_, ?_⟩
  · simp (disch := omega) only [mset_ne, mset_eq, mrow_ne, mrow_eq, upd_eq, upd_ne]
  · intro i hi
    simp (disch := omega) only [mset_ne, mset_eq, mrow_ne, mrow_eq, upd_eq, upd_ne]
  · intro i hi
    simp (disch := omega) only [mset_ne, mset_eq, mrow_ne, mrow_eq, upd_eq, upd_ne, pk_cpy_in, Nat.sub_zero, Nat.zero_add, and_self]
  · intro j hj hj2 hj3
    simp (disch := omega) only [mset_ne, mset_eq, mrow_ne, mrow_eq, upd_eq, upd_ne]
/-- all texts -/
theorem p_txcp {a b : Nat} (hab : a + 14 ≤ b ∨ b + 14 ≤ a) (M : zM) : Wp (f_X8_copyFrom a b M) (fun M' => (∀ ρ, Tx M b ρ → Tx M' a ρ) ∧ ∀ j, j < a ∨ a + 14 ≤ j → M' j = M j) := by
  unfold f_X8_copyFrom j_X8_copyFrom_19
  refine wp_bind ?_
  refine wp_mono (P := fun M' => (∀ ρ, Tx M b ρ → Tx M' a ρ) ∧ ∀ j, j < a ∨ a + 14 ≤ j → M' j = M j) ?_ (fun _ h => wp_some h)
  refine loop_1 ?_
  unfold b_X8_copyFrom_2
  simp (disch := omega) only [J_lit, J_nI, J_add, J_sub, J_mul, J_neg, Int.cast_ofNat_Int, J_lt, J_le, J_eq, within0, isIn0, inRow0, isCell0, if_true, if_false, if_pos, if_neg]
  refine wp_bind (wp_mono (p_ct0 hab M) ?_)
  rintro A ⟨a1, a2, a3, a4, a5, a6⟩
  refine wp_some (loop_1 ?_)
  simp (disch := omega) only [J_lit, J_nI, J_add, J_sub, J_mul, J_neg, Int.cast_ofNat_Int, J_lt, J_le, J_eq, within0, isIn0, inRow0, isCell0, if_true, if_false, if_pos, if_neg, Int.reduceAdd]
  refine wp_bind (wp_mono (p_ct1 hab A) ?_)
  rintro B ⟨b1, b2, b3, b4⟩
  refine wp_some (loop_1 ?_)
  simp (disch := omega) only [J_lit, J_nI, J_add, J_sub, J_mul, J_neg, Int.cast_ofNat_Int, J_lt, J_le, J_eq, within0, isIn0, inRow0, isCell0, if_true, if_false, if_pos, if_neg, Int.reduceAdd]
  refine wp_bind (wp_mono (p_ct2 hab B) ?_)
  rintro C ⟨c1, c2, c3, c4, c5⟩
  refine wp_some (loop_1 ?_)
  simp (disch := omega) only [J_lit, J_nI, J_add, J_sub, J_mul, J_neg, Int.cast_ofNat_Int, J_lt, J_le, J_eq, within0, isIn0, inRow0, isCell0, if_true, if_false, if_pos, if_neg, Int.reduceAdd]
  refine wp_bind (wp_mono (p_ct3 hab C) ?_)
  rintro D ⟨d1, d2, d3, d4⟩
  refine wp_some (loop_1 ?_)
  simp (disch := omega) only [J_lit, J_nI, J_add, J_sub, J_mul, J_neg, Int.cast_ofNat_Int, J_lt, J_le, J_eq, within0, isIn0, inRow0, isCell0, if_true, if_false, if_pos, if_neg, Int.reduceAdd]
  have e0 : D (a + 7) 0 = M (b + 7) 0 := by rw [d2 0 (by omega), c2 0 (by omega), b2 0 (by omega), a1]
  have e1 : D (a + 7) 1 = M (b + 7) 1 := by rw [d2 1 (by omega), c2 1 (by omega), b1, a6 (b + 7) (by omega)]
  have e2 : D (a + 7) 2 = M (b + 7) 2 := by rw [d2 2 (by omega), c1, b4 (b + 7) (by omega) (by omega), a6 (b + 7) (by omega)]
  have e3 : D (a + 7) 3 = M (b + 7) 3 := by rw [d1, c5 (b + 7) (by omega) (by omega), b4 (b + 7) (by omega) (by omega), a6 (b + 7) (by omega)]
  refine wp_some ⟨?_, ?_⟩
  · rintro ρ ⟨q1, q2, q3, q4⟩
    refine ⟨?_, ?_, ?_, ?_⟩
    · intro k hk
      rcases (show k = 0 ∨ k = 1 ∨ k = 2 ∨ k = 3 by omega) with e | e | e | e <;> subst e
      · rw [e0]; exact q1 0 (by omega)
      · rw [e1]; exact q1 1 (by omega)
      · rw [e2]; exact q1 2 (by omega)
      · rw [e3]; exact q1 3 (by omega)
    · have hf : ∀ j, a + 1 ≤ j → j < a + 6 → D j = A j := fun j h1 h2 => by rw [d4 j (by omega) (by omega) (by omega), c5 j (by omega) (by omega), b4 j (by omega) (by omega)]
      rw [hf (a + 1) (by omega) (by omega), hf (a + 2) (by omega) (by omega), hf (a + 3) (by omega) (by omega), hf (a + 4) (by omega) (by omega), hf (a + 5) (by omega) (by omega)]
      exact LwR_r a3 a4 a5 q2
    · have hf : ∀ j, a + 9 ≤ j → j < a + 12 → D j = C j := fun j h1 h2 => d4 j (by omega) (by omega) (by omega)
      have hg : ∀ j, b + 9 ≤ j → j < b + 12 → B j = M j := fun j h1 h2 => by rw [b4 j (by omega) (by omega), a6 j (by omega)]
      rw [hf (a + 9) (by omega) (by omega), hf (a + 10) (by omega) (by omega), hf (a + 11) (by omega) (by omega)]
      rw [hg (b + 9) (by omega) (by omega)] at c3
      rw [hg (b + 10) (by omega) (by omega), hg (b + 11) (by omega) (by omega)] at c4
      exact WyR_r c3 c4 q3
    · have hg : ∀ j, b + 12 ≤ j → j < b + 14 → C j = M j := fun j h1 h2 => by rw [c5 j (by omega) (by omega), b4 j (by omega) (by omega), a6 j (by omega)]
      rw [hg (b + 12) (by omega) (by omega), hg (b + 13) (by omega) (by omega)] at d3
      exact HrR_r e3 d3 q4
  · intro j hj
    rw [d4 j (by omega) (by omega) (by omega), c5 j (by omega) (by omega), b4 j (by omega) (by omega), a6 j (by omega)]
/-- the rows for thought -/
theorem p_rwcp {a b : Nat} (hab : a + 8 ≤ b ∨ b + 8 ≤ a) (M : zM) : Wp (f_X6_copyFrom a b M) (fun M' => (∀ ρ, Rw M b ρ → Rw M' a ρ) ∧ ∀ j, j < a ∨ a + 6 ≤ j → M' j = M j) := by
  unfold f_X6_copyFrom
  simp (disch := omega) only [J_lit, J_nI, J_add, J_sub, J_mul, J_neg, Int.cast_ofNat_Int, ix_Jn, ix_J, Int.reduceToNat, Int.toNat_natCast, nm_eq, bind_some, bnd2_some, mset_ne, mset_eq, mrow_ne, mrow_eq, upd_eq, upd_ne]
  refine wp_some ⟨?_, ?_⟩
  · rintro ρ ⟨r1, ⟨n2, c1, c2, c3, c4⟩, ⟨n3, d1, d2, d3, d4⟩⟩
    refine ⟨?_, ⟨n2, c1, ?_, c3, ?_⟩, ⟨n3, d1, ?_, d3, ?_⟩⟩
    · intro r hr
      obtain ⟨nn, e1, e2, e3, e4⟩ := r1 r hr
      refine ⟨nn, e1, ?_, e3, fun i hi => ?_⟩
      · simp (disch := omega) only [mset_ne, mset_eq, mrow_ne, mrow_eq, upd_eq, upd_ne, pk_cpy_in, Nat.sub_zero, Nat.zero_add]
        exact e2
      · simp (disch := omega) only [mset_ne, mset_eq, mrow_ne, mrow_eq, upd_eq, upd_ne, pk_cpy_in, Nat.sub_zero, Nat.zero_add]
        exact e4 i hi
    · simp (disch := omega) only [mset_ne, mset_eq, mrow_ne, mrow_eq, upd_eq, upd_ne]
      exact c2
    · intro i hi
      simp (disch := omega) only [mset_ne, mset_eq, mrow_ne, mrow_eq, upd_eq, upd_ne, pk_cpy_in, Nat.sub_zero, Nat.zero_add]
      exact c4 i hi
    · simp (disch := omega) only [mset_ne, mset_eq, mrow_ne, mrow_eq, upd_eq, upd_ne]
      exact d2
    · intro i hi
      simp (disch := omega) only [mset_ne, mset_eq, mrow_ne, mrow_eq, upd_eq, upd_ne, pk_cpy_in, Nat.sub_zero, Nat.zero_add]
      exact d4 i hi
  · intro j hj
    simp (disch := omega) only [mset_ne, mset_eq, mrow_ne, mrow_eq, upd_eq, upd_ne]
