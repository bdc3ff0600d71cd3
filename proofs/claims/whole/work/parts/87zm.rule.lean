/-! ===== a law: what the lines before leave ===== -/
theorem lw_rr {ρ ρ' : Nat → Int32} {fr : Nat} {l : List (Nat × Int32)} (h : RdR ρ' fr l) (hs : ∀ i, 1025 ≤ i → i < 1025 + 2 * (fr + l.length) → ρ i = ρ' i) : RdR ρ fr l := by
  intro i q hq
  have hi : i < l.length := by
    rcases Nat.lt_or_ge i l.length with c | c
    · exact c
    · rw [List.getElem?_eq_none c] at hq
      exact absurd hq (by simp)
  have := h i q hq
  rw [hs _ (by omega) (by omega), hs _ (by omega) (by omega)]
  exact this
theorem lw_rc {f f' : Nat → Int32} {c : Nat} {l : List Int32} (h : RdC f' c l) (hs : ∀ i, i < c + l.length → f i = f' i) : RdC f c l := by
  intro i v hv
  have hi : i < l.length := by
    rcases Nat.lt_or_ge i l.length with c | c
    · exact c
    · rw [List.getElem?_eq_none c] at hv
      exact absurd hv (by simp)
  rw [hs _ (by omega)]
  exact h i v hv
def LnA (l cz cn k c0 c1 : Nat) (M N : zM) : Prop := ∀ r1 r2 r3 r4 ρ : Nat → Int32, r1 k = M 56 k → r2 k = M 57 k → r3 k = M 58 k → (∀ i, i < cz → r4 i = M 59 i) → (∀ i, (945 ≤ i ∧ i < 945 + 5 * l) ∨ (1025 ≤ i ∧ i < 1025 + 2 * cn) → ρ i = N 263 i) → LnR r1 r2 r3 r4 ρ k c0 c1
def DLq (N0 : zM) (l : Nat) (c : Nat → Nat) (cn : Nat) (M N : zM) : Prop := M 55 0 = J l ∧ c 0 = 0 ∧ (∀ k, k < l → LnA l (c l) cn k (c k) (c (k + 1)) M N) ∧ ∀ i, ¬ (945 ≤ i ∧ i < 1925) → N 263 i = N0 263 i
def DLx (N0 : zM) (l : Nat) (M N : zM) : Prop := N 257 12 = J 0 ∧ ∃ (c : Nat → Nat) (j cn : Nat), DLq N0 l c cn M N ∧ M 55 5 = J (c l) ∧ N 257 17 = J cn ∧ M 78 7 = J j ∧ j ≤ 400 ∧ c l ≤ j ∧ cn ≤ c l
theorem DLq_step {N0 M N M' N' : zM} {l cn cz2 cn2 : Nat} {c : Nat → Nat} (hd : DLq N0 l c cn M N) (hl : l < 16) (h0 : M' 55 0 = J (l + 1 : Nat)) (h1 : ∀ k, k < l → M' 56 k = M 56 k ∧ M' 57 k = M 57 k ∧ M' 58 k = M 58 k) (h2 : ∀ i, i < c l → M' 59 i = M 59 i) (h3 : ∀ i, i < 945 + 5 * l ∨ (1025 ≤ i ∧ i < 1025 + 2 * cn) ∨ 1925 ≤ i → N' 263 i = N 263 i) (hcn : cn ≤ cn2) (hcz : c l ≤ cz2) (hnew : LnA (l + 1) cz2 cn2 l (c l) cz2 M' N') : DLq N0 (l + 1) (fun k => if k ≤ l then c k else cz2) cn2 M' N' := by
  obtain ⟨d0, d1, d2, d3⟩ := hd
  have e1 : (if l + 1 ≤ l then c (l + 1) else cz2) = cz2 := if_neg (by omega)
  refine ⟨h0, ?_, fun k hk => ?_, fun i hi => ?_⟩
  · simp only [if_pos (Nat.zero_le l), d1]
  · simp only [e1]
    by_cases ck : k = l
    · subst ck
      rw [if_pos (Nat.le_refl _), e1]
      exact hnew
    · rw [if_pos (show k ≤ l by omega), if_pos (show k + 1 ≤ l by omega)]
      intro r1 r2 r3 r4 ρ a1 a2 a3 a4 a5
      obtain ⟨b1, b2, b3⟩ := h1 k (by omega)
      refine d2 k (by omega) r1 r2 r3 r4 ρ (by rw [a1, b1]) (by rw [a2, b2]) (by rw [a3, b3]) (fun i hi => by rw [a4 i (by omega), h2 i hi]) (fun i hi => ?_)
      rw [a5 i (by omega), h3 i (by omega)]
  · rw [h3 i (by omega), d3 i hi]
/-- a new line -/
theorem ln_new {M N : zM} {l cz cn kind cz2 cn2 : Nat} {L1 : List (Nat × Int32)} (hl : l < 16) (hk : kind < 3) (v1 : M 56 l = J (128 + kind : Nat)) (v2 : M 57 l = J (cz + (encL L1).length : Nat)) (v3 : M 58 l = J cz2) (w1 : N 263 (945 + 5 * l) = J kind) (w2 : N 263 (946 + 5 * l) = J cn) (w3 : N 263 (947 + 5 * l) = J (cn + L1.length : Nat)) (w4 : N 263 (948 + 5 * l) = J (cn + L1.length : Nat)) (a1 : RdR (N 263) cn L1) (a2 : RdC (M 59) cz (encL L1)) (a3 : tyL L1 [] = some [false]) (a4 : ∀ q ∈ L1, okQ q) (b1 : cz2 ≤ 400) (b2 : cn2 ≤ 400)
    (hw : N 263 (949 + 5 * l) = J (-1) ∧ cz2 = cz + (encL L1).length ∧ cn2 = cn + L1.length ∨ ∃ L2 : List (Nat × Int32), N 263 (949 + 5 * l) = J cn2 ∧ RdR (N 263) (cn + L1.length) L2 ∧ RdC (M 59) (cz + (encL L1).length) (encL L2) ∧ cz2 = cz + (encL L1).length + (encL L2).length ∧ cn2 = cn + L1.length + L2.length ∧ tyL L2 [] = some [true] ∧ (∀ q ∈ L2, okQ q)) : LnA (l + 1) cz2 cn2 l cz cz2 M N := by
  intro r1 r2 r3 r4 ρ e1 e2 e3 e4 e5
  have hcz : cz + (encL L1).length ≤ cz2 := by
    rcases hw with ⟨_, e, _⟩ | ⟨L2, _, _, _, e, _⟩ <;> omega
  have hcn : cn + L1.length ≤ cn2 := by
    rcases hw with ⟨_, _, e⟩ | ⟨L2, _, _, _, _, e, _⟩ <;> omega
  refine ⟨kind, cn, L1, hk, by rw [e1, v1]; rfl, by rw [e5 _ (by omega), w1], by rw [e5 _ (by omega), w2], by rw [e5 _ (by omega), w3]; rfl, by rw [e5 _ (by omega), w4]; rfl, lw_rr a1 (fun i _ _ => e5 i (by omega)), lw_rc a2 (fun i _ => e4 i (by omega)), by rw [e2, v2]; rfl, a3, a4, by rw [e3, v3], b1, ?_⟩
  rcases hw with ⟨q1, q2, q3⟩ | ⟨L2, q1, q2, q3, q4, q5, q6, q7⟩
  · exact Or.inl ⟨by rw [e5 _ (by omega), q1], q2, by omega⟩
  · exact Or.inr ⟨L2, by rw [e5 _ (by omega), q1, q5]; rfl, lw_rr q2 (fun i _ _ => e5 i (by omega)), lw_rc q3 (fun i _ => e4 i (by omega)), q4, q6, q7, by omega⟩
/-! the end of a line -/
def rwN (N : zM) (l : Nat) (a b c d : Int32) : zM := mset (mset (mset (mset (mset N 263 (945 + 5 * l) a) 263 (946 + 5 * l) b) 263 (947 + 5 * l) c) 263 (948 + 5 * l) c) 263 (949 + 5 * l) d
theorem r_156 {N : zM} {l : Nat} (hl : l < 16) (h10 : N 257 10 = J (-1)) (a b c d : Int32) : j_X11_readRule_156 (J l) a b c d N = some (rwN N l a b c d) := by
  have f0 : ¬ f_X11_fine N = J 0 := by rw [fine_t h10]; decide
  have e0 : J 945 + J 5 * J (l : Int) = J ((945 + 5 * l : Nat) : Int) := by rw [J_mul, J_add]; exact congrArg J (by omega)
  have e1 : J ((945 + 5 * l : Nat) : Int) + J 1 = J ((946 + 5 * l : Nat) : Int) := by rw [J_add]; exact congrArg J (by omega)
  have e2 : J ((945 + 5 * l : Nat) : Int) + J 2 = J ((947 + 5 * l : Nat) : Int) := by rw [J_add]; exact congrArg J (by omega)
  have e3 : J ((945 + 5 * l : Nat) : Int) + J 3 = J ((948 + 5 * l : Nat) : Int) := by rw [J_add]; exact congrArg J (by omega)
  have e4 : J ((945 + 5 * l : Nat) : Int) + J 4 = J ((949 + 5 * l : Nat) : Int) := by rw [J_add]; exact congrArg J (by omega)
  unfold j_X11_readRule_156 rwN
  simp (disch := omega) only [↓nm_s, ↓grd_s, ↓reduceIte, J_lit, Int.cast_ofNat_Int, f0, e0, e1, e2, e3, e4, J_lt_t, J_lt_f, J_le_t, J_le_f, J_eq_t, J_eq_f, within_t, within_f, isIn_t, isIn_f, inRow_t, inRow_f, isCell_t, isCell_f, inb_t, ix_Jn, ix_J, Int.reduceToNat, Int.toNat_natCast]
theorem r_156b {N : zM} {p : Nat} (hp : p < 2147483648) (h : N 257 10 = J p) (l a b c d : Int32) : j_X11_readRule_156 l a b c d N = some N := by
  unfold j_X11_readRule_156
  rw [if_pos (show f_X11_fine N = (0 : Int32) from fine_f hp h)]
theorem rwF (N : zM) (l : Nat) (a b c d : Int32) : FrN N (rwN N l a b c d) := ⟨fun j h1 h2 h3 => by unfold rwN; simp (disch := omega) only [mset_ne, mset_eq, mrow_ne, mrow_eq, upd_eq, upd_ne], fun i h1 h2 h3 h4 h5 h6 => by unfold rwN; simp (disch := omega) only [mset_ne, mset_eq, mrow_ne, mrow_eq, upd_eq, upd_ne]⟩
theorem l_tail {M N : zM} {tp : Nat → Nat} {n NN : Nat} {P E : Nat → Nat} {j q cz l : Nat} (h : TS M N tp n NN P E j q) (h5 : M 55 5 = J cz) (h0 : M 55 0 = J l) (hl : l < 16) (a b c d : Int32) :
    (j < NN ∧ j_X3_read_127_10 55 M = some (.inl (mset (mset (mset M 58 l (J cz)) 78 7 (J (j + 1 : Nat))) 55 0 (J (l + 1 : Nat)))) ∧ (j_X11_readRule_156 (J l) a b c d N).bind (f_X11_sign (J 59)) = some (mset (rwN N l a b c d) 257 9 (J (E j)))) ∨
    (∃ M' N', j_X3_read_127_10 55 M = some (.inr (.inr (J (-1), M'))) ∧ (j_X11_readRule_156 (J l) a b c d N).bind (f_X11_sign (J 59)) = some N' ∧ FL M' N' ∧ FrC M M' ∧ FrN N N') := by
  have hn := TS_n h
  have hT : TS (mset M 58 l (J cz)) (rwN N l a b c d) tp n NN P E j q := TS_fr h (by simp (disch := omega) only [mset_ne, mset_eq, mrow_ne, mrow_eq, upd_eq, upd_ne]) (by simp (disch := omega) only [mset_ne, mset_eq, mrow_ne, mrow_eq, upd_eq, upd_ne]) (by simp (disch := omega) only [mset_ne, mset_eq, mrow_ne, mrow_eq, upd_eq, upd_ne]) (by simp (disch := omega) only [mset_ne, mset_eq, mrow_ne, mrow_eq, upd_eq, upd_ne]) (by unfold rwN; simp (disch := omega) only [mset_ne, mset_eq, mrow_ne, mrow_eq, upd_eq, upd_ne]) (by unfold rwN; simp (disch := omega) only [mset_ne, mset_eq, mrow_ne, mrow_eq, upd_eq, upd_ne]) (by unfold rwN; simp (disch := omega) only [mset_ne, mset_eq, mrow_ne, mrow_eq, upd_eq, upd_ne]) (by unfold rwN; simp (disch := omega) only [mset_ne, mset_eq, mrow_ne, mrow_eq, upd_eq, upd_ne])
  rw [r_156 hl h.2.2.2.2.2.2.2]
  simp only [bind_s]
  unfold j_X3_read_127_10
  rcases i_sign hT (c := 59) (by unfold isSg; omega) with ⟨s1, s2, s3, s4⟩ | ⟨s1, s3, s4⟩
  · have s3' : f_X5_take (J 59) (mset M 58 l (J cz)) = some (J 1, mset (mset M 58 l (J cz)) 78 7 (J (j + 1 : Nat))) := s3
    left
    refine ⟨s2, ?_, s4⟩
    simp (disch := omega) only [↓nm_s, ↓grd_s, ↓reduceIte, J_lit, J_neg, Int.cast_ofNat_Int, h0, h5, J_lt_t, J_lt_f, J_le_t, J_le_f, J_eq_t, J_eq_f, within_t, within_f, isIn_t, isIn_f, inRow_t, inRow_f, isCell_t, isCell_f, inb_t, ix_Jn, ix_J, Int.reduceToNat, Int.toNat_natCast, Nat.reduceAdd, s3', bnd2_s, mset_ne, mset_eq, mrow_ne, mrow_eq, upd_eq, upd_ne]
    rw [J_s]
  · have s3' : f_X5_take (J 59) (mset M 58 l (J cz)) = some (J 0, cF (mset M 58 l (J cz)) 1 (P j)) := s3
    right
    refine ⟨cF (mset M 58 l (J cz)) 1 (P j), _, ?_, s4, FL_of (by omega), FrC_t (FrC_d _ (by omega) (by omega) _ _) (FrC_c _ _ _), FrN_t (rwF _ _ _ _ _ _) (FrN_t (FrN_9 _ _) (FrN_r2 _ _ _))⟩
    simp (disch := omega) only [↓nm_s, ↓grd_s, ↓reduceIte, J_lit, J_neg, Int.cast_ofNat_Int, h0, h5, J_lt_t, J_lt_f, J_le_t, J_le_f, J_eq_t, J_eq_f, within_t, within_f, isIn_t, isIn_f, inRow_t, inRow_f, isCell_t, isCell_f, inb_t, ix_Jn, ix_J, Int.reduceToNat, Int.toNat_natCast, Nat.reduceAdd, s3', bnd2_s]
