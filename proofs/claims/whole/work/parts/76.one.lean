/-! ===== one: both sides ===== -/
def Bo (v : Int32) (P : Prop) : Prop := v = J 1 ∧ P ∨ v = J 0 ∧ ¬ P
theorem J_md (a b n : Nat) (h : a + b < 2147483648) (hn : 0 < n) (hn2 : n < 2147483648) : irem (J (a : Int) + J (b : Int)) (J (n : Int)) = J (((a + b) % n : Nat) : Int) := by
  rw [J_add, J_rem (by omega) (by omega) (by omega) (by omega)]
  congr 1
theorem J_ad (a b : Nat) : J (a : Int) + J (b : Int) = J ((a + b : Nat) : Int) := by
  rw [J_add]
  rfl
theorem p_rot {M : zM} {n : Nat} {a b : Nat → Nat} {k tg s : Nat} (hn : n ≤ 12) (h0 : M 72 0 = J n) (ha : ∀ i, i < n → M 71 i = J (a i) ∧ a i < 3) (hb : ∀ i, i < n → M 71 (tg + i) = J (b i) ∧ b i < 3) (hk : k ≤ 12) (ht : tg ≤ 12) (hs : s < 2) :
    Wp (f_X6_isRotation 70 (J k) (J tg) (J s) M) (fun v => Bo v (∀ i, i < n → b i = sw s (a ((i + k) % n)))) := by
  have key : Wp (loopW (fun i => b_X6_isRotation_11 70 (J k) (J tg) (J s) (J n) i M) (J 0)) (fun q => (q = .inl () ∧ ∀ i, i < n → b i = sw s (a ((i + k) % n))) ∨ (q = .inr (J 0) ∧ ¬ ∀ i, i < n → b i = sw s (a ((i + k) % n)))) := by
    refine loop_up (fun j i => i = J j ∧ ∀ i, i < j → b i = sw s (a ((i + k) % n))) n ⟨rfl, fun i h => by omega⟩ ?_ ?_
    · rintro j i hj ⟨rfl, e⟩
      have hm := Nat.mod_lt (j + k) (show n > 0 by omega)
      obtain ⟨q1, q2⟩ := ha _ hm
      obtain ⟨q3, q4⟩ := hb j hj
      have e1 := J_md j k n (by omega) (by omega) (by omega)
      have e2 := J_ad tg j
      unfold b_X6_isRotation_11 j_X6_isRotation_48_11
      have fin : ∀ v : Nat, v < 3 → v = sw s (a ((j + k) % n)) → Wp (if J (b j) = J v then (some (.inl (J (j : Int) + J 1)) : Option (Int32 ⊕ (Unit ⊕ Int32))) else some (.inr (.inr (J 0)))) (fun o => Sum.elim (fun i => i = J ((j + 1 : Nat) : Int) ∧ ∀ i, i < j + 1 → b i = sw s (a ((i + k) % n))) (fun q => (q = .inl () ∧ ∀ i, i < n → b i = sw s (a ((i + k) % n))) ∨ (q = .inr (J 0) ∧ ¬ ∀ i, i < n → b i = sw s (a ((i + k) % n)))) o) := by
        intro v hv ev
        by_cases c : b j = v
        · rw [if_pos (congrArg (fun x : Nat => J (x : Int)) c)]
          refine wp_some ⟨by rw [J_add]; rfl, fun i hi => ?_⟩
          by_cases d : i = j
          · subst d; rw [c, ev]
          · exact e i (by omega)
        · rw [if_neg (by rw [J_eq (by omega) (by omega) (by omega) (by omega)]; omega)]
          exact wp_some (Or.inr ⟨rfl, fun h => c (by rw [h j hj, ev])⟩)
      rcases (show s = 0 ∨ s = 1 by omega) with es | es
      · subst es
        simp (disch := omega) only [↓nm_s, ↓grd_s, ↓reduceIte, J_lit, Int.cast_ofNat_Int, Int.natCast_zero, J_lt_t, J_lt_f, J_le_t, J_le_f, J_eq_t, J_eq_f, within_t, within_f, isIn_t, isIn_f, inRow_t, inRow_f, isCell_t, isCell_f, inb_t, ix_Jn, ix_J, Int.reduceToNat, Int.toNat_natCast, Nat.reduceAdd, not_false_eq_true, e1, e2, q1, q3]
        exact fin _ q2 (by rw [sw_0])
      · subst es
        by_cases c : a ((j + k) % n) < 2
        · have e3 : J 1 - J (a ((j + k) % n) : Int) = J ((1 - a ((j + k) % n) : Nat) : Int) := by rw [J_sub]; exact congrArg J (by omega)
          simp (disch := omega) only [↓nm_s, ↓grd_s, ↓reduceIte, J_lit, Int.cast_ofNat_Int, Int.natCast_one, J_lt_t, J_lt_f, J_le_t, J_le_f, J_eq_t, J_eq_f, within_t, within_f, isIn_t, isIn_f, inRow_t, inRow_f, isCell_t, isCell_f, inb_t, ix_Jn, ix_J, Int.reduceToNat, Int.toNat_natCast, Nat.reduceAdd, not_false_eq_true, e1, e2, e3, q1, q3]
          exact fin _ (by omega) (by unfold sw; rw [if_pos ⟨rfl, c⟩])
        · simp (disch := omega) only [↓nm_s, ↓grd_s, ↓reduceIte, J_lit, Int.cast_ofNat_Int, Int.natCast_one, J_lt_t, J_lt_f, J_le_t, J_le_f, J_eq_t, J_eq_f, within_t, within_f, isIn_t, isIn_f, inRow_t, inRow_f, isCell_t, isCell_f, inb_t, ix_Jn, ix_J, Int.reduceToNat, Int.toNat_natCast, Nat.reduceAdd, not_false_eq_true, e1, e2, q1, q3]
          exact fin _ q2 (by unfold sw; rw [if_neg (by omega)])
    · rintro i ⟨rfl, e⟩
      unfold b_X6_isRotation_11
      simp (disch := omega) only [↓reduceIte, J_lt_t, J_lt_f, J_le_t, J_le_f, J_eq_t, J_eq_f, within_t, within_f, isIn_t, isIn_f, inRow_t, inRow_f, isCell_t, isCell_f, inb_t]
      exact wp_some (Or.inl ⟨rfl, e⟩)
  unfold f_X6_isRotation j_X6_isRotation_70
  simp (disch := omega) only [↓nm_s, J_lit, Int.cast_ofNat_Int, ix_Jn, ix_J, Int.reduceToNat, Int.toNat_natCast, Nat.reduceAdd, h0]
  refine wp_bind (wp_mono key ?_)
  rintro q (⟨rfl, h⟩ | ⟨rfl, h⟩)
  · exact wp_some (Or.inl ⟨rfl, h⟩)
  · exact wp_some (Or.inr ⟨rfl, h⟩)
theorem p_goesRound {M : zM} {n : Nat} {a b : Nat → Nat} {tg s : Nat} (hn : n ≤ 12) (h0 : M 72 0 = J n) (ha : ∀ i, i < n → M 71 i = J (a i) ∧ a i < 3) (hb : ∀ i, i < n → M 71 (tg + i) = J (b i) ∧ b i < 3) (ht : tg ≤ 12) (hs : s < 2) :
    Wp (f_X6_goesRoundTo 70 (J tg) (J s) M) (fun v => Bo v (n = 0 ∨ ∃ k, k < n ∧ ∀ i, i < n → b i = sw s (a ((i + k) % n)))) := by
  have key : ∀ v0, v0 = J (if n = 0 then 1 else 0) → Wp (loopW (fun q => b_X6_goesRoundTo_21 70 (J tg) (J s) (J n) q.1 q.2 M) (v0, J 0)) (fun v => Bo v (n = 0 ∨ ∃ k, k < n ∧ ∀ i, i < n → b i = sw s (a ((i + k) % n)))) := by
    intro v0 hv0
    refine loop_up (fun j q => q.2 = J j ∧ Bo q.1 (n = 0 ∨ ∃ k, k < j ∧ ∀ i, i < n → b i = sw s (a ((i + k) % n)))) n ⟨rfl, ?_⟩ ?_ ?_
    · subst hv0
      by_cases c : n = 0
      · rw [if_pos c]; exact Or.inl ⟨rfl, Or.inl c⟩
      · rw [if_neg c]; exact Or.inr ⟨rfl, by rintro (h | ⟨k, hk, _⟩); exact c h; omega⟩
    · rintro j ⟨v, i⟩ hj ⟨e1, e2⟩
      simp only at e1 e2
      subst e1
      unfold b_X6_goesRoundTo_21
      rcases e2 with ⟨rfl, h⟩ | ⟨rfl, h⟩
      · simp (disch := omega) only [↓reduceIte, J_lit, Int.cast_ofNat_Int, J_lt_t, J_lt_f, J_le_t, J_le_f, J_eq_t, J_eq_f, within_t, within_f, isIn_t, isIn_f, inRow_t, inRow_f, isCell_t, isCell_f, inb_t]
        refine wp_some (Or.inl ⟨rfl, ?_⟩)
        rcases h with h | ⟨k, hk, h⟩
        · exact Or.inl h
        · exact Or.inr ⟨k, by omega, h⟩
      · simp (disch := omega) only [↓reduceIte, J_lit, Int.cast_ofNat_Int, J_lt_t, J_lt_f, J_le_t, J_le_f, J_eq_t, J_eq_f, within_t, within_f, isIn_t, isIn_f, inRow_t, inRow_f, isCell_t, isCell_f, inb_t]
        refine wp_bind (wp_mono (p_rot (k := j) hn h0 ha hb (by omega) ht hs) ?_)
        rintro v hv
        refine wp_some ⟨by rw [J_add]; rfl, ?_⟩
        rcases hv with ⟨e, hv⟩ | ⟨e, hv⟩
        · exact Or.inl ⟨e, Or.inr ⟨j, by omega, hv⟩⟩
        · refine Or.inr ⟨e, ?_⟩
          rintro (d | ⟨k, hk, d⟩)
          · omega
          · by_cases ek : k = j
            · subst ek; exact hv d
            · exact h (Or.inr ⟨k, by omega, d⟩)
    · rintro ⟨v, i⟩ ⟨e1, e2⟩
      simp only at e1 e2
      subst e1
      unfold b_X6_goesRoundTo_21
      simp (disch := omega) only [↓reduceIte, J_lit, Int.cast_ofNat_Int, J_lt_t, J_lt_f, J_le_t, J_le_f, J_eq_t, J_eq_f, within_t, within_f, isIn_t, isIn_f, inRow_t, inRow_f, isCell_t, isCell_f, inb_t]
      exact wp_some e2
  unfold f_X6_goesRoundTo j_X6_goesRoundTo_16 j_X6_goesRoundTo_48
  have fin : ∀ v P, Bo v P → Wp (if isB v then some v else none) (fun v => Bo v P) := by
    intro v P h
    have : isB v := by
      rcases h with ⟨e, _⟩ | ⟨e, _⟩
      · exact Or.inr e
      · exact Or.inl e
    rw [if_pos this]
    exact wp_some h
  by_cases c : n = 0
  · simp (disch := omega) only [↓nm_s, ↓grd_s, ↓reduceIte, J_lit, Int.cast_ofNat_Int, ix_Jn, ix_J, Int.reduceToNat, Int.toNat_natCast, J_lt_t, J_lt_f, J_le_t, J_le_f, J_eq_t, J_eq_f, within_t, within_f, isIn_t, isIn_f, inRow_t, inRow_f, isCell_t, isCell_f, inb_t, Nat.reduceAdd, h0]
    refine wp_bind (wp_mono (key (J 1) (by rw [if_pos c])) ?_)
    intro v h
    exact fin _ _ h
  · simp (disch := omega) only [↓nm_s, ↓grd_s, ↓reduceIte, J_lit, Int.cast_ofNat_Int, ix_Jn, ix_J, Int.reduceToNat, Int.toNat_natCast, J_lt_t, J_lt_f, J_le_t, J_le_f, J_eq_t, J_eq_f, within_t, within_f, isIn_t, isIn_f, inRow_t, inRow_f, isCell_t, isCell_f, inb_t, Nat.reduceAdd, h0]
    refine wp_bind (wp_mono (key (J 0) (by rw [if_neg c])) ?_)
    intro v h
    exact fin _ _ h
theorem p_unlike {M : zM} {n : Nat} {a : Nat → Nat} (hn : n ≤ 12) (h0 : M 72 0 = J n) (ha : ∀ i, i < n → M 71 i = J (a i) ∧ a i < 3) :
    f_X6_unlikeRows 70 M = some (J ((if n = 0 then 1 else cnt (fun h => ∀ t, t < h → ¬ ∀ i, i < n → rwo a n h i = rwo a n t i) (2 * n) : Nat) : Int)) := by
  have key : Wp (loopW (fun s => b_X6_unlikeRows_2 70 s M) (J 1)) (fun v => ∃ p : Nat, v = J p ∧ 0 < p ∧ (p ≤ n ∨ p = 1) ∧ (n ≤ p ∨ ∀ i, i < n → a i = sw 0 (a ((i + p) % n))) ∧ ∀ q, 0 < q → q < p → ¬ ∀ i, i < n → a i = sw 0 (a ((i + q) % n))) := by
    refine loop_q _ (fun s => 13 - s.toInt.toNat) (fun s => ∃ p : Nat, s = J p ∧ 0 < p ∧ (p ≤ n ∨ p = 1) ∧ ∀ q, 0 < q → q < p → ¬ ∀ i, i < n → a i = sw 0 (a ((i + q) % n))) _ ?_ _ ⟨1, rfl, by omega, Or.inr rfl, fun q h h' => by omega⟩
    rintro s ⟨p, rfl, h1, h2, h3⟩
    unfold b_X6_unlikeRows_2
    by_cases c : n ≤ p
    · simp (disch := omega) only [↓reduceIte, J_lit, Int.cast_ofNat_Int, ix_Jn, ix_J, Int.reduceToNat, Int.toNat_natCast, J_lt_t, J_lt_f, J_le_t, J_le_f, J_eq_t, J_eq_f, within_t, within_f, isIn_t, isIn_f, inRow_t, inRow_f, isCell_t, isCell_f, inb_t, Nat.reduceAdd, h0]
      exact wp_some ⟨p, rfl, h1, h2, Or.inl c, h3⟩
    · simp (disch := omega) only [↓reduceIte, J_lit, Int.cast_ofNat_Int, ix_Jn, ix_J, Int.reduceToNat, Int.toNat_natCast, J_lt_t, J_lt_f, J_le_t, J_le_f, J_eq_t, J_eq_f, within_t, within_f, isIn_t, isIn_f, inRow_t, inRow_f, isCell_t, isCell_f, inb_t, Nat.reduceAdd, h0]
      refine wp_bind (wp_mono (p_rot (k := p) (tg := 0) (s := 0) (b := a) hn h0 ha (fun i hi => by rw [Nat.zero_add]; exact ha i hi) (by omega) (by omega) (by omega)) ?_)
      rintro v (⟨rfl, h⟩ | ⟨rfl, h⟩)
      · simp (disch := omega) only [↓reduceIte, J_lit, Int.cast_ofNat_Int, J_lt_t, J_lt_f, J_le_t, J_le_f, J_eq_t, J_eq_f, within_t, within_f, isIn_t, isIn_f, inRow_t, inRow_f, isCell_t, isCell_f, inb_t]
        exact wp_some ⟨p, rfl, h1, h2, Or.inr h, h3⟩
      · simp (disch := omega) only [↓reduceIte, J_lit, Int.cast_ofNat_Int, J_lt_t, J_lt_f, J_le_t, J_le_f, J_eq_t, J_eq_f, within_t, within_f, isIn_t, isIn_f, inRow_t, inRow_f, isCell_t, isCell_f, inb_t]
        refine wp_some ⟨⟨p + 1, by rw [J_add]; rfl, by omega, Or.inl (by omega), fun q g g' => ?_⟩, ?_⟩
        · by_cases e : q = p
          · subst e; exact h
          · exact h3 q g (by omega)
        · rw [J_add, J_toInt (by omega) (by omega), J_toInt (by omega) (by omega)]
          omega
  obtain ⟨v, e, p, rfl, h1, h2, h3, h4⟩ := key
  unfold f_X6_unlikeRows j_X6_unlikeRows_28
  rw [show (1 : Int32) = J 1 from rfl, e]
  by_cases c : n = 0
  · have : p = 1 := by omega
    subst this
    simp (disch := omega) only [↓reduceIte, bind_s, J_lit, Int.cast_ofNat_Int, ix_Jn, ix_J, Int.reduceToNat, Int.toNat_natCast, J_lt_t, J_lt_f, J_le_t, J_le_f, J_eq_t, J_eq_f, within_t, within_f, isIn_t, isIn_f, inRow_t, inRow_f, isCell_t, isCell_f, inb_t, Nat.reduceAdd, h0, c]
  · have hc := cnt_rows (p := p) (by omega) (fun i hi => (ha i hi).2) h1 (by omega) (by rcases h3 with h | h; exact Or.inl (by omega); exact Or.inr h) h4
    rw [if_neg c, hc]
    obtain ⟨w, ew, hw⟩ := p_goesRound (tg := 0) (s := 1) (b := a) hn h0 ha (fun i hi => by rw [Nat.zero_add]; exact ha i hi) (by omega) (by omega)
    have ew' : f_X6_goesRoundTo 70 (J 0) (J 1) M = some w := ew
    simp (disch := omega) only [↓reduceIte, bind_s, J_lit, Int.cast_ofNat_Int, ix_Jn, ix_J, Int.reduceToNat, Int.toNat_natCast, J_lt_t, J_lt_f, J_le_t, J_le_f, J_eq_t, J_eq_f, within_t, within_f, isIn_t, isIn_f, inRow_t, inRow_f, isCell_t, isCell_f, inb_t, Nat.reduceAdd, h0, ew']
    rcases hw with ⟨rfl, h⟩ | ⟨rfl, h⟩
    · simp (disch := omega) only [↓reduceIte, J_lt_t, J_lt_f, J_le_t, J_le_f, J_eq_t, J_eq_f, within_t, within_f, isIn_t, isIn_f, inRow_t, inRow_f, isCell_t, isCell_f, inb_t]
      rw [if_pos (by rcases h with h | h; exact absurd h c; exact h)]
    · simp (disch := omega) only [↓reduceIte, J_lt_t, J_lt_f, J_le_t, J_le_f, J_eq_t, J_eq_f, within_t, within_f, isIn_t, isIn_f, inRow_t, inRow_f, isCell_t, isCell_f, inb_t]
      rw [if_neg (fun d => h (Or.inr d)), J_mul]
      rfl
