/-! ===== the scan of the class ===== -/
def isSg (c : Nat) : Prop := c = 59 ∨ c = 43 ∨ c = 45 ∨ c = 42 ∨ c = 47 ∨ c = 40 ∨ c = 41 ∨ c = 60 ∨ c = 61 ∨ c = 62
theorem ix_T1 : ∀ c : Nat, c < 256 → i2c (J c) = J c ∧ f_J1_canEncode_9a6ad (J c) = J 1 := by decide +kernel
theorem ix_T2 : ∀ c : Nat, c < 256 → ((∃ k : Nat, k < 10 ∧ (zKb.getD 1 []).getD k 0 = (J c).toInt8.toInt32) ↔ (c = 59 ∨ c = 43 ∨ c = 45 ∨ c = 42 ∨ c = 47 ∨ c = 40 ∨ c = 41 ∨ c = 60 ∨ c = 61 ∨ c = 62)) := by decide +kernel
theorem ix_T3 : f_J0_isLatin1_aae02 1 = J 1 ∧ f_J0_length_8abf5 1 = J 10 ∧ nI (zKl.getD 1 0) = J 10 ∧ zKl.getD 1 0 = 10 := by decide +kernel
theorem p_signs {c : Nat} (hc : c < 256) : Wp (f_J0_indexOf_0f7a4 1 (i2c (J c))) (fun v => (isSg c ∧ ∃ k : Nat, k < 10 ∧ v = J k) ∨ (¬ isSg c ∧ v = J (-1))) := by
  obtain ⟨a1, a2⟩ := ix_T1 c hc
  obtain ⟨b1, b2, b3, b4⟩ := ix_T3
  have key : Wp (loopW (fun s => b_J1_indexOfChar_4cfef_7 1 (J 10) (J c).toInt8.toInt32 s) (J 0)) (fun q => (∃ k : Nat, k < 10 ∧ q = .inr (J k) ∧ (zKb.getD 1 []).getD k 0 = (J c).toInt8.toInt32) ∨ (q = .inl () ∧ ∀ k : Nat, k < 10 → ¬ (zKb.getD 1 []).getD k 0 = (J c).toInt8.toInt32)) := by
    refine loop_up (fun k s => s = J k ∧ ∀ t : Nat, t < k → ¬ (zKb.getD 1 []).getD t 0 = (J c).toInt8.toInt32) 10 ⟨rfl, fun t ht => by omega⟩ ?_ ?_
    · rintro k s hk ⟨rfl, h⟩
      unfold b_J1_indexOfChar_4cfef_7
      by_cases q : (zKb.getD 1 []).getD k 0 = (J c).toInt8.toInt32
      · simp (disch := omega) only [↓grd_s, ↓reduceIte, J_lit, Int.cast_ofNat_Int, J_lt_t, J_lt_f, J_le_t, J_le_f, J_eq_t, J_eq_f, within_t, within_f, isIn_t, isIn_f, inRow_t, inRow_f, isCell_t, isCell_f, inb_t, ix_Jn, ix_J, Int.reduceToNat, Int.toNat_natCast, b4]
        rw [if_pos (show (zKb.getD 1 []).getD k (J 0) = (J (c : Int)).toInt8.toInt32 from q)]
        exact wp_some (Or.inl ⟨k, hk, rfl, q⟩)
      · simp (disch := omega) only [↓grd_s, ↓reduceIte, J_lit, Int.cast_ofNat_Int, J_lt_t, J_lt_f, J_le_t, J_le_f, J_eq_t, J_eq_f, within_t, within_f, isIn_t, isIn_f, inRow_t, inRow_f, isCell_t, isCell_f, inb_t, ix_Jn, ix_J, Int.reduceToNat, Int.toNat_natCast, b4]
        rw [if_neg (show ¬ (zKb.getD 1 []).getD k (J 0) = (J (c : Int)).toInt8.toInt32 from q)]
        refine wp_some ⟨J_s _, fun t ht => ?_⟩
        by_cases e : t = k
        · subst e; exact q
        · exact h t (by omega)
    · rintro s ⟨rfl, h⟩
      unfold b_J1_indexOfChar_4cfef_7
      simp (disch := omega) only [↓reduceIte, J_lit, Int.cast_ofNat_Int, J_lt_t, J_lt_f, J_le_t, J_le_f, J_eq_t, J_eq_f, within_t, within_f, isIn_t, isIn_f, inRow_t, inRow_f, isCell_t, isCell_f, inb_t]
      exact wp_some (Or.inr ⟨rfl, h⟩)
  have hmx : f_J9_max_7cf53 (J 0) (J 0) = J 0 := by decide +kernel
  have hmn : f_J9_min_7cf53 (J 10) (J 10) = J 10 := by decide +kernel
  have hsg := ix_T2 c hc
  unfold f_J0_indexOf_0f7a4 f_J0_indexOf_7cf53 f_J1_indexOf_4cfef f_J1_indexOfChar_4cfef j_J1_indexOfChar_4cfef_31
  simp (disch := omega) only [↓nm_s, ↓reduceIte, J_lit, J_neg, Int.cast_ofNat_Int, J_lt_t, J_lt_f, J_le_t, J_le_f, J_eq_t, J_eq_f, within_t, within_f, isIn_t, isIn_f, inRow_t, inRow_f, isCell_t, isCell_f, inb_t, a1, a2, b1, b2, b3, hmx, hmn]
  refine wp_bind (wp_bind (wp_bind (wp_bind (wp_mono key ?_))))
  rintro q (⟨k, h1, rfl, h2⟩ | ⟨rfl, h⟩)
  · exact wp_some (wp_some (wp_some (wp_some (Or.inl ⟨hsg.1 ⟨k, h1, h2⟩, k, h1, rfl⟩))))
  · refine wp_some (wp_some (wp_some (wp_some (Or.inr ⟨fun hs => ?_, rfl⟩))))
    obtain ⟨k, h1, h2⟩ := hsg.2 hs
    exact h k h1 h2
def Tok (tp : Nat → Nat) (n p e : Nat) (kd nm : Int32) : Prop :=
  (isLet (tp p) ∧ IsE (fun i => isLet (tp i)) n p e ∧ ((∃ i : Nat, i < 29 ∧ isW tp p e i ∧ kd = J (128 + i : Nat)) ∨ (kd = J 1 ∧ ∀ i, i < 29 → ¬ isW tp p e i))) ∨
  (isDig (tp p) ∧ IsE (fun i => isDig (tp i)) n p e ∧ kd = J ((if e - p ≤ 4 then 2 else 1 : Nat) : Int) ∧ nm = J (dv tp p (e - p))) ∨
  (¬ isLet (tp p) ∧ ¬ isDig (tp p) ∧ ¬ isBl (tp p) ∧ e = p + 1 ∧ ((isSg (tp p) ∧ kd = J (tp p)) ∨ (¬ isSg (tp p) ∧ kd = J 1)))
/-- N tokens: where they begin, where they end -/
def TkS (tp : Nat → Nat) (n : Nat) (k80 k81 k82 : Nat → Int32) (N : Nat) (P E : Nat → Nat) : Prop :=
  N ≤ n ∧ n ≤ 400 ∧ IsE (fun i => isBl (tp i)) n 0 (P 0) ∧
  (∀ j, j < N → P j < n ∧ k82 j = J (P j) ∧ P j < E j ∧ E j ≤ n ∧ Tok tp n (P j) (E j) (k80 j) (k81 j) ∧ IsE (fun i => isBl (tp i)) n (E j) (P (j + 1))) ∧
  P N = n ∧ k80 N = J 0 ∧ k82 N = J n
theorem not_let_dig {c : Nat} (h : isLet c) : ¬ isDig c ∧ ¬ isBl c := by unfold isLet isDig isBl at *; omega
theorem not_dig_bl {c : Nat} (h : isDig c) : ¬ isLet c ∧ ¬ isBl c := by unfold isLet isDig isBl at *; omega
theorem mx_on {i e : Nat} (h : i < e) (he : e ≤ 400) : f_J9_max_7cf53 (J (i : Int) + J 1) (J (e : Int)) = J (e : Int) := by
  rw [J_s]
  unfold f_J9_max_7cf53
  by_cases q : i + 1 = e
  · subst q
    split <;> rfl
  · simp (disch := omega) only [↓reduceIte, J_lt_t, J_lt_f, J_le_t, J_le_f, J_eq_t, J_eq_f, within_t, within_f, isIn_t, isIn_f, inRow_t, inRow_f, isCell_t, isCell_f, inb_t]
theorem p_scan {M : zM} {tp : Nat → Nat} {n : Nat} (h0 : M 78 0 = J n) (hT : TpR (M 79) tp n) : Wp (f_X5_scan M) (fun M' => (∃ N P E, TkS tp n (M' 80) (M' 81) (M' 82) N P E) ∧ (M' 78 0 = J n ∧ M' 78 1 = J 0 ∧ M' 78 2 = J (-1) ∧ M' 78 7 = J 0) ∧ ∀ j, j ≠ 78 → j ≠ 80 → j ≠ 81 → j ≠ 82 → M' j = M j) := by
  have hn := hT.1
  unfold f_X5_scan
  simp (disch := omega) only [↓nm_s, J_lit, J_neg, Int.cast_ofNat_Int]
  refine wp_bind ?_
  refine wp_mono (P := fun q => ∃ (c : Nat) (P E : Nat → Nat), q.1 = J c ∧ c ≤ n ∧ IsE (fun i => isBl (tp i)) n 0 (P 0) ∧ P c = n ∧ (∀ j, j < c → P j < n ∧ q.2 82 j = J (P j) ∧ P j < E j ∧ E j ≤ n ∧ Tok tp n (P j) (E j) (q.2 80 j) (q.2 81 j) ∧ IsE (fun i => isBl (tp i)) n (E j) (P (j + 1))) ∧ (q.2 78 0 = J n ∧ q.2 78 1 = J 0 ∧ q.2 78 2 = J (-1) ∧ q.2 78 7 = J 0) ∧ ∀ j, j ≠ 78 → j ≠ 80 → j ≠ 81 → j ≠ 82 → q.2 j = M j) ?_ ?_
  · refine loop_q _ (fun s => 401 - s.2.1.toInt.toNat) (fun s => ∃ (c i base : Nat) (P E : Nat → Nat), s.1 = J c ∧ s.2.1 = J i ∧ base ≤ i ∧ i ≤ n ∧ c ≤ base ∧ (∀ t, base ≤ t → t < i → isBl (tp t)) ∧ (c = 0 ∧ base = 0 ∨ 0 < c ∧ base = E (c - 1) ∧ IsE (fun i => isBl (tp i)) n 0 (P 0)) ∧ (∀ j, j < c → P j < n ∧ s.2.2 82 j = J (P j) ∧ P j < E j ∧ E j ≤ n ∧ Tok tp n (P j) (E j) (s.2.2 80 j) (s.2.2 81 j) ∧ (j + 1 < c → IsE (fun i => isBl (tp i)) n (E j) (P (j + 1)))) ∧ (s.2.2 78 0 = J n ∧ s.2.2 78 1 = J 0 ∧ s.2.2 78 2 = J (-1) ∧ s.2.2 78 7 = J 0) ∧ ∀ j, j ≠ 78 → j ≠ 80 → j ≠ 81 → j ≠ 82 → s.2.2 j = M j) _ ?_ _ ⟨0, 0, 0, fun _ => 0, fun _ => 0, rfl, rfl, by omega, by omega, by omega, fun t _ h => by omega, Or.inl ⟨rfl, rfl⟩, fun j h => by omega, ?_, fun j h1 h2 h3 h4 => by simp (disch := omega) only [mset_ne, mset_eq, mrow_ne, mrow_eq, upd_eq, upd_ne]⟩
    · rintro ⟨s1, s2, A⟩ ⟨c, i, base, P, E, e1, e2, e3, e4, e5, e6, e7, e8, e9, e10⟩
      simp only at e1 e2 e8 e9 e10
      subst e1 e2
      obtain ⟨f0, f1, f2, f7⟩ := e9
      have a79 : A 79 = M 79 := e10 79 (by decide) (by decide) (by decide) (by decide)
      unfold b_X5_scan_19 j_X5_scan_169_19 j_X5_scan_131_19 j_X5_scan_170_19 j_X5_scan_173_19
      by_cases ci : n ≤ i
      · have : i = n := by omega
        subst this
        simp (disch := omega) only [↓reduceIte, J_lt_t, J_lt_f, J_le_t, J_le_f, J_eq_t, J_eq_f, within_t, within_f, isIn_t, isIn_f, inRow_t, inRow_f, isCell_t, isCell_f, inb_t, f0]
        refine wp_some ⟨c, fun j => if j < c then P j else i, E, rfl, by omega, ?_, ?_, fun j hj => ?_, ⟨f0, f1, f2, f7⟩, e10⟩
        · rcases e7 with ⟨q1, q2⟩ | ⟨q1, q2, q3⟩
          · subst q1 q2
            simp only [Nat.lt_irrefl, if_false]
            exact ⟨by omega, Nat.le_refl _, fun j h1 h2 => e6 j h1 h2, Or.inl rfl⟩
          · simp only [q1, if_true]
            exact q3
        · simp only [Nat.lt_irrefl, if_false]
        · obtain ⟨g1, g2, g3, g4, g5, g6⟩ := e8 j hj
          simp only [hj, if_true]
          refine ⟨g1, g2, g3, g4, g5, ?_⟩
          by_cases q : j + 1 < c
          · simp only [q, if_true]
            exact g6 q
          · simp only [q, if_false]
            rcases e7 with ⟨q1, q2⟩ | ⟨q1, q2, q3⟩
            · omega
            · have : c - 1 = j := by omega
              rw [this] at q2
              subst q2
              exact ⟨e3, Nat.le_refl _, fun t h1 h2 => e6 t h1 h2, Or.inl rfl⟩
      · obtain ⟨q1, q2⟩ := hT.2 i (by omega)
        rw [← a79] at q1
        obtain ⟨l1, l2, l3, l4⟩ := lt_5 (tp i) q2
        by_cases cb : isBl (tp i)
        · have nx : Wp (some (.inl (J (c : Int), J (i : Int) + J 1, A)) : Option ((Int32 × Int32 × zM) ⊕ (Int32 × zM))) (fun o => Sum.elim (fun s' => (∃ (c i base : Nat) (P E : Nat → Nat), s'.1 = J c ∧ s'.2.1 = J i ∧ base ≤ i ∧ i ≤ n ∧ c ≤ base ∧ (∀ t, base ≤ t → t < i → isBl (tp t)) ∧ (c = 0 ∧ base = 0 ∨ 0 < c ∧ base = E (c - 1) ∧ IsE (fun i => isBl (tp i)) n 0 (P 0)) ∧ (∀ j, j < c → P j < n ∧ s'.2.2 82 j = J (P j) ∧ P j < E j ∧ E j ≤ n ∧ Tok tp n (P j) (E j) (s'.2.2 80 j) (s'.2.2 81 j) ∧ (j + 1 < c → IsE (fun i => isBl (tp i)) n (E j) (P (j + 1)))) ∧ (s'.2.2 78 0 = J n ∧ s'.2.2 78 1 = J 0 ∧ s'.2.2 78 2 = J (-1) ∧ s'.2.2 78 7 = J 0) ∧ ∀ j, j ≠ 78 → j ≠ 80 → j ≠ 81 → j ≠ 82 → s'.2.2 j = M j) ∧ 401 - s'.2.1.toInt.toNat < 401 - (J (i : Int)).toInt.toNat) (fun q => ∃ (c : Nat) (P E : Nat → Nat), q.1 = J c ∧ c ≤ n ∧ IsE (fun i => isBl (tp i)) n 0 (P 0) ∧ P c = n ∧ (∀ j, j < c → P j < n ∧ q.2 82 j = J (P j) ∧ P j < E j ∧ E j ≤ n ∧ Tok tp n (P j) (E j) (q.2 80 j) (q.2 81 j) ∧ IsE (fun i => isBl (tp i)) n (E j) (P (j + 1))) ∧ (q.2 78 0 = J n ∧ q.2 78 1 = J 0 ∧ q.2 78 2 = J (-1) ∧ q.2 78 7 = J 0) ∧ ∀ j, j ≠ 78 → j ≠ 80 → j ≠ 81 → j ≠ 82 → q.2 j = M j) o) := by
            refine wp_some ⟨⟨c, i + 1, base, P, E, rfl, J_s _, by omega, by omega, e5, fun t h1 h2 => ?_, e7, e8, ⟨f0, f1, f2, f7⟩, e10⟩, ?_⟩
            · by_cases q : t = i
              · subst q; exact cb
              · exact e6 t h1 (by omega)
            · simp only
              rw [J_s, J_toInt (by omega) (by omega), J_toInt (by omega) (by omega)]
              omega
          by_cases c32 : tp i = 32
          · simp (disch := omega) only [↓nm_s, ↓grd_s, ↓reduceIte, J_lit, J_neg, Int.cast_ofNat_Int, J_lt_t, J_lt_f, J_le_t, J_le_f, J_eq_t, J_eq_f, within_t, within_f, isIn_t, isIn_f, inRow_t, inRow_f, isCell_t, isCell_f, inb_t, ix_Jn, ix_J, Int.reduceToNat, Int.toNat_natCast, f0, q1]
            exact nx
          · have c10 : tp i = 10 := by
              rcases cb with q | q
              · exact absurd q c32
              · exact q
            simp (disch := omega) only [↓nm_s, ↓grd_s, ↓reduceIte, J_lit, J_neg, Int.cast_ofNat_Int, J_lt_t, J_lt_f, J_le_t, J_le_f, J_eq_t, J_eq_f, within_t, within_f, isIn_t, isIn_f, inRow_t, inRow_f, isCell_t, isCell_f, inb_t, ix_Jn, ix_J, Int.reduceToNat, Int.toNat_natCast, f0, q1]
            exact nx
        · -- a token from i to e
          have c32 : tp i ≠ 32 := fun q => cb (Or.inl q)
          have c10 : tp i ≠ 10 := fun q => cb (Or.inr q)
          have hE : IsE (fun i => isBl (tp i)) n base i := ⟨e3, by omega, e6, Or.inr cb⟩
          have tk : ∀ (A' : zM) (e : Nat), i < e → e ≤ n → A' 82 c = J i → Tok tp n i e (A' 80 c) (A' 81 c) → (∀ j, j ≠ c → A' 80 j = A 80 j ∧ A' 81 j = A 81 j ∧ A' 82 j = A 82 j) → (∀ j, j ≠ 80 → j ≠ 81 → j ≠ 82 → A' j = A j) →
              Wp (some (.inl (J (c : Int) + J 1, J (e : Int), A')) : Option ((Int32 × Int32 × zM) ⊕ (Int32 × zM))) (fun o => Sum.elim (fun s' => (∃ (c i base : Nat) (P E : Nat → Nat), s'.1 = J c ∧ s'.2.1 = J i ∧ base ≤ i ∧ i ≤ n ∧ c ≤ base ∧ (∀ t, base ≤ t → t < i → isBl (tp t)) ∧ (c = 0 ∧ base = 0 ∨ 0 < c ∧ base = E (c - 1) ∧ IsE (fun i => isBl (tp i)) n 0 (P 0)) ∧ (∀ j, j < c → P j < n ∧ s'.2.2 82 j = J (P j) ∧ P j < E j ∧ E j ≤ n ∧ Tok tp n (P j) (E j) (s'.2.2 80 j) (s'.2.2 81 j) ∧ (j + 1 < c → IsE (fun i => isBl (tp i)) n (E j) (P (j + 1)))) ∧ (s'.2.2 78 0 = J n ∧ s'.2.2 78 1 = J 0 ∧ s'.2.2 78 2 = J (-1) ∧ s'.2.2 78 7 = J 0) ∧ ∀ j, j ≠ 78 → j ≠ 80 → j ≠ 81 → j ≠ 82 → s'.2.2 j = M j) ∧ 401 - s'.2.1.toInt.toNat < 401 - (J (i : Int)).toInt.toNat) (fun q => ∃ (c : Nat) (P E : Nat → Nat), q.1 = J c ∧ c ≤ n ∧ IsE (fun i => isBl (tp i)) n 0 (P 0) ∧ P c = n ∧ (∀ j, j < c → P j < n ∧ q.2 82 j = J (P j) ∧ P j < E j ∧ E j ≤ n ∧ Tok tp n (P j) (E j) (q.2 80 j) (q.2 81 j) ∧ IsE (fun i => isBl (tp i)) n (E j) (P (j + 1))) ∧ (q.2 78 0 = J n ∧ q.2 78 1 = J 0 ∧ q.2 78 2 = J (-1) ∧ q.2 78 7 = J 0) ∧ ∀ j, j ≠ 78 → j ≠ 80 → j ≠ 81 → j ≠ 82 → q.2 j = M j) o) := by
            intro A' e h1 h2 h3 h4 h5 h6
            refine wp_some ⟨⟨c + 1, e, e, upN P c i, upN E c e, J_s _, rfl, Nat.le_refl _, h2, by omega, fun t h7 h8 => by omega, Or.inr ⟨by omega, ?_, ?_⟩, fun j hj => ?_, ?_, fun j h7 h8 h9 h10 => by simp only; rw [h6 j h8 h9 h10]; exact e10 j h7 h8 h9 h10⟩, ?_⟩
            · rw [Nat.add_sub_cancel, upN_eq]
            · rcases e7 with ⟨q1, q2⟩ | ⟨q1, q2, q3⟩
              · subst q1 q2
                rw [upN_eq]
                exact hE
              · rw [upN_ne (by omega)]
                exact q3
            · simp only
              by_cases q : j = c
              · subst q
                rw [upN_eq, upN_eq]
                exact ⟨by omega, h3, h1, h2, h4, fun h => by omega⟩
              · rw [upN_ne q, upN_ne q]
                obtain ⟨g1, g2, g3, g4, g5, g6⟩ := e8 j (by omega)
                obtain ⟨k1, k2, k3⟩ := h5 j q
                rw [k1, k2, k3]
                refine ⟨g1, g2, g3, g4, g5, fun h => ?_⟩
                by_cases q' : j + 1 = c
                · rw [q', upN_eq]
                  rcases e7 with ⟨r1, r2⟩ | ⟨r1, r2, r3⟩
                  · omega
                  · have : c - 1 = j := by omega
                    rw [this] at r2
                    rw [← r2]
                    exact hE
                · rw [upN_ne q']
                  exact g6 (by omega)
            · simp only
              rw [h6 78 (by decide) (by decide) (by decide)]
              exact ⟨f0, f1, f2, f7⟩
            · simp only
              rw [J_toInt (by omega) (by omega), J_toInt (by omega) (by omega)]
              omega
          have hT' : ∀ A' : zM, A' 79 = A 79 → TpR (A' 79) tp n := fun A' h => by rw [h, a79]; exact hT
          by_cases cl : isLet (tp i)
          · have hl := (l1 cl).1
            obtain ⟨v, k1, e, rfl, k2⟩ := p_behL (M := mset A 82 c (J i)) (tp := tp) (n := n) (p := i) (by simp (disch := omega) only [mset_ne, mset_eq, mrow_ne, mrow_eq, upd_eq, upd_ne]; exact f0) (hT' _ (by simp (disch := omega) only [mset_ne, mset_eq, mrow_ne, mrow_eq, upd_eq, upd_ne])) (by omega)
            have hie : i < e := by
              rcases Nat.lt_or_ge i e with q | q
              · exact q
              · have : e = i := by have := k2.1; omega
                rcases k2.2.2.2 with r | r
                · omega
                · rw [this] at r; exact absurd cl r
            have hm := mx_on hie (show e ≤ 400 by have := k2.2.1; omega)
            obtain ⟨kd, k3, k4⟩ := p_keyword (M := mset A 82 c (J i)) (tp := tp) (n := n) (hT' _ (by simp (disch := omega) only [mset_ne, mset_eq, mrow_ne, mrow_eq, upd_eq, upd_ne])) hie k2.2.1
            simp (disch := omega) only [↓nm_s, ↓grd_s, ↓reduceIte, J_lit, J_neg, Int.cast_ofNat_Int, J_lt_t, J_lt_f, J_le_t, J_le_f, J_eq_t, J_eq_f, within_t, within_f, isIn_t, isIn_f, inRow_t, inRow_f, isCell_t, isCell_f, inb_t, ix_Jn, ix_J, Int.reduceToNat, Int.toNat_natCast, f0, q1, hl, k1, hm, k3, bind_s]
            refine tk _ e hie k2.2.1 (by simp (disch := omega) only [mset_ne, mset_eq, mrow_ne, mrow_eq, upd_eq, upd_ne]) (Or.inl ⟨cl, k2, ?_⟩) (fun j hj => by simp (disch := omega) only [mset_ne, mset_eq, mrow_ne, mrow_eq, upd_eq, upd_ne]; exact ⟨trivial, trivial, trivial⟩) (fun j h1 h2 h3 => by simp (disch := omega) only [mset_ne, mset_eq, mrow_ne, mrow_eq, upd_eq, upd_ne])
            simp (disch := omega) only [mset_ne, mset_eq, mrow_ne, mrow_eq, upd_eq, upd_ne]
            exact k4
          · have hl := (l2 cl).1
            by_cases cd : isDig (tp i)
            · have hd := (l3 cd).1
              obtain ⟨v, k1, e, rfl, k2⟩ := p_behD (M := mset A 82 c (J i)) (tp := tp) (n := n) (p := i) (by simp (disch := omega) only [mset_ne, mset_eq, mrow_ne, mrow_eq, upd_eq, upd_ne]; exact f0) (hT' _ (by simp (disch := omega) only [mset_ne, mset_eq, mrow_ne, mrow_eq, upd_eq, upd_ne])) (by omega)
              have hie : i < e := by
                rcases Nat.lt_or_ge i e with q | q
                · exact q
                · have : e = i := by have := k2.1; omega
                  rcases k2.2.2.2 with r | r
                  · omega
                  · rw [this] at r; exact absurd cd r
              have he := k2.2.1
              have hm := mx_on hie (show e ≤ 400 by omega)
              have esub : J (e : Int) - J (i : Int) = J ((e - i : Nat) : Int) := by rw [J_sub]; exact congrArg J (by omega)
              by_cases c4 : e - i ≤ 4
              · have k3 := p_valueOf (M := mset (mset A 82 c (J i)) 80 c (J 2)) (tp := tp) (n := n) (hT' _ (by simp (disch := omega) only [mset_ne, mset_eq, mrow_ne, mrow_eq, upd_eq, upd_ne])) (show i ≤ e by omega) he
                simp (disch := omega) only [↓nm_s, ↓grd_s, ↓reduceIte, J_lit, J_neg, Int.cast_ofNat_Int, J_lt_t, J_lt_f, J_le_t, J_le_f, J_eq_t, J_eq_f, within_t, within_f, isIn_t, isIn_f, inRow_t, inRow_f, isCell_t, isCell_f, inb_t, ix_Jn, ix_J, Int.reduceToNat, Int.toNat_natCast, f0, q1, hl, hd, k1, hm, k3, bind_s, esub]
                refine tk _ e hie he (by simp (disch := omega) only [mset_ne, mset_eq, mrow_ne, mrow_eq, upd_eq, upd_ne]) (Or.inr (Or.inl ⟨cd, k2, ?_, ?_⟩)) (fun j hj => by simp (disch := omega) only [mset_ne, mset_eq, mrow_ne, mrow_eq, upd_eq, upd_ne]; exact ⟨trivial, trivial, trivial⟩) (fun j h1 h2 h3 => by simp (disch := omega) only [mset_ne, mset_eq, mrow_ne, mrow_eq, upd_eq, upd_ne])
                · simp (disch := omega) only [mset_ne, mset_eq, mrow_ne, mrow_eq, upd_eq, upd_ne]
                  rw [if_pos c4]
                  rfl
                · simp (disch := omega) only [mset_ne, mset_eq, mrow_ne, mrow_eq, upd_eq, upd_ne]
              · have k3 := p_valueOf (M := mset (mset A 82 c (J i)) 80 c (J 1)) (tp := tp) (n := n) (hT' _ (by simp (disch := omega) only [mset_ne, mset_eq, mrow_ne, mrow_eq, upd_eq, upd_ne])) (show i ≤ e by omega) he
                simp (disch := omega) only [↓nm_s, ↓grd_s, ↓reduceIte, J_lit, J_neg, Int.cast_ofNat_Int, J_lt_t, J_lt_f, J_le_t, J_le_f, J_eq_t, J_eq_f, within_t, within_f, isIn_t, isIn_f, inRow_t, inRow_f, isCell_t, isCell_f, inb_t, ix_Jn, ix_J, Int.reduceToNat, Int.toNat_natCast, f0, q1, hl, hd, k1, hm, k3, bind_s, esub]
                refine tk _ e hie he (by simp (disch := omega) only [mset_ne, mset_eq, mrow_ne, mrow_eq, upd_eq, upd_ne]) (Or.inr (Or.inl ⟨cd, k2, ?_, ?_⟩)) (fun j hj => by simp (disch := omega) only [mset_ne, mset_eq, mrow_ne, mrow_eq, upd_eq, upd_ne]; exact ⟨trivial, trivial, trivial⟩) (fun j h1 h2 h3 => by simp (disch := omega) only [mset_ne, mset_eq, mrow_ne, mrow_eq, upd_eq, upd_ne])
                · simp (disch := omega) only [mset_ne, mset_eq, mrow_ne, mrow_eq, upd_eq, upd_ne]
                  rw [if_neg c4]
                  rfl
                · simp (disch := omega) only [mset_ne, mset_eq, mrow_ne, mrow_eq, upd_eq, upd_ne]
            · have hd := (l4 cd).1
              obtain ⟨v, k1, k2⟩ := p_signs q2
              rcases k2 with ⟨k2, k, k3, rfl⟩ | ⟨k2, rfl⟩
              · simp (disch := omega) only [↓nm_s, ↓grd_s, ↓reduceIte, J_lit, J_neg, Int.cast_ofNat_Int, J_lt_t, J_lt_f, J_le_t, J_le_f, J_eq_t, J_eq_f, within_t, within_f, isIn_t, isIn_f, inRow_t, inRow_f, isCell_t, isCell_f, inb_t, ix_Jn, ix_J, Int.reduceToNat, Int.toNat_natCast, f0, q1, hl, hd, k1, bind_s]
                rw [J_s i]
                refine tk _ (i + 1) (by omega) (by omega) (by simp (disch := omega) only [mset_ne, mset_eq, mrow_ne, mrow_eq, upd_eq, upd_ne]) (Or.inr (Or.inr ⟨cl, cd, cb, rfl, Or.inl ⟨k2, ?_⟩⟩)) (fun j hj => by simp (disch := omega) only [mset_ne, mset_eq, mrow_ne, mrow_eq, upd_eq, upd_ne]; exact ⟨trivial, trivial, trivial⟩) (fun j h1 h2 h3 => by simp (disch := omega) only [mset_ne, mset_eq, mrow_ne, mrow_eq, upd_eq, upd_ne])
                simp (disch := omega) only [mset_ne, mset_eq, mrow_ne, mrow_eq, upd_eq, upd_ne]
              · simp (disch := omega) only [↓nm_s, ↓grd_s, ↓reduceIte, J_lit, J_neg, Int.cast_ofNat_Int, J_lt_t, J_lt_f, J_le_t, J_le_f, J_eq_t, J_eq_f, within_t, within_f, isIn_t, isIn_f, inRow_t, inRow_f, isCell_t, isCell_f, inb_t, ix_Jn, ix_J, Int.reduceToNat, Int.toNat_natCast, f0, q1, hl, hd, k1, bind_s]
                rw [J_s i]
                refine tk _ (i + 1) (by omega) (by omega) (by simp (disch := omega) only [mset_ne, mset_eq, mrow_ne, mrow_eq, upd_eq, upd_ne]) (Or.inr (Or.inr ⟨cl, cd, cb, rfl, Or.inr ⟨k2, ?_⟩⟩)) (fun j hj => by simp (disch := omega) only [mset_ne, mset_eq, mrow_ne, mrow_eq, upd_eq, upd_ne]; exact ⟨trivial, trivial, trivial⟩) (fun j h1 h2 h3 => by simp (disch := omega) only [mset_ne, mset_eq, mrow_ne, mrow_eq, upd_eq, upd_ne])
                simp (disch := omega) only [mset_ne, mset_eq, mrow_ne, mrow_eq, upd_eq, upd_ne]
    · simp only
      simp (disch := omega) only [mset_ne, mset_eq, mrow_ne, mrow_eq, upd_eq, upd_ne]
      exact ⟨h0, trivial, trivial, trivial⟩
  · rintro ⟨c0, A⟩ ⟨c, P, E, e1, e2, e3, e4, e5, ⟨f0, f1, f2, f7⟩, e7⟩
    simp only at e1 e5 f0 f1 f2 f7 e7
    subst e1
    unfold j_X5_scan_178
    simp (disch := omega) only [↓nm_s, ↓grd_s, ↓reduceIte, J_lit, Int.cast_ofNat_Int, J_lt_t, J_lt_f, J_le_t, J_le_f, J_eq_t, J_eq_f, within_t, within_f, isIn_t, isIn_f, inRow_t, inRow_f, isCell_t, isCell_f, inb_t, ix_Jn, ix_J, Int.reduceToNat, Int.toNat_natCast, mset_ne, mset_eq, mrow_ne, mrow_eq, upd_eq, upd_ne, f0]
    refine wp_some ⟨⟨c, P, E, e2, hn, e3, fun j hj => ?_, e4, by simp (disch := omega) only [mset_ne, mset_eq, mrow_ne, mrow_eq, upd_eq, upd_ne], by simp (disch := omega) only [mset_ne, mset_eq, mrow_ne, mrow_eq, upd_eq, upd_ne]⟩, ?_, fun j h1 h2 h3 h4 => by simp (disch := omega) only [mset_ne, mset_eq, mrow_ne, mrow_eq, upd_eq, upd_ne]; exact e7 j h1 h2 h3 h4⟩
    · have := e5 j hj
      simp (disch := omega) only [mset_ne, mset_eq, mrow_ne, mrow_eq, upd_eq, upd_ne]
      exact this
    · simp (disch := omega) only [mset_ne, mset_eq, mrow_ne, mrow_eq, upd_eq, upd_ne]
      exact ⟨f0, f1, f2, f7⟩
