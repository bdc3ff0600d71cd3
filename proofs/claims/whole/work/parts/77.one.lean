/-! ===== one: the reference ===== -/
theorem J_s (k : Nat) : J (k : Int) + J 1 = J ((k + 1 : Nat) : Int) := by rw [J_add]; rfl
theorem t_other {N : zM} {n : Nat} {a : Nat → Nat} {h i : Nat} (hn : n ≤ 12) (hn0 : 0 < n) (h0 : N 258 2357 = J n) (ha : ∀ i, i < n → N 258 (2358 + i) = J (a i) ∧ a i < 3) (hh : h < 24) (hi : i < 12) : f_X11_otherwise (J h) (J i) N = some (J (rwo a n h i)) := by
  have hm := Nat.mod_lt (h / 2 + i) hn0
  obtain ⟨q1, q2⟩ := ha _ hm
  have e0 : J (h : Int) / J 2 = J ((h / 2 : Nat) : Int) := by rw [J_div (by omega) (by omega) (by omega) (by omega)]; rfl
  have e1 := J_md (h / 2) i n (by omega) (by omega) (by omega)
  have e2 := J_ad 2358 ((h / 2 + i) % n)
  have e2' : J 2358 + J (((h / 2 + i) % n : Nat) : Int) = J ((2358 + (h / 2 + i) % n : Nat) : Int) := e2
  have e4 : irem (J (h : Int)) (J 2) = J ((h % 2 : Nat) : Int) := by rw [J_rem (by omega) (by omega) (by omega) (by omega)]; rfl
  unfold f_X11_otherwise rwo
  rcases (show h % 2 = 0 ∨ h % 2 = 1 by omega) with es | es
  · simp (disch := omega) only [↓nm_s, ↓grd_s, ↓reduceIte, J_lit, Int.cast_ofNat_Int, J_lt_t, J_lt_f, J_le_t, J_le_f, J_eq_t, J_eq_f, within_t, within_f, isIn_t, isIn_f, inRow_t, inRow_f, isCell_t, isCell_f, inb_t, ix_Jn, ix_J, Int.reduceToNat, Int.toNat_natCast, not_false_eq_true, h0, e0, e1, e2', e4, es, q1, sw_0]
  · by_cases c : a ((h / 2 + i) % n) < 2
    · have e3 : J 1 - J (a ((h / 2 + i) % n) : Int) = J ((1 - a ((h / 2 + i) % n) : Nat) : Int) := by rw [J_sub]; exact congrArg J (by omega)
      simp (disch := omega) only [↓nm_s, ↓grd_s, ↓reduceIte, J_lit, Int.cast_ofNat_Int, J_lt_t, J_lt_f, J_le_t, J_le_f, J_eq_t, J_eq_f, within_t, within_f, isIn_t, isIn_f, inRow_t, inRow_f, isCell_t, isCell_f, inb_t, ix_Jn, ix_J, Int.reduceToNat, Int.toNat_natCast, not_false_eq_true, h0, e0, e1, e2', e3, e4, es, q1]
      rw [show sw 1 (a ((h / 2 + i) % n)) = 1 - a ((h / 2 + i) % n) from by unfold sw; rw [if_pos ⟨rfl, c⟩]]
    · simp (disch := omega) only [↓nm_s, ↓grd_s, ↓reduceIte, J_lit, Int.cast_ofNat_Int, J_lt_t, J_lt_f, J_le_t, J_le_f, J_eq_t, J_eq_f, within_t, within_f, isIn_t, isIn_f, inRow_t, inRow_f, isCell_t, isCell_f, inb_t, ix_Jn, ix_J, Int.reduceToNat, Int.toNat_natCast, not_false_eq_true, h0, e0, e1, e2', e4, es, q1]
      rw [show sw 1 (a ((h / 2 + i) % n)) = a ((h / 2 + i) % n) from by unfold sw; rw [if_neg (by omega)]]
theorem rwo_lt {a : Nat → Nat} {n h i : Nat} (hn0 : 0 < n) (ha : ∀ i, i < n → a i < 3) : rwo a n h i < 3 := by
  unfold rwo
  exact sw_lt (ha _ (Nat.mod_lt _ hn0))
/-- two rows are alike: b is the second one -/
theorem p_alike {N : zM} {n : Nat} {a : Nat → Nat} {h : Nat} {th : Int32} {b : Nat → Nat} (hn : n ≤ 12) (hn0 : 0 < n) (h0 : N 258 2357 = J n) (ha : ∀ i, i < n → N 258 (2358 + i) = J (a i) ∧ a i < 3) (hh : h < 24)
    (hb : (th = J (-1) ∧ ∀ i, i < n → N 258 (2371 + i) = J (b i) ∧ b i < 3) ∨ ∃ t : Nat, t < 24 ∧ th = J t ∧ b = rwo a n t) :
    Wp (f_X11_areAlike (J h) th N) (fun v => Bo v (∀ i, i < n → rwo a n h i = b i)) := by
  have key : Wp (loopW (fun i => b_X11_areAlike_2 (J h) th i N) (J 0)) (fun q => (q = .inl () ∧ ∀ i, i < n → rwo a n h i = b i) ∨ (q = .inr (J 0) ∧ ¬ ∀ i, i < n → rwo a n h i = b i)) := by
    refine loop_up (fun j i => i = J j ∧ ∀ i, i < j → rwo a n h i = b i) n ⟨rfl, fun i h => by omega⟩ ?_ ?_
    · rintro j i hj ⟨rfl, e⟩
      have o1 := t_other (i := j) hn hn0 h0 ha hh (by omega)
      have r1 := rwo_lt (h := h) (i := j) hn0 (fun i hi => (ha i hi).2)
      have e2 : J 2371 + J (j : Int) = J ((2371 + j : Nat) : Int) := J_ad 2371 j
      unfold b_X11_areAlike_2 j_X11_areAlike_44_2
      have fin : b j < 3 → Wp (if J (rwo a n h j) = J (b j) then (some (.inl (J (j : Int) + J 1)) : Option (Int32 ⊕ (Unit ⊕ Int32))) else some (.inr (.inr (J 0)))) (fun o => Sum.elim (fun i => i = J ((j + 1 : Nat) : Int) ∧ ∀ i, i < j + 1 → rwo a n h i = b i) (fun q => (q = .inl () ∧ ∀ i, i < n → rwo a n h i = b i) ∨ (q = .inr (J 0) ∧ ¬ ∀ i, i < n → rwo a n h i = b i)) o) := by
        intro hv
        by_cases c : rwo a n h j = b j
        · rw [if_pos (congrArg (fun x : Nat => J (x : Int)) c)]
          refine wp_some ⟨by rw [J_add]; rfl, fun i hi => ?_⟩
          by_cases d : i = j
          · subst d; exact c
          · exact e i (by omega)
        · rw [if_neg (by rw [J_eq (by omega) (by omega) (by omega) (by omega)]; omega)]
          exact wp_some (Or.inr ⟨rfl, fun h => c (h j hj)⟩)
      rcases hb with ⟨rfl, hb⟩ | ⟨t, ht, rfl, hb⟩
      · obtain ⟨q3, q4⟩ := hb j hj
        simp (disch := omega) only [↓nm_s, ↓grd_s, ↓reduceIte, J_lit, J_neg, Int.cast_ofNat_Int, J_lt_t, J_lt_f, J_le_t, J_le_f, J_eq_t, J_eq_f, within_t, within_f, isIn_t, isIn_f, inRow_t, inRow_f, isCell_t, isCell_f, inb_t, ix_Jn, ix_J, Int.reduceToNat, Int.toNat_natCast, bind_s, h0, o1, e2, q3]
        exact fin q4
      · have o2 := t_other (i := j) hn hn0 h0 ha ht (by omega)
        have eb : rwo a n t j = b j := by rw [hb]
        rw [eb] at o2
        simp (disch := omega) only [↓nm_s, ↓grd_s, ↓reduceIte, J_lit, J_neg, Int.cast_ofNat_Int, J_lt_t, J_lt_f, J_le_t, J_le_f, J_eq_t, J_eq_f, within_t, within_f, isIn_t, isIn_f, inRow_t, inRow_f, isCell_t, isCell_f, inb_t, ix_Jn, ix_J, Int.reduceToNat, Int.toNat_natCast, bind_s, h0, o1, o2]
        exact fin (by rw [← eb]; exact rwo_lt hn0 (fun i hi => (ha i hi).2))
    · rintro i ⟨rfl, e⟩
      unfold b_X11_areAlike_2
      simp (disch := omega) only [↓reduceIte, J_lt_t, J_lt_f, J_le_t, J_le_f, J_eq_t, J_eq_f, within_t, within_f, isIn_t, isIn_f, inRow_t, inRow_f, isCell_t, isCell_f, inb_t, J_lit, Int.cast_ofNat_Int, ix_Jn, ix_J, Int.reduceToNat, Int.toNat_natCast, h0]
      exact wp_some (Or.inl ⟨rfl, e⟩)
  unfold f_X11_areAlike j_X11_areAlike_55
  refine wp_bind (wp_mono key ?_)
  rintro q (⟨rfl, h⟩ | ⟨rfl, h⟩)
  · exact wp_some (Or.inl ⟨rfl, h⟩)
  · exact wp_some (Or.inr ⟨rfl, h⟩)
theorem p_many {N : zM} {n : Nat} {a : Nat → Nat} (hn : n ≤ 12) (h0 : N 258 2357 = J n) (ha : ∀ i, i < n → N 258 (2358 + i) = J (a i) ∧ a i < 3) (m0 : Nat) (hm : m0 < 2) :
    loopW (fun s => b_X11_one_87 (J n) s.1 s.2 N) (J m0, J 0) = some (J ((m0 + cnt (fun h => ∀ t, t < h → ¬ ∀ i, i < n → rwo a n h i = rwo a n t i) (2 * n) : Nat) : Int)) := by
  have key : Wp (loopW (fun s => b_X11_one_87 (J n) s.1 s.2 N) (J m0, J 0)) (fun v => v = J ((m0 + cnt (fun h => ∀ t, t < h → ¬ ∀ i, i < n → rwo a n h i = rwo a n t i) (2 * n) : Nat) : Int)) := by
    refine loop_up (fun k s => s.2 = J k ∧ s.1 = J ((m0 + cnt (fun h => ∀ t, t < h → ¬ ∀ i, i < n → rwo a n h i = rwo a n t i) k : Nat) : Int)) (2 * n) ⟨rfl, rfl⟩ ?_ ?_
    · rintro k ⟨s1, s2⟩ hk ⟨e1, e2⟩
      simp only at e1 e2
      subst e1 e2
      have inn : ∀ v : Int32, Wp (loopW (fun s => b_X11_one_101_87 (J n) v (J k) s.1 s.2 N) (J 1, J 0)) (fun v => Bo v (∀ t, t < k → ¬ ∀ i, i < n → rwo a n k i = rwo a n t i)) := by
        intro v
        refine loop_up (fun j s => s.2 = J j ∧ Bo s.1 (∀ t, t < j → ¬ ∀ i, i < n → rwo a n k i = rwo a n t i)) k ⟨rfl, Or.inl ⟨rfl, fun t ht => by omega⟩⟩ ?_ ?_
        · rintro j ⟨s1, s2⟩ hj ⟨e1, e2⟩
          simp only at e1 e2
          subst e1
          unfold b_X11_one_101_87 j_X11_one_128_87_101 j_X11_one_129_87_101
          rcases e2 with ⟨rfl, h⟩ | ⟨rfl, h⟩
          · simp (disch := omega) only [↓reduceIte, J_lit, Int.cast_ofNat_Int, J_lt_t, J_lt_f, J_le_t, J_le_f, J_eq_t, J_eq_f, within_t, within_f, isIn_t, isIn_f, inRow_t, inRow_f, isCell_t, isCell_f, inb_t]
            refine wp_bind (wp_mono (p_alike (h := k) (th := J j) (b := rwo a n j) hn (by omega) h0 ha (by omega) (Or.inr ⟨j, by omega, rfl, rfl⟩)) ?_)
            rintro v (⟨rfl, d⟩ | ⟨rfl, d⟩)
            · simp (disch := omega) only [↓reduceIte, J_lit, Int.cast_ofNat_Int, J_lt_t, J_lt_f, J_le_t, J_le_f, J_eq_t, J_eq_f, within_t, within_f, isIn_t, isIn_f, inRow_t, inRow_f, isCell_t, isCell_f, inb_t]
              exact wp_some ⟨by rw [J_add]; rfl, Or.inr ⟨rfl, fun q => q j (by omega) d⟩⟩
            · simp (disch := omega) only [↓reduceIte, J_lit, Int.cast_ofNat_Int, J_lt_t, J_lt_f, J_le_t, J_le_f, J_eq_t, J_eq_f, within_t, within_f, isIn_t, isIn_f, inRow_t, inRow_f, isCell_t, isCell_f, inb_t]
              refine wp_some ⟨by rw [J_add]; rfl, Or.inl ⟨rfl, fun t ht => ?_⟩⟩
              by_cases et : t = j
              · subst et; exact d
              · exact h t (by omega)
          · simp (disch := omega) only [↓reduceIte, J_lit, Int.cast_ofNat_Int, J_lt_t, J_lt_f, J_le_t, J_le_f, J_eq_t, J_eq_f, within_t, within_f, isIn_t, isIn_f, inRow_t, inRow_f, isCell_t, isCell_f, inb_t]
            exact wp_some ⟨by rw [J_add]; rfl, Or.inr ⟨rfl, fun q => h (fun t ht => q t (by omega))⟩⟩
        · rintro ⟨s1, s2⟩ ⟨e1, e2⟩
          simp only at e1 e2
          subst e1
          unfold b_X11_one_101_87
          simp (disch := omega) only [↓reduceIte, J_lit, Int.cast_ofNat_Int, J_lt_t, J_lt_f, J_le_t, J_le_f, J_eq_t, J_eq_f, within_t, within_f, isIn_t, isIn_f, inRow_t, inRow_f, isCell_t, isCell_f, inb_t]
          exact wp_some e2
      unfold b_X11_one_87 j_X11_one_137_87 j_X11_one_148_87
      simp (disch := omega) only [↓reduceIte, J_lit, J_mul, Int.cast_ofNat_Int, J_lt_t, J_lt_f, J_le_t, J_le_f, J_eq_t, J_eq_f, within_t, within_f, isIn_t, isIn_f, inRow_t, inRow_f, isCell_t, isCell_f, inb_t]
      refine wp_bind (wp_mono (inn _) ?_)
      rintro v (⟨rfl, d⟩ | ⟨rfl, d⟩)
      · simp (disch := omega) only [↓nm_s, ↓reduceIte, J_lit, Int.cast_ofNat_Int, J_lt_t, J_lt_f, J_le_t, J_le_f, J_eq_t, J_eq_f, within_t, within_f, isIn_t, isIn_f, inRow_t, inRow_f, isCell_t, isCell_f, inb_t]
        refine wp_some ⟨J_s k, ?_⟩
        simp only
        rw [cnt_t (P := fun h => ∀ t, t < h → ¬ ∀ i, i < n → rwo a n h i = rwo a n t i) d, J_add]
        rfl
      · simp (disch := omega) only [↓nm_s, ↓reduceIte, J_lit, Int.cast_ofNat_Int, J_lt_t, J_lt_f, J_le_t, J_le_f, J_eq_t, J_eq_f, within_t, within_f, isIn_t, isIn_f, inRow_t, inRow_f, isCell_t, isCell_f, inb_t]
        refine wp_some ⟨J_s k, ?_⟩
        simp only
        rw [cnt_f (P := fun h => ∀ t, t < h → ¬ ∀ i, i < n → rwo a n h i = rwo a n t i) d, J_add, Int.add_zero]
    · rintro ⟨s1, s2⟩ ⟨e1, e2⟩
      simp only at e1 e2
      subst e1
      unfold b_X11_one_87
      simp (disch := omega) only [↓reduceIte, J_lit, J_mul, Int.cast_ofNat_Int, J_lt_t, J_lt_f, J_le_t, J_le_f, J_eq_t, J_eq_f, within_t, within_f, isIn_t, isIn_f, inRow_t, inRow_f, isCell_t, isCell_f, inb_t]
      exact wp_some e2
  obtain ⟨v, e, rfl⟩ := key
  exact e
theorem c_one (p0 : Int32) : Cl0 (f_X10_one p0) (f_X11_one p0) := by
  intro M N hI
  obtain ⟨z, rfl, l1, l2⟩ := J_ex p0
  obtain ⟨n0, m, k, u, o, ks, a1, a2, a3, a4, a5, a6, a7, a8, a9, a10⟩ := hI
  obtain ⟨n, hn, h0, g0, hr⟩ := a5.1 0 (by omega)
  obtain ⟨n', hn', h0', g0', hr'⟩ := a5.1 1 (by omega)
  simp only [Nat.mul_zero, Nat.add_zero, Nat.zero_add, Nat.mul_one, Nat.reduceAdd] at h0 g0 hr h0' g0' hr'
  let a : Nat → Nat := fun i => (M 71 i).toInt.toNat
  let b : Nat → Nat := fun i => (M 71 (12 + i)).toInt.toNat
  have ha : ∀ i, i < n → (M 71 i = J (a i) ∧ a i < 3) ∧ N 258 (2358 + i) = J (a i) := by
    intro i hi
    obtain ⟨e1, x, hx, ex⟩ := hr i hi
    have ea : a i = x := by show (M 71 i).toInt.toNat = x; rw [ex, J_toInt (by omega) (by omega)]; omega
    rw [ea]
    exact ⟨⟨ex, hx⟩, e1.symm.trans ex⟩
  have hb : ∀ i, i < n' → (M 71 (12 + i) = J (b i) ∧ b i < 3) ∧ N 258 (2371 + i) = J (b i) := by
    intro i hi
    obtain ⟨e1, x, hx, ex⟩ := hr' i hi
    have ea : b i = x := by show (M 71 (12 + i)).toInt.toNat = x; rw [ex, J_toInt (by omega) (by omega)]; omega
    rw [ea]
    exact ⟨⟨ex, hx⟩, e1.symm.trans ex⟩
  have haM : ∀ i, i < n → M 71 i = J (a i) ∧ a i < 3 := fun i hi => (ha i hi).1
  have haN : ∀ i, i < n → N 258 (2358 + i) = J (a i) ∧ a i < 3 := fun i hi => ⟨(ha i hi).2, (ha i hi).1.2⟩
  unfold f_X10_one f_X11_one
  by_cases c0 : z = 0
  · subst c0
    by_cases cn : n = n'
    · subst cn
      have hbM : ∀ i, i < n → M 71 (12 + i) = J (b i) ∧ b i < 3 := fun i hi => (hb i hi).1
      have hbN : ∀ i, i < n → N 258 (2371 + i) = J (b i) ∧ b i < 3 := fun i hi => ⟨(hb i hi).2, (hb i hi).1.2⟩
      obtain ⟨v1, w1, x1⟩ := p_goesRound (tg := 12) (s := 0) (b := b) hn h0 haM hbM (by omega) (by omega)
      obtain ⟨v2, w2, x2⟩ := p_goesRound (tg := 12) (s := 1) (b := b) hn h0 haM hbM (by omega) (by omega)
      have w1' : f_X6_goesRoundTo 70 (J 12) (J 0) M = some v1 := w1
      have w2' : f_X6_goesRoundTo 70 (J 12) (J 1) M = some v2 := w2
      have rf : Wp ((loopW (fun s => b_X11_one_40 (J n) s N) (J 0)).bind (fun q => Sum.elim (fun _ => j_X11_one_64 (J n) N) some q)) (fun v => Bo v (n = 0 ∨ ∃ h, h < 2 * n ∧ ∀ i, i < n → rwo a n h i = b i)) := by
        refine wp_bind ?_
        refine wp_mono (P := fun q => (q = .inl () ∧ ¬ ∃ h, h < 2 * n ∧ ∀ i, i < n → rwo a n h i = b i) ∨ (q = .inr (J 1) ∧ ∃ h, h < 2 * n ∧ ∀ i, i < n → rwo a n h i = b i)) ?_ ?_
        · refine loop_up (fun j i => i = J j ∧ ¬ ∃ h, h < j ∧ ∀ i, i < n → rwo a n h i = b i) (2 * n) ⟨rfl, fun ⟨h, hh, _⟩ => by omega⟩ ?_ ?_
          · rintro j i hj ⟨rfl, e⟩
            unfold b_X11_one_40
            simp (disch := omega) only [↓reduceIte, J_lit, J_mul, J_neg, Int.cast_ofNat_Int, J_lt_t, J_lt_f, J_le_t, J_le_f, J_eq_t, J_eq_f, within_t, within_f, isIn_t, isIn_f, inRow_t, inRow_f, isCell_t, isCell_f, inb_t]
            refine wp_bind (wp_mono (p_alike (h := j) (th := J (-1)) (b := b) hn (by omega) g0 haN (by omega) (Or.inl ⟨rfl, hbN⟩)) ?_)
            rintro v (⟨rfl, d⟩ | ⟨rfl, d⟩)
            · simp (disch := omega) only [↓reduceIte, J_lit, Int.cast_ofNat_Int, J_lt_t, J_lt_f, J_le_t, J_le_f, J_eq_t, J_eq_f, within_t, within_f, isIn_t, isIn_f, inRow_t, inRow_f, isCell_t, isCell_f, inb_t]
              exact wp_some (Or.inr ⟨rfl, j, by omega, d⟩)
            · simp (disch := omega) only [↓reduceIte, J_lit, Int.cast_ofNat_Int, J_lt_t, J_lt_f, J_le_t, J_le_f, J_eq_t, J_eq_f, within_t, within_f, isIn_t, isIn_f, inRow_t, inRow_f, isCell_t, isCell_f, inb_t]
              refine wp_some ⟨by rw [J_add]; rfl, ?_⟩
              rintro ⟨h, hh, q⟩
              by_cases eh : h = j
              · subst eh; exact d q
              · exact e ⟨h, by omega, q⟩
          · rintro i ⟨rfl, e⟩
            unfold b_X11_one_40
            simp (disch := omega) only [↓reduceIte, J_lit, J_mul, Int.cast_ofNat_Int, J_lt_t, J_lt_f, J_le_t, J_le_f, J_eq_t, J_eq_f, within_t, within_f, isIn_t, isIn_f, inRow_t, inRow_f, isCell_t, isCell_f, inb_t]
            exact wp_some (Or.inl ⟨rfl, e⟩)
        · rintro q (⟨rfl, d⟩ | ⟨rfl, d⟩)
          · simp only [Sum.elim_inl]
            unfold j_X11_one_64
            by_cases cz : n = 0
            · simp (disch := omega) only [↓reduceIte, J_lit, Int.cast_ofNat_Int, J_lt_t, J_lt_f, J_le_t, J_le_f, J_eq_t, J_eq_f, within_t, within_f, isIn_t, isIn_f, inRow_t, inRow_f, isCell_t, isCell_f, inb_t]
              exact wp_some (Or.inl ⟨rfl, Or.inl cz⟩)
            · simp (disch := omega) only [↓reduceIte, J_lit, Int.cast_ofNat_Int, J_lt_t, J_lt_f, J_le_t, J_le_f, J_eq_t, J_eq_f, within_t, within_f, isIn_t, isIn_f, inRow_t, inRow_f, isCell_t, isCell_f, inb_t]
              refine wp_some (Or.inr ⟨rfl, ?_⟩)
              rintro (e | e)
              · exact cz e
              · exact d e
          · exact wp_some (Or.inl ⟨rfl, Or.inr d⟩)
      obtain ⟨v3, w3, x3⟩ := rf
      have eqv : (n = 0 ∨ ∃ h, h < 2 * n ∧ ∀ i, i < n → rwo a n h i = b i) ↔ (n = 0 ∨ ∃ k, k < n ∧ ∀ i, i < n → b i = sw 0 (a ((i + k) % n))) ∨ (n = 0 ∨ ∃ k, k < n ∧ ∀ i, i < n → b i = sw 1 (a ((i + k) % n))) := by
        constructor
        · rintro (e | ⟨h, hh, e⟩)
          · exact Or.inl (Or.inl e)
          · rcases (show h % 2 = 0 ∨ h % 2 = 1 by omega) with q | q
            · refine Or.inl (Or.inr ⟨h / 2, by omega, fun i hi => ?_⟩)
              rw [← e i hi, rwo, q, Nat.add_comm]
            · refine Or.inr (Or.inr ⟨h / 2, by omega, fun i hi => ?_⟩)
              rw [← e i hi, rwo, q, Nat.add_comm]
        · rintro ((e | ⟨h, hh, e⟩) | (e | ⟨h, hh, e⟩))
          · exact Or.inl e
          · refine Or.inr ⟨2 * h, by omega, fun i hi => ?_⟩
            rw [e i hi, rwo, show 2 * h % 2 = 0 by omega, show 2 * h / 2 = h by omega, Nat.add_comm]
          · exact Or.inl e
          · refine Or.inr ⟨2 * h + 1, by omega, fun i hi => ?_⟩
            rw [e i hi, rwo, show (2 * h + 1) % 2 = 1 by omega, show (2 * h + 1) / 2 = h by omega, Nat.add_comm]
      unfold f_X6_alike
      simp (disch := omega) only [↓nm_s, ↓reduceIte, J_lit, J_neg, Int.cast_ofNat_Int, J_lt_t, J_lt_f, J_le_t, J_le_f, J_eq_t, J_eq_f, within_t, within_f, isIn_t, isIn_f, inRow_t, inRow_f, isCell_t, isCell_f, inb_t, ix_Jn, ix_J, Int.reduceToNat, Int.toNat_natCast, Nat.reduceAdd, h0, h0', g0, g0', w1', w2', w3, bind_s]
      rcases x1 with ⟨rfl, y1⟩ | ⟨rfl, y1⟩
      · rcases x3 with ⟨rfl, y3⟩ | ⟨rfl, y3⟩
        · refine ⟨J 1, ?_, rfl⟩
          simp (disch := omega) only [↓reduceIte, J_lt_t, J_lt_f, J_le_t, J_le_f, J_eq_t, J_eq_f, within_t, within_f, isIn_t, isIn_f, inRow_t, inRow_f, isCell_t, isCell_f, inb_t, bind_s]
        · exact absurd (eqv.2 (Or.inl y1)) y3
      · rcases x2 with ⟨rfl, y2⟩ | ⟨rfl, y2⟩
        · rcases x3 with ⟨rfl, y3⟩ | ⟨rfl, y3⟩
          · refine ⟨J 1, ?_, rfl⟩
            simp (disch := omega) only [↓reduceIte, J_lt_t, J_lt_f, J_le_t, J_le_f, J_eq_t, J_eq_f, within_t, within_f, isIn_t, isIn_f, inRow_t, inRow_f, isCell_t, isCell_f, inb_t, bind_s]
          · exact absurd (eqv.2 (Or.inr y2)) y3
        · rcases x3 with ⟨rfl, y3⟩ | ⟨rfl, y3⟩
          · rcases eqv.1 y3 with e | e
            · exact absurd e y1
            · exact absurd e y2
          · refine ⟨J 0, ?_, rfl⟩
            simp (disch := omega) only [↓reduceIte, J_lt_t, J_lt_f, J_le_t, J_le_f, J_eq_t, J_eq_f, within_t, within_f, isIn_t, isIn_f, inRow_t, inRow_f, isCell_t, isCell_f, inb_t, bind_s]
    · unfold f_X6_alike
      simp (disch := omega) only [↓nm_s, ↓reduceIte, J_lit, J_neg, Int.cast_ofNat_Int, J_lt_t, J_lt_f, J_le_t, J_le_f, J_eq_t, J_eq_f, within_t, within_f, isIn_t, isIn_f, inRow_t, inRow_f, isCell_t, isCell_f, inb_t, ix_Jn, ix_J, Int.reduceToNat, Int.toNat_natCast, Nat.reduceAdd, h0, h0', g0, g0', bind_s]
      exact ⟨_, rfl, rfl⟩
  · by_cases c1 : z = 1
    · subst c1
      have hu := p_unlike hn h0 haM
      unfold j_X11_one_83 j_X11_one_156
      by_cases cz : n = 0
      · have hm := p_many hn g0 haN 1 (by omega)
        have hm' : loopW (fun s => b_X11_one_87 (J n) s.1 s.2 N) (J 1, J 0) = _ := hm
        simp (disch := omega) only [↓nm_s, ↓reduceIte, J_lit, J_neg, Int.cast_ofNat_Int, J_lt_t, J_lt_f, J_le_t, J_le_f, J_eq_t, J_eq_f, within_t, within_f, isIn_t, isIn_f, inRow_t, inRow_f, isCell_t, isCell_f, inb_t, ix_Jn, ix_J, Int.reduceToNat, Int.toNat_natCast, Nat.reduceAdd, g0, hu, hm', bind_s]
        refine ⟨_, rfl, ?_⟩
        rw [if_pos cz, cz]
        rfl
      · have hm := p_many hn g0 haN 0 (by omega)
        have hm' : loopW (fun s => b_X11_one_87 (J n) s.1 s.2 N) (J 0, J 0) = _ := hm
        simp (disch := omega) only [↓nm_s, ↓reduceIte, J_lit, J_neg, Int.cast_ofNat_Int, J_lt_t, J_lt_f, J_le_t, J_le_f, J_eq_t, J_eq_f, within_t, within_f, isIn_t, isIn_f, inRow_t, inRow_f, isCell_t, isCell_f, inb_t, ix_Jn, ix_J, Int.reduceToNat, Int.toNat_natCast, Nat.reduceAdd, g0, hu, hm', bind_s]
        refine ⟨_, rfl, ?_⟩
        rw [if_neg cz, Nat.zero_add]
    · simp (disch := omega) only [↓nm_s, ↓reduceIte, J_lit, J_neg, Int.cast_ofNat_Int, J_lt_t, J_lt_f, J_le_t, J_le_f, J_eq_t, J_eq_f, within_t, within_f, isIn_t, isIn_f, inRow_t, inRow_f, isCell_t, isCell_f, inb_t]
      exact ⟨_, rfl, rfl⟩
