/-! ===== far: the call ===== -/
theorem p_pre0 {B : zM} {fr f0 : Nat} (hfr : fr < 144) (hf0 : f0 < 4) : Wp (loopW (fun s => b_X11_laySteps_11_2 (J fr) (J f0) (J 0) s.1 s.2) (J 0, B)) (fun B' => EnN B' 0 (P0 fr f0) ∧ ∀ j, j ≠ 267 → B' j = B j) := by
  refine loop_up (fun k s => s.1 = J k ∧ (∀ f c, f < 4 → c < 144 → 4 * c + f < k → s.2 267 (576 * 0 + 4 * c + f) = J (e9 (P0 fr f0 f c))) ∧ ∀ j, j ≠ 267 → s.2 j = B j) 576 ⟨rfl, fun f c _ _ h => by omega, fun _ _ => rfl⟩ ?_ ?_
  · rintro k ⟨s1, B1⟩ hk ⟨e1, e2, e3⟩
    simp only at e1 e2 e3
    subst e1
    obtain ⟨c, f, hf, rfl⟩ : ∃ c f : Nat, f < 4 ∧ k = 4 * c + f := ⟨k / 4, k % 4, by omega, by omega⟩
    have ei : J 4 * J (fr : Int) + J (f0 : Int) = J ((4 * fr + f0 : Nat) : Int) := by rw [J_mul, J_add]; rfl
    have ej : J 0 * J 576 + J ((4 * c + f : Nat) : Int) = J ((4 * c + f : Nat) : Int) := by rw [J_mul, J_add]; exact congrArg J (by omega)
    unfold b_X11_laySteps_11_2 j_X11_laySteps_37_2_11 j_X11_laySteps_40_2_11 j_X11_laySteps_118_2_11
    by_cases q : 4 * c + f = 4 * fr + f0
    · simp (disch := omega) only [↓nm_s, ↓grd_s, ↓reduceIte, J_lit, Int.cast_ofNat_Int, J_lt_t, J_lt_f, J_le_t, J_le_f, J_eq_t, J_eq_f, within_t, within_f, isIn_t, isIn_f, inRow_t, inRow_f, isCell_t, isCell_f, inb_t, ix_Jn, ix_J, Int.reduceToNat, Int.toNat_natCast, ei, ej]
      refine wp_some ⟨J_s _, fun f' c' hf' hc' h => ?_, fun j hj => by simp (disch := omega) only [mset_ne, mset_eq, mrow_ne, mrow_eq, upd_eq, upd_ne]; exact e3 j hj⟩
      by_cases e : 4 * c' + f' = 4 * c + f
      · have h1 : f' = f0 := by omega
        have h2 : c' = fr := by omega
        unfold P0
        rw [if_pos ⟨h1, h2⟩, show 576 * 0 + 4 * c' + f' = 4 * c + f by omega]
        simp (disch := omega) only [mset_ne, mset_eq, mrow_ne, mrow_eq, upd_eq, upd_ne]
        rfl
      · have : 576 * 0 + 4 * c' + f' ≠ 4 * c + f := by omega
        simp (disch := omega) only [mset_ne, mset_eq, mrow_ne, mrow_eq, upd_eq, upd_ne]
        exact e2 f' c' hf' hc' (by omega)
    · simp (disch := omega) only [↓nm_s, ↓grd_s, ↓reduceIte, J_lit, Int.cast_ofNat_Int, J_lt_t, J_lt_f, J_le_t, J_le_f, J_eq_t, J_eq_f, within_t, within_f, isIn_t, isIn_f, inRow_t, inRow_f, isCell_t, isCell_f, inb_t, ix_Jn, ix_J, Int.reduceToNat, Int.toNat_natCast, ei, ej]
      refine wp_some ⟨J_s _, fun f' c' hf' hc' h => ?_, fun j hj => by simp (disch := omega) only [mset_ne, mset_eq, mrow_ne, mrow_eq, upd_eq, upd_ne]; exact e3 j hj⟩
      by_cases e : 4 * c' + f' = 4 * c + f
      · unfold P0
        rw [if_neg (by omega), show 576 * 0 + 4 * c' + f' = 4 * c + f by omega]
        simp (disch := omega) only [mset_ne, mset_eq, mrow_ne, mrow_eq, upd_eq, upd_ne]
        rfl
      · have : 576 * 0 + 4 * c' + f' ≠ 4 * c + f := by omega
        simp (disch := omega) only [mset_ne, mset_eq, mrow_ne, mrow_eq, upd_eq, upd_ne]
        exact e2 f' c' hf' hc' (by omega)
  · rintro ⟨s1, B1⟩ ⟨e1, e2, e3⟩
    simp only at e1 e2 e3
    subst e1
    unfold b_X11_laySteps_11_2
    simp (disch := omega) only [↓reduceIte, J_lit, Int.cast_ofNat_Int, J_lt_t, J_lt_f, J_le_t, J_le_f, J_eq_t, J_eq_f, within_t, within_f, isIn_t, isIn_f, inRow_t, inRow_f, isCell_t, isCell_f, inb_t]
    exact wp_some ⟨fun f c hf hc => e2 f c hf hc (by omega), e3⟩
theorem p_pre {B : zM} {fr f0 t m : Nat} {T : Nat → Nat → Nat} (hm : m ≤ 100) (ht : t + 1 ≤ 6) (hB : Bd m T) (hE : EnN B t T) : Wp (loopW (fun s => b_X11_laySteps_11_2 (J fr) (J f0) (J (t + 1 : Nat)) s.1 s.2) (J 0, B)) (fun B' => EnN B' (t + 1) (tuN T) ∧ (∀ i, i < 576 * (t + 1) → B' 267 i = B 267 i) ∧ ∀ j, j ≠ 267 → B' j = B j) := by
  refine loop_up (fun k s => s.1 = J k ∧ (∀ f c, f < 4 → c < 144 → 4 * c + f < k → s.2 267 (576 * (t + 1) + 4 * c + f) = J (e9 (tuN T f c))) ∧ (∀ i, i < 576 * (t + 1) → s.2 267 i = B 267 i) ∧ ∀ j, j ≠ 267 → s.2 j = B j) 576 ⟨rfl, fun f c _ _ h => by omega, fun _ _ => rfl, fun _ _ => rfl⟩ ?_ ?_
  · rintro k ⟨s1, B1⟩ hk ⟨e1, e2, e3, e4⟩
    simp only at e1 e2 e3 e4
    subst e1
    obtain ⟨c, f, hf, rfl⟩ : ∃ c f : Nat, f < 4 ∧ k = 4 * c + f := ⟨k / 4, k % 4, by omega, by omega⟩
    have hc : c < 144 := by omega
    have f1 : (f + 1) % 4 < 4 := Nat.mod_lt _ (by decide)
    have f3 : (f + 3) % 4 < 4 := Nat.mod_lt _ (by decide)
    have i1 : J ((4 * c + f : Nat) : Int) / J 4 = J (c : Int) := by rw [J_div (by omega) (by omega) (by omega) (by omega)]; exact congrArg J (by omega)
    have i2 : irem (J ((4 * c + f : Nat) : Int) + J 1) (J 4) = J (((f + 1) % 4 : Nat) : Int) := by rw [J_add, J_rem (by omega) (by omega) (by omega) (by omega)]; exact congrArg J (by omega)
    have i3 : irem (J ((4 * c + f : Nat) : Int) + J 3) (J 4) = J (((f + 3) % 4 : Nat) : Int) := by rw [J_add, J_rem (by omega) (by omega) (by omega) (by omega)]; exact congrArg J (by omega)
    have a1 := hE _ c f1 hc
    have a2 := hE _ c f3 hc
    have b1 := hB _ c f1 hc
    have b2 := hB _ c f3 hc
    have tu : tuN T f c = min (T ((f + 1) % 4) c) (T ((f + 3) % 4) c) := rfl
    generalize (f + 1) % 4 = g1 at *
    generalize (f + 3) % 4 = g3 at *
    have j1 : (J ((t + 1 : Nat) : Int) - J 1) * J 576 + J (c : Int) * J 4 + J (g1 : Int) = J ((576 * t + 4 * c + g1 : Nat) : Int) := by rw [J_sub, J_mul, J_mul, J_add, J_add]; exact congrArg J (by omega)
    have j3 : (J ((t + 1 : Nat) : Int) - J 1) * J 576 + J (c : Int) * J 4 + J (g3 : Int) = J ((576 * t + 4 * c + g3 : Nat) : Int) := by rw [J_sub, J_mul, J_mul, J_add, J_add]; exact congrArg J (by omega)
    have j2 : J ((t + 1 : Nat) : Int) * J 576 + J ((4 * c + f : Nat) : Int) = J ((576 * (t + 1) + 4 * c + f : Nat) : Int) := by rw [J_mul, J_add]; exact congrArg J (by omega)
    rw [← e3 _ (by omega)] at a1 a2
    obtain ⟨_, _, _, m4', _, m5⟩ := e6_m (a := T g1 c) (b := T g3 c) (by omega) (by omega)
    obtain ⟨_, _, _, m6, _⟩ := e6_m (a := T g3 c) (b := T g3 c) (by omega) (by omega)
    have fin : ∀ v : Int32, v = J (e9 (tuN T f c)) → Wp (some (.inl (J ((4 * c + f : Nat) : Int) + J 1, mset B1 267 (576 * (t + 1) + 4 * c + f) v)) : Option ((Int32 × zM) ⊕ zM)) (fun o => Sum.elim (fun s => s.1 = J ((4 * c + f + 1 : Nat) : Int) ∧ (∀ f' c', f' < 4 → c' < 144 → 4 * c' + f' < 4 * c + f + 1 → s.2 267 (576 * (t + 1) + 4 * c' + f') = J (e9 (tuN T f' c'))) ∧ (∀ i, i < 576 * (t + 1) → s.2 267 i = B 267 i) ∧ ∀ j, j ≠ 267 → s.2 j = B j) (fun B' => EnN B' (t + 1) (tuN T) ∧ (∀ i, i < 576 * (t + 1) → B' 267 i = B 267 i) ∧ ∀ j, j ≠ 267 → B' j = B j) o) := by
      intro v hv
      refine wp_some ⟨J_s _, fun f' c' hf' hc' h => ?_, fun i hi => by simp (disch := omega) only [mset_ne, mset_eq, mrow_ne, mrow_eq, upd_eq, upd_ne]; exact e3 i hi, fun j hj => by simp (disch := omega) only [mset_ne, mset_eq, mrow_ne, mrow_eq, upd_eq, upd_ne]; exact e4 j hj⟩
      by_cases e : 4 * c' + f' = 4 * c + f
      · have h1 : f' = f := by omega
        have h2 : c' = c := by omega
        subst h1 h2
        simp (disch := omega) only [mset_ne, mset_eq, mrow_ne, mrow_eq, upd_eq, upd_ne]
        exact hv
      · have : 576 * (t + 1) + 4 * c' + f' ≠ 576 * (t + 1) + 4 * c + f := by omega
        simp (disch := omega) only [mset_ne, mset_eq, mrow_ne, mrow_eq, upd_eq, upd_ne]
        exact e2 f' c' hf' hc' (by omega)
    unfold b_X11_laySteps_11_2 j_X11_laySteps_37_2_11 j_X11_laySteps_40_2_11 j_X11_laySteps_116_2_11 j_X11_laySteps_118_2_11
    by_cases q : e9 (T g3 c) ≤ e9 (T g1 c)
    · simp (disch := omega) only [↓nm_s, ↓grd_s, ↓reduceIte, J_lit, Int.cast_ofNat_Int, J_lt_t, J_lt_f, J_le_t, J_le_f, J_eq_t, J_eq_f, within_t, within_f, isIn_t, isIn_f, inRow_t, inRow_f, isCell_t, isCell_f, inb_t, ix_Jn, ix_J, Int.reduceToNat, Int.toNat_natCast, i1, i2, i3, j1, j2, j3, a1, a2]
      exact fin _ (by rw [tu, ← m5]; exact congrArg J (by omega))
    · simp (disch := omega) only [↓nm_s, ↓grd_s, ↓reduceIte, J_lit, Int.cast_ofNat_Int, J_lt_t, J_lt_f, J_le_t, J_le_f, J_eq_t, J_eq_f, within_t, within_f, isIn_t, isIn_f, inRow_t, inRow_f, isCell_t, isCell_f, inb_t, ix_Jn, ix_J, Int.reduceToNat, Int.toNat_natCast, i1, i2, i3, j1, j2, j3, a1, a2]
      exact fin _ (by rw [tu, ← m5]; exact congrArg J (by omega))
  · rintro ⟨s1, B1⟩ ⟨e1, e2, e3, e4⟩
    simp only at e1 e2 e3 e4
    subst e1
    unfold b_X11_laySteps_11_2
    simp (disch := omega) only [↓reduceIte, J_lit, Int.cast_ofNat_Int, J_lt_t, J_lt_f, J_le_t, J_le_f, J_eq_t, J_eq_f, within_t, within_f, isIn_t, isIn_f, inRow_t, inRow_f, isCell_t, isCell_f, inb_t]
    exact wp_some ⟨fun f c hf hc => e2 f c hf hc (by omega), e3, e4⟩
theorem p_laySteps {N : zM} {fr f0 : Nat} (hfr : fr < 144) (hf0 : f0 < 4) (hg : ¬ N 258 fr = J 1) : Wp (f_X11_laySteps (J fr) (J f0) N) (fun B => (∀ t, t ≤ 6 → EnN B t (Tn (N 258) fr f0 t)) ∧ ∀ j, j ≠ 267 → B j = N j) := by
  unfold f_X11_laySteps j_X11_laySteps_150
  refine wp_bind ?_
  refine wp_mono (P := fun B => (∀ t, t ≤ 6 → EnN B t (Tn (N 258) fr f0 t)) ∧ ∀ j, j ≠ 267 → B j = N j) ?_ (fun B h => wp_some h)
  refine loop_up (fun k s => s.1 = J k ∧ (∀ t, t < k → EnN s.2 t (Tn (N 258) fr f0 t)) ∧ ∀ j, j ≠ 267 → s.2 j = N j) 7 ⟨rfl, fun t h => by omega, fun _ _ => rfl⟩ ?_ ?_
  · rintro k ⟨s1, B⟩ hk ⟨e1, e2, e3⟩
    simp only at e1 e2 e3
    subst e1
    unfold b_X11_laySteps_2 j_X11_laySteps_139_2
    simp (disch := omega) only [↓reduceIte, J_lit, Int.cast_ofNat_Int, J_lt_t, J_lt_f, J_le_t, J_le_f, J_eq_t, J_eq_f, within_t, within_f, isIn_t, isIn_f, inRow_t, inRow_f, isCell_t, isCell_f, inb_t]
    cases k with
    | zero =>
      refine wp_bind (wp_mono (p_pre0 (B := B) hfr hf0) ?_)
      rintro B1 ⟨h1, h2⟩
      have hb : Bd 0 (P0 fr f0) := by
        intro f c _ _
        unfold P0
        split <;> omega
      refine wp_bind (wp_mono (p_strOn (t := 0) (by omega) ((h2 258 (by decide)).trans (e3 258 (by decide))) (by omega) hb h1) ?_)
      rintro B2 ⟨g1, g2, g3⟩
      refine wp_some ⟨J_s _, fun t ht => ?_, fun j hj => (g3 j hj).trans ((h2 j hj).trans (e3 j hj))⟩
      have : t = 0 := by omega
      subst this
      exact g1
    | succ t =>
      obtain ⟨o1, o2⟩ := Tn_ok (g := N 258) (fr := fr) (f0 := f0) hg t (by omega)
      refine wp_bind (wp_mono (p_pre (B := B) (by omega) (by omega) o1 (e2 t (by omega))) ?_)
      rintro B1 ⟨h1, h2, h3⟩
      refine wp_bind (wp_mono (p_strOn (t := t + 1) (by omega) ((h3 258 (by decide)).trans (e3 258 (by decide))) (by omega) (tu_Bd o1) h1) ?_)
      rintro B2 ⟨g1, g2, g3⟩
      refine wp_some ⟨J_s _, fun t' ht' => ?_, fun j hj => (g3 j hj).trans ((h3 j hj).trans (e3 j hj))⟩
      by_cases e : t' = t + 1
      · subst e
        exact g1
      · intro f c hf hc
        have := e2 t' (by omega) f c hf hc
        simp only
        rw [g2 _ (by omega), h2 _ (by omega)]
        exact this
  · rintro ⟨s1, B⟩ ⟨e1, e2, e3⟩
    simp only at e1 e2 e3
    subst e1
    unfold b_X11_laySteps_2
    simp (disch := omega) only [↓reduceIte, J_lit, Int.cast_ofNat_Int, J_lt_t, J_lt_f, J_le_t, J_le_f, J_eq_t, J_eq_f, within_t, within_f, isIn_t, isIn_f, inRow_t, inRow_f, isCell_t, isCell_f, inb_t]
    exact wp_some ⟨fun t ht => e2 t (by omega), e3⟩
theorem p_farT {B : zM} {T : Nat → Nat → Nat} {m t to : Nat} (hm : m ≤ 200) (ht : t ≤ 6) (hto : to < 144) (hB : Bd m T) (hE : EnN B t T) : j_X11_far_59 (J to) (J t) B = some (resF (m4 T to 4), B) := by
  have hb := m4_b hB hto
  have key : Wp (loopW (fun s => b_X11_far_67 (J to) (J t) s.1 s.2 B) (J 9999, J 0)) (fun v => v = J (e9 (m4 T to 4))) := by
    refine loop_up (fun k s => s = (J (e9 (m4 T to k)), J k)) 4 rfl ?_ ?_
    · rintro k s hk rfl
      have ei : J (t : Int) * J 576 + J 4 * J (to : Int) + J (k : Int) = J ((576 * t + 4 * to + k : Nat) : Int) := by rw [J_mul, J_mul, J_add, J_add]; exact congrArg J (by omega)
      have q := hE k to hk hto
      have q2 := hB k to hk hto
      have q3 := hb k (by omega)
      obtain ⟨_, _, _, m3, _, m5⟩ := e6_m (a := m4 T to k) (b := T k to) (by omega) (by omega)
      obtain ⟨_, _, _, m6, _⟩ := e6_m (a := T k to) (b := T k to) (by omega) (by omega)
      have es : m4 T to (k + 1) = min (m4 T to k) (T k to) := rfl
      unfold b_X11_far_67 j_X11_far_111_67 j_X11_far_127_67
      by_cases c : e9 (m4 T to k) ≤ e9 (T k to)
      · simp (disch := omega) only [↓nm_s, ↓grd_s, ↓reduceIte, J_lit, J_neg, Int.cast_ofNat_Int, J_lt_t, J_lt_f, J_le_t, J_le_f, J_eq_t, J_eq_f, within_t, within_f, isIn_t, isIn_f, inRow_t, inRow_f, isCell_t, isCell_f, inb_t, ix_Jn, ix_J, Int.reduceToNat, Int.toNat_natCast, ei, q]
        refine wp_some (pr2 ?_ (J_s _))
        rw [es, ← m5]
        exact congrArg J (by omega)
      · simp (disch := omega) only [↓nm_s, ↓grd_s, ↓reduceIte, J_lit, J_neg, Int.cast_ofNat_Int, J_lt_t, J_lt_f, J_le_t, J_le_f, J_eq_t, J_eq_f, within_t, within_f, isIn_t, isIn_f, inRow_t, inRow_f, isCell_t, isCell_f, inb_t, ix_Jn, ix_J, Int.reduceToNat, Int.toNat_natCast, ei, q]
        refine wp_some (pr2 ?_ (J_s _))
        rw [es, ← m5]
        exact congrArg J (by omega)
    · rintro s rfl
      unfold b_X11_far_67
      simp (disch := omega) only [↓reduceIte, J_lit, Int.cast_ofNat_Int, J_lt_t, J_lt_f, J_le_t, J_le_f, J_eq_t, J_eq_f, within_t, within_f, isIn_t, isIn_f, inRow_t, inRow_f, isCell_t, isCell_f, inb_t]
      exact wp_some rfl
  obtain ⟨v, e, rfl⟩ := key
  unfold j_X11_far_59 j_X11_far_135
  rw [show ((9999 : Int32), (0 : Int32)) = (J 9999, J 0) from rfl, e]
  have q3 := hb 4 (by omega)
  unfold resF
  by_cases c : m4 T to 4 = 1000
  · rw [if_pos c]
    have e : e9 (m4 T to 4) = 9999 := by rw [c]; rfl
    simp (disch := omega) only [↓reduceIte, J_lit, J_neg, Int.cast_ofNat_Int, J_lt_t, J_lt_f, J_le_t, J_le_f, J_eq_t, J_eq_f, within_t, within_f, isIn_t, isIn_f, inRow_t, inRow_f, isCell_t, isCell_f, inb_t, e, bind_s]
  · rw [if_neg c]
    have e : e9 (m4 T to 4) = m4 T to 4 := by unfold e9; rw [if_neg c]
    simp (disch := omega) only [↓reduceIte, J_lit, J_neg, Int.cast_ofNat_Int, J_lt_t, J_lt_f, J_le_t, J_le_f, J_eq_t, J_eq_f, within_t, within_f, isIn_t, isIn_f, inRow_t, inRow_f, isCell_t, isCell_f, inb_t, e, bind_s]
/-- whether one can stand there, for both -/
theorem t_ground {M N : zM} (hM : ∀ c, c < 144 → M 3 c = N 258 c) (z : Int) (l1 : -2147483648 ≤ z) (l2 : z < 2147483648) : (f_X2_free (J z) M = some (J 0) ∧ f_X11_isGround (J z) N = some (J 0)) ∨ (f_X2_free (J z) M = some (J 1) ∧ f_X11_isGround (J z) N = some (J 1) ∧ ∃ c : Nat, c < 144 ∧ z = c ∧ ¬ N 258 c = J 1) := by
  unfold f_X2_free f_X11_isGround
  by_cases c : 0 ≤ z ∧ z < 144
  · obtain ⟨n, rfl⟩ : ∃ n : Nat, z = n := ⟨z.toNat, by omega⟩
    have h := hM n (by omega)
    by_cases q : N 258 n = J 1
    · left
      simp (disch := omega) only [↓nm_s, ↓grd_s, ↓reduceIte, J_lit, Int.cast_ofNat_Int, J_lt_t, J_lt_f, J_le_t, J_le_f, J_eq_t, J_eq_f, within_t, within_f, isIn_t, isIn_f, inRow_t, inRow_f, isCell_t, isCell_f, inb_t, ix_Jn, ix_J, Int.reduceToNat, Int.toNat_natCast, h, q]
      exact ⟨trivial, trivial⟩
    · right
      simp (disch := omega) only [↓nm_s, ↓grd_s, ↓reduceIte, J_lit, Int.cast_ofNat_Int, J_lt_t, J_lt_f, J_le_t, J_le_f, J_eq_t, J_eq_f, within_t, within_f, isIn_t, isIn_f, inRow_t, inRow_f, isCell_t, isCell_f, inb_t, ix_Jn, ix_J, Int.reduceToNat, Int.toNat_natCast, h, q]
      exact ⟨trivial, trivial, n, by omega, rfl, q⟩
  · left
    simp (disch := omega) only [↓nm_s, ↓grd_s, ↓reduceIte, J_lit, Int.cast_ofNat_Int, J_lt_t, J_lt_f, J_le_t, J_le_f, J_eq_t, J_eq_f, within_t, within_f, isIn_t, isIn_f, inRow_t, inRow_f, isCell_t, isCell_f, inb_t]
    exact ⟨trivial, trivial⟩
theorem c_far (p0 p1 p2 p3 : Int32) : Cl2 (f_X10_far p0 p1 p2 p3) (f_X11_far p0 p1 p2 p3) := by
  intro M N hI
  obtain ⟨z0, rfl, l1, l2⟩ := J_ex p0
  obtain ⟨z1, rfl, l3, l4⟩ := J_ex p1
  obtain ⟨z2, rfl, l5, l6⟩ := J_ex p2
  obtain ⟨z3, rfl, l7, l8⟩ := J_ex p3
  have hM : ∀ c, c < 144 → M 3 c = N 258 c := by
    obtain ⟨n, m, k, u, o, ks, a1, a2, a3, a4, a5, a6, a7, a8, a9, a10⟩ := hI
    exact fun c hc => (a2.2.2.2.1 c hc).1
  unfold f_X10_far f_X11_far
  rcases t_ground hM z0 l1 l2 with ⟨g1, g2⟩ | ⟨g1, g2, fr, hfr, rfl, hgf⟩
  · simp (disch := omega) only [↓reduceIte, J_lit, J_neg, Int.cast_ofNat_Int, J_lt_t, J_lt_f, J_le_t, J_le_f, J_eq_t, J_eq_f, within_t, within_f, isIn_t, isIn_f, inRow_t, inRow_f, isCell_t, isCell_f, inb_t, bind_s, g1, g2]
    exact ⟨_, _, _, rfl, rfl, hI⟩
  rcases t_ground hM z2 l5 l6 with ⟨g3, g4⟩ | ⟨g3, g4, to, hto, rfl, hgt⟩
  · simp (disch := omega) only [↓reduceIte, J_lit, J_neg, Int.cast_ofNat_Int, J_lt_t, J_lt_f, J_le_t, J_le_f, J_eq_t, J_eq_f, within_t, within_f, isIn_t, isIn_f, inRow_t, inRow_f, isCell_t, isCell_f, inb_t, bind_s, g1, g2, g3, g4]
    exact ⟨_, _, _, rfl, rfl, hI⟩
  by_cases c1 : 0 ≤ z1 ∧ z1 ≤ 3
  · obtain ⟨f, rfl⟩ : ∃ f : Nat, z1 = f := ⟨z1.toNat, by omega⟩
    by_cases c2 : -1 ≤ z3 ∧ z3 ≤ 6
    · by_cases c3 : z3 = -1
      · subst c3
        obtain ⟨⟨v, A⟩, a1, a2, a3⟩ := p_least hM hfr (show f < 4 by omega) hto
        obtain ⟨B, b1, b2, b3⟩ := p_layFar (N := N) hfr (show f < 4 by omega)
        obtain ⟨⟨v', B'⟩, d1, d2, d3⟩ := p_far4 hto b2
        simp only at a2 a3 d2 d3
        subst d3
        have := LeastTo_u d2 a2
        subst this
        simp (disch := omega) only [↓reduceIte, J_lit, J_neg, Int.cast_ofNat_Int, J_lt_t, J_lt_f, J_le_t, J_le_f, J_eq_t, J_eq_f, within_t, within_f, isIn_t, isIn_f, inRow_t, inRow_f, isCell_t, isCell_f, inb_t, bind_s, bnd2_s, g1, g2, g3, g4, a1, b1, d1]
        exact ⟨_, _, _, rfl, rfl, IC_scN (fun j _ _ _ _ => b3 j (by omega)) (fun i _ => by rw [b3 257 (by decide)]) (IC_scM (fun j _ h => a3 j (by unfold scC at h; omega) (by unfold scC at h; omega)) (fun i _ => by rw [a3 70 (by decide) (by decide)]) (fun i _ => by rw [a3 78 (by decide) (by decide)]) (by rw [a3 83 (by decide) (by decide)]) (by rw [a3 95 (by decide) (by decide)]) hI)⟩
      · obtain ⟨t, rfl⟩ : ∃ t : Nat, z3 = t := ⟨z3.toNat, by omega⟩
        obtain ⟨⟨v, A⟩, a1, a2, a3⟩ := p_fewest hM hfr hgf (show f < 4 by omega) hto (show t ≤ 6 by omega)
        obtain ⟨B, b1, b2, b3⟩ := p_laySteps (N := N) hfr (show f < 4 by omega) hgf
        have d1 := p_farT (show 11 * (t + 1) ≤ 200 by omega) (show t ≤ 6 by omega) hto (Tn_ok hgf t (by omega)).1 (b2 t (by omega))
        simp only at a2 a3
        subst a2
        simp (disch := omega) only [↓reduceIte, J_lit, J_neg, Int.cast_ofNat_Int, J_lt_t, J_lt_f, J_le_t, J_le_f, J_eq_t, J_eq_f, within_t, within_f, isIn_t, isIn_f, inRow_t, inRow_f, isCell_t, isCell_f, inb_t, bind_s, bnd2_s, g1, g2, g3, g4, a1, b1, d1]
        exact ⟨_, _, _, rfl, rfl, IC_scN (fun j _ _ _ _ => b3 j (by omega)) (fun i _ => by rw [b3 257 (by decide)]) (IC_scM (fun j _ h => a3 j (by unfold scC at h; omega) (by unfold scC at h; omega)) (fun i _ => by rw [a3 70 (by decide) (by decide)]) (fun i _ => by rw [a3 78 (by decide) (by decide)]) (by rw [a3 83 (by decide) (by decide)]) (by rw [a3 95 (by decide) (by decide)]) hI)⟩
    · by_cases c4 : z3 < -1
      · simp (disch := omega) only [↓reduceIte, J_lit, J_neg, Int.cast_ofNat_Int, J_lt_t, J_lt_f, J_le_t, J_le_f, J_eq_t, J_eq_f, within_t, within_f, isIn_t, isIn_f, inRow_t, inRow_f, isCell_t, isCell_f, inb_t, bind_s, g1, g2, g3, g4]
        exact ⟨_, _, _, rfl, rfl, hI⟩
      · simp (disch := omega) only [↓reduceIte, J_lit, J_neg, Int.cast_ofNat_Int, J_lt_t, J_lt_f, J_le_t, J_le_f, J_eq_t, J_eq_f, within_t, within_f, isIn_t, isIn_f, inRow_t, inRow_f, isCell_t, isCell_f, inb_t, bind_s, g1, g2, g3, g4]
        exact ⟨_, _, _, rfl, rfl, hI⟩
  · by_cases c4 : z1 < 0
    · simp (disch := omega) only [↓reduceIte, J_lit, J_neg, Int.cast_ofNat_Int, J_lt_t, J_lt_f, J_le_t, J_le_f, J_eq_t, J_eq_f, within_t, within_f, isIn_t, isIn_f, inRow_t, inRow_f, isCell_t, isCell_f, inb_t, bind_s, g1, g2, g3, g4]
      exact ⟨_, _, _, rfl, rfl, hI⟩
    · simp (disch := omega) only [↓reduceIte, J_lit, J_neg, Int.cast_ofNat_Int, J_lt_t, J_lt_f, J_le_t, J_le_f, J_eq_t, J_eq_f, within_t, within_f, isIn_t, isIn_f, inRow_t, inRow_f, isCell_t, isCell_f, inb_t, bind_s, g1, g2, g3, g4]
      exact ⟨_, _, _, rfl, rfl, hI⟩
