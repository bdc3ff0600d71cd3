/-! ===== far: the reference's levels ===== -/
theorem p_lvsweep {B : zM} {g : Nat → Int32} {s t : Nat} (ht : t < 9000) (hg : B 258 = g) (h : Lv g s B t (fun _ _ => False)) :
    Wp (loopW (fun st => b_X11_layFar_51_42 (J t) st.1 st.2.1 st.2.2) (J 0, J 0, B)) (fun q => Lv g s q.2 t (fun k' _ => k' < 576) ∧ (∀ j, j ≠ 268 → q.2 j = B j) ∧ (∀ k', k' < 576 → (q.2 268 k' = J t ↔ B 268 k' = J t)) ∧ ((q.1 = J 0 ∧ ∀ k', k' < 576 → ¬ B 268 k' = J t) ∨ (q.1 = J 1 ∧ ∃ k', k' < 576 ∧ B 268 k' = J t))) := by
  refine loop_up (fun k st => st.2.1 = J k ∧ Lv g s st.2.2 t (fun k' _ => k' < k) ∧ (∀ j, j ≠ 268 → st.2.2 j = B j) ∧ (∀ k', k' < 576 → (st.2.2 268 k' = J t ↔ B 268 k' = J t)) ∧ ((st.1 = J 0 ∧ ∀ k', k' < k → ¬ B 268 k' = J t) ∨ (st.1 = J 1 ∧ ∃ k', k' < k ∧ B 268 k' = J t))) 576 ⟨rfl, ?_, fun _ _ => rfl, fun _ _ => Iff.rfl, Or.inl ⟨rfl, fun k' hk' => by omega⟩⟩ ?_ ?_
  · intro k hk
    rcases h k hk with a | a | ⟨a1, a2, a3⟩
    · exact Or.inl a
    · exact Or.inr (Or.inl a)
    · exact Or.inr (Or.inr ⟨a1, a2, fun k' kk _ _ hp => by omega⟩)
  · rintro k ⟨s1, s2, B1⟩ hk ⟨e1, e2, e3, e4, e5⟩
    simp only at e1 e2 e3 e4 e5
    subst e1
    by_cases c : B1 268 k = J t
    · refine wp_mono (p_lvone s1 ht hk ((e3 258 (by decide)).trans hg) e2 c) ?_
      rintro o ⟨B2, rfl, h1, h2, h3⟩
      refine ⟨rfl, ?_, fun j hj => (h2 j hj).trans (e3 j hj), fun k' hk' => (h3 k' hk').trans (e4 k' hk'), Or.inr ⟨rfl, k, by omega, (e4 k hk).1 c⟩⟩
      intro k1 hk1
      rcases h1 k1 hk1 with a | a | ⟨a1, a2, a3⟩
      · exact Or.inl a
      · exact Or.inr (Or.inl a)
      · exact Or.inr (Or.inr ⟨a1, a2, fun k' kk hk' hkk hp => a3 k' kk hk' hkk (by omega)⟩)
    · unfold b_X11_layFar_51_42 j_X11_layFar_202_42_51
      simp (disch := omega) only [↓nm_s, ↓grd_s, ↓reduceIte, J_lit, Int.cast_ofNat_Int, J_lt_t, J_lt_f, J_le_t, J_le_f, J_eq_t, J_eq_f, within_t, within_f, isIn_t, isIn_f, inRow_t, inRow_f, isCell_t, isCell_f, inb_t, ix_Jn, ix_J, Int.reduceToNat, Int.toNat_natCast, c]
      have c' : ¬ B 268 k = J t := fun q => c ((e4 k hk).2 q)
      refine wp_some ⟨J_s _, ?_, e3, e4, ?_⟩
      · intro k1 hk1
        rcases e2 k1 hk1 with a | a | ⟨a1, a2, a3⟩
        · exact Or.inl a
        · exact Or.inr (Or.inl a)
        · refine Or.inr (Or.inr ⟨a1, a2, fun k' kk hk' hkk hp hB => ?_⟩)
          by_cases e : k' = k
          · subst e; exact absurd hB c
          · exact a3 k' kk hk' hkk (by omega) hB
      · rcases e5 with ⟨q1, q2⟩ | ⟨q1, k', q2, q3⟩
        · refine Or.inl ⟨q1, fun k' hk' => ?_⟩
          by_cases e : k' = k
          · subst e; exact c'
          · exact q2 k' (by omega)
        · exact Or.inr ⟨q1, k', by omega, q3⟩
  · rintro ⟨s1, s2, B1⟩ ⟨e1, e2, e3, e4, e5⟩
    simp only at e1 e2 e3 e4 e5
    subst e1
    unfold b_X11_layFar_51_42
    simp (disch := omega) only [↓reduceIte, J_lit, Int.cast_ofNat_Int, J_lt_t, J_lt_f, J_le_t, J_le_f, J_eq_t, J_eq_f, within_t, within_f, isIn_t, isIn_f, inRow_t, inRow_f, isCell_t, isCell_f, inb_t]
    exact wp_some ⟨e2, e3, e4, e5⟩
def FinD (g : Nat → Int32) (s : Nat) (B : zM) : Prop := ∀ k, k < 576 → (∃ d : Nat, d < 1000 ∧ B 268 k = J d ∧ Rch (nxS g) 3 s d (ph k) ∧ ∀ n, n < d → ¬ Rch (nxS g) 3 s n (ph k)) ∨ (B 268 k = J 9999 ∧ ∀ n, ¬ Rch (nxS g) 3 s n (ph k))
theorem p_layFar {N : zM} {fr f : Nat} (hfr : fr < 144) (hf : f < 4) : Wp (f_X11_layFar (J fr) (J f) N) (fun B => FinD (N 258) (144 * f + fr) B ∧ ∀ j, j ≠ 268 → B j = N j) := by
  have hs : 144 * f + fr < 576 := by omega
  have eph : ph (4 * fr + f) = 144 * f + fr := by unfold ph; omega
  have beg : Wp (loopW (fun st => b_X11_layFar_2 (J fr) (J f) st.1 st.2) (J 0, N)) (fun B => Lv (N 258) (144 * f + fr) B 0 (fun _ _ => False) ∧ ∀ j, j ≠ 268 → B j = N j) := by
    refine loop_up (fun k st => st.1 = J k ∧ (∀ k', k' < k → st.2 268 k' = J ((if k' = 4 * fr + f then 0 else 9999 : Nat) : Int)) ∧ ∀ j, j ≠ 268 → st.2 j = N j) 576 ⟨rfl, fun _ h => by omega, fun _ _ => rfl⟩ ?_ ?_
    · rintro k ⟨s1, B⟩ hk ⟨e1, e2, e3⟩
      simp only at e1 e2 e3
      subst e1
      have ei : J 4 * J (fr : Int) + J (f : Int) = J ((4 * fr + f : Nat) : Int) := by rw [J_mul, J_add]; rfl
      unfold b_X11_layFar_2 j_X11_layFar_30_2
      by_cases c : k = 4 * fr + f
      · simp (disch := omega) only [↓nm_s, ↓grd_s, ↓reduceIte, J_lit, Int.cast_ofNat_Int, J_lt_t, J_lt_f, J_le_t, J_le_f, J_eq_t, J_eq_f, within_t, within_f, isIn_t, isIn_f, inRow_t, inRow_f, isCell_t, isCell_f, inb_t, ix_Jn, ix_J, Int.reduceToNat, Int.toNat_natCast, ei]
        refine wp_some ⟨J_s _, fun x hx => ?_, fun j hj => by simp (disch := omega) only [mset_ne, mset_eq, mrow_ne, mrow_eq, upd_eq, upd_ne]; exact e3 j hj⟩
        by_cases e : x = k
        · subst e
          rw [if_pos c]
          simp (disch := omega) only [mset_ne, mset_eq, mrow_ne, mrow_eq, upd_eq, upd_ne]
          rfl
        · simp (disch := omega) only [mset_ne, mset_eq, mrow_ne, mrow_eq, upd_eq, upd_ne]
          exact e2 x (by omega)
      · simp (disch := omega) only [↓nm_s, ↓grd_s, ↓reduceIte, J_lit, Int.cast_ofNat_Int, J_lt_t, J_lt_f, J_le_t, J_le_f, J_eq_t, J_eq_f, within_t, within_f, isIn_t, isIn_f, inRow_t, inRow_f, isCell_t, isCell_f, inb_t, ix_Jn, ix_J, Int.reduceToNat, Int.toNat_natCast, ei]
        refine wp_some ⟨J_s _, fun x hx => ?_, fun j hj => by simp (disch := omega) only [mset_ne, mset_eq, mrow_ne, mrow_eq, upd_eq, upd_ne]; exact e3 j hj⟩
        by_cases e : x = k
        · subst e
          rw [if_neg c]
          simp (disch := omega) only [mset_ne, mset_eq, mrow_ne, mrow_eq, upd_eq, upd_ne]
          rfl
        · simp (disch := omega) only [mset_ne, mset_eq, mrow_ne, mrow_eq, upd_eq, upd_ne]
          exact e2 x (by omega)
    · rintro ⟨s1, B⟩ ⟨e1, e2, e3⟩
      simp only at e1 e2 e3
      subst e1
      unfold b_X11_layFar_2
      simp (disch := omega) only [↓reduceIte, J_lit, Int.cast_ofNat_Int, J_lt_t, J_lt_f, J_le_t, J_le_f, J_eq_t, J_eq_f, within_t, within_f, isIn_t, isIn_f, inRow_t, inRow_f, isCell_t, isCell_f, inb_t]
      refine wp_some ⟨fun k hk => ?_, e3⟩
      have := e2 k hk
      by_cases c : k = 4 * fr + f
      · rw [if_pos c] at this
        exact Or.inl ⟨0, by omega, this, by rw [c, eph]; rfl, fun n hn => by omega⟩
      · rw [if_neg c] at this
        refine Or.inr (Or.inr ⟨this, fun hr => ?_, fun _ _ _ _ q => q.elim⟩)
        have hr' : ph k = 144 * f + fr := hr
        rw [← eph] at hr'
        exact c (ph_inj hr' hk (by omega))
  unfold f_X11_layFar j_X11_layFar_37 j_X11_layFar_214
  refine wp_bind (wp_mono beg ?_)
  rintro B0 ⟨b1, b2⟩
  refine wp_bind ?_
  refine wp_mono (P := fun B => FinD (N 258) (144 * f + fr) B ∧ ∀ j, j ≠ 268 → B j = N j) ?_ (fun B hB => wp_some hB)
  generalize hss : 144 * f + fr = s at *
  refine loop_q _ (fun st => 600 - st.2.1.toInt.toNat + st.1.toInt.toNat) (fun st => ∃ t : Nat, t ≤ 577 ∧ st.2.1 = J t ∧ Lv (N 258) s st.2.2 t (fun _ _ => False) ∧ (∀ j, j ≠ 268 → st.2.2 j = N j) ∧ ((st.1 = J 1 ∧ ∃ w : Nat → Nat, ∀ j, j < t → w j < 576 ∧ Rch (nxS (N 258)) 3 s j (w j) ∧ ∀ n, n < j → ¬ Rch (nxS (N 258)) 3 s n (w j)) ∨ (st.1 = J 0 ∧ ∀ n v, Rch (nxS (N 258)) 3 s n v → Rch (nxS (N 258)) 3 s t v))) _ ?_ _ ⟨0, by omega, rfl, b1, b2, Or.inl ⟨rfl, fun _ => 0, fun j hj => by omega⟩⟩
  rintro ⟨s1, s2, B⟩ ⟨t, ht, e1, e2, e3, e4⟩
  simp only at e1 e2 e3 e4
  subst e1
  unfold b_X11_layFar_42 j_X11_layFar_208_42
  rcases e4 with ⟨rfl, w, hw⟩ | ⟨rfl, hcl⟩
  · have ht2 : t ≤ 576 := inj_le (w := w) t (fun j hj => (hw j hj).1) (fun j j' hj hj' e => by
      rcases Nat.lt_trichotomy j j' with q | q | q
      · have := (hw j' hj').2.2 j q
        rw [← e] at this
        exact absurd (hw j hj).2.1 this
      · exact q
      · have := (hw j hj).2.2 j' q
        rw [e] at this
        exact absurd (hw j' hj').2.1 this)
    simp (disch := omega) only [↓reduceIte, J_lit, Int.cast_ofNat_Int, J_lt_t, J_lt_f, J_le_t, J_le_f, J_eq_t, J_eq_f, within_t, within_f, isIn_t, isIn_f, inRow_t, inRow_f, isCell_t, isCell_f, inb_t]
    refine wp_bind (wp_mono (p_lvsweep (by omega) (e3 258 (by decide)) e2) ?_)
    rintro ⟨q, B2⟩ ⟨h1, h2, h3, h4⟩
    simp only at h1 h2 h3 h4
    have hnx := Lv_next hs h1 (by omega) (fun k kk hk hkk _ => hk)
    refine wp_some ⟨⟨t + 1, by omega, J_s _, hnx, fun j hj => (h2 j hj).trans (e3 j hj), ?_⟩, ?_⟩
    · rcases h4 with ⟨rfl, h4⟩ | ⟨rfl, k', hk', h4⟩
      · refine Or.inr ⟨rfl, fun n v hr => ?_⟩
        obtain ⟨n', hn', hr'⟩ := Lv_end hs e2 (by omega) h4 n v hr
        exact Rch_le hr' (by omega)
      · refine Or.inl ⟨rfl, upN w t (ph k'), fun j hj => ?_⟩
        by_cases e : j = t
        · subst e
          rw [upN_eq]
          have := (Lv_at e2 (by omega) hk').1 h4
          exact ⟨ph_lt hk', this.1, this.2⟩
        · rw [upN_ne e]
          exact hw j (by omega)
    · simp only
      rw [J_s, J_toInt (by omega) (by omega), J_toInt (by omega) (by omega)]
      rcases h4 with ⟨rfl, _⟩ | ⟨rfl, _⟩
      · rw [J_toInt (by omega) (by omega), J_toInt (by omega) (by omega)]
        omega
      · rw [J_toInt (by omega) (by omega)]
        omega
  · simp (disch := omega) only [↓reduceIte, J_lit, Int.cast_ofNat_Int, J_lt_t, J_lt_f, J_le_t, J_le_f, J_eq_t, J_eq_f, within_t, within_f, isIn_t, isIn_f, inRow_t, inRow_f, isCell_t, isCell_f, inb_t]
    refine wp_some ⟨fun k hk => ?_, e3⟩
    rcases e2 k hk with ⟨d, a1, a2, a3, a4⟩ | ⟨_, a2, a3⟩ | ⟨a1, a2, a3⟩
    · exact Or.inl ⟨d, by omega, a2, a3, a4⟩
    · exact absurd (hcl _ _ a3) a2
    · exact Or.inr ⟨a1, fun n hr => a2 (hcl n _ hr)⟩
/-- the least of the four -/
theorem p_far4 {B : zM} {g : Nat → Int32} {s to : Nat} (hto : to < 144) (h : FinD g s B) : Wp (j_X11_far_59 (J to) (J (-1)) B) (fun q => LeastTo g s to q.1 ∧ q.2 = B) := by
  have key : Wp (loopW (fun st => b_X11_far_67 (J to) (J (-1)) st.1 st.2 B) (J 9999, J 0)) (fun v => (v = J 9999 ∧ ∀ n f, f < 4 → ¬ Rch (nxS g) 3 s n (144 * f + to)) ∨ (∃ d : Nat, d < 1000 ∧ v = J d ∧ (∃ f, f < 4 ∧ Rch (nxS g) 3 s d (144 * f + to)) ∧ ∀ n f, n < d → f < 4 → ¬ Rch (nxS g) 3 s n (144 * f + to))) := by
    refine loop_up (fun k st => st.2 = J k ∧ ((st.1 = J 9999 ∧ ∀ n f, f < k → ¬ Rch (nxS g) 3 s n (144 * f + to)) ∨ (∃ d : Nat, d < 1000 ∧ st.1 = J d ∧ (∃ f, f < k ∧ Rch (nxS g) 3 s d (144 * f + to)) ∧ ∀ n f, n < d → f < k → ¬ Rch (nxS g) 3 s n (144 * f + to)))) 4 ⟨rfl, Or.inl ⟨rfl, fun n f hf => by omega⟩⟩ ?_ ?_
    · rintro k ⟨s1, s2⟩ hk ⟨e1, e2⟩
      simp only at e1 e2
      subst e1
      have ei : J 4 * J (to : Int) + J (k : Int) = J ((4 * to + k : Nat) : Int) := by rw [J_mul, J_add]; rfl
      have eph : ph (4 * to + k) = 144 * k + to := by unfold ph; omega
      have hfin := h (4 * to + k) (by omega)
      rw [eph] at hfin
      unfold b_X11_far_67 j_X11_far_111_67 j_X11_far_127_67
      rcases e2 with ⟨rfl, h1⟩ | ⟨d, h0, rfl, ⟨f, h1, h2⟩, h3⟩
      · rcases hfin with ⟨d', a1, a2, a3, a4⟩ | ⟨a1, a2⟩
        · simp (disch := omega) only [↓nm_s, ↓grd_s, ↓reduceIte, J_lit, J_neg, Int.cast_ofNat_Int, J_lt_t, J_lt_f, J_le_t, J_le_f, J_eq_t, J_eq_f, within_t, within_f, isIn_t, isIn_f, inRow_t, inRow_f, isCell_t, isCell_f, inb_t, ix_Jn, ix_J, Int.reduceToNat, Int.toNat_natCast, ei, a2]
          refine wp_some ⟨J_s _, Or.inr ⟨d', a1, rfl, ⟨k, by omega, a3⟩, fun n f hn hf => ?_⟩⟩
          by_cases e : f = k
          · subst e; exact a4 n hn
          · exact h1 n f (by omega)
        · simp (disch := omega) only [↓nm_s, ↓grd_s, ↓reduceIte, J_lit, J_neg, Int.cast_ofNat_Int, J_lt_t, J_lt_f, J_le_t, J_le_f, J_eq_t, J_eq_f, within_t, within_f, isIn_t, isIn_f, inRow_t, inRow_f, isCell_t, isCell_f, inb_t, ix_Jn, ix_J, Int.reduceToNat, Int.toNat_natCast, ei, a1]
          refine wp_some ⟨J_s _, Or.inl ⟨rfl, fun n f hf => ?_⟩⟩
          by_cases e : f = k
          · subst e; exact a2 n
          · exact h1 n f (by omega)
      · rcases hfin with ⟨d', a1, a2, a3, a4⟩ | ⟨a1, a2⟩
        · by_cases c : d ≤ d'
          · simp (disch := omega) only [↓nm_s, ↓grd_s, ↓reduceIte, J_lit, J_neg, Int.cast_ofNat_Int, J_lt_t, J_lt_f, J_le_t, J_le_f, J_eq_t, J_eq_f, within_t, within_f, isIn_t, isIn_f, inRow_t, inRow_f, isCell_t, isCell_f, inb_t, ix_Jn, ix_J, Int.reduceToNat, Int.toNat_natCast, ei, a2]
            refine wp_some ⟨J_s _, Or.inr ⟨d, h0, rfl, ⟨f, by omega, h2⟩, fun n f hn hf => ?_⟩⟩
            by_cases e : f = k
            · subst e; exact a4 n (by omega)
            · exact h3 n f hn (by omega)
          · simp (disch := omega) only [↓nm_s, ↓grd_s, ↓reduceIte, J_lit, J_neg, Int.cast_ofNat_Int, J_lt_t, J_lt_f, J_le_t, J_le_f, J_eq_t, J_eq_f, within_t, within_f, isIn_t, isIn_f, inRow_t, inRow_f, isCell_t, isCell_f, inb_t, ix_Jn, ix_J, Int.reduceToNat, Int.toNat_natCast, ei, a2]
            refine wp_some ⟨J_s _, Or.inr ⟨d', a1, rfl, ⟨k, by omega, a3⟩, fun n f hn hf => ?_⟩⟩
            by_cases e : f = k
            · subst e; exact a4 n hn
            · exact h3 n f (by omega) (by omega)
        · simp (disch := omega) only [↓nm_s, ↓grd_s, ↓reduceIte, J_lit, J_neg, Int.cast_ofNat_Int, J_lt_t, J_lt_f, J_le_t, J_le_f, J_eq_t, J_eq_f, within_t, within_f, isIn_t, isIn_f, inRow_t, inRow_f, isCell_t, isCell_f, inb_t, ix_Jn, ix_J, Int.reduceToNat, Int.toNat_natCast, ei, a1]
          refine wp_some ⟨J_s _, Or.inr ⟨d, h0, rfl, ⟨f, by omega, h2⟩, fun n f hn hf => ?_⟩⟩
          by_cases e : f = k
          · subst e; exact a2 n
          · exact h3 n f hn (by omega)
    · rintro ⟨s1, s2⟩ ⟨e1, e2⟩
      simp only at e1 e2
      subst e1
      unfold b_X11_far_67
      simp (disch := omega) only [↓reduceIte, J_lit, Int.cast_ofNat_Int, J_lt_t, J_lt_f, J_le_t, J_le_f, J_eq_t, J_eq_f, within_t, within_f, isIn_t, isIn_f, inRow_t, inRow_f, isCell_t, isCell_f, inb_t]
      exact wp_some e2
  have tr : ∀ u, u < 576 → u % 144 = to → u = 144 * (u / 144) + to ∧ u / 144 < 4 := fun u h1 h2 => by omega
  unfold j_X11_far_59 j_X11_far_135
  refine wp_bind (wp_mono key ?_)
  rintro v (⟨rfl, h1⟩ | ⟨d, h0, rfl, ⟨f, h1, h2⟩, h3⟩)
  · simp (disch := omega) only [↓reduceIte, J_lit, J_neg, Int.cast_ofNat_Int, J_lt_t, J_lt_f, J_le_t, J_le_f, J_eq_t, J_eq_f, within_t, within_f, isIn_t, isIn_f, inRow_t, inRow_f, isCell_t, isCell_f, inb_t]
    refine wp_some ⟨Or.inl ⟨rfl, fun n u hu ht => ?_⟩, rfl⟩
    obtain ⟨q1, q2⟩ := tr u hu ht
    rw [q1]
    exact h1 n _ q2
  · simp (disch := omega) only [↓reduceIte, J_lit, J_neg, Int.cast_ofNat_Int, J_lt_t, J_lt_f, J_le_t, J_le_f, J_eq_t, J_eq_f, within_t, within_f, isIn_t, isIn_f, inRow_t, inRow_f, isCell_t, isCell_f, inb_t]
    refine wp_some ⟨Or.inr ⟨d, h0, rfl, ⟨144 * f + to, by omega, by omega, h2⟩, fun n u hn hu ht => ?_⟩, rfl⟩
    obtain ⟨q1, q2⟩ := tr u hu ht
    rw [q1]
    exact h3 n _ hn q2
