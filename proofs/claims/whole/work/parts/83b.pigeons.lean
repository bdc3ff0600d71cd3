/-! ===== pigeons: the class's flocks ===== -/
theorem cnt_inj {w : Nat → Nat} {V : Nat} : ∀ m, (∀ j, j < m → w j < V) → (∀ j j', j < m → j' < m → w j = w j' → j = j') → cnt (fun v => ∃ j, j < m ∧ w j = v) V = m := by
  intro m
  induction m with
  | zero =>
    intro _ _
    exact cnt_none V (fun i _ ⟨j, hj, _⟩ => by omega)
  | succ m ih =>
    intro h1 h2
    rw [cnt_one (P := fun v => ∃ j, j < m ∧ w j = v) (r := w m) (fun ⟨j, hj, e⟩ => by have := h2 j m (by omega) (by omega) e; omega) (fun i => ?_), ih (fun j hj => h1 j (by omega)) (fun j j' hj hj' => h2 j j' (by omega) (by omega)), if_pos (h1 m (by omega))]
    constructor
    · rintro ⟨j, hj, e⟩
      by_cases a : j = m
      · subst a; exact Or.inr e.symm
      · exact Or.inl ⟨j, by omega, e⟩
    · rintro (⟨j, hj, e⟩ | e)
      · exact ⟨j, by omega, e⟩
      · exact ⟨m, by omega, e.symm⟩
/-- labels: each place has the least of its flock -/
def LbO (g : Nat → Int32) (l : Nat → Nat) : Prop := (∀ c, c < 144 → ¬ g c = J 1 → l c ≤ c ∧ ¬ g (l c) = J 1 ∧ ∃ n, Rch (onw g) 4 (l c) n c) ∧ ∀ c f d, c < 144 → f < 4 → ¬ g c = J 1 → onw g c f = some d → l c = l d
theorem LbO_of {g : Nat → Int32} {B : zM} {l : Nat → Nat} (h : Fl g B l) (h2 : ∀ c f d, c < 144 → f < 4 → ¬ g c = J 1 → onw g c f = some d → l c ≤ l d) : LbO g l := by
  refine ⟨fun c hc hg => ?_, fun c f d hc hf hg hd => ?_⟩
  · rcases h c hc with ⟨q, _⟩ | ⟨_, _, q1, q2, q3⟩
    · exact absurd q hg
    · exact ⟨q1, q2, q3⟩
  · obtain ⟨d1, d2⟩ := onw_lt hc hf hd
    have := h2 c f d hc hf hg hd
    have := h2 d ((f + 2) % 4) c d1 (Nat.mod_lt _ (by decide)) d2 (onw_bk hc hg hf hd)
    omega
theorem Lb_R {g : Nat → Int32} {l : Nat → Nat} (h : LbO g l) {s : Nat} (hs : s < 144) (hg : ¬ g s = J 1) : ∀ n v, Rch (onw g) 4 s n v → v < 144 ∧ ¬ g v = J 1 ∧ l v = l s := by
  intro n
  induction n with
  | zero =>
    intro v hv
    have : v = s := hv
    subst this
    exact ⟨hs, hg, rfl⟩
  | succ n ih =>
    intro v hv
    rcases hv with hv | ⟨u, k, hk, hu, hv⟩
    · exact ih v hv
    · obtain ⟨a, b, c⟩ := ih u hu
      obtain ⟨d1, d2⟩ := onw_lt a hk hv
      exact ⟨d1, d2, by rw [← h.2 u k v a hk b hv, c]⟩
theorem Lb_l {g : Nat → Int32} {l : Nat → Nat} (h : LbO g l) {c : Nat} (hc : c < 144) (hg : ¬ g c = J 1) : l (l c) = l c := by
  obtain ⟨h1, h2, n, h3⟩ := h.1 c hc hg
  exact (Lb_R h (by omega) h2 n c h3).2.2.symm
noncomputable def manyL (g : Nat → Int32) (l : Nat → Nat) (i : Nat) : Nat := (cnt (fun v => ¬ g v = J 1 ∧ l v = i) 144)
theorem p_flockFrom {A : zM} {g : Nat → Int32} {l : Nat → Nat} {i : Nat} (hi : i < 144) (hg : ∀ v, v < 144 → A 3 v = g v) (hL : LbO g l) (hgi : ¬ g i = J 1) (hli : l i = i) (hc : ∀ v, v < 144 → (A 88 v = J (-1) ∧ (g v = J 1 ∨ ¬ l v < i)) ∨ (¬ A 88 v = J (-1) ∧ ¬ g v = J 1 ∧ l v < i)) :
    Wp (f_X2_flockFrom (J i) A) (fun q => q.1 = J (manyL g l i) ∧ (∀ v, v < 144 → (q.2 88 v = J (-1) ∧ (g v = J 1 ∨ ¬ l v < i + 1)) ∨ (¬ q.2 88 v = J (-1) ∧ ¬ g v = J 1 ∧ l v < i + 1)) ∧ ∀ j, j ≠ 88 → j ≠ 90 → q.2 j = A j) := by
  let O : Nat → Prop := fun v => ¬ A 88 v = J (-1)
  have hO : ∀ v, O v ↔ ¬ A 88 v = J (-1) := fun _ => Iff.rfl
  have hOi : ¬ O i := by
    rw [hO]
    rcases hc i hi with ⟨q, _⟩ | ⟨_, _, q⟩
    · exact fun h => h q
    · omega
  have start : BQ (onw g) 4 144 i 1000 O (fun _ => J 0) (upd (A 88) i (J 0)) (upd (A 90) 0 (J i)) 1 0 0 (fun _ => i) (fun _ => 0) := by
    refine BQ_0 hi hOi upd_eq upd_eq (fun v hv ho hne => ?_)
    rw [upd_ne hne]
    rw [hO] at ho
    exact Classical.not_not.1 ho
  -- the row is gone through
  have lp : Wp (loopW (fun s => b_X2_flockFrom_18 s.1 s.2.1 s.2.2) (J 1, J 0, mset (mset A 88 i (J 0)) 90 0 (J i))) (fun q => ∃ (m : Nat) (w d : Nat → Nat), q.1 = J m ∧ BQ (onw g) 4 144 i 1000 O (fun _ => J 0) (q.2 88) (q.2 90) m m 0 w d ∧ (∀ v, O v → ¬ q.2 88 v = J (-1)) ∧ ∀ j, j ≠ 88 → j ≠ 90 → q.2 j = A j) := by
    refine loop_q _ (fun s => 145 - s.2.1.toInt.toNat) (fun s => ∃ (m i' : Nat) (w d : Nat → Nat), s.1 = J m ∧ s.2.1 = J i' ∧ BQ (onw g) 4 144 i 1000 O (fun _ => J 0) (s.2.2 88) (s.2.2 90) m i' 0 w d ∧ (∀ v, O v → ¬ s.2.2 88 v = J (-1)) ∧ ∀ j, j ≠ 88 → j ≠ 90 → s.2.2 j = A j) _ ?_ _ ⟨1, 0, fun _ => i, fun _ => 0, rfl, rfl, ?_, ?_, ?_⟩
    · rintro ⟨s1, s2, A1⟩ ⟨m, i', w, d, e1, e2, hB, hv, hf⟩
      simp only at e1 e2 hB hv hf
      subst e1 e2
      have hm : m ≤ 144 := inj_le m (fun j hj => (hB.2.1 j hj).2.1) hB.2.2.2.1
      have him := hB.1.2.2.2
      unfold b_X2_flockFrom_18 j_X2_flockFrom_95_18
      by_cases c : m ≤ i'
      · have : i' = m := by omega
        subst this
        simp (disch := omega) only [↓reduceIte, J_lt_t, J_lt_f, J_le_t, J_le_f, J_eq_t, J_eq_f, within_t, within_f, isIn_t, isIn_f, inRow_t, inRow_f, isCell_t, isCell_f, inb_t]
        exact wp_some ⟨i', w, d, rfl, hB, hv, hf⟩
      · simp (disch := omega) only [↓reduceIte, J_lit, Int.cast_ofNat_Int, J_lt_t, J_lt_f, J_le_t, J_le_f, J_eq_t, J_eq_f, within_t, within_f, isIn_t, isIn_f, inRow_t, inRow_f, isCell_t, isCell_f, inb_t]
        refine wp_bind ?_
        refine wp_mono (P := fun q => ∃ (m : Nat) (w d : Nat → Nat), i' < m ∧ q.1 = J m ∧ BQ (onw g) 4 144 i 1000 O (fun _ => J 0) (q.2 88) (q.2 90) m i' 4 w d ∧ (∀ v, O v → ¬ q.2 88 v = J (-1)) ∧ ∀ j, j ≠ 88 → j ≠ 90 → q.2 j = A j) ?_ ?_
        · refine loop_up (fun f s => s.2.1 = J f ∧ ∃ (m : Nat) (w d : Nat → Nat), i' < m ∧ s.1 = J m ∧ BQ (onw g) 4 144 i 1000 O (fun _ => J 0) (s.2.2 88) (s.2.2 90) m i' f w d ∧ (∀ v, O v → ¬ s.2.2 88 v = J (-1)) ∧ ∀ j, j ≠ 88 → j ≠ 90 → s.2.2 j = A j) 4 ⟨rfl, m, w, d, by omega, rfl, hB, hv, hf⟩ ?_ ?_
          · rintro f ⟨u1, u2, A2⟩ hf4 ⟨g1, m2, w2, d2, g0, g2, g3, g4, g5⟩
            simp only at g1 g2 g3 g4 g5
            subst g1 g2
            obtain ⟨r1, r2, r3, r4⟩ := g3.2.1 i' g0
            have hm2 : m2 ≤ 144 := inj_le m2 (fun j hj => (g3.2.1 j hj).2.1) g3.2.2.2.1
            have ho := t_onward (A := A2) (f := f) r2 hf4
            rw [onw_cg (g' := g) (fun v hv' => by rw [g5 3 (by decide) (by decide)]; exact hg v hv') r2 hf4] at ho
            unfold b_X2_flockFrom_26_18 j_X2_flockFrom_89_18_26
            cases hon : onw g (w2 i') f with
            | none =>
              rw [hon] at ho
              simp only [onJ] at ho
              simp (disch := omega) only [↓nm_s, ↓grd_s, ↓reduceIte, J_lit, J_neg, Int.cast_ofNat_Int, J_lt_t, J_lt_f, J_le_t, J_le_f, J_eq_t, J_eq_f, within_t, within_f, isIn_t, isIn_f, inRow_t, inRow_f, isCell_t, isCell_f, inb_t, ix_Jn, ix_J, Int.reduceToNat, Int.toNat_natCast, r1, ho, bind_s]
              exact wp_some ⟨J_s _, m2, w2, d2, g0, rfl, BQ_skip g3 g0 (fun v hv => by rw [hon] at hv; exact absurd hv (by simp)), g4, g5⟩
            | some v =>
              rw [hon] at ho
              simp only [onJ] at ho
              obtain ⟨v1, v2⟩ := onw_lt r2 hf4 hon
              by_cases cv : A2 88 v = J (-1)
              · obtain ⟨p1, p2⟩ := BQ_push g3 g0 hf4 hon v1 cv g4 (fun _ _ => by show ¬ J 0 = J (-1); decide)
                simp (disch := omega) only [↓nm_s, ↓grd_s, ↓reduceIte, J_lit, J_neg, Int.cast_ofNat_Int, J_lt_t, J_lt_f, J_le_t, J_le_f, J_eq_t, J_eq_f, within_t, within_f, isIn_t, isIn_f, inRow_t, inRow_f, isCell_t, isCell_f, inb_t, ix_Jn, ix_J, Int.reduceToNat, Int.toNat_natCast, r1, ho, bind_s, cv]
                refine wp_some ⟨J_s _, m2 + 1, upN w2 m2 v, upN d2 m2 (d2 i' + 1), by omega, J_s _, ?_, ?_, ?_⟩
                · simp only
                  simp (disch := omega) only [mset_ne, mset_eq, mrow_ne, mrow_eq, upd_eq, upd_ne]
                  exact p2
                · intro u hu
                  simp (disch := omega) only [mset_ne, mset_eq, mrow_ne, mrow_eq, upd_eq, upd_ne]
                  by_cases e : u = v
                  · subst e
                    rw [upd_eq]
                    decide
                  · rw [upd_ne e]
                    exact g4 u hu
                · intro j h1 h2
                  simp (disch := omega) only [mset_ne, mset_eq, mrow_ne, mrow_eq, upd_eq, upd_ne]
                  exact g5 j h1 h2
              · simp (disch := omega) only [↓nm_s, ↓grd_s, ↓reduceIte, J_lit, J_neg, Int.cast_ofNat_Int, J_lt_t, J_lt_f, J_le_t, J_le_f, J_eq_t, J_eq_f, within_t, within_f, isIn_t, isIn_f, inRow_t, inRow_f, isCell_t, isCell_f, inb_t, ix_Jn, ix_J, Int.reduceToNat, Int.toNat_natCast, r1, ho, bind_s, cv]
                refine wp_some ⟨J_s _, m2, w2, d2, g0, rfl, BQ_skip g3 g0 (fun u hu => ?_), g4, g5⟩
                rw [hon] at hu
                have := Option.some.inj hu
                subst this
                exact ⟨v1, cv⟩
          · rintro ⟨u1, u2, A2⟩ ⟨g1, m2, w2, d2, g0, g2, g3, g4, g5⟩
            simp only at g1 g2 g3 g4 g5
            subst g1 g2
            unfold b_X2_flockFrom_26_18
            simp (disch := omega) only [↓reduceIte, J_lit, Int.cast_ofNat_Int, J_lt_t, J_lt_f, J_le_t, J_le_f, J_eq_t, J_eq_f, within_t, within_f, isIn_t, isIn_f, inRow_t, inRow_f, isCell_t, isCell_f, inb_t]
            exact wp_some ⟨m2, w2, d2, g0, rfl, g3, g4, g5⟩
        · rintro ⟨q1, A2⟩ ⟨m2, w2, d2, g0, g2, g3, g4, g5⟩
          simp only at g2 g3 g4 g5
          subst g2
          refine wp_some ⟨⟨m2, i' + 1, w2, d2, rfl, J_s _, BQ_next g3 g0 (Or.inl (Nat.le_refl _)), g4, g5⟩, ?_⟩
          simp only
          rw [J_add, J_toInt (by omega) (by omega), J_toInt (by omega) (by omega)]
          omega
    · simp only
      simp (disch := omega) only [mset_ne, mset_eq, mrow_ne, mrow_eq, upd_eq, upd_ne]
      exact start
    · intro v hv
      simp (disch := omega) only [mset_ne, mset_eq, mrow_ne, mrow_eq, upd_eq, upd_ne]
      by_cases e : v = i
      · subst e; exact absurd hv hOi
      · rw [upd_ne e]
        exact hv
    · intro j h1 h2
      simp (disch := omega) only [mset_ne, mset_eq, mrow_ne, mrow_eq, upd_eq, upd_ne]
  unfold f_X2_flockFrom j_X2_flockFrom_101
  simp (disch := omega) only [↓nm_s, ↓grd_s, ↓reduceIte, J_lit, Int.cast_ofNat_Int, J_lt_t, J_lt_f, J_le_t, J_le_f, J_eq_t, J_eq_f, within_t, within_f, isIn_t, isIn_f, inRow_t, inRow_f, isCell_t, isCell_f, inb_t, ix_Jn, ix_J, Int.reduceToNat, Int.toNat_natCast]
  refine wp_bind (wp_mono lp ?_)
  rintro ⟨q1, A1⟩ ⟨m, w, d, e1, hB, hv, hf⟩
  simp only at e1 hB hv hf
  subst e1
  have hR := BQ_R hB
  -- the row holds the flock of i
  have inq : ∀ j, j < m → ¬ g (w j) = J 1 ∧ l (w j) = i := by
    intro j hj
    have := Lb_R hL hi hgi _ _ (hR j hj)
    exact ⟨this.2.1, by rw [this.2.2, hli]⟩
  have all : ∀ n v, Rch (onw g) 4 i n v → ∃ j, j < m ∧ w j = v := by
    intro n
    induction n with
    | zero =>
      intro v hv
      exact ⟨0, hB.1.1, by rw [hB.1.2.1]; exact hv.symm⟩
    | succ n ih =>
      intro v hv
      rcases hv with hv | ⟨u, k, hk, hu, hv⟩
      · exact ih v hv
      · obtain ⟨j, hj, ej⟩ := ih u hu
        have hlim : d j < 1000 := by
          have := BQ_dj hB j hj
          have := inj_le m (fun j hj => (hB.2.1 j hj).2.1) hB.2.2.2.1
          omega
        rcases hB.2.2.2.2.2.2.2 j k hj hk hlim (Or.inl hj) v (by rw [ej]; exact hv) with o | ⟨j', h1, h2, _⟩
        · have := Lb_R hL hi hgi (n + 1) v (Or.inr ⟨u, k, hk, hu, hv⟩)
          rcases hc v this.1 with ⟨q, _⟩ | ⟨_, _, q⟩
          · exact absurd q o
          · rw [this.2.2, hli] at q
            omega
        · exact ⟨j', h1, h2⟩
  have eqv : ∀ v, v < 144 → ((∃ j, j < m ∧ w j = v) ↔ ¬ g v = J 1 ∧ l v = i) := by
    intro v hv
    constructor
    · rintro ⟨j, hj, rfl⟩
      exact inq j hj
    · rintro ⟨h1, h2⟩
      obtain ⟨_, _, n, h3⟩ := hL.1 v hv h1
      rw [h2] at h3
      exact all n v h3
  refine wp_some ⟨?_, fun v hv' => ?_, hf⟩
  · simp only
    unfold manyL
    rw [← cnt_cg 144 eqv, cnt_inj m (fun j hj => (hB.2.1 j hj).2.1) hB.2.2.2.1]
  · simp only
    by_cases c : ∃ j, j < m ∧ w j = v
    · obtain ⟨h1, h2⟩ := (eqv v hv').1 c
      obtain ⟨j, hj, rfl⟩ := c
      right
      rw [(hB.2.1 j hj).2.2.1]
      exact ⟨by show ¬ J 0 = J (-1); decide, h1, by omega⟩
    · by_cases o : O v
      · right
        rcases hc v hv' with ⟨q, _⟩ | ⟨_, q1, q2⟩
        · exact absurd q o
        · exact ⟨hv v o, q1, by omega⟩
      · left
        refine ⟨hB.2.2.1 v hv' o (fun j hj e => c ⟨j, hj, e⟩), ?_⟩
        rcases hc v hv' with ⟨_, q | q⟩ | ⟨q, _⟩
        · exact Or.inl q
        · by_cases gv : g v = J 1
          · exact Or.inl gv
          · right
            intro hlt
            have : l v = i := by omega
            exact c ((eqv v hv').2 ⟨gv, this⟩)
        · exact absurd q o
/-! ===== pigeons: both ===== -/
noncomputable def mxL (g : Nat → Int32) (l : Nat → Nat) : Nat → Nat
  | 0 => 0
  | k + 1 => max (mxL g l k) (@ite Nat (¬ g k = J 1) (Classical.propDecidable _) (manyL g l k) 0)
theorem many_0 {g : Nat → Int32} {l : Nat → Nat} (hL : LbO g l) {i : Nat} (hi : i < 144) (hg : ¬ g i = J 1) (h : l i ≠ i) : manyL g l i = 0 := by
  unfold manyL
  refine cnt_none 144 (fun v hv => ?_)
  rintro ⟨h1, h2⟩
  have := Lb_l hL hv h1
  rw [h2] at this
  exact h this
theorem many_1 {g : Nat → Int32} {l : Nat → Nat} {i : Nat} (hi : i < 144) (hg : ¬ g i = J 1) (h : l i = i) : 0 < manyL g l i := by
  unfold manyL
  rcases cnt_3 (fun v => ¬ g v = J 1 ∧ l v = i) 144 with ⟨_, q⟩ | ⟨q, _⟩ | ⟨q, _⟩
  · exact absurd ⟨hg, h⟩ (q i hi)
  · omega
  · omega
theorem many_le (g : Nat → Int32) (l : Nat → Nat) (i : Nat) : manyL g l i ≤ 144 := cnt_le _ _
theorem mxL_le (g : Nat → Int32) (l : Nat → Nat) : ∀ k, mxL g l k ≤ 144 := by
  intro k
  induction k with
  | zero => simp only [mxL]; omega
  | succ k ih =>
    simp only [mxL]
    have := many_le g l k
    by_cases c : ¬ g k = J 1
    · rw [if_pos c]; omega
    · rw [if_neg c]; omega
theorem mxL_s {g : Nat → Int32} {l : Nat → Nat} {k : Nat} (c : ¬ g k = J 1) : mxL g l (k + 1) = max (mxL g l k) (manyL g l k) := by
  simp only [mxL]
  rw [if_pos c]
theorem mxL_n {g : Nat → Int32} {l : Nat → Nat} {k : Nat} (c : g k = J 1) : mxL g l (k + 1) = mxL g l k := by
  simp only [mxL]
  rw [if_neg (fun h => h c)]
  omega
theorem t_free {A : zM} {c : Nat} (hc : c < 144) : f_X2_free (J c) A = some (@ite Int32 (A 3 c = J 1) (Classical.propDecidable _) (J 0) (J 1)) := by
  unfold f_X2_free
  by_cases q : A 3 c = J 1
  · simp (disch := omega) only [↓grd_s, ↓reduceIte, J_lit, Int.cast_ofNat_Int, J_lt_t, J_lt_f, J_le_t, J_le_f, J_eq_t, J_eq_f, within_t, within_f, isIn_t, isIn_f, inRow_t, inRow_f, isCell_t, isCell_f, inb_t, ix_Jn, ix_J, Int.reduceToNat, Int.toNat_natCast, q]
  · simp (disch := omega) only [↓grd_s, ↓reduceIte, J_lit, Int.cast_ofNat_Int, J_lt_t, J_lt_f, J_le_t, J_le_f, J_eq_t, J_eq_f, within_t, within_f, isIn_t, isIn_f, inRow_t, inRow_f, isCell_t, isCell_f, inb_t, ix_Jn, ix_J, Int.reduceToNat, Int.toNat_natCast, q]
theorem p_flocksC {M : zM} {g : Nat → Int32} {l : Nat → Nat} (hg : ∀ v, v < 144 → M 3 v = g v) (hL : LbO g l) (p : Int32) : Wp (f_X2_flocks p M) (fun q => q.1 = (if p = 0 then J (cnt (fun i => ¬ g i = J 1 ∧ l i = i) 144) else J (mxL g l 144)) ∧ ∀ j, j ≠ 88 → j ≠ 90 → q.2 j = M j) := by
  have fM := t_fill (a := 88) (J (-1)) M (by rw [LN88]; decide)
  rw [LN88] at fM
  unfold f_X2_flocks j_X2_flocks_63
  simp (disch := omega) only [J_lit, J_neg, Int.cast_ofNat_Int, fM, bind_s]
  refine wp_bind ?_
  refine wp_mono (P := fun q => q.1 = J (cnt (fun i => ¬ g i = J 1 ∧ l i = i) 144) ∧ q.2.1 = J (mxL g l 144) ∧ ∀ j, j ≠ 88 → j ≠ 90 → q.2.2 j = M j) ?_ ?_
  · refine loop_up (fun i s => s.1 = J (cnt (fun i => ¬ g i = J 1 ∧ l i = i) i) ∧ s.2.1 = J (mxL g l i) ∧ s.2.2.1 = J i ∧ (∀ v, v < 144 → (s.2.2.2 88 v = J (-1) ∧ (g v = J 1 ∨ ¬ l v < i)) ∨ (¬ s.2.2.2 88 v = J (-1) ∧ ¬ g v = J 1 ∧ l v < i)) ∧ ∀ j, j ≠ 88 → j ≠ 90 → s.2.2.2 j = M j) 144 ⟨rfl, rfl, rfl, fun v hv => Or.inl ⟨?_, Or.inr (by omega)⟩, fun j h1 h2 => mrow_ne h1⟩ ?_ ?_
    · simp only
      rw [mrow_eq]
      exact if_pos (by omega)
    · rintro i ⟨s1, s2, s3, A⟩ hi ⟨e1, e2, e3, e4, e5⟩
      simp only at e1 e2 e3 e4 e5
      subst e1 e2 e3
      have a3 : A 3 = M 3 := e5 3 (by decide) (by decide)
      have hfr := t_free (A := A) hi
      rw [a3, hg i hi] at hfr
      have b1 := mxL_le g l i
      have b2 := many_le g l i
      unfold b_X2_flocks_15 j_X2_flocks_57_15
      by_cases c : g i = J 1
      · rw [if_pos c] at hfr
        simp (disch := omega) only [↓nm_s, ↓grd_s, ↓reduceIte, J_lit, J_neg, Int.cast_ofNat_Int, J_lt_t, J_lt_f, J_le_t, J_le_f, J_eq_t, J_eq_f, within_t, within_f, isIn_t, isIn_f, inRow_t, inRow_f, isCell_t, isCell_f, inb_t, ix_Jn, ix_J, Int.reduceToNat, Int.toNat_natCast, hfr, bind_s]
        refine wp_some ⟨?_, ?_, J_s _, fun v hv => ?_, e5⟩
        · simp only
          rw [cnt_f (P := fun i => ¬ g i = J 1 ∧ l i = i) (fun h => h.1 c)]
        · simp only
          rw [mxL_n c]
        · rcases e4 v hv with ⟨q1, q2⟩ | ⟨q1, q2, q3⟩
          · left
            refine ⟨q1, ?_⟩
            rcases q2 with q2 | q2
            · exact Or.inl q2
            · by_cases gv : g v = J 1
              · exact Or.inl gv
              · right
                intro h
                have e : l v = i := by omega
                have := (hL.1 v hv gv).2.1
                rw [e] at this
                exact this c
          · exact Or.inr ⟨q1, q2, by omega⟩
      · rw [if_neg c] at hfr
        have hle := (hL.1 i hi c).1
        by_cases cl : l i = i
        · have hun : A 88 i = J (-1) := by
            rcases e4 i hi with ⟨q1, _⟩ | ⟨_, _, q⟩
            · exact q1
            · omega
          obtain ⟨⟨q1, A1⟩, k1, k2, k3, k4⟩ := p_flockFrom (A := A) hi (fun v hv => by rw [a3]; exact hg v hv) hL c cl e4
          simp only at k2 k3 k4
          subst k2
          have hmx := t_max2 (a := (mxL g l i : Int)) (b := (manyL g l i : Int)) (by omega) (by omega) (by omega) (by omega)
          simp (disch := omega) only [↓nm_s, ↓grd_s, ↓reduceIte, J_lit, J_neg, Int.cast_ofNat_Int, J_lt_t, J_lt_f, J_le_t, J_le_f, J_eq_t, J_eq_f, within_t, within_f, isIn_t, isIn_f, inRow_t, inRow_f, isCell_t, isCell_f, inb_t, ix_Jn, ix_J, Int.reduceToNat, Int.toNat_natCast, hfr, bind_s, bnd2_s, hun, k1, hmx]
          refine wp_some ⟨?_, ?_, J_s _, k3, fun j h1 h2 => (k4 j h1 h2).trans (e5 j h1 h2)⟩
          · simp only
            rw [cnt_t (P := fun i => ¬ g i = J 1 ∧ l i = i) ⟨c, cl⟩, J_add]
            rfl
          · simp only
            rw [mxL_s c]
            exact congrArg J (by omega)
        · have hun : ¬ A 88 i = J (-1) := by
            rcases e4 i hi with ⟨_, q | q⟩ | ⟨q, _⟩
            · exact absurd q c
            · omega
            · exact q
          simp (disch := omega) only [↓nm_s, ↓grd_s, ↓reduceIte, J_lit, J_neg, Int.cast_ofNat_Int, J_lt_t, J_lt_f, J_le_t, J_le_f, J_eq_t, J_eq_f, within_t, within_f, isIn_t, isIn_f, inRow_t, inRow_f, isCell_t, isCell_f, inb_t, ix_Jn, ix_J, Int.reduceToNat, Int.toNat_natCast, hfr, bind_s, hun]
          refine wp_some ⟨?_, ?_, J_s _, fun v hv => ?_, e5⟩
          · simp only
            rw [cnt_f (P := fun i => ¬ g i = J 1 ∧ l i = i) (fun h => cl h.2)]
          · simp only
            rw [mxL_s c, many_0 hL hi c cl]
            exact congrArg J (by omega)
          · rcases e4 v hv with ⟨q1, q2⟩ | ⟨q1, q2, q3⟩
            · left
              refine ⟨q1, ?_⟩
              rcases q2 with q2 | q2
              · exact Or.inl q2
              · by_cases gv : g v = J 1
                · exact Or.inl gv
                · right
                  intro h
                  have e : l v = i := by omega
                  have := Lb_l hL hv gv
                  rw [e] at this
                  exact cl this
            · exact Or.inr ⟨q1, q2, by omega⟩
    · rintro ⟨s1, s2, s3, A⟩ ⟨e1, e2, e3, e4, e5⟩
      simp only at e1 e2 e3 e4 e5
      subst e1 e2 e3
      unfold b_X2_flocks_15
      simp (disch := omega) only [↓reduceIte, J_lit, Int.cast_ofNat_Int, J_lt_t, J_lt_f, J_le_t, J_le_f, J_eq_t, J_eq_f, within_t, within_f, isIn_t, isIn_f, inRow_t, inRow_f, isCell_t, isCell_f, inb_t]
      exact wp_some ⟨rfl, rfl, e5⟩
  · rintro ⟨q1, q2, A⟩ ⟨e1, e2, e3⟩
    simp only at e1 e2 e3
    subst e1 e2
    by_cases c : p = J 0
    · simp only [c, ↓reduceIte]
      exact wp_some ⟨rfl, e3⟩
    · simp only [c, ↓reduceIte]
      exact wp_some ⟨rfl, e3⟩
