/-! ===== far: the least, by the class ===== -/
def nxS (g : Nat → Int32) (u k : Nat) : Option Nat := match k with
  | 0 => (onw g (u % 144) (u / 144)).map (fun v => 144 * (u / 144) + v)
  | 1 => some (144 * ((u / 144 + 1) % 4) + u % 144)
  | _ => some (144 * ((u / 144 + 3) % 4) + u % 144)
theorem nxS_lt {g : Nat → Int32} {u k v : Nat} (hu : u < 576) (h : nxS g u k = some v) : v < 576 := by
  match k, h with
  | 0, h =>
    unfold nxS at h
    simp only at h
    cases ho : onw g (u % 144) (u / 144) with
    | none => rw [ho] at h; exact absurd h (by simp)
    | some q =>
      rw [ho] at h
      simp only [Option.map_some] at h
      have := Option.some.inj h
      have := (onw_lt (by omega) (by omega) ho).1
      omega
  | 1, h =>
    have := Option.some.inj h
    omega
  | k + 2, h =>
    have := Option.some.inj h
    omega
theorem nxS_cg {g g' : Nat → Int32} (h : ∀ i, i < 144 → g i = g' i) {u k : Nat} (hu : u < 576) : nxS g u k = nxS g' u k := by
  match k with
  | 0 =>
    unfold nxS
    simp only
    rw [onw_cg h (by omega) (by omega)]
  | 1 => rfl
  | k + 2 => rfl
theorem t_neigh {A : zM} {u k : Nat} (hu : u < 576) (hk : k < 3) : f_X2_neighbour (J u) (J k) A = some (onJ (nxS (A 3) u k)) := by
  have e1 : irem (J (u : Int)) (J 144) = J ((u % 144 : Nat) : Int) := by rw [J_rem (by omega) (by omega) (by omega) (by omega)]; rfl
  have e2 : J (u : Int) / J 144 = J ((u / 144 : Nat) : Int) := by rw [J_div (by omega) (by omega) (by omega) (by omega)]; rfl
  unfold f_X2_neighbour
  rcases (show k = 0 ∨ k = 1 ∨ k = 2 by omega) with e | e | e <;> subst e
  · have ho := t_onward (A := A) (c := u % 144) (f := u / 144) (by omega) (by omega)
    unfold nxS
    simp only
    cases hon : onw (A 3) (u % 144) (u / 144) with
    | none =>
      rw [hon] at ho
      simp only [onJ] at ho
      simp (disch := omega) only [↓nm_s, ↓reduceIte, J_lit, J_neg, Int.cast_ofNat_Int, Int.natCast_zero, J_lt_t, J_lt_f, J_le_t, J_le_f, J_eq_t, J_eq_f, within_t, within_f, isIn_t, isIn_f, inRow_t, inRow_f, isCell_t, isCell_f, inb_t, e1, e2, ho, bind_s]
      rfl
    | some v =>
      have hne := onJ_ne (by omega) (by omega) hon
      rw [hon] at ho
      simp only [onJ] at ho
      simp (disch := omega) only [↓nm_s, ↓reduceIte, J_lit, J_neg, Int.cast_ofNat_Int, Int.natCast_zero, J_lt_t, J_lt_f, J_le_t, J_le_f, J_eq_t, J_eq_f, within_t, within_f, isIn_t, isIn_f, inRow_t, inRow_f, isCell_t, isCell_f, inb_t, e1, e2, ho, bind_s, hne, J_mul, J_add]
      rfl
  · simp (disch := omega) only [↓nm_s, ↓reduceIte, J_lit, J_neg, Int.cast_ofNat_Int, Int.natCast_one, J_lt_t, J_lt_f, J_le_t, J_le_f, J_eq_t, J_eq_f, within_t, within_f, isIn_t, isIn_f, inRow_t, inRow_f, isCell_t, isCell_f, inb_t, e1, e2, J_mul, J_add, J_sub, J_and3]
    unfold nxS
    simp only [onJ]
    refine congrArg some (congrArg J ?_)
    omega
  · simp (disch := omega) only [↓nm_s, ↓reduceIte, J_lit, J_neg, Int.cast_ofNat_Int, J_lt_t, J_lt_f, J_le_t, J_le_f, J_eq_t, J_eq_f, within_t, within_f, isIn_t, isIn_f, inRow_t, inRow_f, isCell_t, isCell_f, inb_t, e1, e2, J_mul, J_add, J_sub, J_and3]
    unfold nxS
    simp only [onJ]
    refine congrArg some (congrArg J ?_)
    omega
/-- the least to a cell, whatever one faces there -/
def LeastTo (g : Nat → Int32) (s to : Nat) (v : Int32) : Prop :=
  (v = J (-1) ∧ ∀ n u, u < 576 → u % 144 = to → ¬ Rch (nxS g) 3 s n u) ∨
  (∃ d : Nat, d < 1000 ∧ v = J d ∧ (∃ u, u < 576 ∧ u % 144 = to ∧ Rch (nxS g) 3 s d u) ∧ ∀ n u, n < d → u < 576 → u % 144 = to → ¬ Rch (nxS g) 3 s n u)
theorem LeastTo_u {g : Nat → Int32} {s to : Nat} {v v' : Int32} (h : LeastTo g s to v) (h' : LeastTo g s to v') : v = v' := by
  rcases h with ⟨a1, a2⟩ | ⟨d, a0, a1, ⟨u, a2, a3, a4⟩, a5⟩
  · rcases h' with ⟨b1, b2⟩ | ⟨d', b0, b1, ⟨u', b2, b3, b4⟩, b5⟩
    · rw [a1, b1]
    · exact absurd b4 (a2 d' u' b2 b3)
  · rcases h' with ⟨b1, b2⟩ | ⟨d', b0, b1, ⟨u', b2, b3, b4⟩, b5⟩
    · exact absurd a4 (b2 d u a2 a3)
    · have : d = d' := by
        rcases Nat.lt_trichotomy d d' with q | q | q
        · exact absurd a4 (b5 d u q a2 a3)
        · exact q
        · exact absurd b4 (a5 d' u' q b2 b3)
      rw [a1, b1, this]
theorem p_least {M : zM} {g : Nat → Int32} {fr f to : Nat} (hg : ∀ v, v < 144 → M 3 v = g v) (hfr : fr < 144) (hf : f < 4) (hto : to < 144) :
    Wp (f_X2_least (J fr) (J f) (J to) M) (fun q => LeastTo g (144 * f + fr) to q.1 ∧ ∀ j, j ≠ 88 → j ≠ 90 → q.2 j = M j) := by
  have fM := t_fill (a := 88) (J (-1)) M (by rw [LN88]; decide)
  rw [LN88] at fM
  have es : J 144 * J (f : Int) + J (fr : Int) = J ((144 * f + fr : Nat) : Int) := by rw [J_mul, J_add]; rfl
  have hs : 144 * f + fr < 576 := by omega
  generalize hss : 144 * f + fr = s at *
  have start : BQ (nxS g) 3 576 s 1000 (fun _ => False) (fun d => J d) (upd (fun i => if i < 576 then J (-1) else M 88 i) s (J 0)) (upd (M 90) 0 (J s)) 1 0 0 (fun _ => s) (fun _ => 0) := by
    refine BQ_0 hs (fun h => h) upd_eq upd_eq (fun v hv _ hne => ?_)
    rw [upd_ne hne]
    exact if_pos hv
  unfold f_X2_least j_X2_least_157
  simp (disch := omega) only [↓nm_s, ↓grd_s, ↓reduceIte, J_lit, J_neg, Int.cast_ofNat_Int, J_lt_t, J_lt_f, J_le_t, J_le_f, J_eq_t, J_eq_f, within_t, within_f, isIn_t, isIn_f, inRow_t, inRow_f, isCell_t, isCell_f, inb_t, ix_Jn, ix_J, Int.reduceToNat, Int.toNat_natCast, fM, bind_s, es]
  refine wp_bind ?_
  refine wp_mono (P := fun q => (∃ A, q = .inl A ∧ (∀ n u, u < 576 → u % 144 = to → ¬ Rch (nxS g) 3 s n u) ∧ ∀ j, j ≠ 88 → j ≠ 90 → A j = M j) ∨ (∃ v A, q = .inr (v, A) ∧ LeastTo g s to v ∧ ∀ j, j ≠ 88 → j ≠ 90 → A j = M j)) ?_ ?_
  · refine loop_q _ (fun s => 577 - s.2.1.toInt.toNat) (fun st => ∃ (m i' : Nat) (w d : Nat → Nat), st.1 = J m ∧ st.2.1 = J i' ∧ BQ (nxS g) 3 576 s 1000 (fun _ => False) (fun d => J d) (st.2.2 88) (st.2.2 90) m i' 0 w d ∧ (∀ j, j < i' → ¬ w j % 144 = to) ∧ ∀ j, j ≠ 88 → j ≠ 90 → st.2.2 j = M j) _ ?_ _ ⟨1, 0, fun _ => s, fun _ => 0, rfl, rfl, ?_, ?_, ?_⟩
    · rintro ⟨s1, s2, A1⟩ ⟨m, i', w, d, e1, e2, hB, hn, hfr'⟩
      simp only at e1 e2 hB hn hfr'
      subst e1 e2
      have hm : m ≤ 576 := inj_le m (fun j hj => (hB.2.1 j hj).2.1) hB.2.2.2.1
      have him := hB.1.2.2.2
      unfold b_X2_least_39 j_X2_least_151_39
      by_cases c : m ≤ i'
      · have : i' = m := by omega
        subst this
        simp (disch := omega) only [↓reduceIte, J_lt_t, J_lt_f, J_le_t, J_le_f, J_eq_t, J_eq_f, within_t, within_f, isIn_t, isIn_f, inRow_t, inRow_f, isCell_t, isCell_f, inb_t]
        refine wp_some (Or.inl ⟨A1, rfl, fun n u hu ht hr => ?_, hfr'⟩)
        obtain ⟨j, hj, ej⟩ := BQ_cl hB (fun j hj => by have := BQ_dj hB j hj; omega) n u hr
        exact hn j hj (by rw [ej]; exact ht)
      · obtain ⟨r1, r2, r3, r4⟩ := hB.2.1 i' (by omega)
        have hdi := BQ_dj hB i' (by omega)
        have er : irem (J (w i' : Int)) (J 144) = J ((w i' % 144 : Nat) : Int) := by rw [J_rem (by omega) (by omega) (by omega) (by omega)]; rfl
        by_cases ct : w i' % 144 = to
        · simp (disch := omega) only [↓nm_s, ↓grd_s, ↓reduceIte, J_lit, Int.cast_ofNat_Int, J_lt_t, J_lt_f, J_le_t, J_le_f, J_eq_t, J_eq_f, within_t, within_f, isIn_t, isIn_f, inRow_t, inRow_f, isCell_t, isCell_f, inb_t, ix_Jn, ix_J, Int.reduceToNat, Int.toNat_natCast, r1, r3, er]
          refine wp_some (Or.inr ⟨_, A1, rfl, Or.inr ⟨d i', by omega, rfl, ⟨w i', r2, ct, BQ_R hB i' (by omega)⟩, fun n u hnd hu ht hr => ?_⟩, hfr'⟩)
          obtain ⟨j, hj, ej, hd⟩ := BQ_all hB n u (by omega) (fun j a b => by have := hB.2.2.2.2.1 i' j a b; omega) hr
          have hji : j < i' := by
            rcases Nat.lt_or_ge j i' with q | q
            · exact q
            · have := hB.2.2.2.2.1 i' j q hj
              omega
          exact hn j hji (by rw [ej]; exact ht)
        · simp (disch := omega) only [↓nm_s, ↓grd_s, ↓reduceIte, J_lit, Int.cast_ofNat_Int, J_lt_t, J_lt_f, J_le_t, J_le_f, J_eq_t, J_eq_f, within_t, within_f, isIn_t, isIn_f, inRow_t, inRow_f, isCell_t, isCell_f, inb_t, ix_Jn, ix_J, Int.reduceToNat, Int.toNat_natCast, r1, er]
          refine wp_bind ?_
          refine wp_mono (P := fun q => ∃ (m : Nat) (w' d : Nat → Nat), i' < m ∧ q.1 = J m ∧ BQ (nxS g) 3 576 s 1000 (fun _ => False) (fun d => J d) (q.2 88) (q.2 90) m i' 3 w' d ∧ (∀ j, j ≤ i' → w' j = w j) ∧ ∀ j, j ≠ 88 → j ≠ 90 → q.2 j = M j) ?_ ?_
          · refine loop_up (fun k st => st.2.1 = J k ∧ ∃ (m : Nat) (w' d : Nat → Nat), i' < m ∧ st.1 = J m ∧ BQ (nxS g) 3 576 s 1000 (fun _ => False) (fun d => J d) (st.2.2 88) (st.2.2 90) m i' k w' d ∧ (∀ j, j ≤ i' → w' j = w j) ∧ ∀ j, j ≠ 88 → j ≠ 90 → st.2.2 j = M j) 3 ⟨rfl, m, w, d, by omega, rfl, hB, fun _ _ => rfl, hfr'⟩ ?_ ?_
            · rintro k ⟨u1, u2, A2⟩ hk3 ⟨g1, m2, w2, d2, g0, g2, g3, g4, g5⟩
              simp only at g1 g2 g3 g5
              subst g1 g2
              obtain ⟨p1, p2, p3, _⟩ := g3.2.1 i' g0
              have ew := g4 i' (Nat.le_refl _)
              rw [ew] at p1 p2 p3
              have hdi2 := BQ_dj g3 i' g0
              have hm2 : m2 ≤ 576 := inj_le m2 (fun j hj => (g3.2.1 j hj).2.1) g3.2.2.2.1
              have ho := t_neigh (A := A2) (k := k) p2 hk3
              rw [nxS_cg (g' := g) (fun v hv' => by rw [g5 3 (by decide) (by decide)]; exact hg v hv') p2] at ho
              unfold b_X2_least_76_39 j_X2_least_145_39_76
              cases hon : nxS g (w i') k with
              | none =>
                rw [hon] at ho
                simp only [onJ] at ho
                simp (disch := omega) only [↓nm_s, ↓grd_s, ↓reduceIte, J_lit, J_neg, Int.cast_ofNat_Int, J_lt_t, J_lt_f, J_le_t, J_le_f, J_eq_t, J_eq_f, within_t, within_f, isIn_t, isIn_f, inRow_t, inRow_f, isCell_t, isCell_f, inb_t, ix_Jn, ix_J, Int.reduceToNat, Int.toNat_natCast, ho, bind_s]
                exact wp_some ⟨J_s _, m2, w2, d2, g0, rfl, BQ_skip g3 g0 (fun v hv => by rw [ew, hon] at hv; exact absurd hv (by simp)), g4, g5⟩
              | some v =>
                rw [hon] at ho
                simp only [onJ] at ho
                have v1 := nxS_lt p2 hon
                by_cases cv : A2 88 v = J (-1)
                · obtain ⟨q1, q2⟩ := BQ_push g3 g0 hk3 (v := v) (by rw [ew]; exact hon) v1 cv (fun _ h => h.elim) (fun j hj => by
                    have := BQ_dj g3 j hj
                    show ¬ J (d2 j : Int) = J (-1)
                    rw [J_eq (by omega) (by omega) (by omega) (by omega)]
                    omega)
                  simp (disch := omega) only [↓nm_s, ↓grd_s, ↓reduceIte, J_lit, J_neg, Int.cast_ofNat_Int, J_lt_t, J_lt_f, J_le_t, J_le_f, J_eq_t, J_eq_f, within_t, within_f, isIn_t, isIn_f, inRow_t, inRow_f, isCell_t, isCell_f, inb_t, ix_Jn, ix_J, Int.reduceToNat, Int.toNat_natCast, ho, bind_s, cv, p3, J_add]
                  refine wp_some ⟨rfl, m2 + 1, upN w2 m2 v, upN d2 m2 (d2 i' + 1), by omega, rfl, ?_, ?_, ?_⟩
                  · simp only
                    simp (disch := omega) only [mset_ne, mset_eq, mrow_ne, mrow_eq, upd_eq, upd_ne]
                    exact q2
                  · intro j hj
                    rw [upN_ne (by omega)]
                    exact g4 j hj
                  · intro j h1 h2
                    simp (disch := omega) only [mset_ne, mset_eq, mrow_ne, mrow_eq, upd_eq, upd_ne]
                    exact g5 j h1 h2
                · simp (disch := omega) only [↓nm_s, ↓grd_s, ↓reduceIte, J_lit, J_neg, Int.cast_ofNat_Int, J_lt_t, J_lt_f, J_le_t, J_le_f, J_eq_t, J_eq_f, within_t, within_f, isIn_t, isIn_f, inRow_t, inRow_f, isCell_t, isCell_f, inb_t, ix_Jn, ix_J, Int.reduceToNat, Int.toNat_natCast, ho, bind_s, cv]
                  refine wp_some ⟨J_s _, m2, w2, d2, g0, rfl, BQ_skip g3 g0 (fun u hu => ?_), g4, g5⟩
                  rw [ew, hon] at hu
                  have := Option.some.inj hu
                  subst this
                  exact ⟨v1, cv⟩
            · rintro ⟨u1, u2, A2⟩ ⟨g1, m2, w2, d2, g0, g2, g3, g4, g5⟩
              simp only at g1 g2 g3 g5
              subst g1 g2
              unfold b_X2_least_76_39
              simp (disch := omega) only [↓reduceIte, J_lit, Int.cast_ofNat_Int, J_lt_t, J_lt_f, J_le_t, J_le_f, J_eq_t, J_eq_f, within_t, within_f, isIn_t, isIn_f, inRow_t, inRow_f, isCell_t, isCell_f, inb_t]
              exact wp_some ⟨m2, w2, d2, g0, rfl, g3, g4, g5⟩
          · rintro ⟨q1, A2⟩ ⟨m2, w2, d2, g0, g2, g3, g4, g5⟩
            simp only at g2 g3 g5
            subst g2
            have hm2 : m2 ≤ 576 := inj_le m2 (fun j hj => (g3.2.1 j hj).2.1) g3.2.2.2.1
            refine wp_some ⟨⟨m2, i' + 1, w2, d2, rfl, J_s _, BQ_next g3 g0 (Or.inl (Nat.le_refl _)), fun j hj => ?_, g5⟩, ?_⟩
            · rw [g4 j (by omega)]
              by_cases e : j = i'
              · subst e; exact ct
              · exact hn j (by omega)
            · simp only
              rw [J_add, J_toInt (by omega) (by omega), J_toInt (by omega) (by omega)]
              omega
    · simp only
      simp (disch := omega) only [mset_ne, mset_eq, mrow_ne, mrow_eq, upd_eq, upd_ne]
      exact start
    · intro j hj
      omega
    · intro j h1 h2
      simp (disch := omega) only [mset_ne, mset_eq, mrow_ne, mrow_eq, upd_eq, upd_ne]
  · rintro q (⟨A, rfl, h1, h2⟩ | ⟨v, A, rfl, h1, h2⟩)
    · exact wp_some ⟨Or.inl ⟨rfl, h1⟩, h2⟩
    · exact wp_some ⟨h1, h2⟩
