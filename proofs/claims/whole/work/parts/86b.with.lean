/-! ===== with: the class's sum ===== -/
noncomputable def Wsm (S : Nat → Nat → Nat → Nat) (T to : Nat) : Nat → Nat
  | 0 => 0
  | k + 1 => pl (Wsm S T to k) (Tot S T k to)
theorem Wsm_lt (S : Nat → Nat → Nat → Nat) (T to k : Nat) : Wsm S T to k < 1000000007 := by
  cases k with
  | zero => simp only [Wsm]; omega
  | succ k => exact pl_lt _ _
theorem p_count {M : zM} {g : Nat → Int32} {fr f to n T : Nat} (hg : ∀ v, v < 144 → M 3 v = g v) (hfr : fr < 144) (hgf : ¬ g fr = J 1) (hf : f < 4) (hto : to < 144) (hn : n ≤ 20) (hT : T ≤ 6) :
    Wp (f_X2_countRows (J fr) (J f) (J to) (J n) (J T) M) (fun q => q.1 = J (Wsm (SnS g fr f n) T to 4) ∧ ∀ j, j ≠ 91 → j ≠ 92 → j ≠ 93 → j ≠ 94 → q.2 j = M j) := by
  have fM := t_fill (a := 92) (J 0) M (by rw [LN92]; decide)
  rw [LN92] at fM
  have es : J 144 * J (f : Int) + J (fr : Int) = J ((144 * f + fr : Nat) : Int) := by rw [J_mul, J_add]; rfl
  unfold f_X2_countRows j_X2_countRows_55 j_X2_countRows_100
  simp (disch := omega) only [↓nm_s, ↓grd_s, ↓reduceIte, J_lit, Int.cast_ofNat_Int, J_lt_t, J_lt_f, J_le_t, J_le_f, J_eq_t, J_eq_f, within_t, within_f, isIn_t, isIn_f, inRow_t, inRow_f, isCell_t, isCell_f, inb_t, ix_Jn, ix_J, Int.reduceToNat, Int.toNat_natCast, fM, bind_s, es]
  have hE0 : E92 (mset (mrow M 92 fun i => if i < 4032 then J 0 else M 92 i) 92 (144 * f + fr) (J 1)) T (SnS g fr f 0) := by
    intro t' f' c ht' hf' hc
    simp only [SnS]
    by_cases e : t' = 0 ∧ f' = f ∧ c = fr
    · rw [if_pos e, e.1, e.2.1, e.2.2, show 576 * 0 + 144 * f + fr = 144 * f + fr by omega]
      simp (disch := omega) only [mset_ne, mset_eq, mrow_ne, mrow_eq, upd_eq, upd_ne]
      rfl
    · rw [if_neg e]
      have : ¬ 576 * t' + 144 * f' + c = 144 * f + fr := by omega
      simp (disch := omega) only [mset_ne, mset_eq, mrow_ne, mrow_eq, upd_eq, upd_ne]
      exact if_pos (by omega)
  refine wp_bind (wp_mono (p_turnEv hT (SnS_ok hgf 0).1 hE0) ?_)
  rintro A0 ⟨a1, a2⟩
  have a2' : ∀ j, j ≠ 91 → j ≠ 92 → j ≠ 93 → j ≠ 94 → A0 j = M j := fun j h1 h2 h3 h4 => by rw [a2 j h1 h3 h4]; simp (disch := omega) only [mset_ne, mset_eq, mrow_ne, mrow_eq, upd_eq, upd_ne]
  refine wp_bind ?_
  refine wp_mono (P := fun A => E91 A T (SnS g fr f n) ∧ ∀ j, j ≠ 91 → j ≠ 92 → j ≠ 93 → j ≠ 94 → A j = M j) ?_ ?_
  · refine loop_up (fun i s => s.1 = J i ∧ E91 s.2 T (SnS g fr f i) ∧ ∀ j, j ≠ 91 → j ≠ 92 → j ≠ 93 → j ≠ 94 → s.2 j = M j) n ⟨rfl, a1, a2'⟩ ?_ ?_
    · rintro i ⟨s1, A⟩ hi ⟨e1, e2, e3⟩
      simp only at e1 e2 e3
      subst e1
      obtain ⟨o1, o2⟩ := SnS_ok (g := g) (fr := fr) (f0 := f) hgf i
      unfold b_X2_countRows_30
      simp (disch := omega) only [↓reduceIte, J_lit, Int.cast_ofNat_Int, J_lt_t, J_lt_f, J_le_t, J_le_f, J_eq_t, J_eq_f, within_t, within_f, isIn_t, isIn_f, inRow_t, inRow_f, isCell_t, isCell_f, inb_t]
      refine wp_bind (wp_mono (p_stepOn hT (fun v hv => by rw [e3 3 (by decide) (by decide) (by decide) (by decide)]; exact hg v hv) o2 e2) ?_)
      rintro A1 ⟨b1, b2⟩
      refine wp_bind (wp_mono (p_turnEv hT (SnS_ok hgf (i + 1)).1 b1) ?_)
      rintro A2 ⟨c1, c2⟩
      exact wp_some ⟨J_s _, c1, fun j h1 h2 h3 h4 => (c2 j h1 h3 h4).trans ((b2 j h2).trans (e3 j h1 h2 h3 h4))⟩
    · rintro ⟨s1, A⟩ ⟨e1, e2, e3⟩
      simp only at e1 e2 e3
      subst e1
      unfold b_X2_countRows_30
      simp (disch := omega) only [↓reduceIte, J_lt_t, J_lt_f, J_le_t, J_le_f, J_eq_t, J_eq_f, within_t, within_f, isIn_t, isIn_f, inRow_t, inRow_f, isCell_t, isCell_f, inb_t]
      exact wp_some ⟨e2, e3⟩
  · rintro A ⟨b1, b2⟩
    refine wp_bind ?_
    refine wp_mono (P := fun v => v = J (Wsm (SnS g fr f n) T to 4)) ?_ (fun v hv => wp_some ⟨hv, b2⟩)
    refine loop_up (fun k s => s = (J (Wsm (SnS g fr f n) T to k), J k)) 4 rfl ?_ ?_
    · rintro k s hk rfl
      have ei : J 576 * J (T : Int) + J 144 * J (k : Int) + J (to : Int) = J ((576 * T + 144 * k + to : Nat) : Int) := by rw [J_mul, J_mul, J_add, J_add]; rfl
      have q := b1 T k to (Nat.le_refl _) hk hto
      have p := (t_pl (Wsm_lt (SnS g fr f n) T to k) (show Tot (SnS g fr f n) T k to < 1000000007 from pl_lt _ _)).2
      unfold b_X2_countRows_61
      simp (disch := omega) only [↓nm_s, ↓grd_s, ↓reduceIte, J_lit, Int.cast_ofNat_Int, J_lt_t, J_lt_f, J_le_t, J_le_f, J_eq_t, J_eq_f, within_t, within_f, isIn_t, isIn_f, inRow_t, inRow_f, isCell_t, isCell_f, inb_t, ix_Jn, ix_J, Int.reduceToNat, Int.toNat_natCast, ei, q, p]
      exact wp_some (pr2 rfl (J_s _))
    · rintro s rfl
      unfold b_X2_countRows_61
      simp (disch := omega) only [↓reduceIte, J_lit, Int.cast_ofNat_Int, J_lt_t, J_lt_f, J_le_t, J_le_f, J_eq_t, J_eq_f, within_t, within_f, isIn_t, isIn_f, inRow_t, inRow_f, isCell_t, isCell_f, inb_t]
      exact wp_some rfl
/-! ===== with: the reference ===== -/
def E0 (B : zM) (a T : Nat) (S : Nat → Nat → Nat → Nat) : Prop := ∀ t f c, t ≤ T → f < 4 → c < 144 → B a (1728 * t + 3 * (4 * c + f)) = J (S t f c)
def E12 (B : zM) (t : Nat) (S : Nat → Nat → Nat → Nat) : Prop := ∀ f c, f < 4 → c < 144 → B 269 (1728 * t + 3 * (4 * c + f) + 1) = J (LfS S t f c) ∧ B 269 (1728 * t + 3 * (4 * c + f) + 2) = J (RfS S t f c)
theorem p_turnRows {B : zM} {S : Nat → Nat → Nat → Nat} {T : Nat} (hT : T ≤ 6) (hS : ∀ t f c, S t f c < 1000000007) (hE : E0 B 269 T S) (h12 : E12 B 0 S) :
    Wp (f_X11_turnRows (J T) B) (fun B' => E0 B' 269 T S ∧ (∀ t, t ≤ T → E12 B' t S) ∧ ∀ j, j ≠ 269 → B' j = B j) := by
  unfold f_X11_turnRows j_X11_turnRows_116
  refine wp_bind ?_
  refine wp_mono (P := fun B' => E0 B' 269 T S ∧ (∀ t, t ≤ T → E12 B' t S) ∧ ∀ j, j ≠ 269 → B' j = B j) ?_ (fun B' h => wp_some h)
  refine loop_fr (fun t0 s => s.1 = J t0 ∧ E0 s.2 269 T S ∧ (∀ t, t < t0 → E12 s.2 t S) ∧ ∀ j, j ≠ 269 → s.2 j = B j) 1 (T + 1) (by omega) ⟨rfl, hE, fun t ht => by rw [show t = 0 by omega]; exact h12, fun _ _ => rfl⟩ ?_ ?_
  · rintro t0 ⟨s1, B1⟩ ht1 ht2 ⟨e1, e2, e3, e4⟩
    simp only at e1 e2 e3 e4
    subst e1
    obtain ⟨t, rfl⟩ : ∃ t, t0 = t + 1 := ⟨t0 - 1, by omega⟩
    have hp := e3 t (by omega)
    unfold b_X11_turnRows_2 j_X11_turnRows_110_2
    simp (disch := omega) only [↓reduceIte, J_lit, Int.cast_ofNat_Int, J_lt_t, J_lt_f, J_le_t, J_le_f, J_eq_t, J_eq_f, within_t, within_f, isIn_t, isIn_f, inRow_t, inRow_f, isCell_t, isCell_f, inb_t]
    refine wp_bind ?_
    refine wp_mono (P := fun B' => E12 B' (t + 1) S ∧ (∀ i, (i < 1728 * (t + 1) ∨ i % 3 = 0) → B' 269 i = B1 269 i) ∧ ∀ j, j ≠ 269 → B' j = B1 j) ?_ ?_
    · refine loop_up (fun k s => s.1 = J k ∧ (∀ f c, f < 4 → c < 144 → 4 * c + f < k → s.2 269 (1728 * (t + 1) + 3 * (4 * c + f) + 1) = J (LfS S (t + 1) f c) ∧ s.2 269 (1728 * (t + 1) + 3 * (4 * c + f) + 2) = J (RfS S (t + 1) f c)) ∧ (∀ i, (i < 1728 * (t + 1) ∨ i % 3 = 0) → s.2 269 i = B1 269 i) ∧ ∀ j, j ≠ 269 → s.2 j = B1 j) 576 ⟨rfl, fun f c _ _ h => by omega, fun _ _ => rfl, fun _ _ => rfl⟩ ?_ ?_
      · rintro k ⟨s1, B2⟩ hk ⟨g1, g2, g3, g4⟩
        simp only at g1 g2 g3 g4
        subst g1
        obtain ⟨c, f, hf, rfl⟩ : ∃ c f : Nat, f < 4 ∧ k = 4 * c + f := ⟨k / 4, k % 4, by omega, by omega⟩
        have hc : c < 144 := by omega
        have i1 : J ((4 * c + f : Nat) : Int) / J 4 = J (c : Int) := by rw [J_div (by omega) (by omega) (by omega) (by omega)]; exact congrArg J (by omega)
        have i2 : irem (J ((4 * c + f : Nat) : Int)) (J 4) = J (f : Int) := by rw [J_rem (by omega) (by omega) (by omega) (by omega)]; exact congrArg J (by omega)
        unfold b_X11_turnRows_9_2 j_X11_turnRows_104_2_9
        simp (disch := omega) only [↓reduceIte, J_lit, Int.cast_ofNat_Int, J_lt_t, J_lt_f, J_le_t, J_le_f, J_eq_t, J_eq_f, within_t, within_f, isIn_t, isIn_f, inRow_t, inRow_f, isCell_t, isCell_f, inb_t]
        refine wp_bind ?_
        refine wp_mono (P := fun B' => (B' 269 (1728 * (t + 1) + 3 * (4 * c + f) + 1) = J (LfS S (t + 1) f c) ∧ B' 269 (1728 * (t + 1) + 3 * (4 * c + f) + 2) = J (RfS S (t + 1) f c)) ∧ (∀ i, i ≠ 1728 * (t + 1) + 3 * (4 * c + f) + 1 → i ≠ 1728 * (t + 1) + 3 * (4 * c + f) + 2 → B' 269 i = B2 269 i) ∧ ∀ j, j ≠ 269 → B' j = B2 j) ?_ ?_
        · refine loop_up (fun h s => s.1 = J h ∧ (0 < h → s.2 269 (1728 * (t + 1) + 3 * (4 * c + f) + 1) = J (LfS S (t + 1) f c)) ∧ (1 < h → s.2 269 (1728 * (t + 1) + 3 * (4 * c + f) + 2) = J (RfS S (t + 1) f c)) ∧ (∀ i, i ≠ 1728 * (t + 1) + 3 * (4 * c + f) + 1 → i ≠ 1728 * (t + 1) + 3 * (4 * c + f) + 2 → s.2 269 i = B2 269 i) ∧ ∀ j, j ≠ 269 → s.2 j = B2 j) 2 ⟨rfl, fun h => by omega, fun h => by omega, fun _ _ _ => rfl, fun _ _ => rfl⟩ ?_ ?_
          · rintro h ⟨s1, B3⟩ hh ⟨d1, d2, d3, d4, d5⟩
            simp only at d1 d2 d3 d4 d5
            subst d1
            obtain ⟨tf, htf, htu, hval, hlt⟩ : ∃ tf : Nat, tf < 4 ∧ f_X11_turned (J f) (J 1 - J h) = J (tf : Int) ∧ (B1 269 (1728 * t + 3 * (4 * c + tf) + 1 + h) = J ((if h = 0 then LfS S t tf c else RfS S t tf c : Nat) : Int) ∧ (h = 0 → pl (S t tf c) (LfS S t tf c) = LfS S (t + 1) f c) ∧ (h = 1 → pl (S t tf c) (RfS S t tf c) = RfS S (t + 1) f c)) ∧ (if h = 0 then LfS S t tf c else RfS S t tf c) < 1000000007 := by
              rcases (show h = 0 ∨ h = 1 by omega) with q | q <;> subst q
              · refine ⟨(f + 1) % 4, Nat.mod_lt _ (by decide), ?_, ⟨?_, fun _ => rfl, fun h => by omega⟩, ?_⟩
                · rw [J_sub]
                  exact (t_turned4 f hf).2
                · rw [if_pos rfl]
                  exact (hp _ c (Nat.mod_lt _ (by decide)) hc).1
                · rw [if_pos rfl]
                  exact LfS_lt _ _ _ _
              · refine ⟨(f + 3) % 4, Nat.mod_lt _ (by decide), ?_, ⟨?_, fun h => by omega, fun _ => rfl⟩, ?_⟩
                · rw [J_sub]
                  exact (t_turned4 f hf).1
                · rw [if_neg (by decide)]
                  exact (hp _ c (Nat.mod_lt _ (by decide)) hc).2
                · rw [if_neg (by decide)]
                  exact RfS_lt _ _ _ _
            obtain ⟨v1, v2, v3⟩ := hval
            have v0 := e2 t tf c (by omega) htf hc
            have u0 : B3 269 (1728 * t + 3 * (4 * c + tf)) = J (S t tf c) := by
              rw [d4 _ (by omega) (by omega), g3 _ (by omega)]
              exact v0
            have u1 : B3 269 (1728 * t + 3 * (4 * c + tf) + 1 + h) = J ((if h = 0 then LfS S t tf c else RfS S t tf c : Nat) : Int) := by
              rw [d4 _ (by omega) (by omega), g3 _ (by omega)]
              exact v1
            generalize hX : (if h = 0 then LfS S t tf c else RfS S t tf c) = X at *
            have j1 : J (c : Int) * J 4 + J (tf : Int) = J ((4 * c + tf : Nat) : Int) := by rw [J_mul, J_add]; exact congrArg J (by omega)
            have j2 : (J ((t + 1 : Nat) : Int) - J 1) * J 1728 + J 3 * J ((4 * c + tf : Nat) : Int) = J ((1728 * t + 3 * (4 * c + tf) : Nat) : Int) := by rw [J_sub, J_mul, J_mul, J_add]; exact congrArg J (by omega)
            have j3 : J ((1728 * t + 3 * (4 * c + tf) : Nat) : Int) + J 1 + J (h : Int) = J ((1728 * t + 3 * (4 * c + tf) + 1 + h : Nat) : Int) := by rw [J_add, J_add]; rfl
            have j4 : J ((t + 1 : Nat) : Int) * J 1728 + J 3 * J ((4 * c + f : Nat) : Int) + J 1 + J (h : Int) = J ((1728 * (t + 1) + 3 * (4 * c + f) + 1 + h : Nat) : Int) := by rw [J_mul, J_mul, J_add, J_add, J_add]; exact congrArg J (by omega)
            have p := (t_pl (hS t tf c) hlt).1
            unfold b_X11_turnRows_19_2_9
            simp (disch := omega) only [↓nm_s, ↓grd_s, ↓reduceIte, J_lit, Int.cast_ofNat_Int, J_lt_t, J_lt_f, J_le_t, J_le_f, J_eq_t, J_eq_f, within_t, within_f, isIn_t, isIn_f, inRow_t, inRow_f, isCell_t, isCell_f, inb_t, ix_Jn, ix_J, Int.reduceToNat, Int.toNat_natCast, i1, i2, htu, j1, j2, j3, j4, u0, u1, p]
            refine wp_some ⟨J_s _, fun h0 => ?_, fun h0 => ?_, fun i n1 n2 => ?_, fun j hj => by simp (disch := omega) only [mset_ne, mset_eq, mrow_ne, mrow_eq, upd_eq, upd_ne]; exact d5 j hj⟩
            · simp only
              rcases (show h = 0 ∨ h = 1 by omega) with q | q
              · subst q
                rw [if_pos rfl] at hX
                rw [← v2 rfl, hX]
                simp (disch := omega) only [mset_ne, mset_eq, mrow_ne, mrow_eq, upd_eq, upd_ne]
              · subst q
                simp (disch := omega) only [mset_ne, mset_eq, mrow_ne, mrow_eq, upd_eq, upd_ne]
                exact d2 (by omega)
            · simp only
              have q : h = 1 := by omega
              subst q
              rw [if_neg (by decide)] at hX
              rw [← v3 rfl, hX]
              simp (disch := omega) only [mset_ne, mset_eq, mrow_ne, mrow_eq, upd_eq, upd_ne]
            · simp only
              have : i ≠ 1728 * (t + 1) + 3 * (4 * c + f) + 1 + h := by omega
              simp (disch := omega) only [mset_ne, mset_eq, mrow_ne, mrow_eq, upd_eq, upd_ne]
              exact d4 i n1 n2
          · rintro ⟨s1, B3⟩ ⟨d1, d2, d3, d4, d5⟩
            simp only at d1 d2 d3 d4 d5
            subst d1
            unfold b_X11_turnRows_19_2_9
            simp (disch := omega) only [↓reduceIte, J_lit, Int.cast_ofNat_Int, J_lt_t, J_lt_f, J_le_t, J_le_f, J_eq_t, J_eq_f, within_t, within_f, isIn_t, isIn_f, inRow_t, inRow_f, isCell_t, isCell_f, inb_t]
            exact wp_some ⟨⟨d2 (by omega), d3 (by omega)⟩, d4, d5⟩
        · rintro B3 ⟨d1, d2, d3⟩
          refine wp_some ⟨J_s _, fun f' c' hf' hc' hlt => ?_, fun i hi => ?_, fun j hj => (d3 j hj).trans (g4 j hj)⟩
          · simp only
            by_cases e : 4 * c' + f' = 4 * c + f
            · have h1 : f' = f := by omega
              have h2 : c' = c := by omega
              subst h1 h2
              exact d1
            · rw [d2 _ (by omega) (by omega), d2 _ (by omega) (by omega)]
              exact g2 f' c' hf' hc' (by omega)
          · simp only
            rw [d2 _ (by omega) (by omega)]
            exact g3 i hi
      · rintro ⟨s1, B2⟩ ⟨g1, g2, g3, g4⟩
        simp only at g1 g2 g3 g4
        subst g1
        unfold b_X11_turnRows_9_2
        simp (disch := omega) only [↓reduceIte, J_lit, Int.cast_ofNat_Int, J_lt_t, J_lt_f, J_le_t, J_le_f, J_eq_t, J_eq_f, within_t, within_f, isIn_t, isIn_f, inRow_t, inRow_f, isCell_t, isCell_f, inb_t]
        exact wp_some ⟨fun f c hf hc => g2 f c hf hc (by omega), g3, g4⟩
    · rintro B2 ⟨g1, g2, g3⟩
      refine wp_some ⟨J_s _, fun t' f c ht' hf hc => ?_, fun t' ht' => ?_, fun j hj => (g3 j hj).trans (e4 j hj)⟩
      · simp only
        rw [g2 _ (by omega)]
        exact e2 t' f c ht' hf hc
      · by_cases e : t' = t + 1
        · subst e
          exact g1
        · intro f c hf hc
          simp only
          rw [g2 _ (by omega), g2 _ (by omega)]
          exact e3 t' (by omega) f c hf hc
  · rintro ⟨s1, B1⟩ ⟨e1, e2, e3, e4⟩
    simp only at e1 e2 e3 e4
    subst e1
    unfold b_X11_turnRows_2
    simp (disch := omega) only [↓reduceIte, J_lit, Int.cast_ofNat_Int, J_lt_t, J_lt_f, J_le_t, J_le_f, J_eq_t, J_eq_f, within_t, within_f, isIn_t, isIn_f, inRow_t, inRow_f, isCell_t, isCell_f, inb_t]
    exact wp_some ⟨e2, fun t ht => e3 t (by omega), e4⟩
