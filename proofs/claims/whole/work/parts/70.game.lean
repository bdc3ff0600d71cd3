theorem Gd_uq {f g : Nat → Int32} {s : Nat} (hs : s ≤ 61) (hf : Gd f s) (hg : Gd g s) : ∀ d x y, x + y = d → d < s → f (61 * y + x) = g (61 * y + x) := by
  intro d
  induction d using Nat.strongRecOn with
  | _ d ih =>
    intro x y e hd
    obtain ⟨v, v1, v2, v3, v4⟩ := hf x y (by omega)
    obtain ⟨u, u1, u2, u3, u4⟩ := hg x y (by omega)
    have hh : ∀ w, hit f x y w ↔ hit g x y w := by
      intro w
      constructor
      · rintro ⟨k, hk, q, a, b⟩
        obtain ⟨_, x', y', e', hlt⟩ := gone_some (by omega) hk a
        refine ⟨k, hk, q, a, ?_⟩
        rw [e', ← ih (x' + y') (by omega) x' y' rfl (by omega), ← e']
        exact b
      · rintro ⟨k, hk, q, a, b⟩
        obtain ⟨_, x', y', e', hlt⟩ := gone_some (by omega) hk a
        refine ⟨k, hk, q, a, ?_⟩
        rw [e', ih (x' + y') (by omega) x' y' rfl (by omega), ← e']
        exact b
    have : v = u := by
      rcases Nat.lt_trichotomy v u with h | h | h
      · exact absurd ((hh v).mpr (u4 v h)) v3
      · exact h
      · exact absurd ((hh u).mp (v4 u h)) u3
    rw [v2, u2, this]
theorem p_valueAll {M : zM} (hV : Vl M) : Wp (f_X4_valueAll M) (fun M' => Gd (M' 99) 61 ∧ M' 95 4 = 1 ∧ ∀ j, j ≠ 95 → j ≠ 99 → M' j = M j) := by
  unfold f_X4_valueAll j_X4_valueAll_105
  rcases hV with h0 | ⟨h1, h2⟩
  · have h0' : M 95 4 = J 0 := h0
    refine wp_bind ?_
    refine wp_mono (P := fun M' => Gd (M' 99) 61 ∧ ∀ j, j ≠ 99 → M' j = M j) ?_ ?_
    · refine loop_up (fun s st => st.1 = J s ∧ Gd (st.2 99) s ∧ ∀ j, j ≠ 99 → st.2 j = M j) 61 ⟨rfl, fun x y h => by omega, fun _ _ => rfl⟩ ?_ ?_
      · rintro s ⟨s1, A⟩ hs ⟨e1, e2, e3⟩
        simp only at e1 e2 e3
        subst e1
        have e95 : A 95 4 = J 0 := by rw [e3 95 (by decide)]; exact h0'
        unfold b_X4_valueAll_2 j_X4_valueAll_99_2
        simp (disch := omega) only [↓reduceIte, J_lit, Int.cast_ofNat_Int, J_lt_t, J_lt_f, J_le_t, J_le_f, J_eq_t, J_eq_f, within_t, within_f, isIn_t, isIn_f, inRow_t, inRow_f, isCell_t, isCell_f, inb_t, e95]
        refine wp_bind ?_
        refine wp_mono (P := fun B => Gd (B 99) (s + 1) ∧ ∀ j, j ≠ 99 → B j = M j) ?_ ?_
        · refine loop_up (fun i st => st.1 = J i ∧ Gd (st.2 99) s ∧ (∀ x, x < i → isV (st.2 99) x (s - x)) ∧ ∀ j, j ≠ 99 → st.2 j = M j) (s + 1) ⟨rfl, e2, fun x h => by omega, e3⟩ ?_ ?_
          · rintro i ⟨i1, B⟩ hi ⟨f1, f2, f3, f4⟩
            simp only at f1 f2 f3 f4
            subst f1
            obtain ⟨y, hy⟩ : ∃ y, y = s - i := ⟨_, rfl⟩
            have ey : J s - J i = J y := by rw [J_sub]; exact congrArg J (by omega)
            have hxy : i + y ≤ 60 := by omega
            have hg : Gd (B 99) (i + y) := by rw [show i + y = s by omega]; exact f2
            have hr := p_reachC (M := B) hxy hg (J s)
            obtain ⟨q1, q2, _, q7⟩ := gm_one (mv_6 hxy hg (k := 0) (by omega)) (mv_6 hxy hg (k := 1) (by omega)) (mv_6 hxy hg (k := 2) (by omega)) (mv_6 hxy hg (k := 3) (by omega))
            rw [← orK_4] at q1 q2 q7
            have hl := t_leastC q1 q2 (fun u hu => (q7 u hu).2)
            have iq : (61 * (y : Int) + (i : Int)).toNat = 61 * y + i := by omega
            unfold b_X4_valueAll_17_2 j_X4_valueAll_77_2_17
            simp (disch := omega) only [↓nm_s, ↓grd_s, ↓reduceIte, J_lit, Int.cast_ofNat_Int, J_lt_t, J_lt_f, J_le_t, J_le_f, J_eq_t, J_eq_f, within_t, within_f, isIn_t, isIn_f, inRow_t, inRow_f, isCell_t, isCell_f, inb_t, ey, hr, bind_s, hl, J_mul, J_add, ix_Jn, ix_J, Int.reduceToNat, Int.toNat_natCast, iq]
            refine wp_some ⟨rfl, ?_, ?_, ?_⟩
            · intro x2 y2 h2
              simp only [mset_eq]
              exact upd_isV hxy (by omega) (by omega) (f2 x2 y2 h2)
            · intro x2 h2
              simp only [mset_eq]
              by_cases e : x2 = i
              · subst e
                rw [← hy]
                exact new_isV hxy hg
              · exact upd_isV hxy (by omega) (Or.inl e) (f3 x2 (by omega))
            · intro j hj
              simp only
              rw [mset_ne hj]
              exact f4 j hj
          · rintro ⟨i1, B⟩ ⟨f1, f2, f3, f4⟩
            simp only at f1 f2 f3 f4
            subst f1
            unfold b_X4_valueAll_17_2
            simp (disch := omega) only [↓reduceIte, J_lt_t, J_lt_f, J_le_t, J_le_f, J_eq_t, J_eq_f, within_t, within_f, isIn_t, isIn_f, inRow_t, inRow_f, isCell_t, isCell_f, inb_t]
            refine wp_some ⟨?_, f4⟩
            intro x y h
            by_cases e : x + y < s
            · exact f2 x y e
            · have := f3 x (by omega)
              rw [show s - x = y by omega] at this
              exact this
        · rintro B ⟨g1, g2⟩
          simp (disch := omega) only [J_add]
          exact wp_some ⟨rfl, g1, g2⟩
      · rintro ⟨s1, A⟩ ⟨e1, e2, e3⟩
        simp only at e1 e2 e3
        subst e1
        unfold b_X4_valueAll_2
        simp (disch := omega) only [↓reduceIte, J_lit, Int.cast_ofNat_Int, J_lt_t, J_lt_f, J_le_t, J_le_f, J_eq_t, J_eq_f, within_t, within_f, isIn_t, isIn_f, inRow_t, inRow_f, isCell_t, isCell_f, inb_t]
        exact wp_some ⟨e2, e3⟩
    · rintro A ⟨g1, g2⟩
      refine wp_nm (wp_some ⟨by rw [mset_ne (by decide)]; exact g1, by simp (disch := omega) only [mset_ne, mset_eq, mrow_ne, mrow_eq, upd_eq, upd_ne], fun j c1 c2 => by rw [mset_ne c1]; exact g2 j c2⟩)
  · have h1' : M 95 4 = J 1 := h1
    rw [loop_en (B := fun s : Int32 × zM => b_X4_valueAll_2 s.1 s.2) (s := ((0 : Int32), M)) (r := M) (by
      unfold b_X4_valueAll_2
      simp (disch := omega) only [↓reduceIte, J_lit, Int.cast_ofNat_Int, J_lt_t, J_lt_f, J_le_t, J_le_f, J_eq_t, J_eq_f, within_t, within_f, isIn_t, isIn_f, inRow_t, inRow_f, isCell_t, isCell_f, inb_t, h1']), bind_s]
    refine wp_nm (wp_some ⟨?_, by simp (disch := omega) only [mset_ne, mset_eq, mrow_ne, mrow_eq, upd_eq, upd_ne], fun j c1 c2 => by rw [mset_ne c1]⟩)
    rw [mset_ne (by decide)]
    intro x y h
    exact h2 x y (by omega)
theorem p_layValues {N : zM} {S : Nat} (hS : S ≤ 60) : Wp (f_X11_layValues (J S) N) (fun N' => Gd (N' 281) (S + 1) ∧ ∀ j, j ≠ 281 → N' j = N j) := by
  unfold f_X11_layValues j_X11_layValues_114
  refine wp_bind ?_
  refine wp_mono (P := fun N' => Gd (N' 281) (S + 1) ∧ ∀ j, j ≠ 281 → N' j = N j) ?_ (fun _ h => wp_some h)
  refine loop_up (fun s st => st.1 = J s ∧ Gd (st.2 281) s ∧ ∀ j, j ≠ 281 → st.2 j = N j) (S + 1) ⟨rfl, fun x y h => by omega, fun _ _ => rfl⟩ ?_ ?_
  · rintro s ⟨s1, A⟩ hs ⟨e1, e2, e3⟩
    simp only at e1 e2 e3
    subst e1
    unfold b_X11_layValues_2 j_X11_layValues_108_2
    simp (disch := omega) only [↓reduceIte, J_lit, Int.cast_ofNat_Int, J_lt_t, J_lt_f, J_le_t, J_le_f, J_eq_t, J_eq_f, within_t, within_f, isIn_t, isIn_f, inRow_t, inRow_f, isCell_t, isCell_f, inb_t]
    refine wp_bind ?_
    refine wp_mono (P := fun B => Gd (B 281) (s + 1) ∧ ∀ j, j ≠ 281 → B j = N j) ?_ ?_
    · refine loop_up (fun i st => st.1 = J i ∧ Gd (st.2 281) s ∧ (∀ y, y < i → isV (st.2 281) (s - y) y) ∧ ∀ j, j ≠ 281 → st.2 j = N j) (s + 1) ⟨rfl, e2, fun x h => by omega, e3⟩ ?_ ?_
      · rintro i ⟨i1, B⟩ hi ⟨f1, f2, f3, f4⟩
        simp only at f1 f2 f3 f4
        subst f1
        obtain ⟨x, hx⟩ : ∃ x, x = s - i := ⟨_, rfl⟩
        have hxy : x + i ≤ 60 := by omega
        have exy : x + i = s := by omega
        have hg : Gd (B 281) (x + i) := by rw [exy]; exact f2
        have hr := p_reachR (N := B) hxy hg (J S)
        rw [exy] at hr
        obtain ⟨q1, q2, _, q7⟩ := gm_one (mv_6 hxy hg (k := 0) (by omega)) (mv_6 hxy hg (k := 1) (by omega)) (mv_6 hxy hg (k := 2) (by omega)) (mv_6 hxy hg (k := 3) (by omega))
        rw [← orK_4] at q1 q2 q7
        have hl := t_leastR q1 q2 (fun u hu => (q7 u hu).2) (J S) (J s) (J i) B
        have iq : (61 * (i : Int) + (s : Int) - (i : Int)).toNat = 61 * i + x := by omega
        unfold b_X11_layValues_9_2 j_X11_layValues_67_2_9 j_X11_layValues_87_2_9
        simp (disch := omega) only [↓nm_s, ↓grd_s, ↓reduceIte, J_lit, Int.cast_ofNat_Int, J_lt_t, J_lt_f, J_le_t, J_le_f, J_eq_t, J_eq_f, within_t, within_f, isIn_t, isIn_f, inRow_t, inRow_f, isCell_t, isCell_f, inb_t, hr, bind_s, hl, J_mul, J_add, J_sub, ix_Jn, ix_J, Int.reduceToNat, Int.toNat_natCast, iq]
        refine wp_some ⟨rfl, ?_, ?_, ?_⟩
        · intro x2 y2 h2
          simp only [mset_eq]
          exact upd_isV hxy (by omega) (by omega) (f2 x2 y2 h2)
        · intro y2 h2
          simp only [mset_eq]
          by_cases e : y2 = i
          · subst e
            rw [← hx]
            exact new_isV hxy hg
          · exact upd_isV hxy (by omega) (Or.inr e) (f3 y2 (by omega))
        · intro j hj
          simp only
          rw [mset_ne hj]
          exact f4 j hj
      · rintro ⟨i1, B⟩ ⟨f1, f2, f3, f4⟩
        simp only at f1 f2 f3 f4
        subst f1
        unfold b_X11_layValues_9_2
        simp (disch := omega) only [↓reduceIte, J_lt_t, J_lt_f, J_le_t, J_le_f, J_eq_t, J_eq_f, within_t, within_f, isIn_t, isIn_f, inRow_t, inRow_f, isCell_t, isCell_f, inb_t]
        refine wp_some ⟨?_, f4⟩
        intro x y h
        by_cases e : x + y < s
        · exact f2 x y e
        · have := f3 y (by omega)
          rw [show s - y = x by omega] at this
          exact this
    · rintro B ⟨g1, g2⟩
      simp (disch := omega) only [J_add]
      exact wp_some ⟨rfl, g1, g2⟩
  · rintro ⟨s1, A⟩ ⟨e1, e2, e3⟩
    simp only at e1 e2 e3
    subst e1
    unfold b_X11_layValues_2
    simp (disch := omega) only [↓reduceIte, J_lt_t, J_lt_f, J_le_t, J_le_f, J_eq_t, J_eq_f, within_t, within_f, isIn_t, isIn_f, inRow_t, inRow_f, isCell_t, isCell_f, inb_t]
    exact wp_some ⟨e2, e3⟩
theorem IC_game {M M' N N' : zM} (h1 : Gd (M' 99) 61) (h2 : M' 95 4 = 1) (h3 : ∀ j, j ≠ 95 → j ≠ 99 → M' j = M j) (h4 : ∀ j, j ≠ 281 → N' j = N j) (hI : IC M N) : IC M' N' := by
  obtain ⟨n, m, k, u, o, ks, a1, a2, a3, a4, a5, a6, a7, a8, a9, a10⟩ := hI
  have e8 : N' 258 = N 258 := h4 258 (by decide)
  have e7 : N' 257 = N 257 := h4 257 (by decide)
  refine ⟨n, m, k, u, o, ks, a1, ?_, ?_, ?_, ?_, ?_, ?_, ?_, Or.inr ⟨h2, fun x y h => h1 x y (by omega)⟩, by rw [h3 83 (by omega) (by omega)]; exact a10⟩
  · rw [e8]
    exact Sq_fr (fun j _ _ => h3 j (by omega) (by omega)) a2
  · rw [e8]
    exact Tx_fr (fun j _ _ _ => h3 j (by omega) (by omega)) a3
  · rw [e8, h3 69 (by omega) (by omega)]
    exact a4
  · rw [e8]
    exact Rw_fr (fun j _ _ => h3 j (by omega) (by omega)) (by rw [h3 70 (by omega) (by omega)]) (by rw [h3 70 (by omega) (by omega)]) a5
  · exact Tp_fr (fun i _ => by rw [h3 78 (by omega) (by omega)]) (fun i _ => by rw [h3 79 (by omega) (by omega)]) (by rw [e7]) (fun i _ => by rw [h4 262 (by decide)]) (by rw [e7]) (by rw [e7]) a6
  · exact Un_fr (by rw [h3 0 (by omega) (by omega)]) (by rw [h3 0 (by omega) (by omega)]) (by rw [e7]) (fun j _ _ => h3 j (by omega) (by omega)) (fun i _ => by rw [h3 69 (by omega) (by omega)]) (fun i _ _ => by rw [e8]) (h4 261 (by decide)) (Nat.le_refl _) a2.1.2.2 a7
  · exact Im_fr (by rw [h3 0 (by omega) (by omega)]) (fun j _ _ => h3 j (by omega) (by omega)) (by rw [e7]) (fun i _ => by rw [h4 260 (by decide)]) a8
theorem c_game (p q r : Int32) : Cl2 (f_X10_game p q r) (f_X11_game p q r) := by
  intro M N hI
  obtain ⟨zx, rfl, l1, l2⟩ := J_ex p
  obtain ⟨zy, rfl, l3, l4⟩ := J_ex q
  obtain ⟨w, rfl, l5, l6⟩ := J_ex r
  have hV : Vl M := by obtain ⟨n, m, k, u, o, ks, a1, a2, a3, a4, a5, a6, a7, a8, a9, a10⟩ := hI; exact a9
  unfold f_X10_game f_X11_game
  by_cases c1 : 0 ≤ zx ∧ zx ≤ 30
  · by_cases c2 : 0 ≤ zy ∧ zy ≤ 30
    · by_cases c3 : 0 ≤ w ∧ w ≤ 1
      · obtain ⟨x, rfl⟩ : ∃ x : Nat, zx = x := ⟨zx.toNat, by omega⟩
        obtain ⟨y, rfl⟩ : ∃ y : Nat, zy = y := ⟨zy.toNat, by omega⟩
        obtain ⟨A, q1, q2, q3, q4⟩ := p_valueAll hV
        obtain ⟨B, r1, r2, r3⟩ := p_layValues (N := N) (S := x + y) (by omega)
        have hIC := IC_game q2 q3 q4 r3 hI
        have eq : ∀ x' y', x' + y' ≤ x + y → A 99 (61 * y' + x') = B 281 (61 * y' + x') := fun x' y' h => Gd_uq (s := x + y + 1) (by omega) (fun a b hab => q2 a b (by omega)) r2 (x' + y') x' y' rfl (by omega)
        have exy : J x + J y = J (x + y : Nat) := by rw [J_add]; exact congrArg J (by omega)
        have iq : (61 * (y : Int) + (x : Int)).toNat = 61 * y + x := by omega
        rcases (show w = 0 ∨ w = 1 by omega) with e | e <;> subst e
        · unfold f_X4_value
          simp (disch := omega) only [↓nm_s, ↓grd_s, ↓reduceIte, J_lit, Int.cast_ofNat_Int, J_lt_t, J_lt_f, J_le_t, J_le_f, J_eq_t, J_eq_f, within_t, within_f, isIn_t, isIn_f, inRow_t, inRow_f, isCell_t, isCell_f, inb_t, bind_s, bnd2_s, q1, exy, r1, J_mul, J_add, ix_Jn, ix_J, Int.reduceToNat, Int.toNat_natCast, iq]
          rw [eq x y (Nat.le_refl _)]
          exact ⟨_, _, _, rfl, rfl, hIC⟩
        · have key : W2 (loopW (fun s => b_X4_wellGone_9 (J x) (J y) s.1 s.2 A) (J (-1), J 0)) (loopW (fun s => b_X11_game_60 (J x) (J y) s.1 s.2 B) (J (-1), J 0)) (fun a b => a = b) := by
            refine loopR (fun k s t => s.2 = J k ∧ t = s) 4 ⟨rfl, rfl⟩ ?_ ?_
            · rintro k ⟨s1, s2⟩ t hk ⟨e, rfl⟩
              simp only at e
              subst e
              obtain ⟨g1, g2⟩ := t_gone (x := x) (y := y) (by omega) hk A
              unfold b_X4_wellGone_9 b_X11_game_60 j_X4_wellGone_54_9 j_X4_wellGone_51_9 j_X4_wellGone_54_9 j_X11_game_108_60 j_X11_game_104_60 j_X11_game_108_60
              cases hg : gmv x y k with
              | none =>
                rw [hg] at g1 g2
                simp only at g1 g2
                simp (disch := omega) only [↓nm_s, ↓grd_s, ↓reduceIte, J_lit, J_neg, Int.cast_ofNat_Int, J_lt_t, J_lt_f, J_le_t, J_le_f, J_eq_t, J_eq_f, within_t, within_f, isIn_t, isIn_f, inRow_t, inRow_f, isCell_t, isCell_f, inb_t, bind_s, g1, g2]
                exact w2_some ⟨by rw [J_add]; rfl, rfl⟩
              | some q =>
                rw [hg] at g1 g2
                simp only at g1 g2
                obtain ⟨hq, x', y', e', hlt⟩ := gone_some (by omega) hk hg
                have ev : A 99 q = B 281 q := by rw [e']; exact eq x' y' (by omega)
                simp (disch := omega) only [↓nm_s, ↓grd_s, ↓reduceIte, J_lit, J_neg, Int.cast_ofNat_Int, J_lt_t, J_lt_f, J_le_t, J_le_f, J_eq_t, J_eq_f, within_t, within_f, isIn_t, isIn_f, inRow_t, inRow_f, isCell_t, isCell_f, inb_t, ix_Jn, ix_J, Int.reduceToNat, Int.toNat_natCast, bind_s, g1, g2, ev]
                by_cases d1 : B 281 q = J 0
                · by_cases d2 : s1 = J (-1)
                  · simp only [d1, d2, ↓reduceIte]
                    exact w2_some ⟨by rw [J_add]; rfl, rfl⟩
                  · by_cases d3 : s1 ≤ J q
                    · simp only [d1, d2, d3, ↓reduceIte]
                      exact w2_some ⟨by rw [J_add]; rfl, rfl⟩
                    · simp only [d1, d2, d3, ↓reduceIte]
                      exact w2_some ⟨by rw [J_add]; rfl, rfl⟩
                · simp only [d1, ↓reduceIte]
                  exact w2_some ⟨by rw [J_add]; rfl, rfl⟩
            · rintro ⟨s1, s2⟩ t ⟨e, rfl⟩
              simp only at e
              subst e
              unfold b_X4_wellGone_9 b_X11_game_60
              simp (disch := omega) only [↓reduceIte, J_lit, Int.cast_ofNat_Int, J_lt_t, J_lt_f, J_le_t, J_le_f, J_eq_t, J_eq_f, within_t, within_f, isIn_t, isIn_f, inRow_t, inRow_f, isCell_t, isCell_f, inb_t]
              exact w2_some rfl
          obtain ⟨a, b, k1, k2, rfl⟩ := key
          unfold f_X4_wellGone j_X4_wellGone_60 j_X11_game_114
          simp (disch := omega) only [↓nm_s, ↓grd_s, ↓reduceIte, J_lit, J_neg, Int.cast_ofNat_Int, J_lt_t, J_lt_f, J_le_t, J_le_f, J_eq_t, J_eq_f, within_t, within_f, isIn_t, isIn_f, inRow_t, inRow_f, isCell_t, isCell_f, inb_t, bind_s, bnd2_s, q1, exy, r1, k1, k2]
          exact ⟨_, _, _, rfl, rfl, hIC⟩
      · simp (disch := omega) only [↓nm_s, ↓reduceIte, J_lit, J_neg, Int.cast_ofNat_Int, J_lt_t, J_lt_f, J_le_t, J_le_f, J_eq_t, J_eq_f, within_t, within_f, isIn_t, isIn_f, inRow_t, inRow_f, isCell_t, isCell_f, inb_t]
        exact ⟨_, _, _, rfl, rfl, hI⟩
    · by_cases c3 : zy < 0
      · simp (disch := omega) only [↓nm_s, ↓reduceIte, J_lit, J_neg, Int.cast_ofNat_Int, J_lt_t, J_lt_f, J_le_t, J_le_f, J_eq_t, J_eq_f, within_t, within_f, isIn_t, isIn_f, inRow_t, inRow_f, isCell_t, isCell_f, inb_t]
        exact ⟨_, _, _, rfl, rfl, hI⟩
      · simp (disch := omega) only [↓nm_s, ↓reduceIte, J_lit, J_neg, Int.cast_ofNat_Int, J_lt_t, J_lt_f, J_le_t, J_le_f, J_eq_t, J_eq_f, within_t, within_f, isIn_t, isIn_f, inRow_t, inRow_f, isCell_t, isCell_f, inb_t]
        exact ⟨_, _, _, rfl, rfl, hI⟩
  · by_cases c3 : zx < 0
    · simp (disch := omega) only [↓nm_s, ↓reduceIte, J_lit, J_neg, Int.cast_ofNat_Int, J_lt_t, J_lt_f, J_le_t, J_le_f, J_eq_t, J_eq_f, within_t, within_f, isIn_t, isIn_f, inRow_t, inRow_f, isCell_t, isCell_f, inb_t]
      exact ⟨_, _, _, rfl, rfl, hI⟩
    · simp (disch := omega) only [↓nm_s, ↓reduceIte, J_lit, J_neg, Int.cast_ofNat_Int, J_lt_t, J_lt_f, J_le_t, J_le_f, J_eq_t, J_eq_f, within_t, within_f, isIn_t, isIn_f, inRow_t, inRow_f, isCell_t, isCell_f, inb_t]
      exact ⟨_, _, _, rfl, rfl, hI⟩
