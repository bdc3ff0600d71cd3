/-! ===== with: the reference's steps, and the call ===== -/
theorem pl_tot (w s l r : Nat) : pl (pl (pl w s) l) r = pl w (pl s (pl l r)) := by unfold pl; omega
theorem LN269 : LN 269 = 12096 := by decide +kernel
theorem LN270 : LN 270 = 12096 := by decide +kernel
theorem p_stepRows {B : zM} {g : Nat → Int32} {S : Nat → Nat → Nat → Nat} {T : Nat} (hT : T ≤ 6) (hg : B 258 = g) (hS : ∀ t f c, S t f c < 1000000007) (hE : E0 B 269 T S) (h12 : ∀ t, t ≤ T → E12 B t S) :
    Wp (f_X11_stepRows (J T) B) (fun B' => E0 B' 269 T (SxS g S) ∧ E12 B' 0 (SxS g S) ∧ ∀ j, j ≠ 269 → j ≠ 270 → B' j = B j) := by
  unfold f_X11_stepRows j_X11_stepRows_168
  refine wp_bind ?_
  refine wp_mono (P := fun B' => (∀ t f c, t ≤ T → f < 4 → c < 144 → B' 270 (1728 * t + 3 * (4 * c + f)) = J (SxS g S t f c) ∧ B' 270 (1728 * t + 3 * (4 * c + f) + 1) = J 0 ∧ B' 270 (1728 * t + 3 * (4 * c + f) + 2) = J 0) ∧ ∀ j, j ≠ 270 → B' j = B j) ?_ ?_
  · refine loop_up (fun t0 s => s.1 = J t0 ∧ (∀ t f c, t < t0 → f < 4 → c < 144 → s.2 270 (1728 * t + 3 * (4 * c + f)) = J (SxS g S t f c) ∧ s.2 270 (1728 * t + 3 * (4 * c + f) + 1) = J 0 ∧ s.2 270 (1728 * t + 3 * (4 * c + f) + 2) = J 0) ∧ ∀ j, j ≠ 270 → s.2 j = B j) (T + 1) ⟨rfl, fun t f c h => by omega, fun _ _ => rfl⟩ ?_ ?_
    · rintro t ⟨s1, B1⟩ ht ⟨e1, e2, e3⟩
      simp only at e1 e2 e3
      subst e1
      unfold b_X11_stepRows_2 j_X11_stepRows_162_2
      simp (disch := omega) only [↓reduceIte, J_lit, Int.cast_ofNat_Int, J_lt_t, J_lt_f, J_le_t, J_le_f, J_eq_t, J_eq_f, within_t, within_f, isIn_t, isIn_f, inRow_t, inRow_f, isCell_t, isCell_f, inb_t]
      refine wp_bind ?_
      refine wp_mono (P := fun B' => (∀ f c, f < 4 → c < 144 → B' 270 (1728 * t + 3 * (4 * c + f)) = J (SxS g S t f c) ∧ B' 270 (1728 * t + 3 * (4 * c + f) + 1) = J 0 ∧ B' 270 (1728 * t + 3 * (4 * c + f) + 2) = J 0) ∧ (∀ i, i < 1728 * t → B' 270 i = B1 270 i) ∧ ∀ j, j ≠ 270 → B' j = B1 j) ?_ ?_
      · refine loop_up (fun k s => s.1 = J k ∧ (∀ f c, f < 4 → c < 144 → 4 * c + f < k → s.2 270 (1728 * t + 3 * (4 * c + f)) = J (SxS g S t f c) ∧ s.2 270 (1728 * t + 3 * (4 * c + f) + 1) = J 0 ∧ s.2 270 (1728 * t + 3 * (4 * c + f) + 2) = J 0) ∧ (∀ i, i < 1728 * t → s.2 270 i = B1 270 i) ∧ ∀ j, j ≠ 270 → s.2 j = B1 j) 576 ⟨rfl, fun f c _ _ h => by omega, fun _ _ => rfl, fun _ _ => rfl⟩ ?_ ?_
        · rintro k ⟨s1, B2⟩ hk ⟨g1, g2, g3, g4⟩
          simp only at g1 g2 g3 g4
          subst g1
          obtain ⟨c, f, hf, rfl⟩ : ∃ c f : Nat, f < 4 ∧ k = 4 * c + f := ⟨k / 4, k % 4, by omega, by omega⟩
          have hc : c < 144 := by omega
          have i1 : J ((4 * c + f : Nat) : Int) / J 4 = J (c : Int) := by rw [J_div (by omega) (by omega) (by omega) (by omega)]; exact congrArg J (by omega)
          have i2 : irem (J ((4 * c + f : Nat) : Int)) (J 4) = J (f : Int) := by rw [J_rem (by omega) (by omega) (by omega) (by omega)]; exact congrArg J (by omega)
          have b258 : B2 258 = g := (g4 258 (by decide)).trans ((e3 258 (by decide)).trans hg)
          have b269 : B2 269 = B 269 := (g4 269 (by decide)).trans (e3 269 (by decide))
          have j0 : J (t : Int) * J 1728 + J 3 * J ((4 * c + f : Nat) : Int) = J ((1728 * t + 3 * (4 * c + f) : Nat) : Int) := by rw [J_mul, J_mul, J_add]; exact congrArg J (by omega)
          have j1 : J ((1728 * t + 3 * (4 * c + f) : Nat) : Int) + J 1 = J ((1728 * t + 3 * (4 * c + f) + 1 : Nat) : Int) := J_s _
          have j2 : J ((1728 * t + 3 * (4 * c + f) : Nat) : Int) + J 2 = J ((1728 * t + 3 * (4 * c + f) + 2 : Nat) : Int) := by rw [J_add]; rfl
          -- what is laid there
          have lay : ∀ v : Int32, v = J (SxS g S t f c) → Wp (j_X11_stepRows_104_2_9 (J T) (J t) (J ((4 * c + f : Nat) : Int)) v B2) (fun o => Sum.elim (fun s => s.1 = J ((4 * c + f + 1 : Nat) : Int) ∧ (∀ f' c', f' < 4 → c' < 144 → 4 * c' + f' < 4 * c + f + 1 → s.2 270 (1728 * t + 3 * (4 * c' + f')) = J (SxS g S t f' c') ∧ s.2 270 (1728 * t + 3 * (4 * c' + f') + 1) = J 0 ∧ s.2 270 (1728 * t + 3 * (4 * c' + f') + 2) = J 0) ∧ (∀ i, i < 1728 * t → s.2 270 i = B1 270 i) ∧ ∀ j, j ≠ 270 → s.2 j = B1 j) (fun B' => (∀ f c, f < 4 → c < 144 → B' 270 (1728 * t + 3 * (4 * c + f)) = J (SxS g S t f c) ∧ B' 270 (1728 * t + 3 * (4 * c + f) + 1) = J 0 ∧ B' 270 (1728 * t + 3 * (4 * c + f) + 2) = J 0) ∧ (∀ i, i < 1728 * t → B' 270 i = B1 270 i) ∧ ∀ j, j ≠ 270 → B' j = B1 j) o) := by
            intro v hv
            unfold j_X11_stepRows_104_2_9
            simp (disch := omega) only [↓nm_s, ↓grd_s, ↓reduceIte, J_lit, Int.cast_ofNat_Int, J_lt_t, J_lt_f, J_le_t, J_le_f, J_eq_t, J_eq_f, within_t, within_f, isIn_t, isIn_f, inRow_t, inRow_f, isCell_t, isCell_f, inb_t, ix_Jn, ix_J, Int.reduceToNat, Int.toNat_natCast, j0, j1, j2]
            refine wp_some ⟨J_s _, fun f' c' hf' hc' hlt => ?_, fun i hi => ?_, fun j hj => by simp (disch := omega) only [mset_ne, mset_eq, mrow_ne, mrow_eq, upd_eq, upd_ne]; exact g4 j hj⟩
            · simp only
              by_cases e : 4 * c' + f' = 4 * c + f
              · have h1 : f' = f := by omega
                have h2 : c' = c := by omega
                subst h1 h2
                simp (disch := omega) only [mset_ne, mset_eq, mrow_ne, mrow_eq, upd_eq, upd_ne]
                exact ⟨hv, trivial, trivial⟩
              · simp (disch := omega) only [mset_ne, mset_eq, mrow_ne, mrow_eq, upd_eq, upd_ne]
                exact g2 f' c' hf' hc' (by omega)
            · simp only
              simp (disch := omega) only [mset_ne, mset_eq, mrow_ne, mrow_eq, upd_eq, upd_ne]
              exact g3 i hi
          unfold b_X11_stepRows_9_2 j_X11_stepRows_43_2_9
          by_cases cs : g c = J 1
          · have hb : bk g f c = none := by unfold bk; rw [if_pos cs]
            simp (disch := omega) only [↓nm_s, ↓grd_s, ↓reduceIte, J_lit, J_neg, Int.cast_ofNat_Int, J_lt_t, J_lt_f, J_le_t, J_le_f, J_eq_t, J_eq_f, within_t, within_f, isIn_t, isIn_f, inRow_t, inRow_f, isCell_t, isCell_f, inb_t, ix_Jn, ix_J, Int.reduceToNat, Int.toNat_natCast, i1, i2, b258, cs]
            exact lay (J 0) (by unfold SxS; rw [hb]; rfl)
          · have ho := t_onBk (B := B2) hc hf
            rw [b258] at ho
            have ebk : bk g f c = onw g c ((f + 2) % 4) := by unfold bk; rw [if_neg cs]
            cases hon : onw g c ((f + 2) % 4) with
            | none =>
              rw [hon] at ho
              simp only [onJ] at ho
              simp (disch := omega) only [↓nm_s, ↓grd_s, ↓reduceIte, J_lit, J_neg, Int.cast_ofNat_Int, J_lt_t, J_lt_f, J_le_t, J_le_f, J_eq_t, J_eq_f, within_t, within_f, isIn_t, isIn_f, inRow_t, inRow_f, isCell_t, isCell_f, inb_t, ix_Jn, ix_J, Int.reduceToNat, Int.toNat_natCast, i1, i2, b258, cs, ho, bind_s]
              exact lay (J 0) (by unfold SxS; rw [ebk, hon]; rfl)
            | some b =>
              have hb : bk g f c = some b := by rw [ebk, hon]
              have hb1 := (bk_dp hf hc hb).1
              have hne : ¬ J (b : Int) = J (-1) := by
                rw [J_eq (by omega) (by omega) (by omega) (by omega)]
                omega
              rw [hon] at ho
              simp only [onJ] at ho
              have k0 : J (t : Int) * J 1728 + J 3 * (J 4 * J (b : Int) + J (f : Int)) = J ((1728 * t + 3 * (4 * b + f) : Nat) : Int) := by rw [J_mul, J_mul, J_add, J_mul, J_add]; exact congrArg J (by omega)
              have k1 : J ((1728 * t + 3 * (4 * b + f) : Nat) : Int) + J 1 = J ((1728 * t + 3 * (4 * b + f) + 1 : Nat) : Int) := J_s _
              have k2 : J ((1728 * t + 3 * (4 * b + f) : Nat) : Int) + J 2 = J ((1728 * t + 3 * (4 * b + f) + 2 : Nat) : Int) := by rw [J_add]; rfl
              have u0 := hE t f b (by omega) hf hb1
              obtain ⟨u1, u2⟩ := h12 t (by omega) f b hf hb1
              have p1 := (t_pl (hS t f b) (LfS_lt S t f b)).1
              have p2 := (t_pl (pl_lt (S t f b) (LfS S t f b)) (RfS_lt S t f b)).1
              simp (disch := omega) only [↓nm_s, ↓grd_s, ↓reduceIte, J_lit, J_neg, Int.cast_ofNat_Int, J_lt_t, J_lt_f, J_le_t, J_le_f, J_eq_t, J_eq_f, within_t, within_f, isIn_t, isIn_f, inRow_t, inRow_f, isCell_t, isCell_f, inb_t, ix_Jn, ix_J, Int.reduceToNat, Int.toNat_natCast, i1, i2, b258, cs, ho, bind_s, hne, k0, k1, k2, b269, u0, u1, u2, p1, p2]
              exact lay _ (by unfold SxS; rw [hb, Tot_2])
        · rintro ⟨s1, B2⟩ ⟨g1, g2, g3, g4⟩
          simp only at g1 g2 g3 g4
          subst g1
          unfold b_X11_stepRows_9_2
          simp (disch := omega) only [↓reduceIte, J_lit, Int.cast_ofNat_Int, J_lt_t, J_lt_f, J_le_t, J_le_f, J_eq_t, J_eq_f, within_t, within_f, isIn_t, isIn_f, inRow_t, inRow_f, isCell_t, isCell_f, inb_t]
          exact wp_some ⟨fun f c hf hc => g2 f c hf hc (by omega), g3, g4⟩
      · rintro B2 ⟨g1, g2, g3⟩
        refine wp_some ⟨J_s _, fun t' f c ht' hf hc => ?_, fun j hj => (g3 j hj).trans (e3 j hj)⟩
        by_cases e : t' = t
        · subst e
          exact g1 f c hf hc
        · simp only
          rw [g2 _ (by omega), g2 _ (by omega), g2 _ (by omega)]
          exact e2 t' f c (by omega) hf hc
    · rintro ⟨s1, B1⟩ ⟨e1, e2, e3⟩
      simp only at e1 e2 e3
      subst e1
      unfold b_X11_stepRows_2
      simp (disch := omega) only [↓reduceIte, J_lit, Int.cast_ofNat_Int, J_lt_t, J_lt_f, J_le_t, J_le_f, J_eq_t, J_eq_f, within_t, within_f, isIn_t, isIn_f, inRow_t, inRow_f, isCell_t, isCell_f, inb_t]
      exact wp_some ⟨fun t f c ht hf hc => e2 t f c (by omega) hf hc, e3⟩
  · rintro B1 ⟨b1, b2⟩
    have ec := t_copies (a := 270) (b := 269) (n := (T + 1) * 1728) B1 (by decide) (by rw [LN270]; omega) (by rw [LN269]; omega) (by omega)
    have en : (J (T : Int) + J 1) * J 1728 = J (((T + 1) * 1728 : Nat) : Int) := by rw [J_add, J_mul]; rfl
    simp only [J_lit, Int.cast_ofNat_Int, en, ec, bind_s]
    refine wp_some ⟨fun t f c ht hf hc => ?_, fun f c hf hc => ⟨?_, ?_⟩, fun j h1 h2 => by rw [mrow_ne h1]; exact b2 j h2⟩
    · rw [mrow_eq, pk_cpy_in (by omega) (by omega)]
      rw [show 0 + (1728 * t + 3 * (4 * c + f) - 0) = 1728 * t + 3 * (4 * c + f) by omega]
      exact (b1 t f c ht hf hc).1
    · rw [mrow_eq, pk_cpy_in (by omega) (by omega)]
      rw [show 0 + (1728 * 0 + 3 * (4 * c + f) + 1 - 0) = 1728 * 0 + 3 * (4 * c + f) + 1 by omega]
      exact (b1 0 f c (by omega) hf hc).2.1
    · rw [mrow_eq, pk_cpy_in (by omega) (by omega)]
      rw [show 0 + (1728 * 0 + 3 * (4 * c + f) + 2 - 0) = 1728 * 0 + 3 * (4 * c + f) + 2 by omega]
      exact (b1 0 f c (by omega) hf hc).2.2
theorem p_withN {N : zM} {fr f to n T : Nat} (p4 : Int32) (hp4 : p4 / J 10 = J n) (hfr : fr < 144) (hgf : ¬ N 258 fr = J 1) (hf : f < 4) (hto : to < 144) (hn : n ≤ 20) (hT : T ≤ 6) :
    Wp ((loopW (fun s => b_X11_with_59 (J fr) (J f) (J to) p4 (J T) s.1 s.2) (J 0, N)).bind (fun r => j_X11_with_97 (J to) p4 (J T) r)) (fun q => q.1 = J (Wsm (SnS (N 258) fr f n) T to 4) ∧ ∀ j, j ≠ 269 → j ≠ 270 → q.2 j = N j) := by
  refine wp_bind ?_
  refine wp_mono (P := fun B => E0 B 269 T (SnS (N 258) fr f 0) ∧ E12 B 0 (SnS (N 258) fr f 0) ∧ ∀ j, j ≠ 269 → j ≠ 270 → B j = N j) ?_ ?_
  · refine wp_mono (P := fun B => (∀ k, k < 12096 → B 269 k = J ((if k = 3 * (4 * fr + f) then 1 else 0 : Nat) : Int)) ∧ ∀ j, j ≠ 269 → B j = N j) ?_ ?_
    · refine loop_up (fun k s => s.1 = J k ∧ (∀ k', k' < k → s.2 269 k' = J ((if k' = 3 * (4 * fr + f) then 1 else 0 : Nat) : Int)) ∧ ∀ j, j ≠ 269 → s.2 j = N j) 12096 ⟨rfl, fun _ h => by omega, fun _ _ => rfl⟩ ?_ ?_
      · rintro k ⟨s1, B⟩ hk ⟨e1, e2, e3⟩
        simp only at e1 e2 e3
        subst e1
        have ei : J 3 * (J 4 * J (fr : Int) + J (f : Int)) = J ((3 * (4 * fr + f) : Nat) : Int) := by rw [J_mul, J_add, J_mul]; rfl
        unfold b_X11_with_59 j_X11_with_90_59
        by_cases c : k = 3 * (4 * fr + f)
        · simp (disch := omega) only [↓nm_s, ↓grd_s, ↓reduceIte, J_lit, Int.cast_ofNat_Int, J_lt_t, J_lt_f, J_le_t, J_le_f, J_eq_t, J_eq_f, within_t, within_f, isIn_t, isIn_f, inRow_t, inRow_f, isCell_t, isCell_f, inb_t, ix_Jn, ix_J, Int.reduceToNat, Int.toNat_natCast, ei]
          refine wp_some ⟨J_s _, fun x hx => ?_, fun j hj => by simp (disch := omega) only [mset_ne, mset_eq, mrow_ne, mrow_eq, upd_eq, upd_ne]; exact e3 j hj⟩
          by_cases e : x = k
          · subst e
            rw [if_pos c]
            simp (disch := omega) only [mset_ne, mset_eq, mrow_ne, mrow_eq, upd_eq, upd_ne]
            rfl
          · simp (disch := omega) only [mset_ne, mset_eq, mrow_ne, mrow_eq, upd_eq, upd_ne]
            exact e2 x (by omega)
        · simp (disch := omega) only [↓nm_s, ↓grd_s, ↓reduceIte, J_lit, Int.cast_ofNat_Int, J_lt_t, J_lt_f, J_le_t, J_le_f, J_eq_t, J_eq_f, within_t, within_f, isIn_t, isIn_f, inRow_t, inRow_f, isCell_t, isCell_f, inb_t, ix_Jn, ix_J, Int.reduceToNat, Int.toNat_natCast, ei]
          refine wp_some ⟨J_s _, fun x hx => ?_, fun j hj => by simp (disch := omega) only [mset_ne, mset_eq, mrow_ne, mrow_eq, upd_eq, upd_ne]; exact e3 j hj⟩
          by_cases e : x = k
          · subst e
            rw [if_neg c]
            simp (disch := omega) only [mset_ne, mset_eq, mrow_ne, mrow_eq, upd_eq, upd_ne]
            rfl
          · simp (disch := omega) only [mset_ne, mset_eq, mrow_ne, mrow_eq, upd_eq, upd_ne]
            exact e2 x (by omega)
      · rintro ⟨s1, B⟩ ⟨e1, e2, e3⟩
        simp only at e1 e2 e3
        subst e1
        unfold b_X11_with_59
        simp (disch := omega) only [↓reduceIte, J_lit, Int.cast_ofNat_Int, J_lt_t, J_lt_f, J_le_t, J_le_f, J_eq_t, J_eq_f, within_t, within_f, isIn_t, isIn_f, inRow_t, inRow_f, isCell_t, isCell_f, inb_t]
        exact wp_some ⟨e2, e3⟩
    · rintro B ⟨h1, h2⟩
      refine ⟨fun t' f' c ht' hf' hc => ?_, fun f' c hf' hc => ⟨?_, ?_⟩, fun j h3 _ => h2 j h3⟩
      · rw [h1 _ (by omega)]
        simp only [SnS]
        by_cases e : t' = 0 ∧ f' = f ∧ c = fr
        · rw [if_pos e, if_pos (by omega)]
        · rw [if_neg e, if_neg (by omega)]
      · rw [h1 _ (by omega), if_neg (by omega)]
        rfl
      · rw [h1 _ (by omega), if_neg (by omega)]
        rfl
  · rintro B ⟨h1, h2, h3⟩
    unfold j_X11_with_97 j_X11_with_134 j_X11_with_179
    refine wp_bind (wp_mono (p_turnRows hT (SnS_ok hgf 0).1 h1 h2) ?_)
    rintro B0 ⟨a1, a2, a3⟩
    refine wp_bind ?_
    refine wp_mono (P := fun B => E0 B 269 T (SnS (N 258) fr f n) ∧ (∀ t, t ≤ T → E12 B t (SnS (N 258) fr f n)) ∧ ∀ j, j ≠ 269 → j ≠ 270 → B j = N j) ?_ ?_
    · refine loop_up (fun i s => s.1 = J i ∧ E0 s.2 269 T (SnS (N 258) fr f i) ∧ (∀ t, t ≤ T → E12 s.2 t (SnS (N 258) fr f i)) ∧ ∀ j, j ≠ 269 → j ≠ 270 → s.2 j = N j) n ⟨rfl, a1, a2, fun j h4 h5 => (a3 j h4).trans (h3 j h4 h5)⟩ ?_ ?_
      · rintro i ⟨s1, B1⟩ hi ⟨e1, e2, e3, e4⟩
        simp only at e1 e2 e3 e4
        subst e1
        unfold b_X11_with_106
        simp (disch := omega) only [↓reduceIte, J_lit, Int.cast_ofNat_Int, J_lt_t, J_lt_f, J_le_t, J_le_f, J_eq_t, J_eq_f, within_t, within_f, isIn_t, isIn_f, inRow_t, inRow_f, isCell_t, isCell_f, inb_t, hp4]
        refine wp_bind (wp_mono (p_stepRows hT (e4 258 (by decide) (by decide)) (SnS_ok hgf i).1 e2 e3) ?_)
        rintro B2 ⟨b1, b2, b3⟩
        refine wp_bind (wp_mono (p_turnRows hT (SnS_ok hgf (i + 1)).1 b1 b2) ?_)
        rintro B3 ⟨c1, c2, c3⟩
        exact wp_some ⟨J_s _, c1, c2, fun j h4 h5 => (c3 j h4).trans ((b3 j h4 h5).trans (e4 j h4 h5))⟩
      · rintro ⟨s1, B1⟩ ⟨e1, e2, e3, e4⟩
        simp only at e1 e2 e3 e4
        subst e1
        unfold b_X11_with_106
        simp (disch := omega) only [↓reduceIte, J_lit, Int.cast_ofNat_Int, J_lt_t, J_lt_f, J_le_t, J_le_f, J_eq_t, J_eq_f, within_t, within_f, isIn_t, isIn_f, inRow_t, inRow_f, isCell_t, isCell_f, inb_t, hp4]
        exact wp_some ⟨e2, e3, e4⟩
    · rintro B1 ⟨b1, b2, b3⟩
      have hS := (SnS_ok (g := N 258) (fr := fr) (f0 := f) hgf n).1
      refine wp_bind ?_
      refine wp_mono (P := fun v => v = J (Wsm (SnS (N 258) fr f n) T to 4)) ?_ (fun v hv => wp_some ⟨hv, b3⟩)
      generalize SnS (N 258) fr f n = S at *
      refine loop_up (fun k s => s = (J ((if k % 3 = 0 then Wsm S T to (k / 3) else if k % 3 = 1 then pl (Wsm S T to (k / 3)) (S T (k / 3) to) else pl (pl (Wsm S T to (k / 3)) (S T (k / 3) to)) (LfS S T (k / 3) to) : Nat) : Int), J k)) 12 rfl ?_ ?_
      · rintro k s hk rfl
        obtain ⟨f', r, hf', hr, rfl⟩ : ∃ f' r : Nat, f' < 4 ∧ r < 3 ∧ k = 3 * f' + r := ⟨k / 3, k % 3, by omega, by omega, by omega⟩
        have ei : J (T : Int) * J 1728 + J 12 * J (to : Int) + J ((3 * f' + r : Nat) : Int) = J ((1728 * T + 3 * (4 * to + f') + r : Nat) : Int) := by rw [J_mul, J_mul, J_add, J_add]; exact congrArg J (by omega)
        have u0 := b1 T f' to (Nat.le_refl _) hf' hto
        obtain ⟨u1, u2⟩ := b2 T (Nat.le_refl _) f' to hf' hto
        have w := Wsm_lt S T to f'
        have d0 : (3 * f' + r) / 3 = f' := by omega
        have d1 : (3 * f' + r) % 3 = r := by omega
        rw [d0, d1]
        unfold b_X11_with_140
        rcases (show r = 0 ∨ r = 1 ∨ r = 2 by omega) with e | e | e <;> subst e
        · have p := (t_pl w (hS T f' to)).1
          have u0' : B1 269 (1728 * T + 3 * (4 * to + f') + 0) = J (S T f' to) := u0
          simp (disch := omega) only [↓nm_s, ↓grd_s, ↓reduceIte, J_lit, Int.cast_ofNat_Int, J_lt_t, J_lt_f, J_le_t, J_le_f, J_eq_t, J_eq_f, within_t, within_f, isIn_t, isIn_f, inRow_t, inRow_f, isCell_t, isCell_f, inb_t, ix_Jn, ix_J, Int.reduceToNat, Int.toNat_natCast, ei, u0', p]
          refine wp_some (pr2 ?_ (J_s _))
          rw [show (3 * f' + 0 + 1) % 3 = 1 by omega, show (3 * f' + 0 + 1) / 3 = f' by omega]
          rfl
        · have p := (t_pl (pl_lt (Wsm S T to f') (S T f' to)) (LfS_lt S T f' to)).1
          simp (disch := omega) only [↓nm_s, ↓grd_s, ↓reduceIte, J_lit, Int.cast_ofNat_Int, J_lt_t, J_lt_f, J_le_t, J_le_f, J_eq_t, J_eq_f, within_t, within_f, isIn_t, isIn_f, inRow_t, inRow_f, isCell_t, isCell_f, inb_t, ix_Jn, ix_J, Int.reduceToNat, Int.toNat_natCast, ei, u1, Nat.reduceEqDiff, p]
          refine wp_some (pr2 ?_ (J_s _))
          rw [show (3 * f' + 1 + 1) % 3 = 2 by omega, show (3 * f' + 1 + 1) / 3 = f' by omega]
          rfl
        · have p := (t_pl (pl_lt (pl (Wsm S T to f') (S T f' to)) (LfS S T f' to)) (RfS_lt S T f' to)).1
          simp (disch := omega) only [↓nm_s, ↓grd_s, ↓reduceIte, J_lit, Int.cast_ofNat_Int, J_lt_t, J_lt_f, J_le_t, J_le_f, J_eq_t, J_eq_f, within_t, within_f, isIn_t, isIn_f, inRow_t, inRow_f, isCell_t, isCell_f, inb_t, ix_Jn, ix_J, Int.reduceToNat, Int.toNat_natCast, ei, u2, Nat.reduceEqDiff, p]
          refine wp_some (pr2 ?_ (J_s _))
          rw [show (3 * f' + 2 + 1) % 3 = 0 by omega, show (3 * f' + 2 + 1) / 3 = f' + 1 by omega, if_pos rfl]
          rw [pl_tot]
          rfl
      · rintro s rfl
        unfold b_X11_with_140
        simp (disch := omega) only [↓reduceIte, J_lit, Int.cast_ofNat_Int, J_lt_t, J_lt_f, J_le_t, J_le_f, J_eq_t, J_eq_f, within_t, within_f, isIn_t, isIn_f, inRow_t, inRow_f, isCell_t, isCell_f, inb_t]
        exact wp_some rfl
theorem c_with (p0 p1 p2 p3 : Int32) : Cl2 (f_X10_with p0 p1 p2 p3) (f_X11_with p0 p1 p2 p3) := by
  intro M N hI
  obtain ⟨z0, rfl, l1, l2⟩ := J_ex p0
  obtain ⟨z1, rfl, l3, l4⟩ := J_ex p1
  obtain ⟨z2, rfl, l5, l6⟩ := J_ex p2
  obtain ⟨z3, rfl, l7, l8⟩ := J_ex p3
  have hM : ∀ c, c < 144 → M 3 c = N 258 c := by
    obtain ⟨n, m, k, u, o, ks, a1, a2, a3, a4, a5, a6, a7, a8, a9, a10⟩ := hI
    exact fun c hc => (a2.2.2.2.1 c hc).1
  unfold f_X10_with f_X11_with
  rcases t_ground hM z0 l1 l2 with ⟨g1, g2⟩ | ⟨g1, g2, fr, hfr, rfl, hgf⟩
  · simp (disch := omega) only [↓reduceIte, J_lit, J_neg, Int.cast_ofNat_Int, J_lt_t, J_lt_f, J_le_t, J_le_f, J_eq_t, J_eq_f, within_t, within_f, isIn_t, isIn_f, inRow_t, inRow_f, isCell_t, isCell_f, inb_t, bind_s, g1, g2]
    exact ⟨_, _, _, rfl, rfl, hI⟩
  rcases t_ground hM z2 l5 l6 with ⟨g3, g4⟩ | ⟨g3, g4, to, hto, rfl, hgt⟩
  · simp (disch := omega) only [↓reduceIte, J_lit, J_neg, Int.cast_ofNat_Int, J_lt_t, J_lt_f, J_le_t, J_le_f, J_eq_t, J_eq_f, within_t, within_f, isIn_t, isIn_f, inRow_t, inRow_f, isCell_t, isCell_f, inb_t, bind_s, g1, g2, g3, g4]
    exact ⟨_, _, _, rfl, rfl, hI⟩
  by_cases c1 : 0 ≤ z1 ∧ z1 ≤ 3
  · obtain ⟨f, rfl⟩ : ∃ f : Nat, z1 = f := ⟨z1.toNat, by omega⟩
    by_cases c2 : 0 ≤ z3
    · obtain ⟨nt, rfl⟩ : ∃ nt : Nat, z3 = nt := ⟨z3.toNat, by omega⟩
      have i1 : J (nt : Int) / J 10 = J ((nt / 10 : Nat) : Int) := by rw [J_div (by omega) (by omega) (by omega) (by omega)]; rfl
      have i2 : irem (J (nt : Int)) (J 10) = J ((nt % 10 : Nat) : Int) := by rw [J_rem (by omega) (by omega) (by omega) (by omega)]; rfl
      by_cases c3 : nt ≤ 209
      · by_cases c4 : nt % 10 ≤ 6
        · obtain ⟨⟨v, A⟩, a1, a2, a3⟩ := p_count hM hfr hgf (show f < 4 by omega) hto (show nt / 10 ≤ 20 by omega) c4
          obtain ⟨⟨v', B⟩, b1, b2, b3⟩ := p_withN (N := N) (J nt) i1 hfr hgf (show f < 4 by omega) hto (show nt / 10 ≤ 20 by omega) c4
          simp only at a2 a3 b2 b3
          subst a2 b2
          simp (disch := omega) only [↓nm_s, ↓reduceIte, J_lit, J_neg, Int.cast_ofNat_Int, J_lt_t, J_lt_f, J_le_t, J_le_f, J_eq_t, J_eq_f, within_t, within_f, isIn_t, isIn_f, inRow_t, inRow_f, isCell_t, isCell_f, inb_t, bind_s, bnd2_s, g1, g2, g3, g4, i1, i2, a1, b1]
          exact ⟨_, _, _, rfl, rfl, IC_scN (fun j _ _ _ _ => b3 j (by omega) (by omega)) (fun i _ => by rw [b3 257 (by decide) (by decide)]) (IC_scM (fun j _ h => a3 j (by unfold scC at h; omega) (by unfold scC at h; omega) (by unfold scC at h; omega) (by unfold scC at h; omega)) (fun i _ => by rw [a3 70 (by decide) (by decide) (by decide) (by decide)]) (fun i _ => by rw [a3 78 (by decide) (by decide) (by decide) (by decide)]) (by rw [a3 83 (by decide) (by decide) (by decide) (by decide)]) (by rw [a3 95 (by decide) (by decide) (by decide) (by decide)]) hI)⟩
        · simp (disch := omega) only [↓nm_s, ↓reduceIte, J_lit, J_neg, Int.cast_ofNat_Int, J_lt_t, J_lt_f, J_le_t, J_le_f, J_eq_t, J_eq_f, within_t, within_f, isIn_t, isIn_f, inRow_t, inRow_f, isCell_t, isCell_f, inb_t, bind_s, bnd2_s, g1, g2, g3, g4, i1, i2]
          exact ⟨_, _, _, rfl, rfl, hI⟩
      · simp (disch := omega) only [↓nm_s, ↓reduceIte, J_lit, J_neg, Int.cast_ofNat_Int, J_lt_t, J_lt_f, J_le_t, J_le_f, J_eq_t, J_eq_f, within_t, within_f, isIn_t, isIn_f, inRow_t, inRow_f, isCell_t, isCell_f, inb_t, bind_s, bnd2_s, g1, g2, g3, g4, i1, i2]
        exact ⟨_, _, _, rfl, rfl, hI⟩
    · simp (disch := omega) only [↓nm_s, ↓reduceIte, J_lit, J_neg, Int.cast_ofNat_Int, J_lt_t, J_lt_f, J_le_t, J_le_f, J_eq_t, J_eq_f, within_t, within_f, isIn_t, isIn_f, inRow_t, inRow_f, isCell_t, isCell_f, inb_t, bind_s, g1, g2, g3, g4]
      exact ⟨_, _, _, rfl, rfl, hI⟩
  · by_cases c4 : z1 < 0
    · simp (disch := omega) only [↓reduceIte, J_lit, J_neg, Int.cast_ofNat_Int, J_lt_t, J_lt_f, J_le_t, J_le_f, J_eq_t, J_eq_f, within_t, within_f, isIn_t, isIn_f, inRow_t, inRow_f, isCell_t, isCell_f, inb_t, bind_s, g1, g2, g3, g4]
      exact ⟨_, _, _, rfl, rfl, hI⟩
    · simp (disch := omega) only [↓reduceIte, J_lit, J_neg, Int.cast_ofNat_Int, J_lt_t, J_lt_f, J_le_t, J_le_f, J_eq_t, J_eq_f, within_t, within_f, isIn_t, isIn_f, inRow_t, inRow_f, isCell_t, isCell_f, inb_t, bind_s, g1, g2, g3, g4]
      exact ⟨_, _, _, rfl, rfl, hI⟩
