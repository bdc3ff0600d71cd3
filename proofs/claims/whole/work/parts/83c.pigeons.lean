/-! ===== pigeons: one beside, and the call ===== -/
noncomputable def nbr (g : Nat → Int32) (c : Nat) : Nat := cnt (fun f => ¬ onw g c f = none) 4
theorem nbr_le (g : Nat → Int32) (c : Nat) : nbr g c ≤ 4 := cnt_le _ _
theorem onJ_ne {g : Nat → Int32} {c f v : Nat} (hc : c < 144) (hf : f < 4) (h : onw g c f = some v) : ¬ J (v : Int) = J (-1) := by
  have := (onw_lt hc hf h).1
  rw [J_eq (by omega) (by omega) (by omega) (by omega)]
  omega
theorem p_beC {A : zM} {g : Nat → Int32} {c : Nat} (hc : c < 144) (hg : ∀ v, v < 144 → A 3 v = g v) (a b : Int32) (hb : b = J c) : loopW (fun s => b_X2_withOneBeside_16_4 a b s.1 s.2 A) (J 0, J 0) = some (J (nbr g c)) := by
  subst hb
  have key : Wp (loopW (fun s => b_X2_withOneBeside_16_4 a (J c) s.1 s.2 A) (J 0, J 0)) (fun v => v = J (nbr g c)) := by
    refine loop_up (fun k s => s = (J (cnt (fun f => ¬ onw g c f = none) k), J k)) 4 rfl ?_ ?_
    · rintro f s hf rfl
      have ho := t_onward (A := A) hc hf
      rw [onw_cg (g' := g) hg hc hf] at ho
      unfold b_X2_withOneBeside_16_4 j_X2_withOneBeside_39_4_16
      cases hon : onw g c f with
      | none =>
        rw [hon] at ho
        simp only [onJ] at ho
        simp (disch := omega) only [↓nm_s, ↓reduceIte, J_lit, J_neg, Int.cast_ofNat_Int, J_lt_t, J_lt_f, J_le_t, J_le_f, J_eq_t, J_eq_f, within_t, within_f, isIn_t, isIn_f, inRow_t, inRow_f, isCell_t, isCell_f, inb_t, ho, bind_s]
        refine wp_some (pr2 ?_ (J_s _))
        rw [cnt_f (P := fun f => ¬ onw g c f = none) (fun h => h hon), J_add, Int.add_zero]
      | some v =>
        have hne := onJ_ne hc hf hon
        rw [hon] at ho
        simp only [onJ] at ho
        simp (disch := omega) only [↓nm_s, ↓reduceIte, J_lit, J_neg, Int.cast_ofNat_Int, J_lt_t, J_lt_f, J_le_t, J_le_f, J_eq_t, J_eq_f, within_t, within_f, isIn_t, isIn_f, inRow_t, inRow_f, isCell_t, isCell_f, inb_t, ho, bind_s, hne]
        refine wp_some (pr2 ?_ (J_s _))
        rw [cnt_t (P := fun f => ¬ onw g c f = none) (fun h => by rw [hon] at h; exact absurd h (by simp)), J_add]
        rfl
    · rintro s rfl
      unfold b_X2_withOneBeside_16_4
      simp (disch := omega) only [↓reduceIte, J_lit, Int.cast_ofNat_Int, J_lt_t, J_lt_f, J_le_t, J_le_f, J_eq_t, J_eq_f, within_t, within_f, isIn_t, isIn_f, inRow_t, inRow_f, isCell_t, isCell_f, inb_t]
      exact wp_some rfl
  obtain ⟨v, e, rfl⟩ := key
  exact e
theorem p_beN {B : zM} {c : Nat} (hc : c < 144) : f_X11_besideOne (J c) B = some (J (nbr (B 258) c)) := by
  have key : Wp (loopW (fun s => b_X11_besideOne_4 (J c) s.1 s.2 B) (J 0, J 0)) (fun v => v = J (nbr (B 258) c)) := by
    refine loop_up (fun k s => s = (J (cnt (fun f => ¬ onw (B 258) c f = none) k), J k)) 4 rfl ?_ ?_
    · rintro f s hf rfl
      have ho := t_onBy (B := B) hc hf
      unfold b_X11_besideOne_4 j_X11_besideOne_26_4
      cases hon : onw (B 258) c f with
      | none =>
        rw [hon] at ho
        simp only [onJ] at ho
        simp (disch := omega) only [↓nm_s, ↓reduceIte, J_lit, J_neg, Int.cast_ofNat_Int, J_lt_t, J_lt_f, J_le_t, J_le_f, J_eq_t, J_eq_f, within_t, within_f, isIn_t, isIn_f, inRow_t, inRow_f, isCell_t, isCell_f, inb_t, ho, bind_s]
        refine wp_some (pr2 ?_ (J_s _))
        rw [cnt_f (P := fun f => ¬ onw (B 258) c f = none) (fun h => h hon), J_add, Int.add_zero]
      | some v =>
        have hne := onJ_ne hc hf hon
        rw [hon] at ho
        simp only [onJ] at ho
        simp (disch := omega) only [↓nm_s, ↓reduceIte, J_lit, J_neg, Int.cast_ofNat_Int, J_lt_t, J_lt_f, J_le_t, J_le_f, J_eq_t, J_eq_f, within_t, within_f, isIn_t, isIn_f, inRow_t, inRow_f, isCell_t, isCell_f, inb_t, ho, bind_s, hne]
        refine wp_some (pr2 ?_ (J_s _))
        rw [cnt_t (P := fun f => ¬ onw (B 258) c f = none) (fun h => by rw [hon] at h; exact absurd h (by simp)), J_add]
        rfl
    · rintro s rfl
      unfold b_X11_besideOne_4
      simp (disch := omega) only [↓reduceIte, J_lit, Int.cast_ofNat_Int, J_lt_t, J_lt_f, J_le_t, J_le_f, J_eq_t, J_eq_f, within_t, within_f, isIn_t, isIn_f, inRow_t, inRow_f, isCell_t, isCell_f, inb_t]
      exact wp_some rfl
  obtain ⟨v, e, rfl⟩ := key
  unfold f_X11_besideOne j_X11_besideOne_34
  rw [show ((0 : Int32), (0 : Int32)) = (J 0, J 0) from rfl, e]
  rfl
theorem p_oneC {M : zM} {g : Nat → Int32} (hg : ∀ v, v < 144 → M 3 v = g v) : f_X2_withOneBeside M = some (J (cnt (fun i => ¬ g i = J 1 ∧ nbr g i = 1) 144)) := by
  have key : Wp (loopW (fun s => b_X2_withOneBeside_4 s.1 s.2 M) (J 0, J 0)) (fun v => v = J (cnt (fun i => ¬ g i = J 1 ∧ nbr g i = 1) 144)) := by
    refine loop_up (fun k s => s = (J (cnt (fun i => ¬ g i = J 1 ∧ nbr g i = 1) k), J k)) 144 rfl ?_ ?_
    · rintro i s hi rfl
      have e := p_beC hi hg (J (cnt (fun i => ¬ g i = J 1 ∧ nbr g i = 1) i)) (J i) rfl
      have hb := nbr_le g i
      have hfr := t_free (A := M) hi
      rw [hg i hi] at hfr
      unfold b_X2_withOneBeside_4 j_X2_withOneBeside_47_4 j_X2_withOneBeside_63_4
      by_cases c : g i = J 1
      · rw [if_pos c] at hfr
        simp (disch := omega) only [↓nm_s, ↓reduceIte, J_lit, Int.cast_ofNat_Int, J_lt_t, J_lt_f, J_le_t, J_le_f, J_eq_t, J_eq_f, within_t, within_f, isIn_t, isIn_f, inRow_t, inRow_f, isCell_t, isCell_f, inb_t, e, hfr, bind_s]
        refine wp_some (pr2 ?_ (J_s _))
        rw [cnt_f (P := fun i => ¬ g i = J 1 ∧ nbr g i = 1) (fun h => h.1 c)]
      · rw [if_neg c] at hfr
        by_cases c2 : nbr g i = 1
        · simp (disch := omega) only [↓nm_s, ↓reduceIte, J_lit, Int.cast_ofNat_Int, J_lt_t, J_lt_f, J_le_t, J_le_f, J_eq_t, J_eq_f, within_t, within_f, isIn_t, isIn_f, inRow_t, inRow_f, isCell_t, isCell_f, inb_t, e, hfr, bind_s]
          refine wp_some (pr2 ?_ (J_s _))
          rw [cnt_t (P := fun i => ¬ g i = J 1 ∧ nbr g i = 1) ⟨c, c2⟩, J_add]
          rfl
        · simp (disch := omega) only [↓nm_s, ↓reduceIte, J_lit, Int.cast_ofNat_Int, J_lt_t, J_lt_f, J_le_t, J_le_f, J_eq_t, J_eq_f, within_t, within_f, isIn_t, isIn_f, inRow_t, inRow_f, isCell_t, isCell_f, inb_t, e, hfr, bind_s]
          refine wp_some (pr2 ?_ (J_s _))
          rw [cnt_f (P := fun i => ¬ g i = J 1 ∧ nbr g i = 1) (fun h => c2 h.2)]
    · rintro s rfl
      unfold b_X2_withOneBeside_4
      simp (disch := omega) only [↓reduceIte, J_lit, Int.cast_ofNat_Int, J_lt_t, J_lt_f, J_le_t, J_le_f, J_eq_t, J_eq_f, within_t, within_f, isIn_t, isIn_f, inRow_t, inRow_f, isCell_t, isCell_f, inb_t]
      exact wp_some rfl
  obtain ⟨v, e, rfl⟩ := key
  unfold f_X2_withOneBeside j_X2_withOneBeside_69
  rw [show ((0 : Int32), (0 : Int32)) = (J 0, J 0) from rfl, e]
  rfl
theorem p_pigN {B : zM} {g : Nat → Int32} {l : Nat → Nat} (hg : B 258 = g) (hF : Fl g B l) (hL : LbO g l) (p : Int32) : loopW (fun s => b_X11_pigeons_25 p s.1 s.2.1 s.2.2.1 s.2.2.2 B) (J 0, J 0, J 0, J 0) = some (J (cnt (fun i => ¬ g i = J 1 ∧ l i = i) 144), J (mxL g l 144), J (cnt (fun i => ¬ g i = J 1 ∧ nbr g i = 1) 144)) := by
  have key : Wp (loopW (fun s => b_X11_pigeons_25 p s.1 s.2.1 s.2.2.1 s.2.2.2 B) (J 0, J 0, J 0, J 0)) (fun v => v = (J (cnt (fun i => ¬ g i = J 1 ∧ l i = i) 144), J (mxL g l 144), J (cnt (fun i => ¬ g i = J 1 ∧ nbr g i = 1) 144))) := by
    refine loop_up (fun k s => s = (J (cnt (fun i => ¬ g i = J 1 ∧ l i = i) k), J (mxL g l k), J (cnt (fun i => ¬ g i = J 1 ∧ nbr g i = 1) k), J k)) 144 rfl ?_ ?_
    · rintro i s hi rfl
      have hbn := p_beN (B := B) hi
      rw [hg] at hbn
      have hb := nbr_le g i
      have b1 := mxL_le g l i
      have b2 := many_le g l i
      have inn : ∀ a b c : Int32, loopW (fun s => b_X11_pigeons_53_25 p a b c (J i) s.1 s.2 B) (J 0, J 0) = some (J (manyL g l i)) := by
        intro a b c
        have key : Wp (loopW (fun s => b_X11_pigeons_53_25 p a b c (J i) s.1 s.2 B) (J 0, J 0)) (fun v => v = J (manyL g l i)) := by
          refine loop_up (fun k s => s = (J (cnt (fun v => ¬ g v = J 1 ∧ l v = i) k), J k)) 144 rfl ?_ ?_
          · rintro o s ho rfl
            unfold b_X11_pigeons_53_25 j_X11_pigeons_80_25_53
            rcases hF o ho with ⟨q1, q2⟩ | ⟨q1, q2, q3, q4, q5⟩
            · simp (disch := omega) only [↓nm_s, ↓grd_s, ↓reduceIte, J_lit, Int.cast_ofNat_Int, J_lt_t, J_lt_f, J_le_t, J_le_f, J_eq_t, J_eq_f, within_t, within_f, isIn_t, isIn_f, inRow_t, inRow_f, isCell_t, isCell_f, inb_t, ix_Jn, ix_J, Int.reduceToNat, Int.toNat_natCast, q2]
              refine wp_some (pr2 ?_ (J_s _))
              rw [cnt_f (P := fun v => ¬ g v = J 1 ∧ l v = i) (fun h => h.1 q1), J_add, Int.add_zero]
            · by_cases c : l o = i
              · simp (disch := omega) only [↓nm_s, ↓grd_s, ↓reduceIte, J_lit, Int.cast_ofNat_Int, J_lt_t, J_lt_f, J_le_t, J_le_f, J_eq_t, J_eq_f, within_t, within_f, isIn_t, isIn_f, inRow_t, inRow_f, isCell_t, isCell_f, inb_t, ix_Jn, ix_J, Int.reduceToNat, Int.toNat_natCast, q2]
                refine wp_some (pr2 ?_ (J_s _))
                rw [cnt_t (P := fun v => ¬ g v = J 1 ∧ l v = i) ⟨q1, c⟩, J_add]
                rfl
              · simp (disch := omega) only [↓nm_s, ↓grd_s, ↓reduceIte, J_lit, Int.cast_ofNat_Int, J_lt_t, J_lt_f, J_le_t, J_le_f, J_eq_t, J_eq_f, within_t, within_f, isIn_t, isIn_f, inRow_t, inRow_f, isCell_t, isCell_f, inb_t, ix_Jn, ix_J, Int.reduceToNat, Int.toNat_natCast, q2]
                refine wp_some (pr2 ?_ (J_s _))
                rw [cnt_f (P := fun v => ¬ g v = J 1 ∧ l v = i) (fun h => c h.2), J_add, Int.add_zero]
          · rintro s rfl
            unfold b_X11_pigeons_53_25
            simp (disch := omega) only [↓reduceIte, J_lit, Int.cast_ofNat_Int, J_lt_t, J_lt_f, J_le_t, J_le_f, J_eq_t, J_eq_f, within_t, within_f, isIn_t, isIn_f, inRow_t, inRow_f, isCell_t, isCell_f, inb_t]
            exact wp_some rfl
        obtain ⟨v, e, rfl⟩ := key
        exact e
      unfold b_X11_pigeons_25 j_X11_pigeons_89_25 j_X11_pigeons_100_25 j_X11_pigeons_114_25 j_X11_pigeons_132_25 j_X11_pigeons_135_25
      rcases hF i hi with ⟨q1, q2⟩ | ⟨q1, q2, q3, q4, q5⟩
      · simp (disch := omega) only [↓nm_s, ↓grd_s, ↓reduceIte, J_lit, J_neg, Int.cast_ofNat_Int, J_lt_t, J_lt_f, J_le_t, J_le_f, J_eq_t, J_eq_f, within_t, within_f, isIn_t, isIn_f, inRow_t, inRow_f, isCell_t, isCell_f, inb_t, ix_Jn, ix_J, Int.reduceToNat, Int.toNat_natCast, q2]
        refine wp_some ?_
        rw [cnt_f (P := fun i => ¬ g i = J 1 ∧ l i = i) (fun h => h.1 q1), mxL_n q1, cnt_f (P := fun i => ¬ g i = J 1 ∧ nbr g i = 1) (fun h => h.1 q1), J_add]
        rfl
      · have emx : ∀ v : Int32, v = J (max (mxL g l i : Int) (manyL g l i : Int)) → v = J (mxL g l (i + 1)) := by
          intro v hv
          rw [hv, mxL_s q1]
          exact congrArg J (by omega)
        have efl : (l i = i → J (cnt (fun i => ¬ g i = J 1 ∧ l i = i) i) + J 1 = J (cnt (fun i => ¬ g i = J 1 ∧ l i = i) (i + 1))) ∧ (¬ l i = i → J (cnt (fun i => ¬ g i = J 1 ∧ l i = i) i) + J 0 = J (cnt (fun i => ¬ g i = J 1 ∧ l i = i) (i + 1))) := by
          refine ⟨fun h => ?_, fun h => ?_⟩
          · rw [cnt_t (P := fun i => ¬ g i = J 1 ∧ l i = i) ⟨q1, h⟩, J_add]
            rfl
          · rw [cnt_f (P := fun i => ¬ g i = J 1 ∧ l i = i) (fun d => h d.2), J_add, Int.add_zero]
        have elo : (nbr g i = 1 → J (cnt (fun i => ¬ g i = J 1 ∧ nbr g i = 1) i) + J 1 = J (cnt (fun i => ¬ g i = J 1 ∧ nbr g i = 1) (i + 1))) ∧ (¬ nbr g i = 1 → J (cnt (fun i => ¬ g i = J 1 ∧ nbr g i = 1) i) + J 0 = J (cnt (fun i => ¬ g i = J 1 ∧ nbr g i = 1) (i + 1))) := by
          refine ⟨fun h => ?_, fun h => ?_⟩
          · rw [cnt_t (P := fun i => ¬ g i = J 1 ∧ nbr g i = 1) ⟨q1, h⟩, J_add]
            rfl
          · rw [cnt_f (P := fun i => ¬ g i = J 1 ∧ nbr g i = 1) (fun d => h d.2), J_add, Int.add_zero]
        have hne : ¬ J (l i : Int) = J (-1) := by
          rw [J_eq (by omega) (by omega) (by omega) (by omega)]
          omega
        by_cases cl : l i = i
        · have hm := many_1 hi q1 cl
          by_cases cm : manyL g l i ≤ mxL g l i
          · by_cases cn : nbr g i = 1
            · simp (disch := omega) only [↓nm_s, ↓grd_s, ↓reduceIte, J_lit, J_neg, Int.cast_ofNat_Int, J_lt_t, J_lt_f, J_le_t, J_le_f, J_eq_t, J_eq_f, within_t, within_f, isIn_t, isIn_f, inRow_t, inRow_f, isCell_t, isCell_f, inb_t, ix_Jn, ix_J, Int.reduceToNat, Int.toNat_natCast, q2, hne, inn, bind_s, hbn]
              refine wp_some ?_
              rw [efl.1 cl, elo.1 cn, ← emx (J (mxL g l i)) (by exact congrArg J (by omega)), J_add]
              rfl
            · simp (disch := omega) only [↓nm_s, ↓grd_s, ↓reduceIte, J_lit, J_neg, Int.cast_ofNat_Int, J_lt_t, J_lt_f, J_le_t, J_le_f, J_eq_t, J_eq_f, within_t, within_f, isIn_t, isIn_f, inRow_t, inRow_f, isCell_t, isCell_f, inb_t, ix_Jn, ix_J, Int.reduceToNat, Int.toNat_natCast, q2, hne, inn, bind_s, hbn]
              refine wp_some ?_
              rw [efl.1 cl, elo.2 cn, ← emx (J (mxL g l i)) (by exact congrArg J (by omega)), J_add]
              rfl
          · by_cases cn : nbr g i = 1
            · simp (disch := omega) only [↓nm_s, ↓grd_s, ↓reduceIte, J_lit, J_neg, Int.cast_ofNat_Int, J_lt_t, J_lt_f, J_le_t, J_le_f, J_eq_t, J_eq_f, within_t, within_f, isIn_t, isIn_f, inRow_t, inRow_f, isCell_t, isCell_f, inb_t, ix_Jn, ix_J, Int.reduceToNat, Int.toNat_natCast, q2, hne, inn, bind_s, hbn]
              refine wp_some ?_
              rw [efl.1 cl, elo.1 cn, ← emx (J (manyL g l i)) (by exact congrArg J (by omega)), J_add]
              rfl
            · simp (disch := omega) only [↓nm_s, ↓grd_s, ↓reduceIte, J_lit, J_neg, Int.cast_ofNat_Int, J_lt_t, J_lt_f, J_le_t, J_le_f, J_eq_t, J_eq_f, within_t, within_f, isIn_t, isIn_f, inRow_t, inRow_f, isCell_t, isCell_f, inb_t, ix_Jn, ix_J, Int.reduceToNat, Int.toNat_natCast, q2, hne, inn, bind_s, hbn]
              refine wp_some ?_
              rw [efl.1 cl, elo.2 cn, ← emx (J (manyL g l i)) (by exact congrArg J (by omega)), J_add]
              rfl
        · have hm := many_0 hL hi q1 cl
          have inn0 : ∀ a b c : Int32, loopW (fun s => b_X11_pigeons_53_25 p a b c (J i) s.1 s.2 B) (J 0, J 0) = some (J 0) := by
            intro a b c
            rw [inn a b c, hm]
            rfl
          by_cases cn : nbr g i = 1
          · simp (disch := omega) only [↓nm_s, ↓grd_s, ↓reduceIte, J_lit, J_neg, Int.cast_ofNat_Int, J_lt_t, J_lt_f, J_le_t, J_le_f, J_eq_t, J_eq_f, within_t, within_f, isIn_t, isIn_f, inRow_t, inRow_f, isCell_t, isCell_f, inb_t, ix_Jn, ix_J, Int.reduceToNat, Int.toNat_natCast, q2, hne, inn0, bind_s, hbn]
            refine wp_some ?_
            rw [efl.2 cl, elo.1 cn, ← emx (J (mxL g l i)) (by exact congrArg J (by omega)), J_add]
            rfl
          · simp (disch := omega) only [↓nm_s, ↓grd_s, ↓reduceIte, J_lit, J_neg, Int.cast_ofNat_Int, J_lt_t, J_lt_f, J_le_t, J_le_f, J_eq_t, J_eq_f, within_t, within_f, isIn_t, isIn_f, inRow_t, inRow_f, isCell_t, isCell_f, inb_t, ix_Jn, ix_J, Int.reduceToNat, Int.toNat_natCast, q2, hne, inn0, bind_s, hbn]
            refine wp_some ?_
            rw [efl.2 cl, elo.2 cn, ← emx (J (mxL g l i)) (by exact congrArg J (by omega)), J_add]
            rfl
    · rintro s rfl
      unfold b_X11_pigeons_25
      simp (disch := omega) only [↓reduceIte, J_lit, Int.cast_ofNat_Int, J_lt_t, J_lt_f, J_le_t, J_le_f, J_eq_t, J_eq_f, within_t, within_f, isIn_t, isIn_f, inRow_t, inRow_f, isCell_t, isCell_f, inb_t]
      exact wp_some rfl
  obtain ⟨v, e, rfl⟩ := key
  exact e
theorem c_pigeons (p0 : Int32) : Cl2 (f_X10_pigeons p0) (f_X11_pigeons p0) := by
  intro M N hI
  obtain ⟨z, rfl, l1, l2⟩ := J_ex p0
  by_cases c0 : 0 ≤ z ∧ z ≤ 2
  · have hM : ∀ c, c < 144 → M 3 c = N 258 c := by
      obtain ⟨n, m, k, u, o, ks, a1, a2, a3, a4, a5, a6, a7, a8, a9, a10⟩ := hI
      exact fun c hc => (a2.2.2.2.1 c hc).1
    obtain ⟨B, k1, k2, l, k3, k4⟩ := p_flocks N
    have hL := LbO_of k3 k4
    have hp := p_pigN (B := B) (k2 258 (by decide)) k3 hL
    have hIN : IC M B := IC_scN (fun j _ _ _ _ => k2 j (by omega)) (fun i _ => by rw [k2 257 (by decide)]) hI
    unfold f_X10_pigeons f_X11_pigeons j_X11_pigeons_141
    rcases (show z = 0 ∨ z = 1 ∨ z = 2 by omega) with e | e | e <;> subst e
    · obtain ⟨⟨q1, A⟩, g1, g2, g3⟩ := p_flocksC hM hL (J 0)
      simp only at g2 g3
      rw [if_pos (show J 0 = (0 : Int32) from rfl)] at g2
      subst g2
      simp (disch := omega) only [↓nm_s, ↓reduceIte, J_lit, J_neg, Int.cast_ofNat_Int, J_lt_t, J_lt_f, J_le_t, J_le_f, J_eq_t, J_eq_f, within_t, within_f, isIn_t, isIn_f, inRow_t, inRow_f, isCell_t, isCell_f, inb_t, bind_s, bnd2_s, k1, hp, g1]
      exact ⟨_, _, _, rfl, rfl, IC_scM (fun j _ h => g3 j (by unfold scC at h; omega) (by unfold scC at h; omega)) (fun i _ => by rw [g3 70 (by decide) (by decide)]) (fun i _ => by rw [g3 78 (by decide) (by decide)]) (by rw [g3 83 (by decide) (by decide)]) (by rw [g3 95 (by decide) (by decide)]) hIN⟩
    · obtain ⟨⟨q1, A⟩, g1, g2, g3⟩ := p_flocksC hM hL (J 1)
      simp only at g2 g3
      rw [if_neg (show ¬ J 1 = (0 : Int32) from by decide)] at g2
      subst g2
      simp (disch := omega) only [↓nm_s, ↓reduceIte, J_lit, J_neg, Int.cast_ofNat_Int, J_lt_t, J_lt_f, J_le_t, J_le_f, J_eq_t, J_eq_f, within_t, within_f, isIn_t, isIn_f, inRow_t, inRow_f, isCell_t, isCell_f, inb_t, bind_s, bnd2_s, k1, hp, g1]
      exact ⟨_, _, _, rfl, rfl, IC_scM (fun j _ h => g3 j (by unfold scC at h; omega) (by unfold scC at h; omega)) (fun i _ => by rw [g3 70 (by decide) (by decide)]) (fun i _ => by rw [g3 78 (by decide) (by decide)]) (by rw [g3 83 (by decide) (by decide)]) (by rw [g3 95 (by decide) (by decide)]) hIN⟩
    · have ho := p_oneC hM
      simp (disch := omega) only [↓nm_s, ↓reduceIte, J_lit, J_neg, Int.cast_ofNat_Int, J_lt_t, J_lt_f, J_le_t, J_le_f, J_eq_t, J_eq_f, within_t, within_f, isIn_t, isIn_f, inRow_t, inRow_f, isCell_t, isCell_f, inb_t, bind_s, bnd2_s, k1, hp, ho]
      exact ⟨_, _, _, rfl, rfl, hIN⟩
  · unfold f_X10_pigeons f_X11_pigeons
    simp (disch := omega) only [↓nm_s, ↓reduceIte, J_lit, J_neg, Int.cast_ofNat_Int, J_lt_t, J_lt_f, J_le_t, J_le_f, J_eq_t, J_eq_f, within_t, within_f, isIn_t, isIn_f, inRow_t, inRow_f, isCell_t, isCell_f, inb_t]
    exact ⟨_, _, _, rfl, rfl, hI⟩
