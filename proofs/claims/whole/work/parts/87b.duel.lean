/-! ===== the duel: the reference's levels ===== -/
def PrN (a b n X Y : Nat) : Prop := Pr a b n ((X : Int) - 60) ((Y : Int) - 60)
def DLv (a b : Nat) (B : zM) (n : Nat) (Pc : Nat → Nat → Nat → Prop) : Prop := ∀ X Y, X ≤ 120 → Y ≤ 120 →
  (∃ d : Nat, d ≤ n ∧ B 275 (121 * Y + X) = J d ∧ PrN a b d X Y ∧ ∀ m, m < d → ¬ PrN a b m X Y) ∨
  (B 275 (121 * Y + X) = J (n + 1 : Nat) ∧ ¬ PrN a b n X Y ∧ PrN a b (n + 1) X Y) ∨
  (B 275 (121 * Y + X) = J 9999 ∧ ¬ PrN a b n X Y ∧ ∀ X' Y' k, X' ≤ 120 → Y' ≤ 120 → k < 8 → Pc X' Y' k → B 275 (121 * Y' + X') = J n → ¬ ((X : Int) = X' + oX a b k ∧ (Y : Int) = Y' + oY a b k))
theorem DL_at {a b : Nat} {B : zM} {n : Nat} {Pc : Nat → Nat → Nat → Prop} (h : DLv a b B n Pc) (hn : n < 9000) {X Y : Nat} (hX : X ≤ 120) (hY : Y ≤ 120) : (B 275 (121 * Y + X) = J n ↔ PrN a b n X Y ∧ ∀ m, m < n → ¬ PrN a b m X Y) := by
  rcases h X Y hX hY with ⟨d, h1, h2, h3, h4⟩ | ⟨h1, h2, h3⟩ | ⟨h1, h2, h3⟩
  · rw [h2, J_eq (by omega) (by omega) (by omega) (by omega)]
    constructor
    · intro e
      have : d = n := by omega
      subst this
      exact ⟨h3, h4⟩
    · rintro ⟨_, e⟩
      by_cases c : d = n
      · omega
      · exact absurd h3 (e d (by omega))
  · rw [h1, J_eq (by omega) (by omega) (by omega) (by omega)]
    constructor
    · intro e; omega
    · rintro ⟨e, _⟩; exact absurd e h2
  · rw [h1, J_eq (by omega) (by omega) (by omega) (by omega)]
    constructor
    · intro e; omega
    · rintro ⟨e, _⟩; exact absurd e h2
theorem DL_weak {a b : Nat} {B : zM} {n : Nat} {Pc Pc' : Nat → Nat → Nat → Prop} (h : DLv a b B n Pc) (hp : ∀ X' Y' k, X' ≤ 120 → Y' ≤ 120 → Pc' X' Y' k → B 275 (121 * Y' + X') = J n → Pc X' Y' k) : DLv a b B n Pc' := by
  intro X Y hX hY
  rcases h X Y hX hY with h1 | h1 | ⟨h1, h2, h3⟩
  · exact Or.inl h1
  · exact Or.inr (Or.inl h1)
  · exact Or.inr (Or.inr ⟨h1, h2, fun X' Y' k hX' hY' hk hpc hB => h3 X' Y' k hX' hY' hk (hp X' Y' k hX' hY' hpc hB) hB⟩)
theorem DL_next {a b : Nat} (ha : a ≤ 5) (hb : b ≤ 5) {B : zM} {n : Nat} {Pc : Nat → Nat → Nat → Prop} (h : DLv a b B n Pc) (hn : n ≤ 11) (hp : ∀ X' Y' k, X' ≤ 120 → Y' ≤ 120 → k < 8 → B 275 (121 * Y' + X') = J n → Pc X' Y' k) : DLv a b B (n + 1) (fun _ _ _ => False) := by
  intro X Y hX hY
  rcases h X Y hX hY with ⟨d, h1, h2, h3, h4⟩ | ⟨h1, h2, h3⟩ | ⟨h1, h2, h3⟩
  · exact Or.inl ⟨d, by omega, h2, h3, h4⟩
  · exact Or.inl ⟨n + 1, Nat.le_refl _, h1, h3, fun m hm hr => h2 (Pr_le hr (by omega))⟩
  · refine Or.inr (Or.inr ⟨h1, ?_, fun _ _ _ _ _ _ q => q.elim⟩)
    rintro (hr | ⟨k, hk, hr⟩)
    · exact h2 hr
    · have bd := Pr_b (m := 5) (by omega) (by omega) (by omega) n _ _ hr
      have ob := oXY_le (a := a) (b := b) (k := k) (m := 5) (by omega) (by omega)
      obtain ⟨X', hX'⟩ : ∃ X' : Nat, (X' : Int) = (X : Int) - oX a b k := ⟨((X : Int) - oX a b k).toNat, by omega⟩
      obtain ⟨Y', hY'⟩ : ∃ Y' : Nat, (Y' : Int) = (Y : Int) - oY a b k := ⟨((Y : Int) - oY a b k).toNat, by omega⟩
      have hr' : PrN a b n X' Y' := by
        unfold PrN
        rw [hX', hY', show (X : Int) - oX a b k - 60 = (X : Int) - 60 - oX a b k by omega, show (Y : Int) - oY a b k - 60 = (Y : Int) - 60 - oY a b k by omega]
        exact hr
      rcases h X' Y' (by omega) (by omega) with ⟨d, a1, a2, a3, a4⟩ | ⟨_, a2, _⟩ | ⟨_, a2, _⟩
      · by_cases e : d = n
        · subst e
          exact h3 X' Y' k (by omega) (by omega) hk (hp X' Y' k (by omega) (by omega) hk a2) a2 ⟨by omega, by omega⟩
        · refine h2 (Pr_le (n := d + 1) (Or.inr ⟨k, hk, ?_⟩) (by omega))
          unfold PrN at a3
          rw [hX', hY', show (X : Int) - oX a b k - 60 = (X : Int) - 60 - oX a b k by omega, show (Y : Int) - oY a b k - 60 = (Y : Int) - 60 - oY a b k by omega] at a3
          exact a3
      · exact absurd hr' a2
      · exact absurd hr' a2
/-- all ways from one place -/
theorem p_pacesFrom {B : zM} {a b n X0 Y0 : Nat} {Pc : Nat → Nat → Nat → Prop} (ha : a ≤ 5) (hb : b ≤ 5) (hn : n ≤ 11) (hX0 : X0 ≤ 120) (hY0 : Y0 ≤ 120) (h : DLv a b B n Pc) (hat : B 275 (121 * Y0 + X0) = J n) :
    Wp (f_X11_pacesFrom (J X0) (J Y0) (J a) (J b) (J (n + 1 : Nat)) B) (fun B' => DLv a b B' n (fun X' Y' k => Pc X' Y' k ∨ (X' = X0 ∧ Y' = Y0)) ∧ (∀ X Y, X ≤ 120 → Y ≤ 120 → (B' 275 (121 * Y + X) = J n ↔ B 275 (121 * Y + X) = J n)) ∧ ∀ j, j ≠ 275 → B' j = B j) := by
  have hP0 := ((DL_at h (by omega) hX0 hY0).1 hat).1
  have bd := Pr_b (m := 5) (by omega) (by omega) (by omega) n _ _ hP0
  unfold f_X11_pacesFrom j_X11_pacesFrom_107
  refine wp_bind ?_
  refine wp_mono (P := fun B' => DLv a b B' n (fun X' Y' k => Pc X' Y' k ∨ (X' = X0 ∧ Y' = Y0)) ∧ (∀ X Y, X ≤ 120 → Y ≤ 120 → (B' 275 (121 * Y + X) = J n ↔ B 275 (121 * Y + X) = J n)) ∧ ∀ j, j ≠ 275 → B' j = B j) ?_ (fun B' h => wp_some h)
  refine loop_up (fun w s => s.1 = J w ∧ DLv a b s.2 n (fun X' Y' k => Pc X' Y' k ∨ (X' = X0 ∧ Y' = Y0 ∧ k < w)) ∧ (∀ X Y, X ≤ 120 → Y ≤ 120 → (s.2 275 (121 * Y + X) = J n ↔ B 275 (121 * Y + X) = J n)) ∧ ∀ j, j ≠ 275 → s.2 j = B j) 8 ⟨rfl, DL_weak h (fun X' Y' k _ _ hp _ => by rcases hp with hp | hp; exact hp; omega), fun _ _ _ _ => Iff.rfl, fun _ _ => rfl⟩ ?_ ?_
  · rintro w ⟨s1, B1⟩ hw ⟨e1, e2, e3, e4⟩
    simp only at e1 e2 e3 e4
    subst e1
    have ob := oXY_le (a := a) (b := b) (k := w) (m := 5) (by omega) (by omega)
    obtain ⟨X, hX⟩ : ∃ X : Nat, (X : Int) = (X0 : Int) + oX a b w := ⟨((X0 : Int) + oX a b w).toNat, by omega⟩
    obtain ⟨Y, hY⟩ : ∃ Y : Nat, (Y : Int) = (Y0 : Int) + oY a b w := ⟨((Y0 : Int) + oY a b w).toNat, by omega⟩
    have i1 : irem (J (w : Int)) (J 2) = J ((w % 2 : Nat) : Int) := by rw [J_rem (by omega) (by omega) (by omega) (by omega)]; rfl
    have i2 : irem (J (w : Int)) (J 4) = J ((w % 4 : Nat) : Int) := by rw [J_rem (by omega) (by omega) (by omega) (by omega)]; rfl
    have beg : b_X11_pacesFrom_3 (J X0) (J Y0) (J a) (J b) (J (n + 1 : Nat)) (J w) B1 = j_X11_pacesFrom_76_3 (J X0) (J Y0) (J a) (J b) (J (n + 1 : Nat)) (J w) (J (121 * ((Y0 : Int) + oY a b w) + X0)) (J (oX a b w)) B1 := by
      unfold b_X11_pacesFrom_3 j_X11_pacesFrom_22_3 j_X11_pacesFrom_36_3 j_X11_pacesFrom_57_3
      by_cases c1 : w < 4 <;> by_cases c2 : w % 2 = 0 <;> by_cases c3 : w % 4 < 2 <;> (simp (disch := omega) only [↓reduceIte, J_lit, J_neg, Int.cast_ofNat_Int, J_lt_t, J_lt_f, J_le_t, J_le_f, J_eq_t, J_eq_f, within_t, within_f, isIn_t, isIn_f, inRow_t, inRow_f, isCell_t, isCell_f, inb_t, i1, i2, J_add, J_mul]; unfold oX oY; simp only [c1, c2, c3, ↓reduceIte])
    rw [beg]
    have ei : J (121 * ((Y0 : Int) + oY a b w) + X0) + J (oX a b w) = J ((121 * Y + X : Nat) : Int) := by rw [J_add]; exact congrArg J (by omega)
    have hpr : ∀ X' Y' k, (Pc X' Y' k ∨ (X' = X0 ∧ Y' = Y0 ∧ k < w + 1)) → (Pc X' Y' k ∨ (X' = X0 ∧ Y' = Y0 ∧ k < w)) ∨ (X' = X0 ∧ Y' = Y0 ∧ k = w) := by
      rintro X' Y' k (q | ⟨q1, q2, q3⟩)
      · exact Or.inl (Or.inl q)
      · by_cases d : k = w
        · exact Or.inr ⟨q1, q2, d⟩
        · exact Or.inl (Or.inr ⟨q1, q2, by omega⟩)
    have hXl : X ≤ 120 := by omega
    have hYl : Y ≤ 120 := by omega
    unfold j_X11_pacesFrom_76_3 j_X11_pacesFrom_101_3
    by_cases c9 : B1 275 (121 * Y + X) = J 9999
    · simp (disch := omega) only [↓nm_s, ↓grd_s, ↓reduceIte, J_lit, Int.cast_ofNat_Int, J_lt_t, J_lt_f, J_le_t, J_le_f, J_eq_t, J_eq_f, within_t, within_f, isIn_t, isIn_f, inRow_t, inRow_f, isCell_t, isCell_f, inb_t, ix_Jn, ix_J, Int.reduceToNat, Int.toNat_natCast, ei, c9]
      refine wp_some ⟨J_s _, fun X1 Y1 hX1 hY1 => ?_, fun X1 Y1 hX1 hY1 => ?_, fun j hj => by simp (disch := omega) only [mset_ne, mset_eq, mrow_ne, mrow_eq, upd_eq, upd_ne]; exact e4 j hj⟩
      · by_cases e : X1 = X ∧ Y1 = Y
        · obtain ⟨ex, ey⟩ := e
          subst ex ey
          rcases e2 X1 Y1 hX1 hY1 with ⟨d, _, a2, _⟩ | ⟨a2, _⟩ | ⟨_, a2, a3⟩
          · rw [c9, J_eq (by omega) (by omega) (by omega) (by omega)] at a2; omega
          · rw [c9, J_eq (by omega) (by omega) (by omega) (by omega)] at a2; omega
          · refine Or.inr (Or.inl ⟨by simp only; simp (disch := omega) only [mset_ne, mset_eq, mrow_ne, mrow_eq, upd_eq, upd_ne], a2, Or.inr ⟨w, hw, ?_⟩⟩)
            unfold PrN at hP0
            rw [hX, hY, show (X0 : Int) + oX a b w - 60 - oX a b w = (X0 : Int) - 60 by omega, show (Y0 : Int) + oY a b w - 60 - oY a b w = (Y0 : Int) - 60 by omega]
            exact hP0
        · have ne : 121 * Y1 + X1 ≠ 121 * Y + X := by omega
          have em : mset B1 275 (121 * Y + X) (J (n + 1 : Nat)) 275 (121 * Y1 + X1) = B1 275 (121 * Y1 + X1) := by simp (disch := omega) only [mset_ne, mset_eq, mrow_ne, mrow_eq, upd_eq, upd_ne]
          simp only
          rw [em]
          rcases e2 X1 Y1 hX1 hY1 with a1 | a1 | ⟨a1, a2, a3⟩
          · exact Or.inl a1
          · exact Or.inr (Or.inl a1)
          · refine Or.inr (Or.inr ⟨a1, a2, fun X' Y' k hX' hY' hk hpc hB => ?_⟩)
            have ne2 : 121 * Y' + X' ≠ 121 * Y + X := by
              intro q
              rw [q] at hB
              have : mset B1 275 (121 * Y + X) (J (n + 1 : Nat)) 275 (121 * Y + X) = J (n + 1 : Nat) := by simp (disch := omega) only [mset_ne, mset_eq, mrow_ne, mrow_eq, upd_eq, upd_ne]
              rw [this, J_eq (by omega) (by omega) (by omega) (by omega)] at hB
              omega
            have em2 : mset B1 275 (121 * Y + X) (J (n + 1 : Nat)) 275 (121 * Y' + X') = B1 275 (121 * Y' + X') := by simp (disch := omega) only [mset_ne, mset_eq, mrow_ne, mrow_eq, upd_eq, upd_ne]
            rw [em2] at hB
            rcases hpr X' Y' k hpc with q | ⟨q1, q2, q3⟩
            · exact a3 X' Y' k hX' hY' hk q hB
            · subst q1 q2 q3
              rintro ⟨z1, z2⟩
              exact e ⟨by omega, by omega⟩
      · simp only
        by_cases e : 121 * Y1 + X1 = 121 * Y + X
        · have ex : X1 = X := by omega
          have ey : Y1 = Y := by omega
          subst ex ey
          simp (disch := omega) only [mset_ne, mset_eq, mrow_ne, mrow_eq, upd_eq, upd_ne]
          constructor
          · intro q
            rw [J_eq (by omega) (by omega) (by omega) (by omega)] at q
            omega
          · intro q
            have := (e3 X1 Y1 hX1 hY1).2 q
            rw [c9, J_eq (by omega) (by omega) (by omega) (by omega)] at this
            omega
        · simp (disch := omega) only [mset_ne, mset_eq, mrow_ne, mrow_eq, upd_eq, upd_ne]
          exact e3 X1 Y1 hX1 hY1
    · simp (disch := omega) only [↓nm_s, ↓grd_s, ↓reduceIte, J_lit, Int.cast_ofNat_Int, J_lt_t, J_lt_f, J_le_t, J_le_f, J_eq_t, J_eq_f, within_t, within_f, isIn_t, isIn_f, inRow_t, inRow_f, isCell_t, isCell_f, inb_t, ix_Jn, ix_J, Int.reduceToNat, Int.toNat_natCast, ei, c9]
      refine wp_some ⟨J_s _, fun X1 Y1 hX1 hY1 => ?_, e3, e4⟩
      rcases e2 X1 Y1 hX1 hY1 with a1 | a1 | ⟨a1, a2, a3⟩
      · exact Or.inl a1
      · exact Or.inr (Or.inl a1)
      · refine Or.inr (Or.inr ⟨a1, a2, fun X' Y' k hX' hY' hk hpc hB => ?_⟩)
        rcases hpr X' Y' k hpc with q | ⟨q1, q2, q3⟩
        · exact a3 X' Y' k hX' hY' hk q hB
        · subst q1 q2 q3
          rintro ⟨z1, z2⟩
          have ex : X1 = X := by omega
          have ey : Y1 = Y := by omega
          subst ex ey
          exact c9 a1
  · rintro ⟨s1, B1⟩ ⟨e1, e2, e3, e4⟩
    simp only at e1 e2 e3 e4
    subst e1
    unfold b_X11_pacesFrom_3
    simp (disch := omega) only [↓reduceIte, J_lit, Int.cast_ofNat_Int, J_lt_t, J_lt_f, J_le_t, J_le_f, J_eq_t, J_eq_f, within_t, within_f, isIn_t, isIn_f, inRow_t, inRow_f, isCell_t, isCell_f, inb_t]
    refine wp_some ⟨fun X Y hX hY => ?_, e3, e4⟩
    rcases e2 X Y hX hY with a1 | a1 | ⟨a1, a2, a3⟩
    · exact Or.inl a1
    · exact Or.inr (Or.inl a1)
    · refine Or.inr (Or.inr ⟨a1, a2, fun X' Y' k hX' hY' hk hpc => a3 X' Y' k hX' hY' hk ?_⟩)
      rcases hpc with q | ⟨q1, q2⟩
      · exact Or.inl q
      · exact Or.inr ⟨q1, q2, hk⟩
/-- a level -/
theorem p_dlevel {B : zM} {a b n r to : Nat} (ha : a ≤ 5) (hb : b ≤ 5) (hn : n ≤ 11) (hr : r ≤ 55) (hbox : ∀ x y, Pr a b n x y → -(r : Int) ≤ x ∧ x ≤ r ∧ -(r : Int) ≤ y ∧ y ≤ r) (h : DLv a b B n (fun _ _ _ => False)) :
    Wp (loopW (fun s => b_X11_duel_137_110 (J a) (J b) (J to) (J r) (J n) s.1 s.2) (J ((60 - r : Nat) : Int), B)) (fun B' => DLv a b B' (n + 1) (fun _ _ _ => False) ∧ (∀ X Y, X ≤ 120 → Y ≤ 120 → ¬ B' 275 (121 * Y + X) = J (n + 1 + 1 : Nat)) ∧ ∀ j, j ≠ 275 → B' j = B j) := by
  refine wp_mono (P := fun B' => DLv a b B' n (fun _ Y' _ => Y' < 60 + r + 1) ∧ ∀ j, j ≠ 275 → B' j = B j) ?_ ?_
  · refine loop_fr (fun Yc s => s.1 = J Yc ∧ DLv a b s.2 n (fun _ Y' _ => Y' < Yc) ∧ ∀ j, j ≠ 275 → s.2 j = B j) (60 - r) (60 + r + 1) (by omega) ⟨rfl, DL_weak h (fun X' Y' k hX' hY' hp hB => ?_), fun _ _ => rfl⟩ ?_ ?_
    · have := hbox _ _ ((DL_at h (by omega) hX' hY').1 hB).1
      omega
    · rintro Yc ⟨s1, B1⟩ hy1 hy2 ⟨e1, e2, e3⟩
      simp only at e1 e2 e3
      subst e1
      have i1 : J 60 + J (r : Int) = J ((60 + r : Nat) : Int) := by rw [J_add]; rfl
      have i2 : J 60 - J (r : Int) = J ((60 - r : Nat) : Int) := by rw [J_sub]; exact congrArg J (by omega)
      unfold b_X11_duel_137_110 j_X11_duel_204_110_137
      simp (disch := omega) only [↓nm_s, ↓reduceIte, J_lit, Int.cast_ofNat_Int, J_lt_t, J_lt_f, J_le_t, J_le_f, J_eq_t, J_eq_f, within_t, within_f, isIn_t, isIn_f, inRow_t, inRow_f, isCell_t, isCell_f, inb_t, i1, i2]
      refine wp_bind ?_
      refine wp_mono (P := fun B' => DLv a b B' n (fun X' Y' _ => Y' < Yc ∨ (Y' = Yc ∧ X' < 60 + r + 1)) ∧ ∀ j, j ≠ 275 → B' j = B1 j) ?_ ?_
      · refine loop_fr (fun Xc s => s.1 = J Xc ∧ DLv a b s.2 n (fun X' Y' _ => Y' < Yc ∨ (Y' = Yc ∧ X' < Xc)) ∧ ∀ j, j ≠ 275 → s.2 j = B1 j) (60 - r) (60 + r + 1) (by omega) ⟨rfl, DL_weak e2 (fun X' Y' k hX' hY' hp hB => ?_), fun _ _ => rfl⟩ ?_ ?_
        · have := hbox _ _ ((DL_at e2 (by omega) hX' hY').1 hB).1
          omega
        · rintro Xc ⟨s1, B2⟩ hx1 hx2 ⟨g1, g2, g3⟩
          simp only at g1 g2 g3
          subst g1
          have i3 : J 121 * J (Yc : Int) + J (Xc : Int) = J ((121 * Yc + Xc : Nat) : Int) := by rw [J_mul, J_add]; rfl
          unfold b_X11_duel_154_110_137 j_X11_duel_198_110_137_154
          by_cases c : B2 275 (121 * Yc + Xc) = J n
          · simp (disch := omega) only [↓nm_s, ↓grd_s, ↓reduceIte, J_lit, Int.cast_ofNat_Int, J_lt_t, J_lt_f, J_le_t, J_le_f, J_eq_t, J_eq_f, within_t, within_f, isIn_t, isIn_f, inRow_t, inRow_f, isCell_t, isCell_f, inb_t, ix_Jn, ix_J, Int.reduceToNat, Int.toNat_natCast, i1, i3, c]
            rw [J_s n]
            refine wp_bind (wp_mono (p_pacesFrom ha hb hn (by omega) (by omega) g2 c) ?_)
            rintro B3 ⟨d1, d2, d3⟩
            refine wp_some ⟨J_s _, DL_weak d1 (fun X' Y' k _ _ hp _ => ?_), fun j hj => (d3 j hj).trans (g3 j hj)⟩
            by_cases e : X' = Xc ∧ Y' = Yc
            · exact Or.inr e
            · exact Or.inl (by omega)
          · simp (disch := omega) only [↓nm_s, ↓grd_s, ↓reduceIte, J_lit, Int.cast_ofNat_Int, J_lt_t, J_lt_f, J_le_t, J_le_f, J_eq_t, J_eq_f, within_t, within_f, isIn_t, isIn_f, inRow_t, inRow_f, isCell_t, isCell_f, inb_t, ix_Jn, ix_J, Int.reduceToNat, Int.toNat_natCast, i1, i3, c]
            refine wp_some ⟨J_s _, DL_weak g2 (fun X' Y' k _ _ hp hB => ?_), g3⟩
            by_cases e : X' = Xc ∧ Y' = Yc
            · obtain ⟨ex, ey⟩ := e
              subst ex ey
              exact absurd hB c
            · omega
        · rintro ⟨s1, B2⟩ ⟨g1, g2, g3⟩
          simp only at g1 g2 g3
          subst g1
          unfold b_X11_duel_154_110_137
          simp (disch := omega) only [↓nm_s, ↓reduceIte, J_lit, Int.cast_ofNat_Int, J_lt_t, J_lt_f, J_le_t, J_le_f, J_eq_t, J_eq_f, within_t, within_f, isIn_t, isIn_f, inRow_t, inRow_f, isCell_t, isCell_f, inb_t, i1]
          exact wp_some ⟨g2, g3⟩
      · rintro B2 ⟨d1, d2⟩
        refine wp_some ⟨J_s _, DL_weak d1 (fun X' Y' k hX' hY' hp hB => ?_), fun j hj => (d2 j hj).trans (e3 j hj)⟩
        have := hbox _ _ ((DL_at d1 (by omega) hX' hY').1 hB).1
        omega
    · rintro ⟨s1, B1⟩ ⟨e1, e2, e3⟩
      simp only at e1 e2 e3
      subst e1
      have i1 : J 60 + J (r : Int) = J ((60 + r : Nat) : Int) := by rw [J_add]; rfl
      unfold b_X11_duel_137_110
      simp (disch := omega) only [↓nm_s, ↓reduceIte, J_lit, Int.cast_ofNat_Int, J_lt_t, J_lt_f, J_le_t, J_le_f, J_eq_t, J_eq_f, within_t, within_f, isIn_t, isIn_f, inRow_t, inRow_f, isCell_t, isCell_f, inb_t, i1]
      exact wp_some ⟨e2, e3⟩
  · rintro B1 ⟨d1, d2⟩
    refine ⟨DL_next ha hb d1 hn (fun X' Y' k hX' hY' hk hB => ?_), fun X Y hX hY q => ?_, d2⟩
    · have := hbox _ _ ((DL_at d1 (by omega) hX' hY').1 hB).1
      omega
    · rcases d1 X Y hX hY with ⟨d, a1, a2, _⟩ | ⟨a2, _⟩ | ⟨a2, _⟩
      · rw [q, J_eq (by omega) (by omega) (by omega) (by omega)] at a2; omega
      · rw [q, J_eq (by omega) (by omega) (by omega) (by omega)] at a2; omega
      · rw [q, J_eq (by omega) (by omega) (by omega) (by omega)] at a2; omega
