/-! ===== the duel: the call ===== -/
theorem p_duelN {N : zM} {a b : Nat} {tx ty : Int} (ha : a ≤ 5) (hb : b ≤ 5) (ht1 : -20 ≤ tx) (ht2 : tx ≤ 20) (ht3 : -20 ≤ ty) (ht4 : ty ≤ 20) (to : Nat) (hto : (to : Int) = 121 * (60 + ty) + 60 + tx) :
    Wp ((loopW (fun s => b_X11_duel_71 (J a) (J b) (J to) s.1 s.2) (J 0, N)).bind (fun r => j_X11_duel_95 (J a) (J b) (J to) r)) (fun q => DuS a b tx ty q.1 ∧ ∀ j, j ≠ 275 → q.2 j = N j) := by
  obtain ⟨X, hX⟩ : ∃ X : Nat, (X : Int) = tx + 60 := ⟨(tx + 60).toNat, by omega⟩
  obtain ⟨Y, hY⟩ : ∃ Y : Nat, (Y : Int) = ty + 60 := ⟨(ty + 60).toNat, by omega⟩
  have eto : to = 121 * Y + X := by omega
  have hXY : ∀ n, PrN a b n X Y ↔ Pr a b n tx ty := by
    intro n
    unfold PrN
    rw [hX, hY, show tx + 60 - 60 = tx by omega, show ty + 60 - 60 = ty by omega]
  refine wp_bind ?_
  refine wp_mono (P := fun B => (∀ i, i < 14641 → B 275 i = J 9999) ∧ ∀ j, j ≠ 275 → B j = N j) ?_ ?_
  · refine loop_up (fun k s => s.1 = J k ∧ (∀ i, i < k → s.2 275 i = J 9999) ∧ ∀ j, j ≠ 275 → s.2 j = N j) 14641 ⟨rfl, fun _ h => by omega, fun _ _ => rfl⟩ ?_ ?_
    · rintro k ⟨s1, B⟩ hk ⟨e1, e2, e3⟩
      simp only at e1 e2 e3
      subst e1
      unfold b_X11_duel_71
      simp (disch := omega) only [↓nm_s, ↓grd_s, ↓reduceIte, J_lit, Int.cast_ofNat_Int, J_lt_t, J_lt_f, J_le_t, J_le_f, J_eq_t, J_eq_f, within_t, within_f, isIn_t, isIn_f, inRow_t, inRow_f, isCell_t, isCell_f, inb_t, ix_Jn, ix_J, Int.reduceToNat, Int.toNat_natCast]
      refine wp_some ⟨J_s _, fun x hx => ?_, fun j hj => by simp (disch := omega) only [mset_ne, mset_eq, mrow_ne, mrow_eq, upd_eq, upd_ne]; exact e3 j hj⟩
      by_cases e : x = k
      · subst e; simp (disch := omega) only [mset_ne, mset_eq, mrow_ne, mrow_eq, upd_eq, upd_ne]
      · simp (disch := omega) only [mset_ne, mset_eq, mrow_ne, mrow_eq, upd_eq, upd_ne]
        exact e2 x (by omega)
    · rintro ⟨s1, B⟩ ⟨e1, e2, e3⟩
      simp only at e1 e2 e3
      subst e1
      unfold b_X11_duel_71
      simp (disch := omega) only [↓reduceIte, J_lit, Int.cast_ofNat_Int, J_lt_t, J_lt_f, J_le_t, J_le_f, J_eq_t, J_eq_f, within_t, within_f, isIn_t, isIn_f, inRow_t, inRow_f, isCell_t, isCell_f, inb_t]
      exact wp_some ⟨e2, e3⟩
  · rintro B0 ⟨b1, b2⟩
    have d0 : DLv a b (mset B0 275 7320 (J 0)) 0 (fun _ _ _ => False) := by
      intro X1 Y1 hX1 hY1
      by_cases e : 121 * Y1 + X1 = 7320
      · refine Or.inl ⟨0, Nat.le_refl _, ?_, ⟨by omega, by omega⟩, fun m hm => by omega⟩
        rw [e]
        simp (disch := omega) only [mset_ne, mset_eq, mrow_ne, mrow_eq, upd_eq, upd_ne]
        rfl
      · refine Or.inr (Or.inr ⟨?_, fun h => ?_, fun _ _ _ _ _ _ q => q.elim⟩)
        · simp (disch := omega) only [mset_ne, mset_eq, mrow_ne, mrow_eq, upd_eq, upd_ne]
          exact b1 _ (by omega)
        · have h' : (X1 : Int) - 60 = 0 ∧ (Y1 : Int) - 60 = 0 := h
          omega
    have d0' : ∀ X Y, X ≤ 120 → Y ≤ 120 → ¬ mset B0 275 7320 (J 0) 275 (121 * Y + X) = J ((0 + 1 : Nat) : Int) := by
      intro X1 Y1 hX1 hY1 q
      by_cases e : 121 * Y1 + X1 = 7320
      · rw [e] at q
        have : mset B0 275 7320 (J 0) 275 7320 = J 0 := by simp (disch := omega) only [mset_ne, mset_eq, mrow_ne, mrow_eq, upd_eq, upd_ne]
        rw [this, J_eq (by omega) (by omega) (by omega) (by omega)] at q
        omega
      · have : mset B0 275 7320 (J 0) 275 (121 * Y1 + X1) = J 9999 := by
          simp (disch := omega) only [mset_ne, mset_eq, mrow_ne, mrow_eq, upd_eq, upd_ne]
          exact b1 _ (by omega)
        rw [this, J_eq (by omega) (by omega) (by omega) (by omega)] at q
        omega
    obtain ⟨mx, hmx, hmx5, hmxa, hmxb⟩ : ∃ mx : Nat, mx = (if a ≤ b then b else a) ∧ mx ≤ 5 ∧ a ≤ mx ∧ b ≤ mx := by
      refine ⟨_, rfl, ?_, ?_, ?_⟩ <;> split <;> omega
    unfold j_X11_duel_95 j_X11_duel_235
    simp (disch := omega) only [↓nm_s, J_lit, Int.cast_ofNat_Int, ix_Jn, ix_J, Int.reduceToNat, Int.toNat_natCast]
    refine wp_bind ?_
    refine wp_mono (P := fun B => (∃ n : Nat, n ≤ 12 ∧ DLv a b B n (fun _ _ _ => False) ∧ (∀ X Y, X ≤ 120 → Y ≤ 120 → ¬ B 275 (121 * Y + X) = J (n + 1 : Nat)) ∧ (n = 12 ∨ ¬ B 275 to = J 9999)) ∧ ∀ j, j ≠ 275 → B j = N j) ?_ ?_
    · refine loop_up (fun n s => s.1 = J ((mx * n : Nat) : Int) ∧ s.2.1 = J n ∧ DLv a b s.2.2 n (fun _ _ _ => False) ∧ (∀ X Y, X ≤ 120 → Y ≤ 120 → ¬ s.2.2 275 (121 * Y + X) = J (n + 1 : Nat)) ∧ ∀ j, j ≠ 275 → s.2.2 j = N j) 12 ⟨by simp, rfl, d0, d0', fun j hj => by simp (disch := omega) only [mset_ne, mset_eq, mrow_ne, mrow_eq, upd_eq, upd_ne]; exact b2 j hj⟩ ?_ ?_
      · rintro n ⟨s1, s2, B⟩ hn ⟨e1, e2, e3, e6, e4⟩
        simp only at e1 e2 e3 e4 e6
        subst e1 e2
        have hr : mx * n ≤ 55 := by
          have : mx * n ≤ 5 * 11 := Nat.mul_le_mul hmx5 (by omega)
          omega
        have hbox : ∀ x y, Pr a b n x y → -((mx * n : Nat) : Int) ≤ x ∧ x ≤ (mx * n : Nat) ∧ -((mx * n : Nat) : Int) ≤ y ∧ y ≤ (mx * n : Nat) := by
          intro x y h
          have := Pr_b (m := (mx : Int)) (by omega) (by omega) (by omega) n x y h
          rw [Int.natCast_mul]
          exact this
        have es : mx * (n + 1) = mx * n + mx := Nat.mul_succ _ _
        generalize hrr : mx * n = r at *
        unfold b_X11_duel_110 j_X11_duel_210_110 j_X11_duel_226_110
        by_cases c9 : B 275 to = J 9999
        · have i2 : J 60 - J (r : Int) = J ((60 - r : Nat) : Int) := by rw [J_sub]; exact congrArg J (by omega)
          simp (disch := omega) only [↓nm_s, ↓grd_s, ↓reduceIte, J_lit, Int.cast_ofNat_Int, J_lt_t, J_lt_f, J_le_t, J_le_f, J_eq_t, J_eq_f, within_t, within_f, isIn_t, isIn_f, inRow_t, inRow_f, isCell_t, isCell_f, inb_t, ix_Jn, ix_J, Int.reduceToNat, Int.toNat_natCast, c9, i2]
          refine wp_bind (wp_mono (p_dlevel ha hb (by omega) hr hbox e3) ?_)
          rintro B1 ⟨g1, g3, g2⟩
          by_cases cm : a ≤ b
          · rw [if_pos cm] at hmx
            simp (disch := omega) only [↓nm_s, ↓reduceIte, J_lt_t, J_lt_f, J_le_t, J_le_f, J_eq_t, J_eq_f, within_t, within_f, isIn_t, isIn_f, inRow_t, inRow_f, isCell_t, isCell_f, inb_t]
            refine wp_some ⟨?_, J_s _, g1, g3, fun j hj => (g2 j hj).trans (e4 j hj)⟩
            simp only
            rw [J_add, es]
            exact congrArg J (by omega)
          · rw [if_neg cm] at hmx
            simp (disch := omega) only [↓nm_s, ↓reduceIte, J_lt_t, J_lt_f, J_le_t, J_le_f, J_eq_t, J_eq_f, within_t, within_f, isIn_t, isIn_f, inRow_t, inRow_f, isCell_t, isCell_f, inb_t]
            refine wp_some ⟨?_, J_s _, g1, g3, fun j hj => (g2 j hj).trans (e4 j hj)⟩
            simp only
            rw [J_add, es]
            exact congrArg J (by omega)
        · simp (disch := omega) only [↓nm_s, ↓grd_s, ↓reduceIte, J_lit, Int.cast_ofNat_Int, J_lt_t, J_lt_f, J_le_t, J_le_f, J_eq_t, J_eq_f, within_t, within_f, isIn_t, isIn_f, inRow_t, inRow_f, isCell_t, isCell_f, inb_t, ix_Jn, ix_J, Int.reduceToNat, Int.toNat_natCast, c9]
          exact wp_some ⟨⟨n, by omega, e3, e6, Or.inr c9⟩, e4⟩
      · rintro ⟨s1, s2, B⟩ ⟨e1, e2, e3, e6, e4⟩
        simp only at e1 e2 e3 e4 e6
        subst e1 e2
        unfold b_X11_duel_110
        simp (disch := omega) only [↓reduceIte, J_lit, Int.cast_ofNat_Int, J_lt_t, J_lt_f, J_le_t, J_le_f, J_eq_t, J_eq_f, within_t, within_f, isIn_t, isIn_f, inRow_t, inRow_f, isCell_t, isCell_f, inb_t]
        exact wp_some ⟨⟨12, by omega, e3, e6, Or.inl rfl⟩, e4⟩
    · rintro B ⟨⟨n, hn, e3, e6, e5⟩, e4⟩
      have hd := e3 X Y (by omega) (by omega)
      rw [← eto] at hd
      by_cases c9 : B 275 to = J 9999
      · simp (disch := omega) only [↓nm_s, ↓grd_s, ↓reduceIte, J_lit, J_neg, Int.cast_ofNat_Int, J_lt_t, J_lt_f, J_le_t, J_le_f, J_eq_t, J_eq_f, within_t, within_f, isIn_t, isIn_f, inRow_t, inRow_f, isCell_t, isCell_f, inb_t, ix_Jn, ix_J, Int.reduceToNat, Int.toNat_natCast, c9]
        refine wp_some ⟨Or.inl ⟨rfl, fun m hm hp => ?_⟩, e4⟩
        have en : n = 12 := by
          rcases e5 with e5 | e5
          · exact e5
          · exact absurd c9 e5
        subst en
        rcases hd with ⟨d, h1, h2, _⟩ | ⟨h1, _⟩ | ⟨_, h2, _⟩
        · rw [c9, J_eq (by omega) (by omega) (by omega) (by omega)] at h2; omega
        · rw [c9, J_eq (by omega) (by omega) (by omega) (by omega)] at h1; omega
        · exact h2 ((hXY 12).2 (Pr_le hp hm))
      · simp (disch := omega) only [↓nm_s, ↓grd_s, ↓reduceIte, J_lit, J_neg, Int.cast_ofNat_Int, J_lt_t, J_lt_f, J_le_t, J_le_f, J_eq_t, J_eq_f, within_t, within_f, isIn_t, isIn_f, inRow_t, inRow_f, isCell_t, isCell_f, inb_t, ix_Jn, ix_J, Int.reduceToNat, Int.toNat_natCast, c9]
        rcases hd with ⟨d, h1, h2, h3, h4⟩ | ⟨h1, h2, h3⟩ | ⟨h1, _⟩
        · exact wp_some ⟨Or.inr ⟨d, by omega, h2, (hXY d).1 h3, fun m hm hp => h4 m hm ((hXY m).2 hp)⟩, e4⟩
        · rw [eto] at h1
          exact absurd h1 (e6 X Y (by omega) (by omega))
        · exact absurd h1 c9
theorem c_duel (p0 p1 p2 : Int32) : Cl2 (f_X10_duel p0 p1 p2) (f_X11_duel p0 p1 p2) := by
  intro M N hI
  obtain ⟨z, rfl, l1, l2⟩ := J_ex p0
  obtain ⟨tx, rfl, l3, l4⟩ := J_ex p1
  obtain ⟨ty, rfl, l5, l6⟩ := J_ex p2
  unfold f_X10_duel f_X11_duel
  by_cases c1 : 1 ≤ z ∧ z ≤ 55
  · obtain ⟨n, rfl⟩ : ∃ n : Nat, z = n := ⟨z.toNat, by omega⟩
    have i1 : J (n : Int) / J 10 = J ((n / 10 : Nat) : Int) := by rw [J_div (by omega) (by omega) (by omega) (by omega)]; rfl
    have i2 : irem (J (n : Int)) (J 10) = J ((n % 10 : Nat) : Int) := by rw [J_rem (by omega) (by omega) (by omega) (by omega)]; rfl
    have mx := t_max2 (a := tx) (b := ty) l3 l4 l5 l6
    have mi := t_min2 (a := tx) (b := ty) l3 l4 l5 l6
    by_cases c2 : n % 10 ≤ 5
    · by_cases c3 : -20 ≤ tx ∧ tx ≤ 20
      · by_cases c4 : -20 ≤ ty ∧ ty ≤ 20
        · obtain ⟨to, hto⟩ : ∃ to : Nat, (to : Int) = 121 * (60 + ty) + 60 + tx := ⟨(121 * (60 + ty) + 60 + tx).toNat, by omega⟩
          have i3 : J 121 * (J 60 + J ty) + J 60 + J tx = J (to : Int) := by rw [J_add, J_mul, J_add, J_add, hto]
          obtain ⟨⟨v, A⟩, a1, a2, a3⟩ := p_paces (M := M) (a := n / 10) (b := n % 10) (by omega) c2 c3.1 c3.2 c4.1 c4.2
          obtain ⟨⟨v', B⟩, b1, b2, b3⟩ := p_duelN (N := N) (a := n / 10) (b := n % 10) (by omega) c2 c3.1 c3.2 c4.1 c4.2 to hto
          simp only at a2 a3 b2 b3
          have := DuS_u b2 a2
          subst this
          simp (disch := omega) only [↓nm_s, ↓reduceIte, J_lit, J_neg, Int.cast_ofNat_Int, J_lt_t, J_lt_f, J_le_t, J_le_f, J_eq_t, J_eq_f, within_t, within_f, isIn_t, isIn_f, inRow_t, inRow_f, isCell_t, isCell_f, inb_t, bind_s, bnd2_s, i1, i2, i3, mx, mi, a1, b1]
          exact ⟨_, _, _, rfl, rfl, IC_scN (fun j _ _ _ _ => b3 j (by omega)) (fun i _ => by rw [b3 257 (by decide)]) (IC_scM (fun j _ h => a3 j (by unfold scC at h; omega) (by unfold scC at h; omega)) (fun i _ => by rw [a3 70 (by decide) (by decide)]) (fun i _ => by rw [a3 78 (by decide) (by decide)]) (by rw [a3 83 (by decide) (by decide)]) (by rw [a3 95 (by decide) (by decide)]) hI)⟩
        · by_cases c5 : 20 < max tx ty
          · simp (disch := omega) only [↓nm_s, ↓reduceIte, J_lit, J_neg, Int.cast_ofNat_Int, J_lt_t, J_lt_f, J_le_t, J_le_f, J_eq_t, J_eq_f, within_t, within_f, isIn_t, isIn_f, inRow_t, inRow_f, isCell_t, isCell_f, inb_t, i1, i2, mx, mi]
            exact ⟨_, _, _, rfl, rfl, hI⟩
          · simp (disch := omega) only [↓nm_s, ↓reduceIte, J_lit, J_neg, Int.cast_ofNat_Int, J_lt_t, J_lt_f, J_le_t, J_le_f, J_eq_t, J_eq_f, within_t, within_f, isIn_t, isIn_f, inRow_t, inRow_f, isCell_t, isCell_f, inb_t, i1, i2, mx, mi]
            exact ⟨_, _, _, rfl, rfl, hI⟩
      · by_cases c5 : 20 < max tx ty
        · simp (disch := omega) only [↓nm_s, ↓reduceIte, J_lit, J_neg, Int.cast_ofNat_Int, J_lt_t, J_lt_f, J_le_t, J_le_f, J_eq_t, J_eq_f, within_t, within_f, isIn_t, isIn_f, inRow_t, inRow_f, isCell_t, isCell_f, inb_t, i1, i2, mx, mi]
          exact ⟨_, _, _, rfl, rfl, hI⟩
        · simp (disch := omega) only [↓nm_s, ↓reduceIte, J_lit, J_neg, Int.cast_ofNat_Int, J_lt_t, J_lt_f, J_le_t, J_le_f, J_eq_t, J_eq_f, within_t, within_f, isIn_t, isIn_f, inRow_t, inRow_f, isCell_t, isCell_f, inb_t, i1, i2, mx, mi]
          exact ⟨_, _, _, rfl, rfl, hI⟩
    · simp (disch := omega) only [↓nm_s, ↓reduceIte, J_lit, J_neg, Int.cast_ofNat_Int, J_lt_t, J_lt_f, J_le_t, J_le_f, J_eq_t, J_eq_f, within_t, within_f, isIn_t, isIn_f, inRow_t, inRow_f, isCell_t, isCell_f, inb_t, i1, i2]
      exact ⟨_, _, _, rfl, rfl, hI⟩
  · by_cases c2 : z < 1
    · simp (disch := omega) only [↓nm_s, ↓reduceIte, J_lit, J_neg, Int.cast_ofNat_Int, J_lt_t, J_lt_f, J_le_t, J_le_f, J_eq_t, J_eq_f, within_t, within_f, isIn_t, isIn_f, inRow_t, inRow_f, isCell_t, isCell_f, inb_t]
      exact ⟨_, _, _, rfl, rfl, hI⟩
    · obtain ⟨n, rfl⟩ : ∃ n : Nat, z = n := ⟨z.toNat, by omega⟩
      have i1 : J (n : Int) / J 10 = J ((n / 10 : Nat) : Int) := by rw [J_div (by omega) (by omega) (by omega) (by omega)]; rfl
      have i2 : irem (J (n : Int)) (J 10) = J ((n % 10 : Nat) : Int) := by rw [J_rem (by omega) (by omega) (by omega) (by omega)]; rfl
      by_cases c3 : n / 10 ≤ 5
      · simp (disch := omega) only [↓nm_s, ↓reduceIte, J_lit, J_neg, Int.cast_ofNat_Int, J_lt_t, J_lt_f, J_le_t, J_le_f, J_eq_t, J_eq_f, within_t, within_f, isIn_t, isIn_f, inRow_t, inRow_f, isCell_t, isCell_f, inb_t, i1, i2]
        exact ⟨_, _, _, rfl, rfl, hI⟩
      · simp (disch := omega) only [↓nm_s, ↓reduceIte, J_lit, J_neg, Int.cast_ofNat_Int, J_lt_t, J_lt_f, J_le_t, J_le_f, J_eq_t, J_eq_f, within_t, within_f, isIn_t, isIn_f, inRow_t, inRow_f, isCell_t, isCell_f, inb_t, i1, i2]
        exact ⟨_, _, _, rfl, rfl, hI⟩
