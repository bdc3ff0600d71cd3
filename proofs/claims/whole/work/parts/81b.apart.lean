/-! ===== apart: the cheapest beside ===== -/
theorem t_min2 {a b : Int} (h1 : -2147483648 ≤ a) (h2 : a < 2147483648) (h3 : -2147483648 ≤ b) (h4 : b < 2147483648) : f_J9_min_7cf53 (J a) (J b) = J (min a b) := by
  unfold f_J9_min_7cf53
  by_cases c : b < a
  · rw [if_pos (by rw [J_lt h3 h4 h1 h2]; exact c)]; exact congrArg J (by omega)
  · rw [if_neg (by rw [J_lt h3 h4 h1 h2]; exact c)]; exact congrArg J (by omega)
theorem t_max2 {a b : Int} (h1 : -2147483648 ≤ a) (h2 : a < 2147483648) (h3 : -2147483648 ≤ b) (h4 : b < 2147483648) : f_J9_max_7cf53 (J a) (J b) = J (max a b) := by
  unfold f_J9_max_7cf53
  by_cases c : a < b
  · rw [if_pos (by rw [J_lt h1 h2 h3 h4]; exact c)]; exact congrArg J (by omega)
  · rw [if_neg (by rw [J_lt h1 h2 h3 h4]; exact c)]; exact congrArg J (by omega)
def e6 (d : Nat) : Nat := if d = 1000 then 1000000 else d
def e9 (d : Nat) : Nat := if d = 1000 then 9999 else d
theorem e6_le {a b : Nat} (ha : a ≤ 12 ∨ a = 1000) (hb : b ≤ 12 ∨ b = 1000) : (e6 a < e6 b ↔ a < b) ∧ e6 a ≤ 1000000 ∧ (e9 a < e9 b ↔ a < b) ∧ e9 a ≤ 9999 := by
  unfold e6 e9
  split <;> split <;> omega
def DR (D : Nat → Nat) : Prop := ∀ p, p < 144 → D p ≤ 12 ∨ D p = 1000
def MnR (D : Nat → Nat) (c m : Nat) (S : Nat → Prop) : Prop := (m ≤ 12 ∨ m = 1000) ∧ (m = 1000 ∨ ∃ p, nb c p ∧ D p = m) ∧ ∀ p, nb c p → S p → m ≤ D p
theorem MnR_s {D : Nat → Nat} {c m p0 : Nat} {S S' : Nat → Prop} (h : MnR D c m S) (hp : nb c p0) (hD : D p0 ≤ 12 ∨ D p0 = 1000) (hS : ∀ p, nb c p → S' p → S p ∨ p = p0) : MnR D c (if D p0 < m then D p0 else m) S' := by
  obtain ⟨h1, h2, h3⟩ := h
  by_cases e : D p0 < m
  · rw [if_pos e]
    refine ⟨hD, Or.inr ⟨p0, hp, rfl⟩, fun p hp' hs => ?_⟩
    rcases hS p hp' hs with q | q
    · have := h3 p hp' q; omega
    · subst q; exact Nat.le_refl _
  · rw [if_neg e]
    refine ⟨h1, h2, fun p hp' hs => ?_⟩
    rcases hS p hp' hs with q | q
    · exact h3 p hp' q
    · subst q; omega
theorem p_cheap {A : zM} {D : Nat → Nat} {c : Nat} (hc : c < 144) (hA : ∀ p, p < 144 → A 88 p = J (e6 (D p))) (hD : DR D) (hl : c % 12 ≠ 0 → D (c - 1) ≤ 12) : Wp (f_X2_cheapestBeside (J c) A) (fun v => ∃ v' : Nat, v = J v' ∧ IsMn D c v' ∧ v' ≤ 12) := by
  have e1 : irem (J (c : Int)) (J 12) = J ((c % 12 : Nat) : Int) := by rw [J_rem (by omega) (by omega) (by omega) (by omega)]; rfl
  have e2 : J (c : Int) / J 12 = J ((c / 12 : Nat) : Int) := by rw [J_div (by omega) (by omega) (by omega) (by omega)]; rfl
  obtain ⟨x, hx⟩ : ∃ x, x = c % 12 := ⟨_, rfl⟩
  obtain ⟨y, hy⟩ : ∃ y, y = c / 12 := ⟨_, rfl⟩
  rw [← hx] at e1
  rw [← hy] at e2
  unfold f_X2_cheapestBeside j_X2_cheapestBeside_92
  by_cases c0 : x = 0
  · simp (disch := omega) only [↓nm_s, ↓reduceIte, J_lit, Int.cast_ofNat_Int, J_lt_t, J_lt_f, J_le_t, J_le_f, J_eq_t, J_eq_f, within_t, within_f, isIn_t, isIn_f, inRow_t, inRow_f, isCell_t, isCell_f, inb_t, e1, e2]
    exact wp_some ⟨0, rfl, Or.inl ⟨by omega, rfl⟩, by omega⟩
  · have hr0 : f_J9_max_7cf53 (J 0) (J (y : Int) - J 1) = J ((y - 1 : Nat) : Int) := by
      rw [J_sub, t_max2 (by omega) (by omega) (by omega) (by omega)]; exact congrArg J (by omega)
    simp (disch := omega) only [↓nm_s, ↓reduceIte, J_lit, Int.cast_ofNat_Int, J_lt_t, J_lt_f, J_le_t, J_le_f, J_eq_t, J_eq_f, within_t, within_f, isIn_t, isIn_f, inRow_t, inRow_f, isCell_t, isCell_f, inb_t, e1, e2, hr0]
    refine wp_bind ?_
    refine wp_mono (P := fun v => ∃ m, v = J (e6 m) ∧ MnR D c m (fun _ => True)) ?_ ?_
    · refine loop_fr (fun r s => s.2 = J r ∧ ∃ m, s.1 = J (e6 m) ∧ MnR D c m (fun p => p / 12 < r)) (y - 1) (min 11 (y + 1) + 1) (by omega) ⟨rfl, 1000, rfl, Or.inr rfl, Or.inl rfl, fun p hp h => by unfold nb at hp; omega⟩ ?_ ?_
      · rintro r ⟨s1, s2⟩ hr1 hr2 ⟨f1, m, f2, f3⟩
        simp only at f1 f2
        subst f1 f2
        have hm1 : f_J9_min_7cf53 (J 11) (J (y : Int) + J 1) = J ((min 11 (y + 1) : Nat) : Int) := by
          rw [J_add, t_min2 (by omega) (by omega) (by omega) (by omega)]; exact congrArg J (by omega)
        have hu0 : J (x : Int) - J 1 = J ((x - 1 : Nat) : Int) := by rw [J_sub]; exact congrArg J (by omega)
        unfold b_X2_cheapestBeside_29 j_X2_cheapestBeside_86_29
        simp (disch := omega) only [↓nm_s, ↓reduceIte, J_lit, Int.cast_ofNat_Int, J_lt_t, J_lt_f, J_le_t, J_le_f, J_eq_t, J_eq_f, within_t, within_f, isIn_t, isIn_f, inRow_t, inRow_f, isCell_t, isCell_f, inb_t, hm1, hu0]
        refine wp_bind ?_
        refine wp_mono (P := fun v => ∃ m, v = J (e6 m) ∧ MnR D c m (fun p => p / 12 < r + 1)) ?_ ?_
        · refine loop_fr (fun u s => s.2 = J u ∧ ∃ m, s.1 = J (e6 m) ∧ MnR D c m (fun p => p / 12 < r ∨ p / 12 = r ∧ p % 12 < u)) (x - 1) (min 11 (x + 1) + 1) (by omega) ⟨rfl, m, rfl, f3.1, f3.2.1, fun p hp h => ?_⟩ ?_ ?_
          · rcases h with h | ⟨h, h'⟩
            · exact f3.2.2 p hp h
            · unfold nb at hp; omega
          · rintro u ⟨s1, s2⟩ hu1 hu2 ⟨g1, m', g2, g3⟩
            simp only at g1 g2
            subst g1 g2
            have hm2 : f_J9_min_7cf53 (J 11) (J (x : Int) + J 1) = J ((min 11 (x + 1) : Nat) : Int) := by
              rw [J_add, t_min2 (by omega) (by omega) (by omega) (by omega)]; exact congrArg J (by omega)
            have hp0 : nb c (12 * r + u) := by unfold nb; omega
            have ei : J 12 * J (r : Int) + J (u : Int) = J ((12 * r + u : Nat) : Int) := by rw [J_mul, J_add]; exact congrArg J (by omega)
            have hd := hD _ hp0.1
            have q := hA _ hp0.1
            have hmm : f_J9_min_7cf53 (J (e6 m')) (J (e6 (D (12 * r + u)))) = J (e6 (if D (12 * r + u) < m' then D (12 * r + u) else m')) := by
              have h6 := e6_le hd g3.1
              have h7 := e6_le g3.1 hd
              rw [t_min2 (by omega) (by omega) (by omega) (by omega)]
              by_cases e : D (12 * r + u) < m'
              · have := h6.1.2 e
                rw [if_pos e]; exact congrArg J (by omega)
              · have : ¬ e6 (D (12 * r + u)) < e6 m' := fun h => e (h6.1.1 h)
                rw [if_neg e]; exact congrArg J (by omega)
            unfold b_X2_cheapestBeside_47_29
            simp (disch := omega) only [↓nm_s, ↓grd_s, ↓reduceIte, J_lit, Int.cast_ofNat_Int, J_lt_t, J_lt_f, J_le_t, J_le_f, J_eq_t, J_eq_f, within_t, within_f, isIn_t, isIn_f, inRow_t, inRow_f, isCell_t, isCell_f, inb_t, ix_Jn, ix_J, Int.reduceToNat, Int.toNat_natCast, hm2, ei, q, hmm]
            refine wp_some ⟨J_s _, _, rfl, MnR_s g3 hp0 hd (fun p hp h => ?_)⟩
            rcases h with h | ⟨h, h'⟩
            · exact Or.inl (Or.inl h)
            · by_cases e : p % 12 < u
              · exact Or.inl (Or.inr ⟨h, e⟩)
              · exact Or.inr (by omega)
          · rintro ⟨s1, s2⟩ ⟨g1, m', g2, g3⟩
            simp only at g1 g2
            subst g1 g2
            have hm2 : f_J9_min_7cf53 (J 11) (J (x : Int) + J 1) = J ((min 11 (x + 1) : Nat) : Int) := by
              rw [J_add, t_min2 (by omega) (by omega) (by omega) (by omega)]; exact congrArg J (by omega)
            unfold b_X2_cheapestBeside_47_29
            simp (disch := omega) only [↓nm_s, ↓grd_s, ↓reduceIte, J_lit, Int.cast_ofNat_Int, J_lt_t, J_lt_f, J_le_t, J_le_f, J_eq_t, J_eq_f, within_t, within_f, isIn_t, isIn_f, inRow_t, inRow_f, isCell_t, isCell_f, inb_t, hm2]
            refine wp_some ⟨m', rfl, g3.1, g3.2.1, fun p hp h => g3.2.2 p hp ?_⟩
            unfold nb at hp
            by_cases e : p / 12 < r
            · exact Or.inl e
            · exact Or.inr ⟨by omega, by omega⟩
        · rintro v ⟨m', rfl, h⟩
          exact wp_some ⟨J_s _, m', rfl, h⟩
      · rintro ⟨s1, s2⟩ ⟨f1, m, f2, f3⟩
        simp only at f1 f2
        subst f1 f2
        have hm1 : f_J9_min_7cf53 (J 11) (J (y : Int) + J 1) = J ((min 11 (y + 1) : Nat) : Int) := by
          rw [J_add, t_min2 (by omega) (by omega) (by omega) (by omega)]; exact congrArg J (by omega)
        unfold b_X2_cheapestBeside_29
        simp (disch := omega) only [↓nm_s, ↓reduceIte, J_lit, Int.cast_ofNat_Int, J_lt_t, J_lt_f, J_le_t, J_le_f, J_eq_t, J_eq_f, within_t, within_f, isIn_t, isIn_f, inRow_t, inRow_f, isCell_t, isCell_f, inb_t, hm1]
        exact wp_some ⟨m, rfl, f3.1, f3.2.1, fun p hp _ => f3.2.2 p hp (by unfold nb at hp; omega)⟩
    · rintro v ⟨m, rfl, h1, h2, h3⟩
      have hle := h3 (c - 1) (by unfold nb; omega) trivial
      have := hl (by omega)
      have hm : m ≤ 12 := by omega
      have e : e6 m = m := by unfold e6; rw [if_neg (by omega)]
      rw [e]
      refine wp_some ⟨m, rfl, Or.inr ⟨by omega, ?_, fun p hp => h3 p hp trivial⟩, hm⟩
      rcases h2 with h2 | h2
      · omega
      · exact h2
theorem p_besid {B : zM} {D : Nat → Nat} {c : Nat} (hc : c < 144) (hB : ∀ p, p < 144 → B 279 p = J (e9 (D p))) (hD : DR D) (hl : c % 12 ≠ 0 → D (c - 1) ≤ 12) : Wp (f_X11_besides (J c) B) (fun v => ∃ v' : Nat, v = J v' ∧ IsMn D c v' ∧ v' ≤ 12) := by
  have e1 : irem (J (c : Int)) (J 12) = J ((c % 12 : Nat) : Int) := by rw [J_rem (by omega) (by omega) (by omega) (by omega)]; rfl
  have e2 : J (c : Int) / J 12 = J ((c / 12 : Nat) : Int) := by rw [J_div (by omega) (by omega) (by omega) (by omega)]; rfl
  obtain ⟨x, hx⟩ : ∃ x, x = c % 12 := ⟨_, rfl⟩
  obtain ⟨y, hy⟩ : ∃ y, y = c / 12 := ⟨_, rfl⟩
  rw [← hx] at e1
  rw [← hy] at e2
  have key : ∀ m0, ((x = 0 ∧ m0 = 0) ∨ (x ≠ 0 ∧ m0 = 1000)) → Wp (loopW (fun s => b_X11_besides_17 (J c) s.1 s.2 B) (J (e9 m0), J 0)) (fun v => ∃ m, v = J (e9 m) ∧ (x = 0 → m = 0) ∧ (x ≠ 0 → MnR D c m (fun _ => True))) := by
    intro m0 hm0
    refine loop_up (fun d s => s.2 = J d ∧ ∃ m, s.1 = J (e9 m) ∧ (m ≤ 12 ∨ m = 1000) ∧ (x = 0 → m = 0) ∧ (x ≠ 0 → MnR D c m (fun p => 3 * (p / 12 + 1) + (p % 12 + 1) < d + 3 * y + x))) 9 ⟨rfl, m0, rfl, by omega, by omega, fun h => ⟨by omega, Or.inl (by omega), fun p hp hs => by unfold nb at hp; omega⟩⟩ ?_ ?_
    · rintro d ⟨s1, s2⟩ hd ⟨f1, m, f2, f5, f3, f4⟩
      simp only at f1 f2
      subst f1 f2
      have e3 : irem (J (d : Int)) (J 3) = J ((d % 3 : Nat) : Int) := by rw [J_rem (by omega) (by omega) (by omega) (by omega)]; rfl
      have e4 : J (d : Int) / J 3 = J ((d / 3 : Nat) : Int) := by rw [J_div (by omega) (by omega) (by omega) (by omega)]; rfl
      unfold b_X11_besides_17 j_X11_besides_86_17
      by_cases ci : 1 ≤ x + d % 3 ∧ x + d % 3 ≤ 12 ∧ 1 ≤ y + d / 3 ∧ y + d / 3 ≤ 12
      · obtain ⟨u, hu⟩ : ∃ u, u + 1 = x + d % 3 := ⟨x + d % 3 - 1, by omega⟩
        obtain ⟨r, hr⟩ : ∃ r, r + 1 = y + d / 3 := ⟨y + d / 3 - 1, by omega⟩
        have e5 : J (x : Int) + J ((d % 3 : Nat) : Int) - J 1 = J (u : Int) := by rw [J_add, J_sub]; exact congrArg J (by omega)
        have e6' : J (y : Int) + J ((d / 3 : Nat) : Int) - J 1 = J (r : Int) := by rw [J_add, J_sub]; exact congrArg J (by omega)
        have hp0 : nb c (12 * r + u) := by unfold nb; omega
        have ep : f_X11_place (J (u : Int)) (J (r : Int)) = J ((12 * r + u : Nat) : Int) := by
          unfold f_X11_place
          simp only [J_lit, Int.cast_ofNat_Int, J_mul, J_add]
          rfl
        have hd' := hD _ hp0.1
        have q := hB _ hp0.1
        have h6 := e6_le hd' f5
        have h7 := e6_le f5 hd'
        by_cases cl : D (12 * r + u) < m
        · have h8 := h6.2.2.1.2 cl
          simp (disch := omega) only [↓nm_s, ↓grd_s, ↓reduceIte, J_lit, Int.cast_ofNat_Int, J_lt_t, J_lt_f, J_le_t, J_le_f, J_eq_t, J_eq_f, within_t, within_f, isIn_t, isIn_f, inRow_t, inRow_f, isCell_t, isCell_f, inb_t, ix_Jn, ix_J, Int.reduceToNat, Int.toNat_natCast, e1, e2, e3, e4, e5, e6', ep, q]
          refine wp_some ⟨J_s _, D (12 * r + u), rfl, hd', fun h => by have := f3 h; omega, fun h => ?_⟩
          have := MnR_s (S' := fun p => 3 * (p / 12 + 1) + (p % 12 + 1) < d + 1 + 3 * y + x) (f4 h) hp0 hd' (fun p hp hs => ?_)
          · rw [if_pos cl] at this
            exact this
          · unfold nb at hp
            by_cases e : 3 * (p / 12 + 1) + (p % 12 + 1) < d + 3 * y + x
            · exact Or.inl e
            · exact Or.inr (by omega)
        · have h8 : ¬ e9 (D (12 * r + u)) < e9 m := fun h => cl (h6.2.2.1.1 h)
          simp (disch := omega) only [↓nm_s, ↓grd_s, ↓reduceIte, J_lit, Int.cast_ofNat_Int, J_lt_t, J_lt_f, J_le_t, J_le_f, J_eq_t, J_eq_f, within_t, within_f, isIn_t, isIn_f, inRow_t, inRow_f, isCell_t, isCell_f, inb_t, ix_Jn, ix_J, Int.reduceToNat, Int.toNat_natCast, e1, e2, e3, e4, e5, e6', ep, q]
          refine wp_some ⟨J_s _, m, rfl, f5, f3, fun h => ?_⟩
          have := MnR_s (S' := fun p => 3 * (p / 12 + 1) + (p % 12 + 1) < d + 1 + 3 * y + x) (f4 h) hp0 hd' (fun p hp hs => ?_)
          · rw [if_neg cl] at this
            exact this
          · unfold nb at hp
            by_cases e : 3 * (p / 12 + 1) + (p % 12 + 1) < d + 3 * y + x
            · exact Or.inl e
            · exact Or.inr (by omega)
      · simp (disch := omega) only [↓nm_s, ↓grd_s, ↓reduceIte, J_lit, J_add, J_sub, Int.cast_ofNat_Int, J_lt_t, J_lt_f, J_le_t, J_le_f, J_eq_t, J_eq_f, within_t, within_f, isIn_t, isIn_f, inRow_t, inRow_f, isCell_t, isCell_f, inb_t, ix_Jn, ix_J, Int.reduceToNat, Int.toNat_natCast, e1, e2, e3, e4]
        refine wp_some ⟨rfl, m, rfl, f5, f3, fun h => ?_⟩
        obtain ⟨g1, g2, g3⟩ := f4 h
        refine ⟨g1, g2, fun p hp hs => g3 p hp ?_⟩
        unfold nb at hp
        omega
    · rintro ⟨s1, s2⟩ ⟨f1, m, f2, f5, f3, f4⟩
      simp only at f1 f2
      subst f1 f2
      unfold b_X11_besides_17
      simp (disch := omega) only [↓nm_s, ↓reduceIte, J_lit, Int.cast_ofNat_Int, J_lt_t, J_lt_f, J_le_t, J_le_f, J_eq_t, J_eq_f, within_t, within_f, isIn_t, isIn_f, inRow_t, inRow_f, isCell_t, isCell_f, inb_t]
      refine wp_some ⟨m, rfl, f3, fun h => ?_⟩
      obtain ⟨g1, g2, g3⟩ := f4 h
      exact ⟨g1, g2, fun p hp _ => g3 p hp (by unfold nb at hp; omega)⟩
  unfold f_X11_besides j_X11_besides_14 j_X11_besides_92
  by_cases c0 : x = 0
  · have k := key 0 (Or.inl ⟨c0, rfl⟩)
    rw [show J ((e9 0 : Nat) : Int) = J 0 from rfl] at k
    simp (disch := omega) only [↓reduceIte, J_lit, Int.cast_ofNat_Int, J_lt_t, J_lt_f, J_le_t, J_le_f, J_eq_t, J_eq_f, within_t, within_f, isIn_t, isIn_f, inRow_t, inRow_f, isCell_t, isCell_f, inb_t, e1]
    refine wp_bind (wp_mono k ?_)
    rintro v ⟨m, rfl, h, _⟩
    have hm := h c0
    subst hm
    exact wp_some ⟨0, rfl, Or.inl ⟨by omega, rfl⟩, by omega⟩
  · have k := key 1000 (Or.inr ⟨c0, rfl⟩)
    rw [show J ((e9 1000 : Nat) : Int) = J 9999 from rfl] at k
    simp (disch := omega) only [↓reduceIte, J_lit, Int.cast_ofNat_Int, J_lt_t, J_lt_f, J_le_t, J_le_f, J_eq_t, J_eq_f, within_t, within_f, isIn_t, isIn_f, inRow_t, inRow_f, isCell_t, isCell_f, inb_t, e1]
    refine wp_bind (wp_mono k ?_)
    rintro v ⟨m, rfl, _, h⟩
    obtain ⟨h1, h2, h3⟩ := h c0
    have hle := h3 (c - 1) (by unfold nb; omega) trivial
    have := hl (by omega)
    have hm : m ≤ 12 := by omega
    have e : e9 m = m := by unfold e9; rw [if_neg (by omega)]
    rw [e]
    refine wp_some ⟨m, rfl, Or.inr ⟨by omega, ?_, fun p hp => h3 p hp trivial⟩, hm⟩
    rcases h2 with h2 | h2
    · omega
    · exact h2
