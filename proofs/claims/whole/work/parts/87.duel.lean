/-! ===== the duel: steps on a plane ===== -/
def oX (a b k : Nat) : Int := if k < 4 then (if k % 2 = 0 then (a : Int) else -a) else (if k % 2 = 0 then (b : Int) else -b)
def oY (a b k : Nat) : Int := if k < 4 then (if k % 4 < 2 then (b : Int) else -b) else (if k % 4 < 2 then (a : Int) else -a)
theorem oXY_le {a b k : Nat} {m : Int} (ha : (a : Int) ≤ m) (hb : (b : Int) ≤ m) : -m ≤ oX a b k ∧ oX a b k ≤ m ∧ -m ≤ oY a b k ∧ oY a b k ≤ m := by
  unfold oX oY
  by_cases h1 : k < 4 <;> by_cases h2 : k % 2 = 0 <;> by_cases h3 : k % 4 < 2 <;> simp only [h1, h2, h3, if_true, if_false] <;> omega
def Pr (a b : Nat) : Nat → Int → Int → Prop
  | 0, x, y => x = 0 ∧ y = 0
  | n + 1, x, y => Pr a b n x y ∨ ∃ k, k < 8 ∧ Pr a b n (x - oX a b k) (y - oY a b k)
theorem Pr_le {a b n n' : Nat} {x y : Int} (h : Pr a b n x y) (hn : n ≤ n') : Pr a b n' x y := by
  induction n' with
  | zero =>
    have : n = 0 := by omega
    subst this
    exact h
  | succ m ih =>
    by_cases e : n = m + 1
    · subst e; exact h
    · exact Or.inl (ih (by omega))
theorem Pr_b {a b : Nat} {m : Int} (hm : 0 ≤ m) (ha : (a : Int) ≤ m) (hb : (b : Int) ≤ m) : ∀ n x y, Pr a b n x y → -(m * n) ≤ x ∧ x ≤ m * n ∧ -(m * n) ≤ y ∧ y ≤ m * n := by
  intro n
  induction n with
  | zero =>
    rintro x y ⟨rfl, rfl⟩
    simp
  | succ n ih =>
    intro x y h
    have e : m * ((n + 1 : Nat) : Int) = m * n + m := by rw [Int.natCast_add, Int.mul_add]; simp
    rw [e]
    rcases h with h | ⟨k, hk, h⟩
    · have := ih x y h
      omega
    · have := ih _ _ h
      have := oXY_le (k := k) ha hb
      omega
def DuS (a b : Nat) (x y : Int) (v : Int32) : Prop := (v = J (-1) ∧ ∀ n, n ≤ 12 → ¬ Pr a b n x y) ∨ (∃ d : Nat, d ≤ 12 ∧ v = J d ∧ Pr a b d x y ∧ ∀ n, n < d → ¬ Pr a b n x y)
theorem DuS_u {a b : Nat} {x y : Int} {v v' : Int32} (h : DuS a b x y v) (h' : DuS a b x y v') : v = v' := by
  rcases h with ⟨a1, a2⟩ | ⟨d, a0, a1, a2, a3⟩
  · rcases h' with ⟨b1, b2⟩ | ⟨d', b0, b1, b2, b3⟩
    · rw [a1, b1]
    · exact absurd b2 (a2 d' b0)
  · rcases h' with ⟨b1, b2⟩ | ⟨d', b0, b1, b2, b3⟩
    · exact absurd a2 (b2 d a0)
    · have : d = d' := by
        rcases Nat.lt_trichotomy d d' with q | q | q
        · exact absurd a2 (b3 d q)
        · exact q
        · exact absurd b2 (a3 d' q)
      rw [a1, b1, this]
/-! ===== the class: a plane that is clipped ===== -/
def fiI (x y : Int) : Nat := (81 * (y + 40) + (x + 40)).toNat
def inP (x y : Int) : Prop := -40 ≤ x ∧ x ≤ 40 ∧ -40 ≤ y ∧ y ≤ 40
noncomputable def nxC (a b u k : Nat) : Option Nat := @ite (Option Nat) (inP ((u % 81 : Nat) - 40 + oX a b k) ((u / 81 : Nat) - 40 + oY a b k)) (Classical.propDecidable _) (some (fiI ((u % 81 : Nat) - 40 + oX a b k) ((u / 81 : Nat) - 40 + oY a b k))) none
theorem fiI_lt {x y : Int} (h : inP x y) : fiI x y < 6561 ∧ ((fiI x y % 81 : Nat) : Int) - 40 = x ∧ ((fiI x y / 81 : Nat) : Int) - 40 = y := by
  obtain ⟨h1, h2, h3, h4⟩ := h
  obtain ⟨X, rfl⟩ : ∃ X : Nat, x = X - 40 := ⟨(x + 40).toNat, by omega⟩
  obtain ⟨Y, rfl⟩ : ∃ Y : Nat, y = Y - 40 := ⟨(y + 40).toNat, by omega⟩
  have e : fiI ((X : Int) - 40) ((Y : Int) - 40) = 81 * Y + X := by unfold fiI; omega
  rw [e]
  omega
theorem fiI_of {u : Nat} (h : u < 6561) : inP ((u % 81 : Nat) - 40) ((u / 81 : Nat) - 40) ∧ fiI ((u % 81 : Nat) - 40) ((u / 81 : Nat) - 40) = u := by
  refine ⟨⟨by omega, by omega, by omega, by omega⟩, ?_⟩
  unfold fiI
  omega
theorem nxC_s {a b u k v : Nat} (h : nxC a b u k = some v) : v < 6561 ∧ ((v % 81 : Nat) : Int) - 40 = (u % 81 : Nat) - 40 + oX a b k ∧ ((v / 81 : Nat) : Int) - 40 = (u / 81 : Nat) - 40 + oY a b k := by
  unfold nxC at h
  by_cases c : inP ((u % 81 : Nat) - 40 + oX a b k) ((u / 81 : Nat) - 40 + oY a b k)
  · rw [if_pos c] at h
    have := Option.some.inj h
    rw [← this]
    exact fiI_lt c
  · rw [if_neg c] at h
    exact absurd h (by simp)
theorem RchC_P {a b : Nat} : ∀ n u, Rch (nxC a b) 8 (fiI 0 0) n u → u < 6561 ∧ Pr a b n ((u % 81 : Nat) - 40) ((u / 81 : Nat) - 40) := by
  intro n
  induction n with
  | zero =>
    intro u h
    have : u = fiI 0 0 := h
    have e : fiI 0 0 = 3280 := rfl
    rw [this, e]
    exact ⟨by decide, by decide, by decide⟩
  | succ n ih =>
    intro u h
    rcases h with h | ⟨v, k, hk, hv, h⟩
    · exact ⟨(ih u h).1, Or.inl (ih u h).2⟩
    · obtain ⟨h1, h2, h3⟩ := nxC_s h
      refine ⟨h1, Or.inr ⟨k, hk, ?_⟩⟩
      have := (ih v hv).2
      rw [h2, h3, Int.add_sub_cancel, Int.add_sub_cancel]
      exact this
theorem P_RchC {a b : Nat} (ha : a ≤ 5) (hb : b ≤ 5) {tx ty : Int} (ht1 : -20 ≤ tx) (ht2 : tx ≤ 20) (ht3 : -20 ≤ ty) (ht4 : ty ≤ 20) : ∀ n x y, n ≤ 12 → Pr a b n x y → (x - tx ≤ 5 * (12 - (n : Int)) ∧ tx - x ≤ 5 * (12 - (n : Int)) ∧ y - ty ≤ 5 * (12 - (n : Int)) ∧ ty - y ≤ 5 * (12 - (n : Int))) → inP x y ∧ Rch (nxC a b) 8 (fiI 0 0) n (fiI x y) := by
  intro n
  induction n with
  | zero =>
    rintro x y _ ⟨rfl, rfl⟩ _
    exact ⟨⟨by decide, by decide, by decide, by decide⟩, rfl⟩
  | succ n ih =>
    intro x y hn h hb'
    have bd := Pr_b (m := 5) (by omega) (by omega) (by omega) (n + 1) x y h
    have hin : inP x y := by
      unfold inP
      omega
    refine ⟨hin, ?_⟩
    rcases h with h | ⟨k, hk, h⟩
    · exact Or.inl (ih x y (by omega) h (by omega)).2
    · have ob := oXY_le (a := a) (b := b) (k := k) (m := 5) (by omega) (by omega)
      obtain ⟨g1, g2⟩ := ih _ _ (by omega) h (by omega)
      obtain ⟨q1, q2, q3⟩ := fiI_lt g1
      refine Or.inr ⟨_, k, hk, g2, ?_⟩
      unfold nxC
      rw [q2, q3, Int.sub_add_cancel, Int.sub_add_cancel, if_pos hin]
theorem leapm : ∀ k : Nat, k < 8 → (k % 2 = 0 → J (k : Int) &&& J 1 = J 0) ∧ (¬ k % 2 = 0 → ¬ J (k : Int) &&& J 1 = J 0) ∧ (k % 4 < 2 → J (k : Int) &&& J 2 = J 0) ∧ (¬ k % 4 < 2 → ¬ J (k : Int) &&& J 2 = J 0) := by decide +kernel
theorem t_leap {a b u k : Nat} (ha : a ≤ 5) (hb : b ≤ 5) (hu : u < 6561) (hk : k < 8) : f_X4_leap (J u) (J ((if k < 4 then a else b : Nat) : Int)) (J ((if k < 4 then b else a : Nat) : Int)) (J k) = onJ (nxC a b u k) := by
  have e1 : irem (J (u : Int)) (J 81) = J ((u % 81 : Nat) : Int) := by rw [J_rem (by omega) (by omega) (by omega) (by omega)]; rfl
  have e2 : J (u : Int) / J 81 = J ((u / 81 : Nat) : Int) := by rw [J_div (by omega) (by omega) (by omega) (by omega)]; rfl
  obtain ⟨m1, m2, m3, m4⟩ := leapm k hk
  have ob := oXY_le (a := a) (b := b) (k := k) (m := 5) (by omega) (by omega)
  have fin : ∀ x y : Int, x = ((u % 81 : Nat) : Int) - 40 + oX a b k → y = ((u / 81 : Nat) : Int) - 40 + oY a b k → f_X4_field (J x) (J y) = onJ (nxC a b u k) := by
    intro x y hx hy
    subst hx hy
    rw [t_field (by omega) (by omega) (by omega) (by omega)]
    unfold nxC
    by_cases c : inP (((u % 81 : Nat) : Int) - 40 + oX a b k) (((u / 81 : Nat) : Int) - 40 + oY a b k)
    · have c' := c
      unfold inP at c'
      rw [if_pos c, if_pos c']
      simp only [onJ]
      unfold fiI
      exact congrArg J (by omega)
    · have c' := c
      unfold inP at c'
      rw [if_neg c, if_neg c']
      rfl
  unfold f_X4_leap j_X4_leap_19 j_X4_leap_41
  by_cases c1 : k % 2 = 0 <;> by_cases c2 : k % 4 < 2
  · have h1 := m1 c1
    have h2 := m3 c2
    simp (disch := omega) only [↓nm_s, ↓reduceIte, J_lit, Int.cast_ofNat_Int, e1, e2, h1, h2, J_sub, J_add, J_neg]
    refine fin _ _ ?_ ?_
    · unfold oX; by_cases c3 : k < 4 <;> simp [c1, c3]
    · unfold oY; by_cases c3 : k < 4 <;> simp [c2, c3]
  · have h1 := m1 c1
    have h2 := m4 c2
    simp (disch := omega) only [↓nm_s, ↓reduceIte, J_lit, Int.cast_ofNat_Int, e1, e2, h1, h2, J_sub, J_add, J_neg]
    refine fin _ _ ?_ ?_
    · unfold oX; by_cases c3 : k < 4 <;> simp [c1, c3]
    · unfold oY; by_cases c3 : k < 4 <;> simp [c2, c3]
  · have h1 := m2 c1
    have h2 := m3 c2
    simp (disch := omega) only [↓nm_s, ↓reduceIte, J_lit, Int.cast_ofNat_Int, e1, e2, h1, h2, J_sub, J_add, J_neg]
    refine fin _ _ ?_ ?_
    · unfold oX; by_cases c3 : k < 4 <;> simp [c1, c3]
    · unfold oY; by_cases c3 : k < 4 <;> simp [c2, c3]
  · have h1 := m2 c1
    have h2 := m4 c2
    simp (disch := omega) only [↓nm_s, ↓reduceIte, J_lit, Int.cast_ofNat_Int, e1, e2, h1, h2, J_sub, J_add, J_neg]
    refine fin _ _ ?_ ?_
    · unfold oX; by_cases c3 : k < 4 <;> simp [c1, c3]
    · unfold oY; by_cases c3 : k < 4 <;> simp [c2, c3]
theorem p_paces {M : zM} {a b : Nat} {tx ty : Int} (ha : a ≤ 5) (hb : b ≤ 5) (ht1 : -20 ≤ tx) (ht2 : tx ≤ 20) (ht3 : -20 ≤ ty) (ht4 : ty ≤ 20) : Wp (f_X4_paces (J a) (J b) (J tx) (J ty) M) (fun q => DuS a b tx ty q.1 ∧ ∀ j, j ≠ 96 → j ≠ 97 → q.2 j = M j) := by
  have fM := t_fill (a := 96) (J (-1)) M (by rw [LN96]; decide)
  rw [LN96] at fM
  have hin : inP tx ty := ⟨by omega, by omega, by omega, by omega⟩
  have f0 : f_X4_field (J 0) (J 0) = J ((3280 : Nat) : Int) := by rw [t_field (by omega) (by omega) (by omega) (by omega), if_pos (by omega)]; rfl
  have ft : f_X4_field (J tx) (J ty) = J (fiI tx ty) := by
    rw [t_field (by omega) (by omega) (by omega) (by omega), if_pos (by omega)]
    unfold fiI
    exact congrArg J (by omega)
  have hgl := (fiI_lt hin).1
  have hgx := (fiI_lt hin).2
  have tr : ∀ n, n ≤ 12 → (Rch (nxC a b) 8 3280 n (fiI tx ty) ↔ Pr a b n tx ty) := by
    intro n hn
    constructor
    · intro h
      have := (RchC_P n _ h).2
      rw [hgx.1, hgx.2] at this
      exact this
    · intro h
      exact (P_RchC ha hb ht1 ht2 ht3 ht4 n tx ty hn h (by omega)).2
  generalize fiI tx ty = G at *
  have start : BQ (nxC a b) 8 6561 3280 12 (fun _ => False) (fun d => J d) (upd (fun i => if i < 6561 then J (-1) else M 96 i) 3280 (J 0)) (upd (M 97) 0 (J ((3280 : Nat) : Int))) 1 0 0 (fun _ => 3280) (fun _ => 0) := by
    refine BQ_0 (by omega) (fun h => h) upd_eq upd_eq (fun v hv _ hne => ?_)
    rw [upd_ne hne]
    exact if_pos hv
  unfold f_X4_paces j_X4_paces_190
  simp (disch := omega) only [↓nm_s, ↓grd_s, ↓reduceIte, J_lit, J_neg, Int.cast_ofNat_Int, J_lt_t, J_lt_f, J_le_t, J_le_f, J_eq_t, J_eq_f, within_t, within_f, isIn_t, isIn_f, inRow_t, inRow_f, isCell_t, isCell_f, inb_t, fM, bind_s, f0, ft, ix_Jn, ix_J, Int.reduceToNat, Int.toNat_natCast]
  refine wp_bind ?_
  refine wp_mono (P := fun A => DuS a b tx ty (A 96 G) ∧ ∀ j, j ≠ 96 → j ≠ 97 → A j = M j) ?_ (fun A h => wp_some h)
  refine loop_q _ (fun s => 6562 - s.2.1.toInt.toNat) (fun st => ∃ (m i' : Nat) (w d : Nat → Nat), st.1 = J m ∧ st.2.1 = J i' ∧ BQ (nxC a b) 8 6561 3280 12 (fun _ => False) (fun d => J d) (st.2.2 96) (st.2.2 97) m i' 0 w d ∧ (∀ j, j < m → d j ≤ 12) ∧ ∀ j, j ≠ 96 → j ≠ 97 → st.2.2 j = M j) _ ?_ _ ⟨1, 0, fun _ => 3280, fun _ => 0, rfl, rfl, ?_, fun _ _ => by simp only; omega, ?_⟩
  · rintro ⟨s1, s2, A1⟩ ⟨m, i', w, d, e1, e2, hB, hn, hfr'⟩
    simp only at e1 e2 hB hn hfr'
    subst e1 e2
    have hm : m ≤ 6561 := inj_le m (fun j hj => (hB.2.1 j hj).2.1) hB.2.2.2.1
    have him := hB.1.2.2.2
    -- the end, whatever the row
    have fin : (A1 96 G = J (-1) → m ≤ i') → DuS a b tx ty (A1 96 G) := by
      intro hend
      by_cases cg : A1 96 G = J (-1)
      · have := hend cg
        refine Or.inl ⟨cg, fun n hn' hp => ?_⟩
        obtain ⟨j, hj, ej, _⟩ := BQ_all hB n G hn' (fun j a b => by omega) ((tr n hn').2 hp)
        have h1 := (hB.2.1 j hj).2.2.1
        have h2 := hn j hj
        rw [ej, cg] at h1
        have h1' : J (-1) = J (d j : Int) := h1
        rw [J_eq (by omega) (by omega) (by omega) (by omega)] at h1'
        omega
      · have : ∃ j, j < m ∧ w j = G := by
          by_cases c : ∃ j, j < m ∧ w j = G
          · exact c
          · exact absurd (hB.2.2.1 G hgl (fun h => h) (fun j hj e => c ⟨j, hj, e⟩)) cg
        obtain ⟨j, hj, ej⟩ := this
        have h1 := (hB.2.1 j hj).2.2.1
        rw [ej] at h1
        have h2 := hn j hj
        have h3 := BQ_R hB j hj
        rw [ej] at h3
        refine Or.inr ⟨d j, h2, h1, (tr _ h2).1 h3, fun n hn' hp => ?_⟩
        obtain ⟨j2, hj2, ej2, hd2⟩ := BQ_all hB n G (by omega) (fun j' h4 h5 => by
          have h6 := hB.2.2.2.2.2.1 (by omega) j hj
          have h7 := hB.2.2.2.2.1 i' j' h4 h5
          omega) ((tr n (by omega)).2 hp)
        have := hB.2.2.2.1 j j2 hj hj2 (by rw [ej, ej2])
        subst this
        omega
    unfold b_X4_paces_45 j_X4_paces_184_45
    by_cases c : m ≤ i'
    · simp (disch := omega) only [↓reduceIte, J_lt_t, J_lt_f, J_le_t, J_le_f, J_eq_t, J_eq_f, within_t, within_f, isIn_t, isIn_f, inRow_t, inRow_f, isCell_t, isCell_f, inb_t]
      exact wp_some ⟨fin (fun _ => c), hfr'⟩
    · by_cases cg : A1 96 G = J (-1)
      · obtain ⟨r1, r2, r3, r4⟩ := hB.2.1 i' (by omega)
        simp (disch := omega) only [↓nm_s, ↓grd_s, ↓reduceIte, J_lit, J_neg, Int.cast_ofNat_Int, J_lt_t, J_lt_f, J_le_t, J_le_f, J_eq_t, J_eq_f, within_t, within_f, isIn_t, isIn_f, inRow_t, inRow_f, isCell_t, isCell_f, inb_t, ix_Jn, ix_J, Int.reduceToNat, Int.toNat_natCast, r1, cg]
        refine wp_bind ?_
        refine wp_mono (P := fun q => ∃ (m : Nat) (w' d' : Nat → Nat) (kk : Nat), i' < m ∧ q.1 = J m ∧ BQ (nxC a b) 8 6561 3280 12 (fun _ => False) (fun d => J d) (q.2 96) (q.2 97) m i' kk w' d' ∧ (8 ≤ kk ∨ 12 ≤ d' i') ∧ (∀ j, j < m → d' j ≤ 12) ∧ ∀ j, j ≠ 96 → j ≠ 97 → q.2 j = M j) ?_ ?_
        · refine loop_up (fun k st => st.2.1 = J k ∧ ∃ (m : Nat) (w' d' : Nat → Nat), i' < m ∧ st.1 = J m ∧ w' i' = w i' ∧ BQ (nxC a b) 8 6561 3280 12 (fun _ => False) (fun d => J d) (st.2.2 96) (st.2.2 97) m i' k w' d' ∧ (∀ j, j < m → d' j ≤ 12) ∧ ∀ j, j ≠ 96 → j ≠ 97 → st.2.2 j = M j) 8 ⟨rfl, m, w, d, by omega, rfl, rfl, hB, hn, hfr'⟩ ?_ ?_
          · rintro k ⟨u1, u2, A2⟩ hk8 ⟨g1, m2, w2, d2, g0, g2, ew, g3, g4, g5⟩
            simp only at g1 g2 g3 g5
            subst g1 g2
            obtain ⟨p1, p2, p3, _⟩ := g3.2.1 i' g0
            rw [ew] at p1 p2 p3
            have hdi := g4 i' g0
            have hm2 : m2 ≤ 6561 := inj_le m2 (fun j hj => (g3.2.1 j hj).2.1) g3.2.2.2.1
            by_cases c12 : 12 ≤ d2 i'
            · unfold b_X4_paces_75_45
              simp (disch := omega) only [↓nm_s, ↓grd_s, ↓reduceIte, J_lit, J_neg, Int.cast_ofNat_Int, J_lt_t, J_lt_f, J_le_t, J_le_f, J_eq_t, J_eq_f, within_t, within_f, isIn_t, isIn_f, inRow_t, inRow_f, isCell_t, isCell_f, inb_t, ix_Jn, ix_J, Int.reduceToNat, Int.toNat_natCast, p3]
              exact wp_some ⟨m2, w2, d2, k, g0, rfl, g3, Or.inr c12, g4, g5⟩
            · have hl := t_leap (u := w i') ha hb p2 hk8
              have beg : b_X4_paces_75_45 (J a) (J b) (J G) (J i') (J (w i')) (J m2) (J k) A2 = j_X4_paces_118_45_75 (J a) (J b) (J G) (J m2) (J i') (J (w i')) (J k) (J (w i')) (J ((if k < 4 then a else b : Nat) : Int)) (J ((if k < 4 then b else a : Nat) : Int)) A2 := by
                unfold b_X4_paces_75_45 j_X4_paces_107_45_75
                by_cases c4 : k < 4
                · simp (disch := omega) only [↓nm_s, ↓grd_s, ↓reduceIte, J_lit, J_neg, Int.cast_ofNat_Int, J_lt_t, J_lt_f, J_le_t, J_le_f, J_eq_t, J_eq_f, within_t, within_f, isIn_t, isIn_f, inRow_t, inRow_f, isCell_t, isCell_f, inb_t, ix_Jn, ix_J, Int.reduceToNat, Int.toNat_natCast, p3, c4]
                · simp (disch := omega) only [↓nm_s, ↓grd_s, ↓reduceIte, J_lit, J_neg, Int.cast_ofNat_Int, J_lt_t, J_lt_f, J_le_t, J_le_f, J_eq_t, J_eq_f, within_t, within_f, isIn_t, isIn_f, inRow_t, inRow_f, isCell_t, isCell_f, inb_t, ix_Jn, ix_J, Int.reduceToNat, Int.toNat_natCast, p3, c4]
              rw [beg]
              unfold j_X4_paces_118_45_75 j_X4_paces_178_45_75
              rw [hl]
              cases hon : nxC a b (w i') k with
              | none =>
                simp only [onJ]
                simp (disch := omega) only [↓nm_s, ↓grd_s, ↓reduceIte, J_lit, J_neg, Int.cast_ofNat_Int, J_lt_t, J_lt_f, J_le_t, J_le_f, J_eq_t, J_eq_f, within_t, within_f, isIn_t, isIn_f, inRow_t, inRow_f, isCell_t, isCell_f, inb_t, ix_Jn, ix_J, Int.reduceToNat, Int.toNat_natCast]
                exact wp_some ⟨J_s _, m2, w2, d2, g0, rfl, ew, BQ_skip g3 g0 (fun v hv => by rw [ew, hon] at hv; exact absurd hv (by simp)), g4, g5⟩
              | some v =>
                have v1 := (nxC_s hon).1
                have hne : ¬ J (v : Int) = J (-1) := by
                  rw [J_eq (by omega) (by omega) (by omega) (by omega)]
                  omega
                simp only [onJ]
                by_cases cv : A2 96 v = J (-1)
                · obtain ⟨q1, q2⟩ := BQ_push g3 g0 hk8 (v := v) (by rw [ew]; exact hon) v1 cv (fun _ h => h.elim) (fun j hj => by
                    have := g4 j hj
                    show ¬ J (d2 j : Int) = J (-1)
                    rw [J_eq (by omega) (by omega) (by omega) (by omega)]
                    omega)
                  simp (disch := omega) only [↓nm_s, ↓grd_s, ↓reduceIte, J_lit, J_neg, Int.cast_ofNat_Int, J_lt_t, J_lt_f, J_le_t, J_le_f, J_eq_t, J_eq_f, within_t, within_f, isIn_t, isIn_f, inRow_t, inRow_f, isCell_t, isCell_f, inb_t, ix_Jn, ix_J, Int.reduceToNat, Int.toNat_natCast, hne, cv, p3]
                  refine wp_some ⟨J_s _, m2 + 1, upN w2 m2 v, upN d2 m2 (d2 i' + 1), by omega, J_s _, ?_, ?_, ?_, ?_⟩
                  · rw [upN_ne (by omega)]
                    exact ew
                  · simp only
                    simp (disch := omega) only [mset_ne, mset_eq, mrow_ne, mrow_eq, upd_eq, upd_ne]
                    rw [J_s]
                    exact q2
                  · intro j hj
                    by_cases e : j = m2
                    · rw [e, upN_eq]; omega
                    · rw [upN_ne e]
                      exact g4 j (by omega)
                  · intro j h1 h2
                    simp (disch := omega) only [mset_ne, mset_eq, mrow_ne, mrow_eq, upd_eq, upd_ne]
                    exact g5 j h1 h2
                · simp (disch := omega) only [↓nm_s, ↓grd_s, ↓reduceIte, J_lit, J_neg, Int.cast_ofNat_Int, J_lt_t, J_lt_f, J_le_t, J_le_f, J_eq_t, J_eq_f, within_t, within_f, isIn_t, isIn_f, inRow_t, inRow_f, isCell_t, isCell_f, inb_t, ix_Jn, ix_J, Int.reduceToNat, Int.toNat_natCast, hne, cv]
                  refine wp_some ⟨J_s _, m2, w2, d2, g0, rfl, ew, BQ_skip g3 g0 (fun u hu => ?_), g4, g5⟩
                  rw [ew, hon] at hu
                  have := Option.some.inj hu
                  subst this
                  exact ⟨v1, cv⟩
          · rintro ⟨u1, u2, A2⟩ ⟨g1, m2, w2, d2, g0, g2, ew, g3, g4, g5⟩
            simp only at g1 g2 g3 g5
            subst g1 g2
            unfold b_X4_paces_75_45
            simp (disch := omega) only [↓reduceIte, J_lit, Int.cast_ofNat_Int, J_lt_t, J_lt_f, J_le_t, J_le_f, J_eq_t, J_eq_f, within_t, within_f, isIn_t, isIn_f, inRow_t, inRow_f, isCell_t, isCell_f, inb_t]
            exact wp_some ⟨m2, w2, d2, 8, g0, rfl, g3, Or.inl (Nat.le_refl _), g4, g5⟩
        · rintro ⟨q1, A2⟩ ⟨m2, w2, d2, kk, g0, g2, g3, gk, g4, g5⟩
          simp only at g2 g3 g5
          subst g2
          have hm2 : m2 ≤ 6561 := inj_le m2 (fun j hj => (g3.2.1 j hj).2.1) g3.2.2.2.1
          refine wp_some ⟨⟨m2, i' + 1, w2, d2, rfl, J_s _, BQ_next g3 g0 gk, g4, g5⟩, ?_⟩
          simp only
          rw [J_add, J_toInt (by omega) (by omega), J_toInt (by omega) (by omega)]
          omega
      · simp (disch := omega) only [↓nm_s, ↓grd_s, ↓reduceIte, J_lit, J_neg, Int.cast_ofNat_Int, J_lt_t, J_lt_f, J_le_t, J_le_f, J_eq_t, J_eq_f, within_t, within_f, isIn_t, isIn_f, inRow_t, inRow_f, isCell_t, isCell_f, inb_t, ix_Jn, ix_J, Int.reduceToNat, Int.toNat_natCast, cg]
        exact wp_some ⟨fin (fun h => absurd h cg), hfr'⟩
  · simp only
    simp (disch := omega) only [mset_ne, mset_eq, mrow_ne, mrow_eq, upd_eq, upd_ne]
    exact start
  · intro j h1 h2
    simp (disch := omega) only [mset_ne, mset_eq, mrow_ne, mrow_eq, upd_eq, upd_ne]
