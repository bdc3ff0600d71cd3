/-! ===== the hedge: both sides, row by row ===== -/
def HdB (A : zM) (n : Nat) (rw gt w : Nat → Nat) (bv : Int32) (t : Nat) : Prop :=
  (bv = J (-1) ∧ ∀ x, x < 31 → w x = if x = 0 then 0 else 9999) ∨
  ∃ (b : Nat) (bs : Nat → Nat), b < t ∧ bv = J b ∧ (∃ g, g < n ∧ rw g = b) ∧ (∀ g, g < n → rw g = b → A 76 g = J (bs g) ∧ bs g = w (gt g) ∧ w (gt g) ≤ 30 * t) ∧ (∀ x, x < 31 → (w x = 9999 ∧ ∀ g, g < n → rw g = b → gt g ≠ x) ∨ (∃ g, g < n ∧ rw g = b ∧ gt g = x))
theorem mn_none {w : Nat → Nat} (hw : ∀ x, x < 31 → w x = if x = 0 then 0 else 9999) {a : Nat} (ha : a < 31) : mn w a 9999 31 = a := by
  have h1 := (mn_le w a 9999 31).2 0 (by omega)
  have e0 : ab a 0 = a := by
    unfold ab
    by_cases h : a ≤ 0
    · rw [if_pos h]; omega
    · rw [if_neg h]; omega
  rw [hw 0 (by omega), if_pos rfl, e0] at h1
  rcases mn_at w a 9999 31 with e | ⟨x, hx, e⟩
  · omega
  · by_cases h0 : x = 0
    · subst h0
      rw [e, hw 0 (by omega), if_pos rfl, e0]
      omega
    · rw [hw x hx, if_neg h0] at e
      omega
def GpC (A : zM) (n : Nat) (rw gt : Nat → Nat) : Prop := A 70 6 = J n ∧ ∀ g, g < n → A 74 g = J (rw g) ∧ rw g < 8 ∧ A 75 g = J (gt g) ∧ gt g < 31
theorem hd_few {A : zM} {n : Nat} {rw gt w : Nat → Nat} {bv : Int32} {t : Nat} (hn : n ≤ 8) (hG : GpC A n rw gt) (ht : t ≤ 8) (h : HdB A n rw gt w bv t) {x : Nat} (hx : x < 31) : f_X6_fewestTo 70 (J x) bv A = some (J (mn w x 9999 31)) ∧ mn w x 9999 31 ≤ 30 * (t + 1) := by
  rcases h with ⟨h1, h2⟩ | ⟨b, bs, h1, h2, ⟨g, h3, h4⟩, h5, h6⟩
  · rw [mn_none h2 hx, h1]
    unfold f_X6_fewestTo
    rw [show (-1 : Int32) = J (-1) from rfl, if_pos rfl]
    exact ⟨rfl, by omega⟩
  · have e := mn_mcl (w := w) (bs := bs) (rw := rw) (gt := gt) (F := w) (r := b) (n := n) hx (fun g hg => (hG.2 g hg).2.2.2) (fun g hg hr => ⟨(h5 g hg hr).2.1, by have := (h5 g hg hr).2.2; omega⟩) ⟨g, h3, h4⟩ (fun x hx => by
      rcases h6 x hx with a | a
      · exact Or.inl a
      · exact Or.inr ⟨rfl, a⟩)
    refine ⟨?_, ?_⟩
    · rw [h2, t_fewest hn hx (by omega) hG.1 hG.2 (fun g hg hr => ⟨(h5 g hg hr).1, by have := h5 g hg hr; omega⟩), e]
    · have a := (mn_le w x 9999 31).2 (gt g) (hG.2 g h3).2.2.2
      have b := ab_le hx (hG.2 g h3).2.2.2
      have c := (h5 g h3 h4).2.2
      omega
theorem p_hcl {A : zM} {n r : Nat} {rw gt w : Nat → Nat} {bv : Int32} (hn : n ≤ 8) (hr : r < 8) (hG : GpC A n rw gt) (h : HdB A n rw gt w bv r) :
    Wp (loopW (fun s => b_X6_sideways_15_4 70 bv (J r) s.1 s.2.1 s.2.2) (J 0, J 0, A)) (fun q => ((q.1 = J 0 ∧ ∀ g, g < n → rw g ≠ r) ∨ (q.1 = J 1 ∧ ∃ g, g < n ∧ rw g = r)) ∧ (∀ g, g < n → rw g = r → q.2 76 g = J (mn w (gt g) 9999 31)) ∧ (∀ g, g < n → rw g ≠ r → q.2 76 g = A 76 g) ∧ ∀ j, j ≠ 76 → q.2 j = A j) := by
  refine loop_up (fun k s => s.2.1 = J k ∧ ((s.1 = J 0 ∧ ∀ g, g < k → rw g ≠ r) ∨ (s.1 = J 1 ∧ ∃ g, g < k ∧ rw g = r)) ∧ (∀ g, g < k → rw g = r → s.2.2 76 g = J (mn w (gt g) 9999 31)) ∧ (∀ g, g < n → rw g ≠ r → s.2.2 76 g = A 76 g) ∧ ∀ j, j ≠ 76 → s.2.2 j = A j) n ⟨rfl, Or.inl ⟨rfl, fun g h => by omega⟩, fun g h => by omega, fun _ _ _ => rfl, fun _ _ => rfl⟩ ?_ ?_
  · rintro k ⟨s1, s2, B⟩ hk ⟨e1, e2, e3, e4, e5⟩
    simp only at e1 e2 e3 e4 e5
    subst e1
    obtain ⟨q1, q2, q3, q4⟩ := hG.2 k hk
    have b70 : B 70 = A 70 := e5 70 (by decide)
    have b74 : B 74 = A 74 := e5 74 (by decide)
    have b75 : B 75 = A 75 := e5 75 (by decide)
    have g0 := hG.1
    have hGB : GpC B n rw gt := by
      unfold GpC
      rw [b70, b74, b75]
      exact hG
    have hB : HdB B n rw gt w bv r := by
      rcases h with h | ⟨b, bs, h1, h2, h3, h5, h6⟩
      · exact Or.inl h
      · exact Or.inr ⟨b, bs, h1, h2, h3, fun g hg hr' => by rw [e4 g hg (by omega)]; exact h5 g hg hr', h6⟩
    have few := hd_few hn hGB (by omega) hB q4
    unfold b_X6_sideways_15_4 j_X6_sideways_56_4_15
    by_cases c : rw k = r
    · simp (disch := omega) only [↓nm_s, ↓grd_s, ↓reduceIte, J_lit, Int.cast_ofNat_Int, J_lt_t, J_lt_f, J_le_t, J_le_f, J_eq_t, J_eq_f, within_t, within_f, isIn_t, isIn_f, inRow_t, inRow_f, isCell_t, isCell_f, inb_t, ix_Jn, ix_J, Int.reduceToNat, Int.toNat_natCast, Nat.reduceAdd, b70, b74, b75, g0, q1, q3, few.1, bind_s]
      refine wp_some ⟨by rw [J_add]; rfl, Or.inr ⟨rfl, k, by omega, c⟩, ?_, ?_, ?_⟩
      · intro g hg hr'
        by_cases e : g = k
        · subst e
          simp (disch := omega) only [mset_ne, mset_eq, mrow_ne, mrow_eq, upd_eq, upd_ne]
        · simp (disch := omega) only [mset_ne, mset_eq, mrow_ne, mrow_eq, upd_eq, upd_ne]
          exact e3 g (by omega) hr'
      · intro g hg hr'
        have : g ≠ k := fun e => hr' (by rw [e]; exact c)
        simp (disch := omega) only [mset_ne, mset_eq, mrow_ne, mrow_eq, upd_eq, upd_ne]
        exact e4 g hg hr'
      · intro j hj
        simp (disch := omega) only [mset_ne, mset_eq, mrow_ne, mrow_eq, upd_eq, upd_ne]
        exact e5 j hj
    · simp (disch := omega) only [↓nm_s, ↓grd_s, ↓reduceIte, J_lit, Int.cast_ofNat_Int, J_lt_t, J_lt_f, J_le_t, J_le_f, J_eq_t, J_eq_f, within_t, within_f, isIn_t, isIn_f, inRow_t, inRow_f, isCell_t, isCell_f, inb_t, ix_Jn, ix_J, Int.reduceToNat, Int.toNat_natCast, Nat.reduceAdd, b70, b74, b75, g0, q1]
      refine wp_some ⟨by rw [J_add]; rfl, ?_, ?_, e4, e5⟩
      · rcases e2 with ⟨a, b⟩ | ⟨a, g, hg, h⟩
        · refine Or.inl ⟨a, fun g hg => ?_⟩
          by_cases eg : g = k
          · subst eg; exact c
          · exact b g (by omega)
        · exact Or.inr ⟨a, g, by omega, h⟩
      · intro g hg hr'
        by_cases e : g = k
        · subst e
          exact absurd hr' c
        · exact e3 g (by omega) hr'
  · rintro ⟨s1, s2, B⟩ ⟨e1, e2, e3, e4, e5⟩
    simp only at e1 e2 e3 e4 e5
    subst e1
    have b70 : B 70 = A 70 := e5 70 (by decide)
    have g0 := hG.1
    unfold b_X6_sideways_15_4
    simp (disch := omega) only [↓reduceIte, J_lit, Int.cast_ofNat_Int, J_lt_t, J_lt_f, J_le_t, J_le_f, J_eq_t, J_eq_f, within_t, within_f, isIn_t, isIn_f, inRow_t, inRow_f, isCell_t, isCell_f, inb_t, ix_Jn, ix_J, Int.reduceToNat, Int.toNat_natCast, b70, g0]
    exact wp_some ⟨e2, e3, e4, e5⟩
theorem LN273 : LN 273 = 31 := by decide +kernel
theorem LN274 : LN 274 = 31 := by decide +kernel
theorem p_hfill (N : zM) (a b : Int32) : Wp (loopW (fun s => b_X11_hedge_43_33 a b s.1 s.2) (J 0, N)) (fun N' => (∀ x, x < 31 → N' 274 x = J 9999) ∧ ∀ j, j ≠ 274 → N' j = N j) := by
  refine loop_up (fun k s => s.1 = J k ∧ (∀ x, x < k → s.2 274 x = J 9999) ∧ ∀ j, j ≠ 274 → s.2 j = N j) 31 ⟨rfl, fun x h => by omega, fun _ _ => rfl⟩ ?_ ?_
  · rintro k ⟨s1, B⟩ hk ⟨e1, e2, e3⟩
    simp only at e1 e2 e3
    subst e1
    unfold b_X11_hedge_43_33
    simp (disch := omega) only [↓nm_s, ↓grd_s, ↓reduceIte, J_lit, Int.cast_ofNat_Int, J_lt_t, J_lt_f, J_le_t, J_le_f, J_eq_t, J_eq_f, within_t, within_f, isIn_t, isIn_f, inRow_t, inRow_f, isCell_t, isCell_f, inb_t, ix_Jn, ix_J, Int.reduceToNat, Int.toNat_natCast]
    refine wp_some ⟨by rw [J_add]; rfl, fun x hx => ?_, fun j hj => by simp (disch := omega) only [mset_ne, mset_eq, mrow_ne, mrow_eq, upd_eq, upd_ne]; exact e3 j hj⟩
    by_cases e : x = k
    · subst e; simp (disch := omega) only [mset_ne, mset_eq, mrow_ne, mrow_eq, upd_eq, upd_ne]
    · simp (disch := omega) only [mset_ne, mset_eq, mrow_ne, mrow_eq, upd_eq, upd_ne]
      exact e2 x (by omega)
  · rintro ⟨s1, B⟩ ⟨e1, e2, e3⟩
    simp only at e1 e2 e3
    subst e1
    unfold b_X11_hedge_43_33
    simp (disch := omega) only [↓reduceIte, J_lit, Int.cast_ofNat_Int, J_lt_t, J_lt_f, J_le_t, J_le_f, J_eq_t, J_eq_f, within_t, within_f, isIn_t, isIn_f, inRow_t, inRow_f, isCell_t, isCell_f, inb_t]
    exact wp_some ⟨e2, e3⟩
/-- one row of both -/
theorem p_hrow {A B : zM} {n r : Nat} {rw gt w : Nat → Nat} {bv : Int32} (hn : n ≤ 8) (hr : r < 8) (hG : GpC A n rw gt) (hG2 : Gp (B 258) n rw gt) (h : HdB A n rw gt w bv r) (hw : ∀ x, x < 31 → B 273 x = J (w x) ∧ w x ≤ 9999) :
    ∃ bv' A' B' w', b_X6_sideways_4 70 bv (J r) A = some (.inl (bv', J (r + 1 : Nat), A')) ∧ b_X11_hedge_33 (J r) B = some (.inl (J (r + 1 : Nat), B')) ∧ HdB A' n rw gt w' bv' (r + 1) ∧ (∀ x, x < 31 → B' 273 x = J (w' x) ∧ w' x ≤ 9999) ∧ (∀ j, j ≠ 76 → A' j = A j) ∧ ∀ j, j ≠ 273 → j ≠ 274 → B' j = B j := by
  obtain ⟨⟨told, A'⟩, k1, k2, k3, k4, k5⟩ := p_hcl hn hr hG h
  simp only at k2 k3 k4 k5
  obtain ⟨B1, f0, f1, f2⟩ := p_hfill B (J r) 0
  have e258 : B1 258 = B 258 := f2 258 (by decide)
  have e273 : B1 273 = B 273 := f2 273 (by decide)
  obtain ⟨⟨is, B2⟩, l1, l2, l3, l4⟩ := p_hgap (N := B1) (w := w) hr (by rw [e258]; exact hG2) (by rw [e273]; exact hw) f1
  simp only at l2 l3 l4
  unfold b_X6_sideways_4 b_X11_hedge_33 j_X6_sideways_62_4 j_X6_sideways_68_4 j_X11_hedge_64_33 j_X11_hedge_184_33 j_X11_hedge_201_33
  simp only [J_lit, Int.cast_ofNat_Int] at f0 ⊢
  have ee : J (r : Int) + J 1 = J (r + 1 : Nat) := by rw [J_add]; rfl
  by_cases c : ∃ g, g < n ∧ rw g = r
  · have t1 : told = J 1 := by
      rcases k2 with ⟨_, b⟩ | ⟨a, _⟩
      · obtain ⟨g, hg, hr'⟩ := c
        exact absurd hr' (b g hg)
      · exact a
    have t2 : is = J 1 := by
      rcases l2 with ⟨_, b⟩ | ⟨a, _⟩
      · obtain ⟨g, hg, hr'⟩ := c
        exact absurd hr' (b g hg)
      · exact a
    subst t1 t2
    have ec := t_copies (a := 274) (b := 273) (n := 31) B2 (by decide) (by rw [LN274]; decide) (by rw [LN273]; decide) (by decide)
    simp only [Int.cast_ofNat_Int] at ec
    classical
    refine ⟨J r, A', mrow B2 273 (va_cpy (B2 274) (B2 273) 0 0 31), fun x => if (∃ g, g < n ∧ rw g = r ∧ gt g = x) then mn w x 9999 31 else 9999, ?_, ?_, ?_, ?_, k5, ?_⟩
    · simp (disch := omega) only [↓reduceIte, J_lt_t, J_lt_f, J_le_t, J_le_f, J_eq_t, J_eq_f, within_t, within_f, isIn_t, isIn_f, inRow_t, inRow_f, isCell_t, isCell_f, inb_t, k1, bind_s, ee]
    · simp (disch := omega) only [↓reduceIte, J_lt_t, J_lt_f, J_le_t, J_le_f, J_eq_t, J_eq_f, within_t, within_f, isIn_t, isIn_f, inRow_t, inRow_f, isCell_t, isCell_f, inb_t, f0, l1, ec, bind_s, ee]
    · refine Or.inr ⟨r, fun g => mn w (gt g) 9999 31, by omega, rfl, c, fun g hg hr' => ?_, fun x hx => ?_⟩
      · have : ∃ g', g' < n ∧ rw g' = r ∧ gt g' = gt g := ⟨g, hg, hr', rfl⟩
        simp only [this, if_true]
        exact ⟨k3 g hg hr', trivial, (hd_few hn hG (by omega) h (hG.2 g hg).2.2.2).2⟩
      · by_cases d : ∃ g, g < n ∧ rw g = r ∧ gt g = x
        · exact Or.inr d
        · simp only [d, if_false]
          exact Or.inl ⟨trivial, fun g hg hr' e => d ⟨g, hg, hr', e⟩⟩
    · intro x hx
      rw [mrow_eq, pk_cpy_in (by omega) (by omega)]
      simp only [Nat.sub_zero, Nat.zero_add]
      by_cases d : ∃ g, g < n ∧ rw g = r ∧ gt g = x
      · simp only [d, if_true]
        rcases l3 x hx with ⟨_, b⟩ | ⟨a, _⟩
        · obtain ⟨g, hg, hr', e⟩ := d
          exact absurd e (b g hg hr')
        · exact ⟨a, (mn_le w x 9999 31).1⟩
      · simp only [d, if_false]
        rcases l3 x hx with ⟨a, _⟩ | ⟨_, b⟩
        · exact ⟨a, by omega⟩
        · exact absurd b d
    · intro j h1 h2
      rw [mrow_ne h1, l4 j h2, f2 j h2]
  · have t1 : told = J 0 := by
      rcases k2 with ⟨a, _⟩ | ⟨_, b⟩
      · exact a
      · exact absurd b c
    have t2 : is = J 0 := by
      rcases l2 with ⟨a, _⟩ | ⟨_, b⟩
      · exact a
      · exact absurd b c
    subst t1 t2
    refine ⟨bv, A', B2, w, ?_, ?_, ?_, ?_, k5, fun j h1 h2 => by rw [l4 j h2, f2 j h2]⟩
    · simp (disch := omega) only [↓reduceIte, J_lt_t, J_lt_f, J_le_t, J_le_f, J_eq_t, J_eq_f, within_t, within_f, isIn_t, isIn_f, inRow_t, inRow_f, isCell_t, isCell_f, inb_t, k1, bind_s, ee]
    · simp (disch := omega) only [↓reduceIte, J_lt_t, J_lt_f, J_le_t, J_le_f, J_eq_t, J_eq_f, within_t, within_f, isIn_t, isIn_f, inRow_t, inRow_f, isCell_t, isCell_f, inb_t, f0, l1, bind_s, ee]
    · rcases h with h | ⟨b, bs, h1, h2, h3, h5, h6⟩
      · exact Or.inl h
      · refine Or.inr ⟨b, bs, by omega, h2, h3, fun g hg hr' => ?_, h6⟩
        rw [k4 g hg (by omega)]
        have := h5 g hg hr'
        exact ⟨this.1, this.2.1, by omega⟩
    · intro x hx
      rw [l4 273 (by decide), e273]
      exact hw x hx
theorem p_hbeg (N : zM) : Wp (loopW (fun s => b_X11_hedge_2 s.1 s.2) (J 0, N)) (fun N' => (∀ x, x < 31 → N' 273 x = J ((if x = 0 then 0 else 9999 : Nat) : Int)) ∧ ∀ j, j ≠ 273 → N' j = N j) := by
  refine loop_up (fun k s => s.1 = J k ∧ (∀ x, x < k → s.2 273 x = J ((if x = 0 then 0 else 9999 : Nat) : Int)) ∧ ∀ j, j ≠ 273 → s.2 j = N j) 31 ⟨rfl, fun x h => by omega, fun _ _ => rfl⟩ ?_ ?_
  · rintro k ⟨s1, B⟩ hk ⟨e1, e2, e3⟩
    simp only at e1 e2 e3
    subst e1
    unfold b_X11_hedge_2 j_X11_hedge_24_2
    by_cases c : k = 0
    · subst c
      simp (disch := omega) only [↓nm_s, ↓grd_s, ↓reduceIte, J_lit, Int.cast_ofNat_Int, J_lt_t, J_lt_f, J_le_t, J_le_f, J_eq_t, J_eq_f, within_t, within_f, isIn_t, isIn_f, inRow_t, inRow_f, isCell_t, isCell_f, inb_t, ix_Jn, ix_J, Int.reduceToNat, Int.toNat_natCast]
      refine wp_some ⟨by rw [J_add]; rfl, fun x hx => ?_, fun j hj => by simp (disch := omega) only [mset_ne, mset_eq, mrow_ne, mrow_eq, upd_eq, upd_ne]; exact e3 j hj⟩
      have : x = 0 := by omega
      subst this
      rw [if_pos rfl]
      simp (disch := omega) only [mset_ne, mset_eq, mrow_ne, mrow_eq, upd_eq, upd_ne]
      rfl
    · simp (disch := omega) only [↓nm_s, ↓grd_s, ↓reduceIte, J_lit, Int.cast_ofNat_Int, J_lt_t, J_lt_f, J_le_t, J_le_f, J_eq_t, J_eq_f, within_t, within_f, isIn_t, isIn_f, inRow_t, inRow_f, isCell_t, isCell_f, inb_t, ix_Jn, ix_J, Int.reduceToNat, Int.toNat_natCast]
      refine wp_some ⟨by rw [J_add]; rfl, fun x hx => ?_, fun j hj => by simp (disch := omega) only [mset_ne, mset_eq, mrow_ne, mrow_eq, upd_eq, upd_ne]; exact e3 j hj⟩
      by_cases e : x = k
      · subst e
        rw [if_neg c]
        simp (disch := omega) only [mset_ne, mset_eq, mrow_ne, mrow_eq, upd_eq, upd_ne]
        rfl
      · simp (disch := omega) only [mset_ne, mset_eq, mrow_ne, mrow_eq, upd_eq, upd_ne]
        exact e2 x (by omega)
  · rintro ⟨s1, B⟩ ⟨e1, e2, e3⟩
    simp only at e1 e2 e3
    subst e1
    unfold b_X11_hedge_2
    simp (disch := omega) only [↓reduceIte, J_lit, Int.cast_ofNat_Int, J_lt_t, J_lt_f, J_le_t, J_le_f, J_eq_t, J_eq_f, within_t, within_f, isIn_t, isIn_f, inRow_t, inRow_f, isCell_t, isCell_f, inb_t]
    exact wp_some ⟨e2, e3⟩
theorem p_hend {N : zM} {w : Nat → Nat} (hw : ∀ x, x < 31 → N 273 x = J (w x) ∧ w x ≤ 9999) : loopW (fun s => b_X11_hedge_213 s.1 s.2 N) (J 9999, J 0) = some (J (mn w 0 9999 31)) := by
  have key : Wp (loopW (fun s => b_X11_hedge_213 s.1 s.2 N) (J 9999, J 0)) (fun v => v = J (mn w 0 9999 31)) := by
    refine loop_up (fun k s => s = (J (mn w 0 9999 k), J k)) 31 rfl ?_ ?_
    · rintro k s hk rfl
      obtain ⟨q1, q2⟩ := hw k hk
      have e0 : ab 0 k = k := by unfold ab; rw [if_pos (by omega)]; omega
      have m := (mn_le w 0 9999 k).1
      unfold b_X11_hedge_213 j_X11_hedge_243_213
      by_cases c : w k + k < mn w 0 9999 k
      · simp (disch := omega) only [↓nm_s, ↓grd_s, ↓reduceIte, J_lit, Int.cast_ofNat_Int, J_lt_t, J_lt_f, J_le_t, J_le_f, J_eq_t, J_eq_f, within_t, within_f, isIn_t, isIn_f, inRow_t, inRow_f, isCell_t, isCell_f, inb_t, ix_Jn, ix_J, Int.reduceToNat, Int.toNat_natCast, q1, J_add]
        refine wp_some (pr2 ?_ rfl)
        simp only [mn, e0, c, if_true]
        exact congrArg J (by omega)
      · simp (disch := omega) only [↓nm_s, ↓grd_s, ↓reduceIte, J_lit, Int.cast_ofNat_Int, J_lt_t, J_lt_f, J_le_t, J_le_f, J_eq_t, J_eq_f, within_t, within_f, isIn_t, isIn_f, inRow_t, inRow_f, isCell_t, isCell_f, inb_t, ix_Jn, ix_J, Int.reduceToNat, Int.toNat_natCast, q1, J_add]
        refine wp_some (pr2 ?_ rfl)
        simp only [mn, e0, c, if_false]
    · rintro s rfl
      unfold b_X11_hedge_213
      simp (disch := omega) only [↓reduceIte, J_lit, Int.cast_ofNat_Int, J_lt_t, J_lt_f, J_le_t, J_le_f, J_eq_t, J_eq_f, within_t, within_f, isIn_t, isIn_f, inRow_t, inRow_f, isCell_t, isCell_f, inb_t]
      exact wp_some rfl
  obtain ⟨v, e, rfl⟩ := key
  exact e
theorem c_hedge : Cl2 f_X10_hedge f_X11_hedge := by
  intro M N hI
  obtain ⟨n, rw, gt, hn, hG, hG2⟩ : ∃ (n : Nat) (rw gt : Nat → Nat), n ≤ 8 ∧ GpC M n rw gt ∧ Gp (N 258) n rw gt := by
    obtain ⟨n, m, k, u, o, ks, a1, a2, a3, a4, a5, a6, a7, a8, a9, a10⟩ := hI
    obtain ⟨n', d1, d2, d3, d4⟩ := a5.2.2
    refine ⟨n', fun g => (M 74 g).toInt.toNat, fun g => (M 75 g).toInt.toNat, d1, ⟨d2, fun g hg => ?_⟩, d1, d3, fun g hg => ?_⟩
    all_goals
      obtain ⟨e1, ⟨x, hx, ex⟩, e2, ⟨y, hy, ey⟩⟩ := d4 g hg
      have ex' : M 74 g = J x := ex
      have ey' : M 75 g = J y := ey
      have t1 : (M 74 g).toInt.toNat = x := by rw [ex', J_toInt (by omega) (by omega)]; omega
      have t2 : (M 75 g).toInt.toNat = y := by rw [ey', J_toInt (by omega) (by omega)]; omega
    · simp only [t1, t2]
      exact ⟨ex', hx, ey', hy⟩
    · simp only [t1, t2]
      exact ⟨e1.symm.trans ex', hx, e2.symm.trans ey', hy⟩
  obtain ⟨N1, f0, f1, f2⟩ := p_hbeg N
  have key : W2 (loopW (fun s => b_X6_sideways_4 70 s.1 s.2.1 s.2.2) (J (-1), J 0, M)) (loopW (fun s => b_X11_hedge_33 s.1 s.2) (J 0, N1)) (fun q B => ∃ w, HdB q.2 n rw gt w q.1 8 ∧ (∀ x, x < 31 → B 273 x = J (w x) ∧ w x ≤ 9999) ∧ (∀ j, j ≠ 76 → q.2 j = M j) ∧ ∀ j, j ≠ 273 → j ≠ 274 → B j = N j) := by
    refine loopR (fun k s t => s.2.1 = J k ∧ t.1 = J k ∧ ∃ w, HdB s.2.2 n rw gt w s.1 k ∧ (∀ x, x < 31 → t.2 273 x = J (w x) ∧ w x ≤ 9999) ∧ (∀ j, j ≠ 76 → s.2.2 j = M j) ∧ ∀ j, j ≠ 273 → j ≠ 274 → t.2 j = N j) 8 ?_ ?_ ?_
    · refine ⟨rfl, rfl, fun x => if x = 0 then 0 else 9999, Or.inl ⟨rfl, fun _ _ => rfl⟩, fun x hx => ⟨f1 x hx, ?_⟩, fun _ _ => rfl, fun j h1 _ => f2 j h1⟩
      by_cases c : x = 0
      · simp only [c, if_true]; omega
      · simp only [c, if_false]; omega
    · rintro k ⟨s1, s2, A⟩ ⟨t1, B⟩ hk ⟨e1, e2, w, e3, e4, e5, e6⟩
      simp only at e1 e2 e3 e4 e5 e6
      subst e1 e2
      have gA : GpC A n rw gt := by
        unfold GpC
        rw [e5 70 (by decide), e5 74 (by decide), e5 75 (by decide)]
        exact hG
      obtain ⟨bv', A', B', w', g1, g2, g3, g4, g5, g6⟩ := p_hrow (A := A) (B := B) hn hk gA (by rw [e6 258 (by decide) (by decide)]; exact hG2) e3 e4
      exact ⟨_, _, g1, g2, rfl, rfl, w', g3, g4, fun j h => (g5 j h).trans (e5 j h), fun j h h' => (g6 j h h').trans (e6 j h h')⟩
    · rintro ⟨s1, s2, A⟩ ⟨t1, B⟩ ⟨e1, e2, w, e3, e4, e5, e6⟩
      simp only at e1 e2 e3 e4 e5 e6
      subst e1 e2
      unfold b_X6_sideways_4 b_X11_hedge_33
      simp (disch := omega) only [↓reduceIte, J_lit, Int.cast_ofNat_Int, J_lt_t, J_lt_f, J_le_t, J_le_f, J_eq_t, J_eq_f, within_t, within_f, isIn_t, isIn_f, inRow_t, inRow_f, isCell_t, isCell_f, inb_t]
      exact w2_some ⟨w, e3, e4, e5, e6⟩
  obtain ⟨⟨bv, A⟩, B, k1, k2, w, k3, k4, k5, k6⟩ := key
  simp only at k3 k5
  have gA : GpC A n rw gt := by
    unfold GpC
    rw [k5 70 (by decide), k5 74 (by decide), k5 75 (by decide)]
    exact hG
  have few := (hd_few hn gA (Nat.le_refl _) k3 (x := 0) (by omega)).1
  have hend := p_hend k4
  refine ⟨J (mn w 0 9999 31), A, B, ?_, ?_, ?_⟩
  · unfold f_X10_hedge f_X6_sideways j_X6_sideways_74
    rw [show ((-1 : Int32), (0 : Int32), M) = (J (-1), J 0, M) from rfl, k1]
    simp only [bind_s]
    rw [show (0 : Int32) = J ((0 : Nat) : Int) from rfl, few]
    simp only [bind_s, bnd2_s]
  · unfold f_X11_hedge j_X11_hedge_31 j_X11_hedge_207 j_X11_hedge_250
    rw [show ((0 : Int32), N) = (J 0, N) from rfl, f0]
    simp only [bind_s]
    rw [show ((0 : Int32), N1) = (J 0, N1) from rfl, k2]
    simp only [bind_s]
    rw [show ((9999 : Int32), (0 : Int32)) = (J 9999, J 0) from rfl, hend]
    simp only [bind_s]
  · exact IC_scN (fun j a b c d => k6 j (by omega) (by omega)) (fun i hi => by rw [k6 257 (by omega) (by omega)]) (IC_scM (fun j a b => k5 j (by unfold scC at b; omega)) (fun i _ => by rw [k5 70 (by omega)]) (fun i _ => by rw [k5 78 (by omega)]) (by rw [k5 83 (by omega)]) (by rw [k5 95 (by omega)]) hI)
