/-! ===== the reference's words and numbers ===== -/
def goodW (tp : Nat → Nat) (p r : Nat) : Prop := r ≤ 6 ∧ ∀ t, t < r → 97 ≤ tp (p + t)
def pkK (i : Nat) : Nat := pkf (fun t => kwN i t - 96) (kwS i)
theorem pk30 {d : Nat → Nat} {r : Nat} (hr : r ≤ 6) (h : ∀ t, t < r → d t < 32) : pkf d r < 1073741824 ∧ (r ≤ 5 → pkf d r < 33554432) := by
  have h1 := pkf_lt r h
  refine ⟨?_, fun h5 => ?_⟩
  · have : 32 ^ r ≤ 32 ^ 6 := Nat.pow_le_pow_right (by decide) hr
    omega
  · have : 32 ^ r ≤ 32 ^ 5 := Nat.pow_le_pow_right (by decide) h5
    omega
theorem r_word {N : zM} {tp : Nat → Nat} {n q p e : Nat} (h8 : N 257 8 = J n) (hT : TpR (N 262) tp n) (h9 : N 257 9 = J q) (hE : IsE (fun i => isBl (tp i)) n q p) (hL : IsE (fun i => isLet (tp i)) n p e) :
    ∃ u, f_X11_word N = some (u, mset N 257 9 (J p)) ∧ ((goodW tp p (e - p) ∧ u = J (pkf (fun t => tp (p + t) - 96) (e - p))) ∨ (¬ goodW tp p (e - p) ∧ u = J 0)) := by
  have hn := hT.1
  have hle := hL.2.1
  have hh := r_here h8 hT h9 hE
  have key : Wp (loopW (fun s => b_X11_word_17 s.1 s.2.1 s.2.2.1 s.2.2.2 (mset N 257 9 (J p))) (J 0, J 1, J 0, J p)) (fun w => (goodW tp p (e - p) ∧ w = (J (pkf (fun t => tp (p + t) - 96) (e - p)), J 1)) ∨ (¬ goodW tp p (e - p) ∧ w = (J 0, J 0))) := by
    refine loop_fr (fun k s => s.2.2.1 = J (k - p : Nat) ∧ s.2.2.2 = J k ∧ ((goodW tp p (k - p) ∧ s.2.1 = J 1 ∧ s.1 = J (pkf (fun t => tp (p + t) - 96) (k - p))) ∨ (¬ goodW tp p (k - p) ∧ s.2.1 = J 0 ∧ s.1 = J 0))) p e hL.1 ⟨by rw [Nat.sub_self]; rfl, rfl, Or.inl ⟨⟨by omega, fun t ht => by omega⟩, rfl, by rw [Nat.sub_self]; rfl⟩⟩ ?_ ?_
    · rintro k ⟨s1, s2, s3, s4⟩ h1 h2 ⟨e1, e2, e3⟩
      simp only at e1 e2 e3
      subst e1 e2
      obtain ⟨q1, q2⟩ := hT.2 k (by omega)
      have hlt := hL.2.2.1 k h1 h2
      have hl := ((lt_5 (tp k) q2).1 hlt).2
      have er : k + 1 - p = (k - p) + 1 := by omega
      have ek : p + (k - p) = k := by omega
      unfold b_X11_word_17 j_X11_word_65_17 j_X11_word_66_17 j_X11_word_86_17
      rcases e3 with ⟨g1, rfl, rfl⟩ | ⟨g1, rfl, rfl⟩
      · have hd : ∀ t, t < k - p → tp (p + t) - 96 < 32 := by
          intro t ht
          have := hL.2.2.1 (p + t) (by omega) (by omega)
          have := g1.2 t ht
          unfold isLet at *
          omega
        by_cases c : tp k < 97
        · simp (disch := omega) only [↓nm_s, ↓grd_s, ↓reduceIte, J_lit, Int.cast_ofNat_Int, J_lt_t, J_lt_f, J_le_t, J_le_f, J_eq_t, J_eq_f, within_t, within_f, isIn_t, isIn_f, inRow_t, inRow_f, isCell_t, isCell_f, inb_t, ix_Jn, ix_J, Int.reduceToNat, Int.toNat_natCast, mset_ne, mset_eq, mrow_ne, mrow_eq, upd_eq, upd_ne, h8, q1, hl]
          refine wp_some ⟨?_, J_s _, Or.inr ⟨fun h => ?_, rfl, rfl⟩⟩
          · simp only
            rw [J_s, er]
          · have := h.2 (k - p) (by omega)
            rw [ek] at this
            omega
        · by_cases c6 : k - p < 6
          · have hb := (pk30 (r := k - p) (by omega) hd).2 (by omega)
            have hpk := t_packed hb (show 97 ≤ tp k by omega) (show tp k ≤ 122 by unfold isLet at hlt; omega)
            simp (disch := omega) only [↓nm_s, ↓grd_s, ↓reduceIte, J_lit, Int.cast_ofNat_Int, J_lt_t, J_lt_f, J_le_t, J_le_f, J_eq_t, J_eq_f, within_t, within_f, isIn_t, isIn_f, inRow_t, inRow_f, isCell_t, isCell_f, inb_t, ix_Jn, ix_J, Int.reduceToNat, Int.toNat_natCast, mset_ne, mset_eq, mrow_ne, mrow_eq, upd_eq, upd_ne, h8, q1, hl, hpk]
            refine wp_some ⟨?_, J_s _, Or.inl ⟨⟨by omega, fun t ht => ?_⟩, rfl, ?_⟩⟩
            · simp only
              rw [J_s, er]
            · by_cases et : t = k - p
              · subst et; rw [ek]; omega
              · exact g1.2 t (by omega)
            · simp only
              rw [er]
              simp only [pkf]
              rw [ek]
          · simp (disch := omega) only [↓nm_s, ↓grd_s, ↓reduceIte, J_lit, Int.cast_ofNat_Int, J_lt_t, J_lt_f, J_le_t, J_le_f, J_eq_t, J_eq_f, within_t, within_f, isIn_t, isIn_f, inRow_t, inRow_f, isCell_t, isCell_f, inb_t, ix_Jn, ix_J, Int.reduceToNat, Int.toNat_natCast, mset_ne, mset_eq, mrow_ne, mrow_eq, upd_eq, upd_ne, h8, q1, hl]
            refine wp_some ⟨?_, J_s _, Or.inr ⟨fun h => ?_, rfl, rfl⟩⟩
            · simp only
              rw [J_s, er]
            · have := h.1
              omega
      · simp (disch := omega) only [↓nm_s, ↓grd_s, ↓reduceIte, J_lit, Int.cast_ofNat_Int, J_lt_t, J_lt_f, J_le_t, J_le_f, J_eq_t, J_eq_f, within_t, within_f, isIn_t, isIn_f, inRow_t, inRow_f, isCell_t, isCell_f, inb_t, ix_Jn, ix_J, Int.reduceToNat, Int.toNat_natCast, mset_ne, mset_eq, mrow_ne, mrow_eq, upd_eq, upd_ne, h8, q1, hl]
        refine wp_some ⟨?_, J_s _, Or.inr ⟨fun h => g1 ⟨by have := h.1; omega, fun t ht => h.2 t (by omega)⟩, rfl, rfl⟩⟩
        simp only
        rw [J_s, er]
    · rintro ⟨s1, s2, s3, s4⟩ ⟨e1, e2, e3⟩
      simp only at e1 e2 e3
      subst e1 e2
      have fin : Wp (some (.inr (s1, s2)) : Option ((Int32 × Int32 × Int32 × Int32) ⊕ (Int32 × Int32))) (fun o => Sum.elim (fun _ => False) (fun w => (goodW tp p (e - p) ∧ w = (J (pkf (fun t => tp (p + t) - 96) (e - p)), J 1)) ∨ (¬ goodW tp p (e - p) ∧ w = (J 0, J 0))) o) := by
        rcases e3 with ⟨g1, rfl, rfl⟩ | ⟨g1, rfl, rfl⟩
        · exact wp_some (Or.inl ⟨g1, rfl⟩)
        · exact wp_some (Or.inr ⟨g1, rfl⟩)
      unfold b_X11_word_17
      by_cases c : n ≤ e
      · simp (disch := omega) only [↓nm_s, ↓grd_s, ↓reduceIte, J_lit, Int.cast_ofNat_Int, J_lt_t, J_lt_f, J_le_t, J_le_f, J_eq_t, J_eq_f, within_t, within_f, isIn_t, isIn_f, inRow_t, inRow_f, isCell_t, isCell_f, inb_t, ix_Jn, ix_J, Int.reduceToNat, Int.toNat_natCast, mset_ne, mset_eq, mrow_ne, mrow_eq, upd_eq, upd_ne, h8]
        exact fin
      · obtain ⟨q1, q2⟩ := hT.2 e (by omega)
        have hb : ¬ isLet (tp e) := by
          rcases hL.2.2.2 with r | r
          · omega
          · exact r
        have hl := ((lt_5 (tp e) q2).2.1 hb).2
        simp (disch := omega) only [↓nm_s, ↓grd_s, ↓reduceIte, J_lit, Int.cast_ofNat_Int, J_lt_t, J_lt_f, J_le_t, J_le_f, J_eq_t, J_eq_f, within_t, within_f, isIn_t, isIn_f, inRow_t, inRow_f, isCell_t, isCell_f, inb_t, ix_Jn, ix_J, Int.reduceToNat, Int.toNat_natCast, mset_ne, mset_eq, mrow_ne, mrow_eq, upd_eq, upd_ne, h8, q1, hl]
        exact fin
  obtain ⟨w, k1, k2⟩ := key
  unfold f_X11_word j_X11_word_96
  rw [hh]
  simp (disch := omega) only [bnd2_s, ↓nm_s, J_lit, Int.cast_ofNat_Int, mset_ne, mset_eq, mrow_ne, mrow_eq, upd_eq, upd_ne]
  rw [k1]
  rcases k2 with ⟨g, rfl⟩ | ⟨g, rfl⟩
  · simp (disch := omega) only [bind_s, ↓reduceIte, J_lit, Int.cast_ofNat_Int, J_lt_t, J_lt_f, J_le_t, J_le_f, J_eq_t, J_eq_f, within_t, within_f, isIn_t, isIn_f, inRow_t, inRow_f, isCell_t, isCell_f, inb_t]
    exact ⟨_, rfl, Or.inl ⟨g, rfl⟩⟩
  · simp (disch := omega) only [bind_s, ↓reduceIte, J_lit, Int.cast_ofNat_Int, J_lt_t, J_lt_f, J_le_t, J_le_f, J_eq_t, J_eq_f, within_t, within_f, isIn_t, isIn_f, inRow_t, inRow_f, isCell_t, isCell_f, inb_t]
    exact ⟨_, rfl, Or.inr ⟨g, rfl⟩⟩
theorem word_is {tp : Nat → Nat} {n p e i : Nat} {u : Int32} (hi : i < 29) (hL : IsE (fun i => isLet (tp i)) n p e) (h : (goodW tp p (e - p) ∧ u = J (pkf (fun t => tp (p + t) - 96) (e - p))) ∨ (¬ goodW tp p (e - p) ∧ u = J 0)) : (u = J (pkK i) ↔ isW tp p e i) := by
  obtain ⟨k1, k2, k3⟩ := kT4 i hi
  have hd' : ∀ t, t < kwS i → 1 ≤ kwN i t - 96 ∧ kwN i t - 96 < 32 := fun t ht => by have := k3 t ht; omega
  have hK := (pk30 (r := kwS i) k2 (fun t ht => (hd' t ht).2)).1
  have hKp : 0 < pkK i := by
    unfold pkK
    obtain ⟨s, hs⟩ : ∃ s, kwS i = s + 1 := ⟨kwS i - 1, by omega⟩
    rw [hs]
    simp only [pkf]
    have := (hd' s (by omega)).1
    omega
  have hl := hL.1
  rcases h with ⟨g, rfl⟩ | ⟨g, rfl⟩
  · have hd : ∀ t, t < e - p → 1 ≤ tp (p + t) - 96 ∧ tp (p + t) - 96 < 32 := by
      intro t ht
      have h1 := hL.2.2.1 (p + t) (by omega) (by omega)
      have h2 := g.2 t ht
      unfold isLet at h1
      omega
    have hb := (pk30 g.1 (fun t ht => (hd t ht).2)).1
    constructor
    · intro h
      rw [J_eq (by omega) (by omega) (by omega) (by unfold pkK; omega)] at h
      obtain ⟨e1, e2⟩ := pkf_inj (e - p) (kwS i) hd hd' (by unfold pkK at h; omega)
      refine ⟨by omega, fun t ht => ?_⟩
      have h1 := e2 t (by omega)
      have h2 := g.2 t (by omega)
      have h3 := k3 t ht
      omega
    · rintro ⟨e1, e2⟩
      have es : e - p = kwS i := by omega
      rw [es]
      unfold pkK
      have : ∀ r, r ≤ kwS i → pkf (fun t => tp (p + t) - 96) r = pkf (fun t => kwN i t - 96) r := by
        intro r
        induction r with
        | zero => intro _; rfl
        | succ r ih =>
          intro hr
          simp only [pkf]
          rw [ih (by omega), e2 r (by omega)]
      rw [this _ (Nat.le_refl _)]
  · constructor
    · intro h
      have h' : J ((0 : Nat) : Int) = J (pkK i) := h
      rw [J_eq (by omega) (by omega) (by omega) (by unfold pkK; omega)] at h'
      omega
    · rintro ⟨e1, e2⟩
      refine absurd ⟨by omega, fun t ht => ?_⟩ g
      rw [e2 t (by omega)]
      exact (k3 t (by omega)).1
/-- the loop over digits -/
theorem r_digits {N : zM} {tp : Nat → Nat} {n p e : Nat} (a b c : Int32) (h8 : N 257 8 = J n) (hT : TpR (N 262) tp n) (h9 : N 257 9 = J p) (hD : IsE (fun i => isDig (tp i)) n p e) : loopW (fun s => b_X11_number_25 a b c s.1 s.2.1 s.2.2) (J 0, J 0, N) = some (J (dv tp p (min (e - p) 4)), J (e - p : Nat), mset N 257 9 (J e)) := by
  have hn := hT.1
  have hle := hD.2.1
  have key : Wp (loopW (fun s => b_X11_number_25 a b c s.1 s.2.1 s.2.2) (J 0, J 0, N)) (fun w => w = (J (dv tp p (min (e - p) 4)), J (e - p : Nat), mset N 257 9 (J e))) := by
    refine loop_fr (fun k s => s = (J (dv tp p (min (k - p) 4)), J (k - p : Nat), mset N 257 9 (J k))) p e hD.1 (by rw [Nat.sub_self]; exact pr2 rfl (pr2 rfl (mset_id h9).symm)) ?_ ?_
    · rintro k s h1 h2 rfl
      obtain ⟨q1, q2⟩ := hT.2 k (by omega)
      have hl := ((lt_5 (tp k) q2).2.2.1 (hD.2.2.1 k h1 h2)).2
      have er : k + 1 - p = (k - p) + 1 := by omega
      unfold b_X11_number_25 j_X11_number_80_25
      by_cases c4 : k - p < 4
      · simp (disch := omega) only [↓nm_s, ↓grd_s, ↓reduceIte, J_lit, Int.cast_ofNat_Int, J_lt_t, J_lt_f, J_le_t, J_le_f, J_eq_t, J_eq_f, within_t, within_f, isIn_t, isIn_f, inRow_t, inRow_f, isCell_t, isCell_f, inb_t, ix_Jn, ix_J, Int.reduceToNat, Int.toNat_natCast, mset_ne, mset_eq, mrow_ne, mrow_eq, upd_eq, upd_ne, h8, q1, hl, mset_2]
        refine wp_some (pr2 ?_ (pr2 ?_ ?_))
        · rw [J_mul, J_add, J_sub, show min (k + 1 - p) 4 = min (k - p) 4 + 1 by omega]
          simp only [dv]
          rw [show p + min (k - p) 4 = k by omega]
        · rw [J_s, er]
        · rw [J_s]
      · simp (disch := omega) only [↓nm_s, ↓grd_s, ↓reduceIte, J_lit, Int.cast_ofNat_Int, J_lt_t, J_lt_f, J_le_t, J_le_f, J_eq_t, J_eq_f, within_t, within_f, isIn_t, isIn_f, inRow_t, inRow_f, isCell_t, isCell_f, inb_t, ix_Jn, ix_J, Int.reduceToNat, Int.toNat_natCast, mset_ne, mset_eq, mrow_ne, mrow_eq, upd_eq, upd_ne, h8, q1, hl, mset_2]
        refine wp_some (pr2 ?_ (pr2 ?_ ?_))
        · rw [show min (k + 1 - p) 4 = min (k - p) 4 by omega]
        · rw [J_s, er]
        · rw [J_s]
    · rintro s rfl
      unfold b_X11_number_25
      by_cases c : n ≤ e
      · simp (disch := omega) only [↓nm_s, ↓grd_s, ↓reduceIte, J_lit, Int.cast_ofNat_Int, J_lt_t, J_lt_f, J_le_t, J_le_f, J_eq_t, J_eq_f, within_t, within_f, isIn_t, isIn_f, inRow_t, inRow_f, isCell_t, isCell_f, inb_t, ix_Jn, ix_J, Int.reduceToNat, Int.toNat_natCast, mset_ne, mset_eq, mrow_ne, mrow_eq, upd_eq, upd_ne, h8]
        exact wp_some rfl
      · obtain ⟨q1, q2⟩ := hT.2 e (by omega)
        have hb : ¬ isDig (tp e) := by
          rcases hD.2.2.2 with r | r
          · omega
          · exact r
        have hl := ((lt_5 (tp e) q2).2.2.2 hb).2
        simp (disch := omega) only [↓nm_s, ↓grd_s, ↓reduceIte, J_lit, Int.cast_ofNat_Int, J_lt_t, J_lt_f, J_le_t, J_le_f, J_eq_t, J_eq_f, within_t, within_f, isIn_t, isIn_f, inRow_t, inRow_f, isCell_t, isCell_f, inb_t, ix_Jn, ix_J, Int.reduceToNat, Int.toNat_natCast, mset_ne, mset_eq, mrow_ne, mrow_eq, upd_eq, upd_ne, h8, q1, hl]
        exact wp_some rfl
  obtain ⟨w, e', rfl⟩ := key
  exact e'
