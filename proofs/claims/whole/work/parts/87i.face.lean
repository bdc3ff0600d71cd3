/-! ===== numbers, signs, beginnings of both ===== -/
def cF (M : zM) (k p : Nat) : zM := mset (mset M 78 1 (J k)) 78 2 (J p)
def rF (N : zM) (k p : Nat) : zM := mset (mset N 257 10 (J p)) 257 11 (J k)
theorem r_wrong {N : zM} (h : N 257 10 = J (-1)) (k p : Nat) : f_X11_wrong (J k) (J p) N = some (rF N k p) := by
  unfold f_X11_wrong rF
  rw [if_pos (show N 257 10 = (-1 : Int32) from h)]
  simp only [↓nm_s]
theorem r_wrong_n {N : zM} {p0 : Nat} (hp : p0 < 2147483648) (h : N 257 10 = J p0) (k p : Int32) : f_X11_wrong k p N = some N := by
  unfold f_X11_wrong
  rw [if_neg (by rw [h, show (-1 : Int32) = J (-1) from rfl, J_eq (by omega) (by omega) (by omega) (by omega)]; omega)]
theorem rF_10 (N : zM) (k p : Nat) : rF N k p 257 10 = J p := by unfold rF; simp (disch := omega) only [mset_ne, mset_eq, mrow_ne, mrow_eq, upd_eq, upd_ne]
theorem i_dig {M N : zM} {tp : Nat → Nat} {n NN : Nat} {P E : Nat → Nat} {j q : Nat} (h : TS M N tp n NN P E j q) : ∃ e, IsE (fun i => isDig (tp i)) n (P j) e ∧ ((j < NN ∧ e = E j ∧ 1 ≤ e - P j ∧ e - P j ≤ 4 ∧ M 80 j = J 2 ∧ M 81 j = J (dv tp (P j) (e - P j))) ∨ ((e = P j ∨ 4 < e - P j) ∧ ¬ M 80 j = J 2)) := by
  obtain ⟨⟨a1, a2, a3, a4, a5, a6, a7⟩, b1, ⟨b2, b21, b22⟩, b3, b4, b5, b6, b7⟩ := h
  by_cases c : j < NN
  · obtain ⟨g1, g2, g3, g4, g5, g6⟩ := a4 j c
    rcases g5 with ⟨t1, t2, t3⟩ | ⟨t1, t2, t3, t4⟩ | ⟨t1, t2, t3, t4, t5⟩
    · refine ⟨P j, ⟨Nat.le_refl _, by omega, fun k h1 h2 => by omega, Or.inr (not_let_dig t1).1⟩, Or.inr ⟨Or.inl rfl, ?_⟩⟩
      rcases t3 with ⟨i, t3, t4, t5⟩ | ⟨t5, _⟩
      · rw [t5, J_eq (by omega) (by omega) (by omega) (by omega)]
        omega
      · rw [t5, J_eq (by omega) (by omega) (by omega) (by omega)]
        omega
    · refine ⟨E j, t2, ?_⟩
      by_cases q4 : E j - P j ≤ 4
      · rw [if_pos q4] at t3
        exact Or.inl ⟨c, rfl, by omega, q4, t3, t4⟩
      · rw [if_neg q4] at t3
        refine Or.inr ⟨Or.inr (by omega), ?_⟩
        rw [t3, J_eq (by omega) (by omega) (by omega) (by omega)]
        omega
    · refine ⟨P j, ⟨Nat.le_refl _, by omega, fun k h1 h2 => by omega, Or.inr t2⟩, Or.inr ⟨Or.inl rfl, ?_⟩⟩
      rcases t5 with ⟨t5, t6⟩ | ⟨t5, t6⟩
      · have : tp (P j) < 128 ∧ tp (P j) ≠ 2 := by unfold isSg at t5; omega
        rw [t6, J_eq (by omega) (by omega) (by omega) (by omega)]
        omega
      · rw [t6, J_eq (by omega) (by omega) (by omega) (by omega)]
        omega
  · have : j = NN := by omega
    subst this
    refine ⟨P j, ⟨Nat.le_refl _, by omega, fun k h1 h2 => by omega, Or.inl a5⟩, Or.inr ⟨Or.inl rfl, ?_⟩⟩
    rw [a6, J_eq (by omega) (by omega) (by omega) (by omega)]
    omega
theorem i_num {M N : zM} {tp : Nat → Nat} {n NN : Nat} {P E : Nat → Nat} {j q : Nat} (h : TS M N tp n NN P E j q) {lo hi : Int} (hlo : 0 ≤ lo) (hlo2 : lo < 10000) (hhi : -10 ≤ hi) (hhi2 : hi < 10000) :
    (∃ v : Nat, lo ≤ v ∧ (v : Int) ≤ hi ∧ j < NN ∧ M 80 j = J 2 ∧ f_X5_number (J lo) (J hi) M = some (J v, mset M 78 7 (J (j + 1 : Nat))) ∧ f_X11_number (J lo) (J hi) N = some (J v, mset N 257 9 (J (E j)))) ∨
    (∃ k e : Nat, (k = 1 ∨ k = 2) ∧ f_X5_number (J lo) (J hi) M = some (J (-1), cF M k (P j)) ∧ f_X11_number (J lo) (J hi) N = some (J 0, rF (mset N 257 9 (J e)) k (P j))) := by
  have hn := TS_n h
  have hh := i_here h
  have hat := TS_at h
  obtain ⟨e, d1, d2⟩ := i_dig h
  have hdig := r_digits (J lo) (J hi) (J (P j)) hat.2.2.2.2.1 hat.2.1 hat.2.2.2.2.2.1 d1
  rw [mset_2] at hdig
  have h10 := h.2.2.2.2.2.2.2
  have ft := fine_t h10
  have ft2 : f_X11_fine (mset N 257 9 (J e)) = J 1 := fine_t (by simp (disch := omega) only [mset_ne, mset_eq, mrow_ne, mrow_eq, upd_eq, upd_ne]; exact h10)
  have he := d1.2.1
  have hfail := i_fail h
  have hw := fun k p => r_wrong (N := mset N 257 9 (J e)) (by simp (disch := omega) only [mset_ne, mset_eq, mrow_ne, mrow_eq, upd_eq, upd_ne]; exact h10) k p
  have hw1 : f_X11_wrong (J 1) (J (P j)) (mset N 257 9 (J e)) = some (rF (mset N 257 9 (J e)) 1 (P j)) := hw 1 (P j)
  have hw2 : f_X11_wrong (J 2) (J (P j)) (mset N 257 9 (J e)) = some (rF (mset N 257 9 (J e)) 2 (P j)) := hw 2 (P j)
  have ff : ∀ k, f_X11_fine (rF (mset N 257 9 (J e)) k (P j)) = J 0 := fun k => fine_f (by omega) (rF_10 _ _ _)
  have e9 : mset N 257 9 (J (P j)) 257 9 = J (P j) := by simp (disch := omega) only [mset_ne, mset_eq, mrow_ne, mrow_eq, upd_eq, upd_ne]
  unfold f_X5_number j_X5_number_18 j_X5_number_36 j_X5_number_54 j_X5_number_64 f_X11_number j_X11_number_98 j_X11_number_133
  rcases d2 with ⟨t1, t2, t3, t4, t5, t6⟩ | ⟨t1, t2⟩
  · subst t2
    have hb := dv_b (tp := tp) (p := P j) (E j - P j) (fun t ht => d1.2.2.1 (P j + t) (by omega) (by omega))
    have hb2 : dv tp (P j) (E j - P j) < 10000 := by
      have : (10 : Int) ^ (E j - P j) ≤ 10 ^ 4 := by
        rcases (show E j - P j = 1 ∨ E j - P j = 2 ∨ E j - P j = 3 ∨ E j - P j = 4 by omega) with r | r | r | r <;> rw [r] <;> decide
      omega
    rw [show min (E j - P j) 4 = E j - P j by omega] at hdig
    obtain ⟨v, hv⟩ : ∃ v : Nat, (v : Int) = dv tp (P j) (E j - P j) := ⟨(dv tp (P j) (E j - P j)).toNat, by omega⟩
    rw [← hv] at hdig t6
    have hnx := i_next h t1
    by_cases c1 : (v : Int) < lo
    · right
      refine ⟨2, E j, Or.inr rfl, ?_, ?_⟩
      · simp (disch := omega) only [↓nm_s, ↓grd_s, ↓reduceIte, J_lit, J_neg, Int.cast_ofNat_Int, J_lt_t, J_lt_f, J_le_t, J_le_f, J_eq_t, J_eq_f, within_t, within_f, isIn_t, isIn_f, inRow_t, inRow_f, isCell_t, isCell_f, inb_t, ix_Jn, ix_J, Int.reduceToNat, Int.toNat_natCast, h.2.2.2.1, t5, t6, hfail, bnd2_s]
        rfl
      · simp (disch := omega) only [↓nm_s, ↓grd_s, ↓reduceIte, J_lit, J_neg, Int.cast_ofNat_Int, J_lt_t, J_lt_f, J_le_t, J_le_f, J_eq_t, J_eq_f, within_t, within_f, isIn_t, isIn_f, inRow_t, inRow_f, isCell_t, isCell_f, inb_t, ft, hh, bnd2_s, e9, hdig, bind_s, hw2, ff]
    · by_cases c2 : (v : Int) ≤ hi
      · left
        refine ⟨v, by omega, c2, t1, t5, ?_, ?_⟩
        · simp (disch := omega) only [↓nm_s, ↓grd_s, ↓reduceIte, J_lit, J_neg, Int.cast_ofNat_Int, J_lt_t, J_lt_f, J_le_t, J_le_f, J_eq_t, J_eq_f, within_t, within_f, isIn_t, isIn_f, inRow_t, inRow_f, isCell_t, isCell_f, inb_t, ix_Jn, ix_J, Int.reduceToNat, Int.toNat_natCast, h.2.2.2.1, t5, t6, hnx, bind_s]
        · simp (disch := omega) only [↓nm_s, ↓grd_s, ↓reduceIte, J_lit, J_neg, Int.cast_ofNat_Int, J_lt_t, J_lt_f, J_le_t, J_le_f, J_eq_t, J_eq_f, within_t, within_f, isIn_t, isIn_f, inRow_t, inRow_f, isCell_t, isCell_f, inb_t, ft, ft2, hh, bnd2_s, e9, hdig, bind_s]
      · right
        refine ⟨2, E j, Or.inr rfl, ?_, ?_⟩
        · simp (disch := omega) only [↓nm_s, ↓grd_s, ↓reduceIte, J_lit, J_neg, Int.cast_ofNat_Int, J_lt_t, J_lt_f, J_le_t, J_le_f, J_eq_t, J_eq_f, within_t, within_f, isIn_t, isIn_f, inRow_t, inRow_f, isCell_t, isCell_f, inb_t, ix_Jn, ix_J, Int.reduceToNat, Int.toNat_natCast, h.2.2.2.1, t5, t6, hfail, bnd2_s]
          rfl
        · simp (disch := omega) only [↓nm_s, ↓grd_s, ↓reduceIte, J_lit, J_neg, Int.cast_ofNat_Int, J_lt_t, J_lt_f, J_le_t, J_le_f, J_eq_t, J_eq_f, within_t, within_f, isIn_t, isIn_f, inRow_t, inRow_f, isCell_t, isCell_f, inb_t, ft, hh, bnd2_s, e9, hdig, bind_s, hw2, ff]
  · right
    refine ⟨1, e, Or.inl rfl, ?_, ?_⟩
    · simp (disch := omega) only [↓nm_s, ↓grd_s, ↓reduceIte, J_lit, J_neg, Int.cast_ofNat_Int, J_lt_t, J_lt_f, J_le_t, J_le_f, J_eq_t, J_eq_f, within_t, within_f, isIn_t, isIn_f, inRow_t, inRow_f, isCell_t, isCell_f, inb_t, ix_Jn, ix_J, Int.reduceToNat, Int.toNat_natCast, h.2.2.2.1, t2, hfail, bnd2_s]
      rfl
    · simp (disch := omega) only [↓nm_s, ↓grd_s, ↓reduceIte, J_lit, J_neg, Int.cast_ofNat_Int, J_lt_t, J_lt_f, J_le_t, J_le_f, J_eq_t, J_eq_f, within_t, within_f, isIn_t, isIn_f, inRow_t, inRow_f, isCell_t, isCell_f, inb_t, ft, hh, bnd2_s, e9, hdig, bind_s, hw1, ff]
/-- a sign that must stand there -/
theorem i_sign {M N : zM} {tp : Nat → Nat} {n NN : Nat} {P E : Nat → Nat} {j q : Nat} (h : TS M N tp n NN P E j q) {c : Nat} (hc : isSg c) :
    (M 80 j = J c ∧ j < NN ∧ f_X5_take (J c) M = some (J 1, mset M 78 7 (J (j + 1 : Nat))) ∧ f_X11_sign (J c) N = some (mset N 257 9 (J (E j)))) ∨
    (¬ M 80 j = J c ∧ f_X5_take (J c) M = some (J 0, cF M 1 (P j)) ∧ f_X11_sign (J c) N = some (rF (mset N 257 9 (J (P j))) 1 (P j))) := by
  have hn := TS_n h
  have hh := i_here h
  obtain ⟨c1, c2, c3, c4⟩ := i_hc h
  have h10 := h.2.2.2.2.2.2.2
  have ft := fine_t h10
  have ft2 : f_X11_fine (mset N 257 9 (J (P j))) = J 1 := fine_t (by simp (disch := omega) only [mset_ne, mset_eq, mrow_ne, mrow_eq, upd_eq, upd_ne]; exact h10)
  have hw : f_X11_wrong (J 1) (J (P j)) (mset N 257 9 (J (P j))) = some (rF (mset N 257 9 (J (P j))) 1 (P j)) := r_wrong (by simp (disch := omega) only [mset_ne, mset_eq, mrow_ne, mrow_eq, upd_eq, upd_ne]; exact h10) 1 (P j)
  have ff : f_X11_fine (rF (mset N 257 9 (J (P j))) 1 (P j)) = J 0 := fine_f (by omega) (rF_10 _ _ _)
  have hc128 : c < 128 := by unfold isSg at hc; omega
  have hfail : f_X5_fail (J 1) M = some (J 0, cF M 1 (P j)) := i_fail h (J 1)
  have e9 : mset N 257 9 (J (P j)) 257 9 = J (P j) := by simp (disch := omega) only [mset_ne, mset_eq, mrow_ne, mrow_eq, upd_eq, upd_ne]
  unfold f_X5_take f_X11_sign j_X11_sign_24
  by_cases k : M 80 j = J c
  · have k2 : hch tp n (P j) = c := (c2 c hc).2 k
    obtain ⟨k3, k4⟩ := c3 (by rw [k2]; exact hc)
    have hnx := i_next h k3
    left
    refine ⟨k, k3, ?_, ?_⟩
    · simp (disch := omega) only [↓nm_s, ↓grd_s, ↓reduceIte, J_lit, J_neg, Int.cast_ofNat_Int, J_lt_t, J_lt_f, J_le_t, J_le_f, J_eq_t, J_eq_f, within_t, within_f, isIn_t, isIn_f, inRow_t, inRow_f, isCell_t, isCell_f, inb_t, ix_Jn, ix_J, Int.reduceToNat, Int.toNat_natCast, h.2.2.2.1, k, hnx, bind_s]
    · simp (disch := omega) only [↓nm_s, ↓grd_s, ↓reduceIte, J_lit, J_neg, Int.cast_ofNat_Int, J_lt_t, J_lt_f, J_le_t, J_le_f, J_eq_t, J_eq_f, within_t, within_f, isIn_t, isIn_f, inRow_t, inRow_f, isCell_t, isCell_f, inb_t, ft, ft2, hh, bnd2_s, k2, e9, mset_2]
      rw [J_s, k4]
  · have k2 : ¬ hch tp n (P j) = c := fun q => k ((c2 c hc).1 q)
    have isb : isB (J 0) := Or.inl rfl
    right
    refine ⟨k, ?_, ?_⟩
    · simp (disch := omega) only [↓nm_s, ↓grd_s, ↓reduceIte, J_lit, J_neg, Int.cast_ofNat_Int, J_lt_t, J_lt_f, J_le_t, J_le_f, J_eq_t, J_eq_f, within_t, within_f, isIn_t, isIn_f, inRow_t, inRow_f, isCell_t, isCell_f, inb_t, ix_Jn, ix_J, Int.reduceToNat, Int.toNat_natCast, h.2.2.2.1, k, hfail, bnd2_s]
      rw [if_pos isb]
    · simp (disch := omega) only [↓nm_s, ↓grd_s, ↓reduceIte, J_lit, J_neg, Int.cast_ofNat_Int, J_lt_t, J_lt_f, J_le_t, J_le_f, J_eq_t, J_eq_f, within_t, within_f, isIn_t, isIn_f, inRow_t, inRow_f, isCell_t, isCell_f, inb_t, ft, ff, hh, bnd2_s, e9, bind_s, hw]
/-! what the reference does behind a fault: nothing -/
theorem n_number {N : zM} {p : Nat} (hp : p < 2147483648) (h : N 257 10 = J p) (a b : Int32) : f_X11_number a b N = some (J 0, N) := by
  unfold f_X11_number
  rw [if_pos (show f_X11_fine N = (0 : Int32) from fine_f hp h)]
  rfl
theorem n_sign {N : zM} {p : Nat} (hp : p < 2147483648) (h : N 257 10 = J p) (a : Int32) : f_X11_sign a N = some N := by
  unfold f_X11_sign j_X11_sign_24
  rw [if_pos (show f_X11_fine N = (0 : Int32) from fine_f hp h), if_pos (show f_X11_fine N = (0 : Int32) from fine_f hp h)]
theorem n_codes {N : zM} {p : Nat} (hp : p < 2147483648) (h : N 257 10 = J p) (a b : Int32) : f_X11_codes a b N = some N := by
  unfold f_X11_codes
  rw [if_pos (show f_X11_fine N = (0 : Int32) from fine_f hp h)]
/-- the beginning of a line, or of a word of a way: the word fits (it is the i-th), or it doesn't; it is one too many, or not -/
theorem i_begin {M N : zM} {tp : Nat → Nat} {n NN : Nat} {P E : Nat → Nat} {j : Nat} (h : TS M N tp n NN P E j (P j)) (fits full : Prop) (hf : fits → ∃ i, i < 29 ∧ M 80 j = J (128 + i : Nat)) {u1 u2 : Int32} (b1 : Bo u1 fits) (b2 : Bo u2 full) {x y : Int} (hx : -1000 ≤ x ∧ x ≤ 1000) (hy : -1000 ≤ y ∧ y ≤ 1000) (hxy : x < y ↔ ¬ full) :
    (fits ∧ ¬ full ∧ j < NN ∧ f_X5_opens u1 (J x) (J y) M = some (J 1, M) ∧ f_X11_mayBegin u1 u2 N = some (mset N 257 9 (J (E j)))) ∨
    (∃ k : Nat, (k = 1 ∨ k = 3) ∧ f_X5_opens u1 (J x) (J y) M = some (J 0, cF M k (P j)) ∧ f_X11_mayBegin u1 u2 N = some (rF N k (P j))) := by
  have hn := TS_n h
  have h10 := h.2.2.2.2.2.2.2
  have ft := fine_t h10
  have h9 := h.2.2.2.2.2.1
  have hw1 : f_X11_wrong (J 1) (J (P j)) N = some (rF N 1 (P j)) := r_wrong h10 1 (P j)
  have hw3 : f_X11_wrong (J 3) (J (P j)) N = some (rF N 3 (P j)) := r_wrong h10 3 (P j)
  have ff : ∀ k, f_X11_fine (rF N k (P j)) = J 0 := fun k => fine_f (by omega) (rF_10 _ _ _)
  have f1 : f_X5_fail (J 1) M = some (J 0, cF M 1 (P j)) := i_fail h (J 1)
  have f3 : f_X5_fail (J 3) M = some (J 0, cF M 3 (P j)) := i_fail h (J 3)
  have isb : isB (J 0) := Or.inl rfl
  unfold f_X5_opens f_X11_mayBegin j_X11_mayBegin_29
  rcases b1 with ⟨rfl, c1⟩ | ⟨rfl, c1⟩
  · rcases b2 with ⟨rfl, c2⟩ | ⟨rfl, c2⟩
    · have hxy' : ¬ x < y := fun q => hxy.1 q c2
      right
      refine ⟨3, Or.inr rfl, ?_, ?_⟩
      · simp (disch := omega) only [↓nm_s, ↓grd_s, ↓reduceIte, J_lit, J_neg, Int.cast_ofNat_Int, J_lt_t, J_lt_f, J_le_t, J_le_f, J_eq_t, J_eq_f, within_t, within_f, isIn_t, isIn_f, inRow_t, inRow_f, isCell_t, isCell_f, inb_t, f3, bnd2_s]
      · simp (disch := omega) only [↓nm_s, ↓grd_s, ↓reduceIte, J_lit, J_neg, Int.cast_ofNat_Int, J_lt_t, J_lt_f, J_le_t, J_le_f, J_eq_t, J_eq_f, within_t, within_f, isIn_t, isIn_f, inRow_t, inRow_f, isCell_t, isCell_f, inb_t, h9, hw3, bind_s, ff]
    · have hxy' : x < y := hxy.2 c2
      obtain ⟨i, hi, hk⟩ := hf c1
      obtain ⟨k1, k2⟩ := i_pass h hi hk
      left
      refine ⟨c1, c2, k1, ?_, ?_⟩
      · simp (disch := omega) only [↓nm_s, ↓grd_s, ↓reduceIte, J_lit, J_neg, Int.cast_ofNat_Int, J_lt_t, J_lt_f, J_le_t, J_le_f, J_eq_t, J_eq_f, within_t, within_f, isIn_t, isIn_f, inRow_t, inRow_f, isCell_t, isCell_f, inb_t]
      · simp (disch := omega) only [↓nm_s, ↓grd_s, ↓reduceIte, J_lit, J_neg, Int.cast_ofNat_Int, J_lt_t, J_lt_f, J_le_t, J_le_f, J_eq_t, J_eq_f, within_t, within_f, isIn_t, isIn_f, inRow_t, inRow_f, isCell_t, isCell_f, inb_t, ft, k2, bind_s]
  · right
    refine ⟨1, Or.inl rfl, ?_, ?_⟩
    · simp (disch := omega) only [↓nm_s, ↓grd_s, ↓reduceIte, J_lit, J_neg, Int.cast_ofNat_Int, J_lt_t, J_lt_f, J_le_t, J_le_f, J_eq_t, J_eq_f, within_t, within_f, isIn_t, isIn_f, inRow_t, inRow_f, isCell_t, isCell_f, inb_t, f1, bnd2_s]
      rw [if_pos isb]
    · simp (disch := omega) only [↓nm_s, ↓grd_s, ↓reduceIte, J_lit, J_neg, Int.cast_ofNat_Int, J_lt_t, J_lt_f, J_le_t, J_le_f, J_eq_t, J_eq_f, within_t, within_f, isIn_t, isIn_f, inRow_t, inRow_f, isCell_t, isCell_f, inb_t, h9, hw1, bind_s, ff]
