/-! ===== both read: what one sees of the other ===== -/
def TS (M N : zM) (tp : Nat → Nat) (n NN : Nat) (P E : Nat → Nat) (j q : Nat) : Prop :=
  TkS tp n (M 80) (M 81) (M 82) NN P E ∧ TpR (N 262) tp n ∧ (j ≤ NN ∧ M 78 1 = J 0 ∧ M 78 2 = J (-1)) ∧ M 78 7 = J j ∧ N 257 8 = J n ∧ N 257 9 = J q ∧ IsE (fun i => isBl (tp i)) n q (P j) ∧ N 257 10 = J (-1)
theorem TS_fr {M M' N N' : zM} {tp : Nat → Nat} {n NN : Nat} {P E : Nat → Nat} {j q : Nat} (h : TS M N tp n NN P E j q) (h1 : M' 80 = M 80) (h2 : M' 81 = M 81) (h3 : M' 82 = M 82) (h4 : M' 78 = M 78) (g1 : N' 262 = N 262) (g2 : N' 257 8 = N 257 8) (g3 : N' 257 9 = N 257 9) (g4 : N' 257 10 = N 257 10) : TS M' N' tp n NN P E j q := by
  unfold TS at *
  rw [h1, h2, h3, h4, g1, g2, g3, g4]
  exact h
theorem TS_n {M N : zM} {tp : Nat → Nat} {n NN : Nat} {P E : Nat → Nat} {j q : Nat} (h : TS M N tp n NN P E j q) : n ≤ 400 ∧ NN ≤ n ∧ j ≤ NN ∧ P j ≤ n ∧ M 82 j = J (P j) ∧ (j < NN → P j < n ∧ P j < E j ∧ E j ≤ n) := by
  obtain ⟨⟨a1, a2, a3, a4, a5, a6, a7⟩, b1, ⟨b2, b21, b22⟩, b3, b4, b5, b6, b7⟩ := h
  refine ⟨a2, a1, b2, b6.2.1, ?_, fun hj => ?_⟩
  · by_cases c : j < NN
    · exact (a4 j c).2.1
    · have : j = NN := by omega
      subst this
      rw [a7, a5]
  · have := a4 j hj
    exact ⟨this.1, this.2.2.1, this.2.2.2.1⟩
theorem TS_next {M N : zM} {tp : Nat → Nat} {n NN : Nat} {P E : Nat → Nat} {j q : Nat} (h : TS M N tp n NN P E j q) (hj : j < NN) : TS (mset M 78 7 (J (j + 1 : Nat))) (mset N 257 9 (J (E j))) tp n NN P E (j + 1) (E j) := by
  obtain ⟨a, b1, b2, b3, b4, b5, b6, b7⟩ := h
  refine ⟨?_, ?_, ⟨by omega, by simp (disch := omega) only [mset_ne, mset_eq, mrow_ne, mrow_eq, upd_eq, upd_ne]; exact b2.2.1, by simp (disch := omega) only [mset_ne, mset_eq, mrow_ne, mrow_eq, upd_eq, upd_ne]; exact b2.2.2⟩, by simp (disch := omega) only [mset_ne, mset_eq, mrow_ne, mrow_eq, upd_eq, upd_ne], ?_, by simp (disch := omega) only [mset_ne, mset_eq, mrow_ne, mrow_eq, upd_eq, upd_ne], (a.2.2.2.1 j hj).2.2.2.2.2, ?_⟩
  · simp (disch := omega) only [mset_ne, mset_eq, mrow_ne, mrow_eq, upd_eq, upd_ne]; exact a
  · simp (disch := omega) only [mset_ne, mset_eq, mrow_ne, mrow_eq, upd_eq, upd_ne]; exact b1
  · simp (disch := omega) only [mset_ne, mset_eq, mrow_ne, mrow_eq, upd_eq, upd_ne]; exact b4
  · simp (disch := omega) only [mset_ne, mset_eq, mrow_ne, mrow_eq, upd_eq, upd_ne]; exact b7
theorem TS_at {M N : zM} {tp : Nat → Nat} {n NN : Nat} {P E : Nat → Nat} {j q : Nat} (h : TS M N tp n NN P E j q) : TS M (mset N 257 9 (J (P j))) tp n NN P E j (P j) := by
  obtain ⟨a, b1, b2, b3, b4, b5, b6, b7⟩ := h
  refine ⟨a, ?_, b2, b3, ?_, by simp (disch := omega) only [mset_ne, mset_eq, mrow_ne, mrow_eq, upd_eq, upd_ne], IsE_s b6 b6.1 (Nat.le_refl _), ?_⟩
  · simp (disch := omega) only [mset_ne, mset_eq, mrow_ne, mrow_eq, upd_eq, upd_ne]; exact b1
  · simp (disch := omega) only [mset_ne, mset_eq, mrow_ne, mrow_eq, upd_eq, upd_ne]; exact b4
  · simp (disch := omega) only [mset_ne, mset_eq, mrow_ne, mrow_eq, upd_eq, upd_ne]; exact b7
theorem i_kind {M N : zM} {tp : Nat → Nat} {n NN : Nat} {P E : Nat → Nat} {j q : Nat} (h : TS M N tp n NN P E j q) : f_X5_kind M = some (M 80 j) := by
  have := TS_n h
  unfold f_X5_kind
  simp (disch := omega) only [↓grd_s, ↓reduceIte, J_lt_t, J_lt_f, J_le_t, J_le_f, J_eq_t, J_eq_f, within_t, within_f, isIn_t, isIn_f, inRow_t, inRow_f, isCell_t, isCell_f, inb_t, ix_Jn, ix_J, Int.reduceToNat, Int.toNat_natCast, h.2.2.2.1]
theorem i_next {M N : zM} {tp : Nat → Nat} {n NN : Nat} {P E : Nat → Nat} {j q : Nat} (h : TS M N tp n NN P E j q) (hj : j < NN) : f_X5_next M = some (mset M 78 7 (J (j + 1 : Nat))) := by
  have := TS_n h
  unfold f_X5_next
  simp (disch := omega) only [↓nm_s, ↓reduceIte, J_lit, Int.cast_ofNat_Int, J_lt_t, J_lt_f, J_le_t, J_le_f, J_eq_t, J_eq_f, within_t, within_f, isIn_t, isIn_f, inRow_t, inRow_f, isCell_t, isCell_f, inb_t, h.2.2.2.1]
  rw [J_s]
theorem i_fail {M N : zM} {tp : Nat → Nat} {n NN : Nat} {P E : Nat → Nat} {j q : Nat} (h : TS M N tp n NN P E j q) (k : Int32) : f_X5_fail k M = some (J 0, mset (mset M 78 1 k) 78 2 (J (P j))) := by
  have hn := TS_n h
  unfold f_X5_fail
  simp (disch := omega) only [↓nm_s, ↓grd_s, ↓reduceIte, J_lit, Int.cast_ofNat_Int, J_lt_t, J_lt_f, J_le_t, J_le_f, J_eq_t, J_eq_f, within_t, within_f, isIn_t, isIn_f, inRow_t, inRow_f, isCell_t, isCell_f, inb_t, ix_Jn, ix_J, Int.reduceToNat, Int.toNat_natCast, mset_ne, mset_eq, mrow_ne, mrow_eq, upd_eq, upd_ne, h.2.2.2.1, hn.2.2.2.2.1]
/-- the kinds -/
theorem i_kd {M N : zM} {tp : Nat → Nat} {n NN : Nat} {P E : Nat → Nat} {j q : Nat} (h : TS M N tp n NN P E j q) : ∃ k : Nat, M 80 j = J k ∧ k < 157 ∧ (k = 0 ↔ j = NN) ∧ (k < 128 → k = 0 ∨ k = 1 ∨ k = 2 ∨ isSg k) := by
  obtain ⟨⟨a1, a2, a3, a4, a5, a6, a7⟩, b1, ⟨b2, b21, b22⟩, b3, b4, b5, b6, b7⟩ := h
  by_cases c : j < NN
  · obtain ⟨g1, g2, g3, g4, g5, g6⟩ := a4 j c
    have hc := (b1.2 (P j) g1).2
    rcases g5 with ⟨t1, t2, t3⟩ | ⟨t1, t2, t3, t4⟩ | ⟨t1, t2, t3, t4, t5⟩
    · rcases t3 with ⟨i, t3, t4, t5⟩ | ⟨t5, _⟩
      · exact ⟨128 + i, t5, by omega, by omega, fun h => by omega⟩
      · exact ⟨1, t5, by omega, by omega, fun h => by omega⟩
    · by_cases q4 : E j - P j ≤ 4
      · rw [if_pos q4] at t3
        exact ⟨2, t3, by omega, by omega, fun h => by omega⟩
      · rw [if_neg q4] at t3
        exact ⟨1, t3, by omega, by omega, fun h => by omega⟩
    · rcases t5 with ⟨t5, t6⟩ | ⟨t5, t6⟩
      · have : tp (P j) < 128 ∧ tp (P j) ≠ 0 := by unfold isSg at t5; omega
        exact ⟨tp (P j), t6, by omega, by omega, fun h => Or.inr (Or.inr (Or.inr t5))⟩
      · exact ⟨1, t6, by omega, by omega, fun h => by omega⟩
  · have : j = NN := by omega
    subst this
    exact ⟨0, a6, by omega, by omega, fun h => by omega⟩
def hch (tp : Nat → Nat) (n p : Nat) : Nat := if p < n then tp p else 0
theorem i_here {M N : zM} {tp : Nat → Nat} {n NN : Nat} {P E : Nat → Nat} {j q : Nat} (h : TS M N tp n NN P E j q) : f_X11_here N = some (J (hch tp n (P j)), mset N 257 9 (J (P j))) :=
  r_here h.2.2.2.2.1 h.2.1 h.2.2.2.2.2.1 h.2.2.2.2.2.2.1
theorem i_hc {M N : zM} {tp : Nat → Nat} {n NN : Nat} {P E : Nat → Nat} {j q : Nat} (h : TS M N tp n NN P E j q) : hch tp n (P j) < 256 ∧ (∀ c, isSg c → (hch tp n (P j) = c ↔ M 80 j = J c)) ∧ (isSg (hch tp n (P j)) → j < NN ∧ E j = P j + 1) ∧ (P j < n ↔ j < NN) := by
  obtain ⟨⟨a1, a2, a3, a4, a5, a6, a7⟩, b1, ⟨b2, b21, b22⟩, b3, b4, b5, b6, b7⟩ := h
  by_cases c : j < NN
  · obtain ⟨g1, g2, g3, g4, g5, g6⟩ := a4 j c
    have hc := (b1.2 (P j) g1).2
    have eh : hch tp n (P j) = tp (P j) := if_pos g1
    rw [eh]
    refine ⟨hc, fun s hs => ?_, fun hs => ⟨c, ?_⟩, ⟨fun _ => c, fun _ => g1⟩⟩
    · have hs128 : s < 128 ∧ s ≠ 1 ∧ s ≠ 2 ∧ ¬ isLet s ∧ ¬ isDig s := by unfold isSg at hs; unfold isLet isDig; omega
      rcases g5 with ⟨t1, t2, t3⟩ | ⟨t1, t2, t3, t4⟩ | ⟨t1, t2, t3, t4, t5⟩
      · have n1 : tp (P j) ≠ s := fun e => hs128.2.2.2.1 (by rw [← e]; exact t1)
        rcases t3 with ⟨i, t3, t4, t5⟩ | ⟨t5, _⟩
        · rw [t5, J_eq (by omega) (by omega) (by omega) (by omega)]
          omega
        · rw [t5, show J 1 = J ((1 : Nat) : Int) from rfl, J_eq (by omega) (by omega) (by omega) (by omega)]
          omega
      · have n1 : tp (P j) ≠ s := fun e => hs128.2.2.2.2 (by rw [← e]; exact t1)
        by_cases q4 : E j - P j ≤ 4
        · rw [t3, if_pos q4, J_eq (by omega) (by omega) (by omega) (by omega)]
          omega
        · rw [t3, if_neg q4, J_eq (by omega) (by omega) (by omega) (by omega)]
          omega
      · rcases t5 with ⟨t5, t6⟩ | ⟨t5, t6⟩
        · rw [t6, J_eq (by omega) (by omega) (by omega) (by omega)]
          omega
        · have n1 : tp (P j) ≠ s := fun e => t5 (by rw [e]; exact hs)
          rw [t6, show J 1 = J ((1 : Nat) : Int) from rfl, J_eq (by omega) (by omega) (by omega) (by omega)]
          omega
    · rcases g5 with ⟨t1, t2, t3⟩ | ⟨t1, t2, t3, t4⟩ | ⟨t1, t2, t3, t4, t5⟩
      · unfold isSg at hs; unfold isLet at t1; omega
      · unfold isSg at hs; unfold isDig at t1; omega
      · exact t4
  · have : j = NN := by omega
    subst this
    have eh : hch tp n (P j) = 0 := if_neg (by omega)
    rw [eh]
    refine ⟨by omega, fun s hs => ?_, fun hs => ?_, ⟨fun h => by omega, fun h => by omega⟩⟩
    · have : s ≠ 0 ∧ s < 128 := by unfold isSg at hs; omega
      rw [a6, show J 0 = J ((0 : Nat) : Int) from rfl, J_eq (by omega) (by omega) (by omega) (by omega)]
      omega
    · unfold isSg at hs; omega
/-- where letters end -/
theorem i_let {M N : zM} {tp : Nat → Nat} {n NN : Nat} {P E : Nat → Nat} {j q : Nat} (h : TS M N tp n NN P E j q) : ∃ e, IsE (fun i => isLet (tp i)) n (P j) e ∧ ∀ i, i < 29 → (isW tp (P j) e i ↔ M 80 j = J (128 + i : Nat)) ∧ (M 80 j = J (128 + i : Nat) → j < NN ∧ e = E j) := by
  obtain ⟨⟨a1, a2, a3, a4, a5, a6, a7⟩, b1, ⟨b2, b21, b22⟩, b3, b4, b5, b6, b7⟩ := h
  have no : ∀ e : Nat, e = P j → ∀ i, i < 29 → ¬ isW tp (P j) e i := by
    intro e he i hi hw
    have := hw.1
    have := (kT4 i hi).1
    omega
  by_cases c : j < NN
  · obtain ⟨g1, g2, g3, g4, g5, g6⟩ := a4 j c
    have hc := (b1.2 (P j) g1).2
    rcases g5 with ⟨t1, t2, t3⟩ | ⟨t1, t2, t3, t4⟩ | ⟨t1, t2, t3, t4, t5⟩
    · refine ⟨E j, t2, fun i hi => ⟨?_, fun _ => ⟨c, rfl⟩⟩⟩
      rcases t3 with ⟨i', t3, t4, t5⟩ | ⟨t5, t6⟩
      · rw [t5, J_eq (by omega) (by omega) (by omega) (by omega)]
        constructor
        · intro hw
          have := isW_u hi t3 hw t4
          omega
        · intro he
          have : i = i' := by omega
          rw [this]; exact t4
      · rw [t5, show J 1 = J ((1 : Nat) : Int) from rfl, J_eq (by omega) (by omega) (by omega) (by omega)]
        exact ⟨fun hw => absurd hw (t6 i hi), fun he => by omega⟩
    · refine ⟨P j, ⟨Nat.le_refl _, by omega, fun k h1 h2 => by omega, Or.inr (not_dig_bl t1).1⟩, fun i hi => ?_⟩
      have ne : ¬ M 80 j = J (128 + i : Nat) := by
        by_cases q4 : E j - P j ≤ 4
        · rw [t3, if_pos q4, J_eq (by omega) (by omega) (by omega) (by omega)]
          omega
        · rw [t3, if_neg q4, J_eq (by omega) (by omega) (by omega) (by omega)]
          omega
      exact ⟨⟨fun hw => absurd hw (no _ rfl i hi), fun he => absurd he ne⟩, fun he => absurd he ne⟩
    · refine ⟨P j, ⟨Nat.le_refl _, by omega, fun k h1 h2 => by omega, Or.inr t1⟩, fun i hi => ?_⟩
      have ne : ¬ M 80 j = J (128 + i : Nat) := by
        rcases t5 with ⟨t5, t6⟩ | ⟨t5, t6⟩
        · have : tp (P j) < 128 := by unfold isSg at t5; omega
          rw [t6, J_eq (by omega) (by omega) (by omega) (by omega)]
          omega
        · rw [t6, show J 1 = J ((1 : Nat) : Int) from rfl, J_eq (by omega) (by omega) (by omega) (by omega)]
          omega
      exact ⟨⟨fun hw => absurd hw (no _ rfl i hi), fun he => absurd he ne⟩, fun he => absurd he ne⟩
  · have : j = NN := by omega
    subst this
    refine ⟨P j, ⟨Nat.le_refl _, by omega, fun k h1 h2 => by omega, Or.inl a5⟩, fun i hi => ?_⟩
    have ne : ¬ M 80 j = J (128 + i : Nat) := by
      rw [a6, show J 0 = J ((0 : Nat) : Int) from rfl, J_eq (by omega) (by omega) (by omega) (by omega)]
      omega
    exact ⟨⟨fun hw => absurd hw (no _ rfl i hi), fun he => absurd he ne⟩, fun he => absurd he ne⟩
theorem i_word {M N : zM} {tp : Nat → Nat} {n NN : Nat} {P E : Nat → Nat} {j q : Nat} (h : TS M N tp n NN P E j q) : ∃ u, f_X11_word N = some (u, mset N 257 9 (J (P j))) ∧ ∀ i, i < 29 → (u = J (pkK i) ↔ M 80 j = J (128 + i : Nat)) := by
  obtain ⟨e, h1, h2⟩ := i_let h
  obtain ⟨u, h3, h4⟩ := r_word h.2.2.2.2.1 h.2.1 h.2.2.2.2.2.1 h.2.2.2.2.2.2.1 h1
  exact ⟨u, h3, fun i hi => (word_is hi h1 h4).trans (h2 i hi).1⟩
theorem i_pass {M N : zM} {tp : Nat → Nat} {n NN : Nat} {P E : Nat → Nat} {j : Nat} (h : TS M N tp n NN P E j (P j)) {i : Nat} (hi : i < 29) (hk : M 80 j = J (128 + i : Nat)) : j < NN ∧ f_X11_pass N = some (mset N 257 9 (J (E j))) := by
  obtain ⟨e, h1, h2⟩ := i_let h
  obtain ⟨h3, h4⟩ := (h2 i hi).2 hk
  subst h4
  exact ⟨h3, r_pass h.2.2.2.2.1 h.2.1 h.2.2.2.2.2.1 h1⟩
theorem dv_b {tp : Nat → Nat} {p : Nat} : ∀ r, (∀ t, t < r → isDig (tp (p + t))) → 0 ≤ dv tp p r ∧ dv tp p r < 10 ^ r := by
  intro r
  induction r with
  | zero => intro _; simp [dv]
  | succ r ih =>
    intro h
    have h1 := ih (fun t ht => h t (by omega))
    have h2 := h r (by omega)
    unfold isDig at h2
    simp only [dv]
    rw [Int.pow_succ]
    omega
theorem fine_t {N : zM} (h : N 257 10 = J (-1)) : f_X11_fine N = J 1 := by
  unfold f_X11_fine
  rw [if_pos (show N 257 10 = (-1 : Int32) from h)]
  rfl
theorem fine_f {N : zM} {p : Nat} (hp : p < 2147483648) (h : N 257 10 = J p) : f_X11_fine N = J 0 := by
  unfold f_X11_fine
  rw [if_neg (by rw [h, show (-1 : Int32) = J (-1) from rfl, J_eq (by omega) (by omega) (by omega) (by omega)]; omega)]
  rfl
