/-! ===== a day: steps of one walker ===== -/
def Dy (M N : zM) (n m b k : Nat) : Prop := SqB M 1 (N 259) n m b k ∧ Tx M 40 (N 259) ∧ Bk (M 69) (N 259) k
def csR (ρ : Nat → Int32) : Nat → Int32
  | 0 => J 0
  | n + 1 => csR ρ n + ρ (153 + 12 * n)
theorem csR_ro {ρ ρ' : Nat → Int32} {n : Nat} (h : ∀ v, v < n → ρ' (153 + 12 * v) = ρ (153 + 12 * v)) : csR ρ' n = csR ρ n := by
  induction n with
  | zero => rfl
  | succ n ih => rw [csR, csR, ih (fun v hv => h v (by omega)), h n (by omega)]
theorem csR_add {ρ ρ' : Nat → Int32} {n w : Nat} {d : Int32} (hw : w < n) (h : ∀ v, v < n → v ≠ w → ρ' (153 + 12 * v) = ρ (153 + 12 * v)) (hd : ρ' (153 + 12 * w) = ρ (153 + 12 * w) + d) : csR ρ' n = csR ρ n + d := by
  induction n with
  | zero => omega
  | succ n ih =>
    rw [csR, csR]
    by_cases e : w = n
    · subst e
      rw [csR_ro (fun v hv => h v (by omega) (by omega)), hd]
      rw [Int32.add_assoc]
    · rw [ih (by omega) (fun v hv hne => h v (by omega) hne), h n (by omega) (by omega)]
      rw [Int32.add_assoc, Int32.add_assoc, Int32.add_comm d]
def clF (w j : Nat) : Prop := j = 0 ∨ j = 3 ∨ (20 ≤ j ∧ j ≠ 46 ∧ j ≠ 69 ∧ j ≠ 83 ∧ j ≠ 84) ∨ (4 ≤ j ∧ j < 20 ∧ j ≠ 4 + w)
def rfF (w i : Nat) : Prop := i < 144 ∨ (144 ≤ i ∧ i < 336 ∧ (i < 144 + 12 * w ∨ 156 + 12 * w ≤ i)) ∨ 940 ≤ i
def Sy (w : Nat) (M N M' N' : zM) (n m b k k' : Nat) : Prop :=
  Dy M' N' n m b k' ∧ k ≤ k' ∧ (∀ j, clF w j → M' j = M j) ∧ (∀ i, i ≠ 1 → M' 83 i = M 83 i) ∧ (∀ i, i < 4 * k → M' 69 i = M 69 i) ∧
  (∀ j, j ≠ 259 → j ≠ 265 → j ≠ 266 → N' j = N j) ∧ (∀ i, rfF w i → N' 259 i = N 259 i) ∧ (∃ d, M' 83 1 = M 83 1 + d ∧ csR (N' 259) n = csR (N 259) n + d)
theorem Sy_tr {w : Nat} {M N M1 N1 M2 N2 : zM} {n m b k k1 k2 : Nat} (h1 : Sy w M N M1 N1 n m b k k1) (h2 : Sy w M1 N1 M2 N2 n m b k1 k2) : Sy w M N M2 N2 n m b k k2 := by
  obtain ⟨a1, a2, a3, a4, a5, a6, a7, d, a8, a9⟩ := h1
  obtain ⟨b1, b2, b3, b4, b5, b6, b7, e, b8, b9⟩ := h2
  refine ⟨b1, by omega, fun j hj => by rw [b3 j hj, a3 j hj], fun i hi => by rw [b4 i hi, a4 i hi], fun i hi => by rw [b5 i (by omega), a5 i hi], fun j c1 c2 c3 => by rw [b6 j c1 c2 c3, a6 j c1 c2 c3], fun i hi => by rw [b7 i hi, a7 i hi], d + e, ?_, ?_⟩
  · rw [b8, a8, Int32.add_assoc]
  · rw [b9, a9, Int32.add_assoc]
/-- he stands where he stood -/
theorem Ds_same {M M' : zM} {ρ : Nat → Int32} {n m b k w : Nat} (h : SqB M 1 ρ n m b k) (hw : w < n) (h1 : M' (4 + w) 1 = M (4 + w) 1) (h2 : M' (4 + w) 2 = M (4 + w) 2) (h3 : M' (4 + w) 3 = M (4 + w) 3) : ∀ v, v < n → v ≠ w → M' (4 + w) 1 = 1 → M (4 + v) 1 = 1 → atR (M (4 + v)) ≠ atR (M' (4 + w)) := by
  intro v hv hne i1 i2
  rw [h1] at i1
  have : atR (M (4 + v)) ≠ atR (M (4 + w)) := h.2.2.2.2.2.2 v w hv hw hne i2 i1
  unfold atR at this ⊢
  rw [h2, h3]
  exact this
/-- the walker's own fields change -/
theorem Sy_wk {w : Nat} {M N M' N' : zM} {n m b k : Nat} (h : Dy M N n m b k) (hw : w < n) (hM : ∀ j, j ≠ 4 + w → M' j = M j) (hN : ∀ j, j ≠ 259 → N' j = N j) (hρ : ∀ i, i < 144 + 12 * w ∨ 156 + 12 * w ≤ i → N' 259 i = N 259 i) (hc : N' 259 (153 + 12 * w) = N 259 (153 + 12 * w)) (hk : WkR (M' (4 + w)) (N' 259) w b) (hds : ∀ v, v < n → v ≠ w → M' (4 + w) 1 = 1 → M (4 + v) 1 = 1 → atR (M (4 + v)) ≠ atR (M' (4 + w))) : Sy w M N M' N' n m b k k := by
  obtain ⟨h1, h2, h3⟩ := h
  have hn := h1.1.1
  refine ⟨⟨?_, ?_, ?_⟩, Nat.le_refl _, fun j hj => hM j (by unfold clF at hj; omega), fun i _ => by rw [hM 83 (by omega)], fun i _ => by rw [hM 69 (by omega)], fun j c1 _ _ => hN j c1, fun i hi => hρ i (by unfold rfF at hi; omega), J 0, ?_, ?_⟩
  · exact Sq_wk h1 hw (hM 1 (by omega)) (hM 3 (by omega)) (fun v hv hv2 => hM _ (by omega)) (fun j c1 c2 c3 => hρ j c2) hk hds
  · exact Tx_ro (fun j c1 c2 => hρ j (by omega)) (Tx_fr (fun j c1 c2 _ => hM j (by omega)) h2)
  · rw [hM 69 (by omega)]
    exact Bk_ro h1.1.2.2 (fun j c1 c2 => hρ j (by omega)) h3
  · rw [hM 83 (by omega)]
    exact (Int32.add_zero _).symm
  · rw [csR_ro (ρ := N 259)]
    · exact (Int32.add_zero _).symm
    · intro v hv
      by_cases e : v = w
      · subst e; exact hc
      · exact hρ _ (by omega)
/-- scratch changes -/
theorem Sy_sc {w : Nat} {M N M' N' : zM} {n m b k : Nat} (h : Dy M N n m b k) (hM : ∀ j, j ≠ 46 → j ≠ 84 → M' j = M j) (hN : ∀ j, j ≠ 265 → j ≠ 266 → N' j = N j) : Sy w M N M' N' n m b k k := by
  obtain ⟨h1, h2, h3⟩ := h
  have e := hN 259 (by decide) (by decide)
  refine ⟨⟨?_, ?_, ?_⟩, Nat.le_refl _, fun j hj => hM j (by unfold clF at hj; omega) (by unfold clF at hj; omega), fun i _ => by rw [hM 83 (by omega) (by omega)], fun i _ => by rw [hM 69 (by omega) (by omega)], fun j c1 c2 c3 => hN j c2 c3, fun i hi => by rw [e], J 0, ?_, ?_⟩
  · rw [e]
    exact Sq_fr (fun j c1 c2 => hM j (by omega) (by omega)) h1
  · rw [e]
    exact Tx_fr (fun j c1 c2 c3 => hM j (by omega) (by omega)) h2
  · rw [e, hM 69 (by omega) (by omega)]
    exact h3
  · rw [hM 83 (by omega) (by omega)]
    exact (Int32.add_zero _).symm
  · rw [e]
    exact (Int32.add_zero _).symm
/-- one of the square's own numbers changes: paid (4, 937), draws (5, 938) -/
theorem Sy_hd {w c r : Nat} {M N : zM} {n m b k : Nat} (v : Int32) (h : Dy M N n m b k) (hcr : (c = 4 ∧ r = 937) ∨ (c = 5 ∧ r = 938)) : Sy w M N (mset M 1 c v) (mset N 259 r v) n m b k k := by
  obtain ⟨h1, h2, h3⟩ := h
  have hr : 937 ≤ r ∧ r ≤ 938 ∧ 4 ≤ c ∧ c ≤ 5 := by omega
  have hM : ∀ j, j ≠ 1 → mset M 1 c v j = M j := fun j hj => mset_ne hj
  have hN : ∀ i, i ≠ r → mset N 259 r v 259 i = N 259 i := fun i hi => by rw [mset_eq, upd_ne hi]
  refine ⟨⟨?_, ?_, ?_⟩, Nat.le_refl _, fun j hj => hM j (by unfold clF at hj; omega), fun i _ => by rw [hM 83 (by omega)], fun i _ => by rw [hM 69 (by omega)], fun j c1 c2 c3 => mset_ne c1, fun i hi => hN i (by unfold rfF at hi; omega), J 0, ?_, ?_⟩
  · obtain ⟨e1, e2, e3, e4, e5⟩ := h1.2.1
    refine Sq_hd h1 (hM _ (by omega)) (fun w hw => hM _ (by omega)) (fun j c1 c2 => hN j (by omega)) (Nat.le_refl _) h1.1.2.1 h1.1.2.2 ?_ ?_
    · rcases hcr with ⟨rfl, rfl⟩ | ⟨rfl, rfl⟩
      · refine ⟨?_, ?_, ?_, ?_, ?_⟩ <;> simp (disch := omega) only [mset_ne, mset_eq, mrow_ne, mrow_eq, upd_eq, upd_ne] <;> assumption
      · refine ⟨?_, ?_, ?_, ?_, ?_⟩ <;> simp (disch := omega) only [mset_ne, mset_eq, mrow_ne, mrow_eq, upd_eq, upd_ne] <;> assumption
    · rw [hN 936 (by omega), hN 939 (by omega)]
      exact h1.2.2.1.2
  · exact Tx_ro (fun j c1 c2 => hN j (by omega)) (Tx_fr (fun j c1 c2 _ => hM j (by omega)) h2)
  · rw [hM 69 (by omega)]
    exact Bk_ro h1.1.2.2 (fun j c1 c2 => hN j (by omega)) h3
  · rw [hM 83 (by omega)]
    exact (Int32.add_zero _).symm
  · rw [csR_ro (ρ := N 259)]
    · exact (Int32.add_zero _).symm
    · intro v hv
      have := h1.1.1
      exact hN _ (by omega)
/-- a line of the book -/
theorem s_write {w : Nat} {M N : zM} {n m b k : Nat} (h : Dy M N n m b k) (x y z : Int32) : ∃ M' N' k', f_X0_write 68 1 x y z M = some M' ∧ f_X11_writes x y z N = some N' ∧ Sy w M N M' N' n m b k k' ∧ (∀ j, j ≠ 1 → j ≠ 69 → M' j = M j) ∧ (∀ i, i ≠ 6 → M' 1 i = M 1 i) ∧ (∀ i, i < 336 ∨ 940 ≤ i ∨ (936 ≤ i ∧ i < 939) → N' 259 i = N 259 i) := by
  have h1 := h.1
  have hn := h1.1.1
  have hk := h1.1.2.2
  obtain ⟨e2, e3, e6, e4, e5⟩ := h1.2.1
  obtain ⟨g2, g3, g4⟩ := h1.2.2.1
  by_cases c : k = 150
  · subst c
    refine ⟨M, N, 150, ?_, ?_, Sy_sc h (fun _ _ _ => rfl) (fun _ _ _ => rfl), fun _ _ _ => rfl, fun _ _ => rfl, fun _ _ => rfl⟩
    · unfold f_X0_write
      simp (disch := omega) only [↓nm_eq, ↓grd_if, ↓reduceIte, J_lit, J_nI, J_add, J_sub, J_mul, J_neg, Int.cast_ofNat_Int, J_lt_t, J_lt_f, J_le_t, J_le_f, J_eq_t, J_eq_f, within_t, within_f, isIn_t, isIn_f, inRow_t, inRow_f, isCell_t, isCell_f, inb_t, ix_Jn, ix_J, Int.reduceToNat, Int.toNat_natCast, mset_ne, mset_eq, mrow_ne, mrow_eq, upd_eq, upd_ne, bind_some, bnd2_some, not_true_eq_false, not_false_eq_true, Nat.reduceAdd, e6]
    · unfold f_X11_writes
      simp (disch := omega) only [↓nm_eq, ↓grd_if, ↓reduceIte, J_lit, J_nI, J_add, J_sub, J_mul, J_neg, Int.cast_ofNat_Int, J_lt_t, J_lt_f, J_le_t, J_le_f, J_eq_t, J_eq_f, within_t, within_f, isIn_t, isIn_f, inRow_t, inRow_f, isCell_t, isCell_f, inb_t, ix_Jn, ix_J, Int.reduceToNat, Int.toNat_natCast, mset_ne, mset_eq, mrow_ne, mrow_eq, upd_eq, upd_ne, bind_some, bnd2_some, not_true_eq_false, not_false_eq_true, Nat.reduceAdd, g4]
  · have i0 : (4 * (k : Int)).toNat = 4 * k := by omega
    have i1 : (4 * (k : Int) + 1).toNat = 4 * k + 1 := by omega
    have i2 : (4 * (k : Int) + 2).toNat = 4 * k + 2 := by omega
    have i3 : (4 * (k : Int) + 3).toNat = 4 * k + 3 := by omega
    have j0 : (336 + 4 * (k : Int)).toNat = 336 + 4 * k := by omega
    have j1 : (336 + 4 * (k : Int) + 1).toNat = 336 + (4 * k + 1) := by omega
    have j2 : (336 + 4 * (k : Int) + 2).toNat = 336 + (4 * k + 2) := by omega
    have j3 : (336 + 4 * (k : Int) + 3).toNat = 336 + (4 * k + 3) := by omega
    unfold f_X0_write f_X11_writes
    simp (disch := omega) only [↓nm_eq, ↓grd_if, ↓reduceIte, J_lit, J_nI, J_add, J_sub, J_mul, J_neg, Int.cast_ofNat_Int, J_lt_t, J_lt_f, J_le_t, J_le_f, J_eq_t, J_eq_f, within_t, within_f, isIn_t, isIn_f, inRow_t, inRow_f, isCell_t, isCell_f, inb_t, ix_Jn, ix_J, Int.reduceToNat, Int.toNat_natCast, mset_ne, mset_eq, mrow_ne, mrow_eq, upd_eq, upd_ne, bind_some, bnd2_some, not_true_eq_false, not_false_eq_true, Nat.reduceAdd, e6, i0, i1, i2, i3, g4, j0, j1, j2, j3]
    refine ⟨_, _, k + 1, rfl, rfl, ?_, ?_, ?_, ?_⟩
    · refine ⟨⟨?_, ?_, ?_⟩, by omega, fun j hj => ?_, fun i _ => by simp (disch := omega) only [mset_ne, mset_eq, mrow_ne, mrow_eq, upd_eq, upd_ne], fun i hi => by simp (disch := omega) only [mset_ne, mset_eq, mrow_ne, mrow_eq, upd_eq, upd_ne], fun j c1 c2 c3 => by simp (disch := omega) only [mset_ne, mset_eq, mrow_ne, mrow_eq, upd_eq, upd_ne], fun i hi => ?_, J 0, ?_, ?_⟩
      · refine Sq_hd h1 (by simp (disch := omega) only [mset_ne, mset_eq, mrow_ne, mrow_eq, upd_eq, upd_ne]) (fun w hw => by simp (disch := omega) only [mset_ne, mset_eq, mrow_ne, mrow_eq, upd_eq, upd_ne]) (fun j c1 c2 => by simp (disch := omega) only [mset_ne, mset_eq, mrow_ne, mrow_eq, upd_eq, upd_ne]) (Nat.le_refl _) h1.1.2.1 (by omega) ?_ ?_
        · simp (disch := omega) only [mset_ne, mset_eq, mrow_ne, mrow_eq, upd_eq, upd_ne]
          exact ⟨e2, e3, by exact congrArg J (by omega), e4, e5⟩
        · simp (disch := omega) only [mset_ne, mset_eq, mrow_ne, mrow_eq, upd_eq, upd_ne]
          exact ⟨g3, by exact congrArg J (by omega)⟩
      · simp (disch := omega) only [mset_ne, mset_eq, mrow_ne, mrow_eq, upd_eq, upd_ne]
        exact Tx_ro (fun j c1 c2 => by simp (disch := omega) only [mset_ne, mset_eq, mrow_ne, mrow_eq, upd_eq, upd_ne]) (Tx_fr (fun j c1 c2 _ => by simp (disch := omega) only [mset_ne, mset_eq, mrow_ne, mrow_eq, upd_eq, upd_ne]) h.2.1)
      · intro i hi
        simp (disch := omega) only [mset_ne, mset_eq, mrow_ne, mrow_eq, upd_eq, upd_ne]
        by_cases c0 : i = 4 * k
        · subst c0
          simp (disch := omega) only [mset_ne, mset_eq, mrow_ne, mrow_eq, upd_eq, upd_ne]
          rw [e3, g3]
        · by_cases c1 : i = 4 * k + 1
          · subst c1
            simp (disch := omega) only [mset_ne, mset_eq, mrow_ne, mrow_eq, upd_eq, upd_ne]
          · by_cases c2 : i = 4 * k + 2
            · subst c2
              simp (disch := omega) only [mset_ne, mset_eq, mrow_ne, mrow_eq, upd_eq, upd_ne]
            · by_cases c3 : i = 4 * k + 3
              · subst c3
                simp (disch := omega) only [mset_ne, mset_eq, mrow_ne, mrow_eq, upd_eq, upd_ne]
              · simp (disch := omega) only [mset_ne, mset_eq, mrow_ne, mrow_eq, upd_eq, upd_ne]
                exact h.2.2 i (by omega)
      · unfold clF at hj
        simp (disch := omega) only [mset_ne, mset_eq, mrow_ne, mrow_eq, upd_eq, upd_ne]
      · unfold rfF at hi
        simp (disch := omega) only [mset_ne, mset_eq, mrow_ne, mrow_eq, upd_eq, upd_ne]
      · simp (disch := omega) only [mset_ne, mset_eq, mrow_ne, mrow_eq, upd_eq, upd_ne]
        exact (Int32.add_zero _).symm
      · rw [csR_ro (ρ := N 259)]
        · exact (Int32.add_zero _).symm
        · intro v hv
          simp (disch := omega) only [mset_ne, mset_eq, mrow_ne, mrow_eq, upd_eq, upd_ne]
    · intro j c1 c2
      simp (disch := omega) only [mset_ne, mset_eq, mrow_ne, mrow_eq, upd_eq, upd_ne]
    · intro i hi
      simp (disch := omega) only [mset_ne, mset_eq, mrow_ne, mrow_eq, upd_eq, upd_ne]
    · intro i hi
      simp (disch := omega) only [mset_ne, mset_eq, mrow_ne, mrow_eq, upd_eq, upd_ne]
