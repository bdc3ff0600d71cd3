/-! ===== a text, line by line ===== -/
/-- what the reference does with a line of text k -/
noncomputable def rdL (k : Nat) (l : Int32) (N : zM) : Option zM := match k with
  | 0 => f_X11_readRule l N
  | 1 => f_X11_readStones l N
  | 2 => f_X11_readWay l N
  | _ => f_X11_readHour l N
theorem t131_go {k l : Nat} {N N1 : zM} {u : Int32} {a n : Nat} (hk : k < 4) (hf : f_X11_fine N = J 1) (hh : f_X11_here N = some (u, N1)) (hu : ¬ u < J 0) (h8 : N1 257 8 = J n) (h9 : N1 257 9 = J a) (ha : a < n) (hn : n ≤ 400) {N2 : zM} (hr : (rdL k (J l) N1).bind (f_X11_sign (J 59)) = some N2) : b_X11_text_131 (J k) (J l) N = some (.inl (J (l + 1 : Nat), N2)) := by
  unfold b_X11_text_131 j_X11_text_199_131
  have fin : ∀ (x : Option zM), x.bind (f_X11_sign (J 59)) = some N2 → (x.bind fun M => (f_X11_sign (J 59) M).bind fun M202 => (some (.inl (J (l : Int) + J 1, M202)) : Option ((Int32 × zM) ⊕ (Int32 × zM)))) = some (.inl (J (l + 1 : Nat), N2)) := by
    intro x hx
    cases x with
    | none => exact absurd hx (by simp)
    | some y =>
      simp only [bind_s] at hx ⊢
      rw [hx]
      simp only [bind_s]
      rw [J_s]
  rcases (show k = 0 ∨ k = 1 ∨ k = 2 ∨ k = 3 by omega) with e | e | e | e <;> subst e
  all_goals
    simp (disch := omega) only [↓reduceIte, J_lit, Int.cast_ofNat_Int, Int.natCast_zero, Int.natCast_one, J_lt_t, J_lt_f, J_le_t, J_le_f, J_eq_t, J_eq_f, within_t, within_f, isIn_t, isIn_f, inRow_t, inRow_f, isCell_t, isCell_f, inb_t, hf, hh, bnd2_s, hu, h8, h9]
    exact fin _ hr
theorem t131_end {k l : Nat} {N N1 : zM} {u : Int32} {n a : Nat} (hf : f_X11_fine N = J 1) (hh : f_X11_here N = some (u, N1)) (hu : ¬ u < J 0) (h8 : N1 257 8 = J n) (h9 : N1 257 9 = J a) (ha : n ≤ a) (hn : a ≤ 400) : b_X11_text_131 (J k) (J l) N = some (.inr (J l, N1)) := by
  unfold b_X11_text_131
  simp (disch := omega) only [↓reduceIte, J_lit, Int.cast_ofNat_Int, J_lt_t, J_lt_f, J_le_t, J_le_f, J_eq_t, J_eq_f, within_t, within_f, isIn_t, isIn_f, inRow_t, inRow_f, isCell_t, isCell_f, inb_t, hf, hh, bnd2_s, hu, h8, h9]
theorem t131_bad {k l : Int32} {N : zM} {p : Nat} (hp : p < 2147483648) (h : N 257 10 = J p) : b_X11_text_131 k l N = some (.inr (l, N)) := by
  unfold b_X11_text_131
  rw [if_pos (show f_X11_fine N = (0 : Int32) from fine_f hp h)]
theorem p_lines {tp : Nat → Nat} {n NN : Nat} {P E : Nat → Nat} {k : Nat} (hk : k < 4) (B : Int32 → zM → Option ((Int32 × zM) ⊕ ((Int32 × zM) ⊕ (Int32 × zM)))) (D : Nat → zM → zM → Prop)
    (hD : ∀ l M N v, D l M N → D l M (mset N 257 9 v))
    (hB : ∀ (l : Nat) (M : zM), l ≤ 16 → (∃ j : Nat, M 78 7 = J j ∧ j ≤ 400 ∧ M 80 j = J 0) → B (J l) M = some (.inr (.inl (J l, M))))
    (hL : ∀ (l j q : Nat) (M N : zM), TS M N tp n NN P E j q → j < NN → l ≤ 16 → D l M N →
      (∃ (j' q' : Nat) (M' N' : zM), j < j' ∧ l < 16 ∧ B (J l) M = some (.inl (J (l + 1 : Nat), M')) ∧ (rdL k (J l) (mset N 257 9 (J (P j)))).bind (f_X11_sign (J 59)) = some N' ∧ TS M' N' tp n NN P E j' q' ∧ D (l + 1) M' N' ∧ FrC M M' ∧ FrN N N') ∨
      (∃ M' N' : zM, B (J l) M = some (.inr (.inr (J (-1), M'))) ∧ (rdL k (J l) (mset N 257 9 (J (P j)))).bind (f_X11_sign (J 59)) = some N' ∧ FL M' N' ∧ FrC M M' ∧ FrN N N')) :
    ∀ (m l j q : Nat) (M N : zM), NN - j ≤ m → TS M N tp n NN P E j q → l ≤ 16 → D l M N →
      (∃ (l' : Nat) (M' N' : zM), l' ≤ 16 ∧ loopW (fun s => B s.1 s.2) (J l, M) = some (.inl (J l', M')) ∧ loopW (fun s => b_X11_text_131 (J k) s.1 s.2) (J l, N) = some (J l', N') ∧ D l' M' N' ∧ (N' 257 10 = J (-1) ∧ M' 78 1 = J 0 ∧ M' 78 2 = J (-1)) ∧ FrC M M' ∧ FrN N N') ∨
      (∃ (v : Int32) (M' N' : zM), loopW (fun s => B s.1 s.2) (J l, M) = some (.inr (J (-1), M')) ∧ loopW (fun s => b_X11_text_131 (J k) s.1 s.2) (J l, N) = some (v, N') ∧ FL M' N' ∧ FrC M M' ∧ FrN N N') := by
  intro m
  induction m with
  | zero =>
    intro l j q M N hm h hl hd
    have hn := TS_n h
    have hj : j = NN := by omega
    subst hj
    have hat := TS_at h
    left
    refine ⟨l, M, mset N 257 9 (J (P j)), hl, ?_, ?_, hD _ _ _ _ hd, ⟨hat.2.2.2.2.2.2.2, h.2.2.1.2⟩, FrC_r _, FrN_9 _ _⟩
    · rw [loopW_eq, hB l M hl ⟨j, h.2.2.2.1, by omega, h.1.2.2.2.2.2.1⟩]
    · have hc := i_hc h
      rw [loopW_eq, t131_end (fine_t h.2.2.2.2.2.2.2) (i_here h) (by rw [J_lt (by omega) (by omega) (by omega) (by omega)]; omega) hat.2.2.2.2.1 hat.2.2.2.2.2.1 (by have := hc.2.2.2; omega) (by omega)]
  | succ m ih =>
    intro l j q M N hm h hl hd
    have hn := TS_n h
    have hat := TS_at h
    have hc := i_hc h
    by_cases hj : j < NN
    · have hp : P j < n := hc.2.2.2.2 hj
      have go := fun (N2 : zM) (hr : (rdL k (J l) (mset N 257 9 (J (P j)))).bind (f_X11_sign (J 59)) = some N2) => t131_go (l := l) hk (fine_t h.2.2.2.2.2.2.2) (i_here h) (by rw [J_lt (by omega) (by omega) (by omega) (by omega)]; omega) hat.2.2.2.2.1 hat.2.2.2.2.2.1 hp hn.1 hr
      rcases hL l j q M N h hj hl hd with ⟨j', q', M', N', g1, g2, g3, g4, g5, g6, g7, g8⟩ | ⟨M', N', g3, g4, g5, g7, g8⟩
      · have e1 : loopW (fun s => B s.1 s.2) (J l, M) = loopW (fun s => B s.1 s.2) (J (l + 1 : Nat), M') := by
          rw [loopW_eq]
          simp only
          rw [g3]
        have e2 : loopW (fun s => b_X11_text_131 (J k) s.1 s.2) (J l, N) = loopW (fun s => b_X11_text_131 (J k) s.1 s.2) (J (l + 1 : Nat), N') := by
          rw [loopW_eq]
          simp only
          rw [go N' g4]
        rw [e1, e2]
        rcases ih (l + 1) j' q' M' N' (by omega) g5 (by omega) g6 with ⟨l', M2, N2, f1, f2, f3, f4, f5, f6, f7⟩ | ⟨v, M2, N2, f2, f3, f4, f6, f7⟩
        · exact Or.inl ⟨l', M2, N2, f1, f2, f3, f4, f5, FrC_t g7 f6, FrN_t g8 f7⟩
        · exact Or.inr ⟨v, M2, N2, f2, f3, f4, FrC_t g7 f6, FrN_t g8 f7⟩
      · right
        obtain ⟨kk, p, h1, h2, h3, h4, h5⟩ := g5
        refine ⟨J (l + 1 : Nat), M', N', ?_, ?_, ⟨kk, p, h1, h2, h3, h4, h5⟩, g7, g8⟩
        · rw [loopW_eq]
          simp only
          rw [g3]
        · rw [loopW_eq]
          simp only
          rw [go N' g4]
          simp only
          rw [loopW_eq]
          simp only
          rw [t131_bad (by omega) h5]
    · have hj' : j = NN := by omega
      subst hj'
      left
      refine ⟨l, M, mset N 257 9 (J (P j)), hl, ?_, ?_, hD _ _ _ _ hd, ⟨hat.2.2.2.2.2.2.2, h.2.2.1.2⟩, FrC_r _, FrN_9 _ _⟩
      · rw [loopW_eq, hB l M hl ⟨j, h.2.2.2.1, by omega, h.1.2.2.2.2.2.1⟩]
      · rw [loopW_eq, t131_end (fine_t h.2.2.2.2.2.2.2) (i_here h) (by rw [J_lt (by omega) (by omega) (by omega) (by omega)]; omega) hat.2.2.2.2.1 hat.2.2.2.2.2.1 (by have := hc.2.2.2; omega) (by omega)]
/-- the watch -/
def DW (M0 N0 : zM) (l : Nat) (M N : zM) : Prop := (∀ i, i < l → M 66 i = N 263 (2325 + 2 * i) ∧ M 67 i = N 263 (2326 + 2 * i)) ∧ (∀ i, ¬ (2325 ≤ i ∧ i < 2357) → N 263 i = N0 263 i)
theorem p_watch {tp : Nat → Nat} {n NN : Nat} {P E : Nat → Nat} {M N : zM} (h : TS M N tp n NN P E 0 0) :
    (∃ (l' : Nat) (M' N' : zM), l' ≤ 16 ∧ f_X8_readWatch 54 M = some (J l', M') ∧ loopW (fun s => b_X11_text_131 (J 3) s.1 s.2) (J 0, N) = some (J l', N') ∧ DW M N l' M' N' ∧ (N' 257 10 = J (-1) ∧ M' 78 1 = J 0 ∧ M' 78 2 = J (-1)) ∧ FrC M M' ∧ FrN N N') ∨
    (∃ (v : Int32) (M' N' : zM), f_X8_readWatch 54 M = some (J (-1), M') ∧ loopW (fun s => b_X11_text_131 (J 3) s.1 s.2) (J 0, N) = some (v, N') ∧ FL M' N' ∧ FrC M M' ∧ FrN N N') := by
  have key := p_lines (tp := tp) (n := n) (NN := NN) (P := P) (E := E) (k := 3) (by omega) (b_X8_readWatch_2 54) (DW M N)
    (fun l M' N' v hd => by
      unfold DW at *
      simp (disch := omega) only [mset_ne, mset_eq, mrow_ne, mrow_eq, upd_eq, upd_ne]
      exact hd)
    (fun l M' hl ⟨j, h1, h2, h3⟩ => by
      unfold b_X8_readWatch_2 f_X5_kind
      simp (disch := omega) only [↓grd_s, ↓reduceIte, J_lit, Int.cast_ofNat_Int, J_lt_t, J_lt_f, J_le_t, J_le_f, J_eq_t, J_eq_f, within_t, within_f, isIn_t, isIn_f, inRow_t, inRow_f, isCell_t, isCell_f, inb_t, ix_Jn, ix_J, Int.reduceToNat, Int.toNat_natCast, h1, h3, bind_s])
    (fun l j q M' N' ht hj hl hd => by
      rcases l_watch ht hj hl with ⟨j', q', M2, N2, a, b, g1, g2, g3, g4, g5, g6, g7, g8, g9, g10⟩ | ⟨M2, N2, g3, g4, g5, g9, g10⟩
      · left
        refine ⟨j', q', M2, N2, g1, g2, g3, g4, g5, ⟨fun i hi => ?_, fun i hi => ?_⟩, g9, g10⟩
        · rw [g6, g7, g8]
          by_cases e : i = l
          · subst e
            simp (disch := omega) only [mset_ne, mset_eq, mrow_ne, mrow_eq, upd_eq, upd_ne]
            exact ⟨trivial, trivial⟩
          · simp (disch := omega) only [mset_ne, mset_eq, mrow_ne, mrow_eq, upd_eq, upd_ne]
            exact hd.1 i (by omega)
        · rw [g8]
          have : i ≠ 2325 + 2 * l := by omega
          have : i ≠ 2326 + 2 * l := by omega
          simp (disch := omega) only [mset_ne, mset_eq, mrow_ne, mrow_eq, upd_eq, upd_ne]
          exact hd.2 i hi
      · exact Or.inr ⟨M2, N2, g3, g4, g5, g9, g10⟩)
    NN 0 0 0 M N (by omega) h (by omega) ⟨fun i hi => by omega, fun _ _ => rfl⟩
  unfold f_X8_readWatch j_X8_readWatch_110
  rcases key with ⟨l', M', N', f1, f2, f3, f4, f5, f6, f7⟩ | ⟨v, M', N', f2, f3, f4, f6, f7⟩
  · left
    have f2' : loopW (fun s => b_X8_readWatch_2 54 s.1 s.2) ((0 : Int32), M) = some (.inl (J l', M')) := f2
    refine ⟨l', M', N', f1, ?_, f3, f4, f5, f6, f7⟩
    rw [f2']
    rfl
  · right
    have f2' : loopW (fun s => b_X8_readWatch_2 54 s.1 s.2) ((0 : Int32), M) = some (.inr (J (-1), M')) := f2
    refine ⟨v, M', N', ?_, f3, f4, f6, f7⟩
    rw [f2']
    rfl
