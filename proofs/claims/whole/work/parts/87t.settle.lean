/-! ===== a text that was read: stones ===== -/
/-- he stands on stone -/
def OnS (B : zM) (w : Nat) : Prop := B (4 + w) 1 = J 1 ∧ ∃ x y : Nat, x < 12 ∧ y < 12 ∧ B (4 + w) 2 = J x ∧ B (4 + w) 3 = J y ∧ B 3 (12 * y + x) = J 1
def OnR (ρ : Nat → Int32) (w : Nat) : Prop := ρ (145 + 12 * w) = J 1 ∧ ∃ x y : Nat, x < 12 ∧ y < 12 ∧ ρ (146 + 12 * w) = J x ∧ ρ (147 + 12 * w) = J y ∧ ρ (12 * y + x) = J 1
theorem p_paveL {B : zM} {n : Nat} (hn : n ≤ 16) (h2 : B 1 2 = J n) (hw : ∀ w, w < n → B (4 + w) 1 = J 0 ∨ B (4 + w) 1 = J 1 ∧ Lt (B (4 + w) 2) 12 ∧ Lt (B (4 + w) 3) 12) : Wp (loopW (fun s => b_X7_pave_15 1 48 s.1 s.2) (J 0, B)) (fun B' => (∀ j, j < 4 ∨ 20 ≤ j → B' j = B j) ∧ ∀ w, w < 16 → (w < n ∧ OnS B w → B' (4 + w) = upd (B (4 + w)) 1 (J 0)) ∧ (¬ (w < n ∧ OnS B w) → B' (4 + w) = B (4 + w))) := by
  refine loop_up (fun k s => s.1 = J k ∧ (∀ j, j < 4 ∨ 20 ≤ j → s.2 j = B j) ∧ ∀ w, w < 16 → (w < k ∧ OnS B w → s.2 (4 + w) = upd (B (4 + w)) 1 (J 0)) ∧ (¬ (w < k ∧ OnS B w) → s.2 (4 + w) = B (4 + w))) n ⟨rfl, fun _ _ => rfl, fun w _ => ⟨fun h => by omega, fun _ => rfl⟩⟩ ?_ ?_
  · rintro k ⟨s, A⟩ hk ⟨e1, e2, e3⟩
    simp only at e1 e2 e3
    subst e1
    have A2 : A 1 2 = J n := by rw [e2 1 (by omega)]; exact h2
    have A4 : A (4 + k) = B (4 + k) := (e3 k (by omega)).2 (fun h => by omega)
    have A3 : A 3 = B 3 := e2 3 (by omega)
    have step : ∀ A' : zM, (∀ j, j ≠ 4 + k → A' j = A j) → (OnS B k → A' (4 + k) = upd (B (4 + k)) 1 (J 0)) → (¬ OnS B k → A' (4 + k) = B (4 + k)) → (∀ j, j < 4 ∨ 20 ≤ j → A' j = B j) ∧ ∀ w, w < 16 → (w < k + 1 ∧ OnS B w → A' (4 + w) = upd (B (4 + w)) 1 (J 0)) ∧ (¬ (w < k + 1 ∧ OnS B w) → A' (4 + w) = B (4 + w)) := by
      intro A' c1 c2 c3
      refine ⟨fun j hj => by rw [c1 j (by omega)]; exact e2 j hj, fun w hw16 => ?_⟩
      by_cases c : w = k
      · subst c
        exact ⟨fun h => c2 h.2, fun h => c3 (fun h' => h ⟨by omega, h'⟩)⟩
      · rw [c1 (4 + w) (by omega)]
        exact ⟨fun h => (e3 w hw16).1 ⟨by omega, h.2⟩, fun h => (e3 w hw16).2 (fun h' => h ⟨by omega, h'.2⟩)⟩
    unfold b_X7_pave_15 j_X7_pave_63_15 f_X9_at
    rcases hw k hk with e | ⟨e, ⟨x, hx, ex⟩, ⟨y, hy, ey⟩⟩
    · simp (disch := omega) only [↓nm_s, ↓grd_s, ↓reduceIte, J_lit, Int.cast_ofNat_Int, J_lt_t, J_lt_f, J_le_t, J_le_f, J_eq_t, J_eq_f, within_t, within_f, isIn_t, isIn_f, inRow_t, inRow_f, isCell_t, isCell_f, inb_t, ix_Jn, ix_J, Int.reduceToNat, Int.toNat_natCast, A2, Nat.reduceAdd, A4, e]
      obtain ⟨z1, z2⟩ := step A (fun _ _ => rfl) (fun h => absurd h.1 (by rw [e]; decide)) (fun _ => A4)
      exact wp_some ⟨J_s k, z1, z2⟩
    · have ep : J 12 * J (y : Int) + J (x : Int) = J ((12 * y + x : Nat) : Int) := by rw [J_mul, J_add]; exact congrArg J (by omega)
      have hon : OnS B k ↔ B 3 (12 * y + x) = J 1 := by
        refine ⟨fun ⟨_, x', y', h1, h2, h3, h4, h5⟩ => ?_, fun h => ⟨e, x, y, hx, hy, ex, ey, h⟩⟩
        rw [ex, J_eq (by omega) (by omega) (by omega) (by omega)] at h3
        rw [ey, J_eq (by omega) (by omega) (by omega) (by omega)] at h4
        have : x' = x := by omega
        have : y' = y := by omega
        subst x' y'
        exact h5
      by_cases c : B 3 (12 * y + x) = J 1
      · simp (disch := omega) only [↓nm_s, ↓grd_s, ↓reduceIte, J_lit, Int.cast_ofNat_Int, J_lt_t, J_lt_f, J_le_t, J_le_f, J_eq_t, J_eq_f, within_t, within_f, isIn_t, isIn_f, inRow_t, inRow_f, isCell_t, isCell_f, inb_t, ix_Jn, ix_J, Int.reduceToNat, Int.toNat_natCast, A2, Nat.reduceAdd, A4, A3, e, ex, ey, ep, c]
        obtain ⟨z1, z2⟩ := step (mset A (4 + k) 1 (J 0)) (fun j hj => by simp (disch := omega) only [mset_ne, mset_eq, mrow_ne, mrow_eq, upd_eq, upd_ne]) (fun _ => by simp (disch := omega) only [mset_ne, mset_eq, mrow_ne, mrow_eq, upd_eq, upd_ne]; rw [A4]) (fun h => absurd (hon.2 c) h)
        exact wp_some ⟨J_s k, z1, z2⟩
      · simp (disch := omega) only [↓nm_s, ↓grd_s, ↓reduceIte, J_lit, Int.cast_ofNat_Int, J_lt_t, J_lt_f, J_le_t, J_le_f, J_eq_t, J_eq_f, within_t, within_f, isIn_t, isIn_f, inRow_t, inRow_f, isCell_t, isCell_f, inb_t, ix_Jn, ix_J, Int.reduceToNat, Int.toNat_natCast, A2, Nat.reduceAdd, A4, A3, e, ex, ey, ep, c]
        obtain ⟨z1, z2⟩ := step A (fun _ _ => rfl) (fun h => absurd (hon.1 h) c) (fun _ => A4)
        exact wp_some ⟨J_s k, z1, z2⟩
  · rintro ⟨s, A⟩ ⟨e1, e2, e3⟩
    simp only at e1 e2 e3
    subst e1
    have A2 : A 1 2 = J n := by rw [e2 1 (by omega)]; exact h2
    unfold b_X7_pave_15
    simp (disch := omega) only [↓reduceIte, J_lit, Int.cast_ofNat_Int, J_lt_t, J_lt_f, J_le_t, J_le_f, J_eq_t, J_eq_f, within_t, within_f, isIn_t, isIn_f, inRow_t, inRow_f, isCell_t, isCell_f, inb_t, A2]
    exact wp_some ⟨e2, e3⟩
theorem p_drive {N : zM} {n : Nat} (hn : n ≤ 16) (h2 : N 258 940 = J n) (hw : ∀ w, w < n → N 258 (145 + 12 * w) = J 0 ∨ N 258 (145 + 12 * w) = J 1 ∧ Lt (N 258 (146 + 12 * w)) 12 ∧ Lt (N 258 (147 + 12 * w)) 12) : Wp (f_X11_drivesOut N) (fun N' => (∀ j, j ≠ 258 → N' j = N j) ∧ (∀ i, (∀ w, w < n → i ≠ 145 + 12 * w) → N' 258 i = N 258 i) ∧ ∀ w, w < n → (OnR (N 258) w → N' 258 (145 + 12 * w) = J 0) ∧ (¬ OnR (N 258) w → N' 258 (145 + 12 * w) = N 258 (145 + 12 * w))) := by
  unfold f_X11_drivesOut j_X11_drivesOut_78
  refine wp_bind ?_
  refine wp_mono (P := fun N' => (∀ j, j ≠ 258 → N' j = N j) ∧ (∀ i, (∀ w, w < n → i ≠ 145 + 12 * w) → N' 258 i = N 258 i) ∧ ∀ w, w < n → (OnR (N 258) w → N' 258 (145 + 12 * w) = J 0) ∧ (¬ OnR (N 258) w → N' 258 (145 + 12 * w) = N 258 (145 + 12 * w))) ?_ (fun _ h => wp_some h)
  refine loop_up (fun k s => s.1 = J k ∧ (∀ j, j ≠ 258 → s.2 j = N j) ∧ (∀ i, (∀ w, w < k → i ≠ 145 + 12 * w) → s.2 258 i = N 258 i) ∧ ∀ w, w < k → (OnR (N 258) w → s.2 258 (145 + 12 * w) = J 0) ∧ (¬ OnR (N 258) w → s.2 258 (145 + 12 * w) = N 258 (145 + 12 * w))) n ⟨rfl, fun _ _ => rfl, fun _ _ => rfl, fun w h => by omega⟩ ?_ ?_
  · rintro k ⟨s, A⟩ hk ⟨e1, e2, e3, e4⟩
    simp only at e1 e2 e3 e4
    subst e1
    have A9 : A 258 940 = J n := by rw [e3 940 (fun w hw' => by omega)]; exact h2
    have A1 : A 258 (145 + 12 * k) = N 258 (145 + 12 * k) := e3 _ (fun w hw' => by omega)
    have A2 : A 258 (146 + 12 * k) = N 258 (146 + 12 * k) := e3 _ (fun w hw' => by omega)
    have A3 : A 258 (147 + 12 * k) = N 258 (147 + 12 * k) := e3 _ (fun w hw' => by omega)
    have i940 : ix (J 940) = 940 := by decide
    have e0 : J 144 + J 12 * J (k : Int) = J ((144 + 12 * k : Nat) : Int) := by rw [J_mul, J_add]; exact congrArg J (by omega)
    have i1 : J ((144 + 12 * k : Nat) : Int) + J 1 = J ((145 + 12 * k : Nat) : Int) := by rw [J_add]; exact congrArg J (by omega)
    have i2 : J ((144 + 12 * k : Nat) : Int) + J 2 = J ((146 + 12 * k : Nat) : Int) := by rw [J_add]; exact congrArg J (by omega)
    have i3 : J ((144 + 12 * k : Nat) : Int) + J 3 = J ((147 + 12 * k : Nat) : Int) := by rw [J_add]; exact congrArg J (by omega)
    have step : ∀ A' : zM, (∀ j, j ≠ 258 → A' j = A j) → (∀ i, i ≠ 145 + 12 * k → A' 258 i = A 258 i) → (OnR (N 258) k → A' 258 (145 + 12 * k) = J 0) → (¬ OnR (N 258) k → A' 258 (145 + 12 * k) = N 258 (145 + 12 * k)) → (∀ j, j ≠ 258 → A' j = N j) ∧ (∀ i, (∀ w, w < k + 1 → i ≠ 145 + 12 * w) → A' 258 i = N 258 i) ∧ ∀ w, w < k + 1 → (OnR (N 258) w → A' 258 (145 + 12 * w) = J 0) ∧ (¬ OnR (N 258) w → A' 258 (145 + 12 * w) = N 258 (145 + 12 * w)) := by
      intro A' c0 c1 c2 c3
      refine ⟨fun j hj => by rw [c0 j hj]; exact e2 j hj, fun i hi => by rw [c1 i (hi k (by omega))]; exact e3 i (fun w hw' => hi w (by omega)), fun w hw' => ?_⟩
      by_cases c : w = k
      · subst c
        exact ⟨c2, c3⟩
      · rw [c1 (145 + 12 * w) (by omega)]
        exact e4 w (by omega)
    unfold b_X11_drivesOut_2 j_X11_drivesOut_72_2 f_X11_place
    rcases hw k hk with e | ⟨e, ⟨x, hx, ex⟩, ⟨y, hy, ey⟩⟩
    · simp (disch := omega) only [↓nm_s, ↓grd_s, ↓reduceIte, J_lit, Int.cast_ofNat_Int, e0, i1, i2, i3, J_lt_t, J_lt_f, J_le_t, J_le_f, J_eq_t, J_eq_f, within_t, within_f, isIn_t, isIn_f, inRow_t, inRow_f, isCell_t, isCell_f, inb_t, ix_Jn, ix_J, Int.reduceToNat, Int.toNat_natCast, i940, A9, A1, e]
      obtain ⟨z1, z2, z3⟩ := step A (fun _ _ => rfl) (fun _ _ => rfl) (fun h => absurd h.1 (by rw [e]; decide)) (fun _ => A1)
      exact wp_some ⟨J_s k, z1, z2, z3⟩
    · have ep : J 12 * J (y : Int) + J (x : Int) = J ((12 * y + x : Nat) : Int) := by rw [J_mul, J_add]; exact congrArg J (by omega)
      have Ap : A 258 (12 * y + x) = N 258 (12 * y + x) := e3 _ (fun w hw' => by omega)
      have hon : OnR (N 258) k ↔ N 258 (12 * y + x) = J 1 := by
        refine ⟨fun ⟨_, x', y', h1, h2, h3, h4, h5⟩ => ?_, fun h => ⟨e, x, y, hx, hy, ex, ey, h⟩⟩
        rw [ex, J_eq (by omega) (by omega) (by omega) (by omega)] at h3
        rw [ey, J_eq (by omega) (by omega) (by omega) (by omega)] at h4
        have : x' = x := by omega
        have : y' = y := by omega
        subst x' y'
        exact h5
      by_cases c : N 258 (12 * y + x) = J 1
      · simp (disch := omega) only [↓nm_s, ↓grd_s, ↓reduceIte, J_lit, Int.cast_ofNat_Int, e0, i1, i2, i3, ep, J_lt_t, J_lt_f, J_le_t, J_le_f, J_eq_t, J_eq_f, within_t, within_f, isIn_t, isIn_f, inRow_t, inRow_f, isCell_t, isCell_f, inb_t, ix_Jn, ix_J, Int.reduceToNat, Int.toNat_natCast, i940, A9, A1, A2, A3, Ap, e, ex, ey, c]
        obtain ⟨z1, z2, z3⟩ := step (mset A 258 (145 + 12 * k) (J 0)) (fun j hj => by simp (disch := omega) only [mset_ne, mset_eq, mrow_ne, mrow_eq, upd_eq, upd_ne]) (fun i hi => by simp (disch := omega) only [mset_ne, mset_eq, mrow_ne, mrow_eq, upd_eq, upd_ne]) (fun _ => by simp (disch := omega) only [mset_ne, mset_eq, mrow_ne, mrow_eq, upd_eq, upd_ne]) (fun h => absurd (hon.2 c) h)
        exact wp_some ⟨J_s k, z1, z2, z3⟩
      · simp (disch := omega) only [↓nm_s, ↓grd_s, ↓reduceIte, J_lit, Int.cast_ofNat_Int, e0, i1, i2, i3, ep, J_lt_t, J_lt_f, J_le_t, J_le_f, J_eq_t, J_eq_f, within_t, within_f, isIn_t, isIn_f, inRow_t, inRow_f, isCell_t, isCell_f, inb_t, ix_Jn, ix_J, Int.reduceToNat, Int.toNat_natCast, i940, A9, A1, A2, A3, Ap, e, ex, ey, c]
        obtain ⟨z1, z2, z3⟩ := step A (fun _ _ => rfl) (fun _ _ => rfl) (fun h => absurd (hon.1 h) c) (fun _ => A1)
        exact wp_some ⟨J_s k, z1, z2, z3⟩
  · rintro ⟨s, A⟩ ⟨e1, e2, e3, e4⟩
    simp only at e1 e2 e3 e4
    subst e1
    have A9 : A 258 940 = J n := by rw [e3 940 (fun w hw' => by omega)]; exact h2
    have i940 : ix (J 940) = 940 := by decide
    unfold b_X11_drivesOut_2
    simp (disch := omega) only [↓reduceIte, J_lit, Int.cast_ofNat_Int, J_lt_t, J_lt_f, J_le_t, J_le_f, J_eq_t, J_eq_f, within_t, within_f, isIn_t, isIn_f, inRow_t, inRow_f, isCell_t, isCell_f, inb_t, i940, A9]
    exact wp_some ⟨e2, e3, e4⟩
/-- driven out on both sides -/
theorem Sq_out {B B' : zM} {ρ ρ' : Nat → Int32} {n m b k : Nat} (h : SqB B 1 ρ n m b k) (b2 : ∀ j, j < 4 ∨ 20 ≤ j → B' j = B j) (b3 : ∀ w, w < 16 → (w < n ∧ OnS B w → B' (4 + w) = upd (B (4 + w)) 1 (J 0)) ∧ (¬ (w < n ∧ OnS B w) → B' (4 + w) = B (4 + w)))
    (r2 : ∀ i, (∀ w, w < n → i ≠ 145 + 12 * w) → ρ' i = ρ i) (r3 : ∀ w, w < n → (OnR ρ w → ρ' (145 + 12 * w) = J 0) ∧ (¬ OnR ρ w → ρ' (145 + 12 * w) = ρ (145 + 12 * w))) : SqB B' 1 ρ' n m b k := by
  obtain ⟨hb, he, hr, hc, hwk, hz, hd⟩ := h
  have hn := hb.1
  have on : ∀ w, w < n → (OnS B w ↔ OnR ρ w) := by
    intro w hw
    have hwk' : WkR (B (4 + w)) ρ w b := hwk w hw
    obtain ⟨w1, w2, w3, w4, w5, w6, w7⟩ := hwk'
    unfold OnS OnR
    rw [w2]
    refine and_congr_right (fun e1 => ?_)
    obtain ⟨v1, v2, _⟩ := w7 (by rw [w2]; exact e1)
    rw [v1, v2]
    refine exists_congr (fun x => exists_congr (fun y => ?_))
    refine and_congr_right (fun hx => and_congr_right (fun hy => and_congr_right (fun _ => and_congr_right (fun _ => ?_))))
    rw [show B 3 (12 * y + x) = ρ (12 * y + x) from (hc (12 * y + x) (by omega)).1]
  have hro : ∀ j, 1925 ≤ j → j < 2325 → ρ' j = ρ j := fun j c1 c2 => r2 j (fun w hw => by omega)
  refine ⟨hb, ?_, ?_, ?_, ?_, ?_, ?_⟩
  · rw [b2 1 (by omega), r2 937 (fun w hw => by omega), r2 938 (fun w hw => by omega)]
    exact he
  · rw [r2 940 (fun w hw => by omega), r2 936 (fun w hw => by omega), r2 939 (fun w hw => by omega)]
    exact hr
  · intro i hi
    rw [b2 (1 + 2) (by omega), r2 i (fun w hw => by omega)]
    exact hc i hi
  · intro w hw
    show WkR (B' (4 + w)) ρ' w b
    have hwk' : WkR (B (4 + w)) ρ w b := hwk w hw
    by_cases c : OnS B w
    · have c' := (on w hw).1 c
      rw [(b3 w (by omega)).1 ⟨hw, c⟩]
      obtain ⟨w1, w2, w3, w4, w5, w6, w7⟩ := hwk'
      refine ⟨?_, ?_, ?_, ?_, ?_, ?_, fun hi1 => ?_⟩
      · rw [upd_ne (by omega), r2 _ (fun w' hw' => by omega)]; exact w1
      · rw [upd_eq, (r3 w hw).1 c']
      · rw [upd_eq]; exact Or.inl rfl
      · rw [upd_ne (by omega), r2 _ (fun w' hw' => by omega)]; exact w4
      · rw [upd_ne (by omega), r2 _ (fun w' hw' => by omega)]; exact w5
      · rw [upd_ne (by omega), r2 _ (fun w' hw' => by omega)]; exact w6
      · rw [upd_eq] at hi1
        exact absurd hi1 (by decide)
    · have c' : ¬ OnR ρ w := fun h => c ((on w hw).2 h)
      rw [(b3 w (by omega)).2 (fun h => c h.2)]
      refine WkR_ro hro (fun j c1 c2 => ?_) (by omega) hwk'
      by_cases e : j = 145 + 12 * w
      · subst e
        exact (r3 w hw).2 c'
      · exact r2 j (fun w' hw' => by omega)
  · intro w c1 c2 i hi
    rw [r2 _ (fun w' hw' => by omega)]
    exact hz w c1 c2 i hi
  · intro v w hv hw hne
    show B' (4 + v) 1 = 1 → B' (4 + w) 1 = 1 → atR (B' (4 + v)) ≠ atR (B' (4 + w))
    intro i1 i2
    have sv : ∀ w, w < n → B' (4 + w) 1 = 1 → B' (4 + w) = B (4 + w) := by
      intro w hw hi
      by_cases c : OnS B w
      · rw [(b3 w (by omega)).1 ⟨hw, c⟩, upd_eq] at hi
        exact absurd hi (by decide)
      · exact (b3 w (by omega)).2 (fun h => c h.2)
    have ev := sv v hv i1
    have ew := sv w hw i2
    rw [ev] at i1 ⊢
    rw [ew] at i2 ⊢
    exact hd v w hv hw hne i1 i2
theorem s_stoned {M N M' N' : zM} {l : Nat} (hI : IC M N) (hG : Ga M N M' N') (h1 : M' 78 1 = J 0) (h2 : M' 78 2 = J (-1)) (h10 : N' 257 10 = J (-1)) (hl : l ≤ 16) (hD : ∀ i, i < 144 → M' 62 i = N' 263 i ∧ Lt (N' 263 i) 4) (hN : ∀ i, i < 2425 → 144 ≤ i → N' 263 i = N 258 i) :
    ∃ M1 N1, f_X10_settle (J 1) (J l) M' = some (J l, M1) ∧ j_X11_text_211 (J 1) (J l) N' = some (J l, N1) ∧ IC M1 N1 := by
  obtain ⟨n, m, k, u, o, ks, a1, a2, a3, a4, a5, a6, a7, a8, a9, a10⟩ := hI
  obtain ⟨g1, g2, g3, g4, g5, g6, g7, g8⟩ := hG
  obtain ⟨N3, t1, t2, t3⟩ := tx_ok (k := 1) (l := l) (by omega) h10
  obtain ⟨A, q1, q2, q3, q4, q5⟩ := p_ct1 (a := 40) (b := 54) (by omega) (mset M' 61 1 (J l))
  have hn := a2.1.1
  have hρ : ∀ i, i < 2425 → i ≠ 942 → 144 ≤ i → N3 258 i = N 258 i := fun i c1 c2 c3 => by rw [(t2 i c1).2 (by omega)]; exact hN i c1 c3
  have hA : ∀ j, (j < 54 ∨ 68 ≤ j) → j ≠ 47 → j ≠ 48 → j ≠ 78 → j ≠ 80 → j ≠ 81 → j ≠ 82 → A j = M j := fun j c1 c2 c3 c5 c6 c7 c8 => by
    rw [q5 j (by omega) (by omega), mset_ne (by omega)]
    exact g1 j (by omega) c5 c6 c7 c8
  have A78 : A 78 = M' 78 := by rw [q5 78 (by omega) (by omega), mset_ne (by omega)]
  have A47 : ∀ i, i ≠ 1 → A 47 i = M 47 i := fun i hi => by
    rw [q3 i hi, mset_ne (by omega), g1 47 (by omega) (by omega) (by omega) (by omega) (by omega)]
  have A471 : A 47 1 = J l := by
    rw [q2]
    simp (disch := omega) only [mset_ne, mset_eq, mrow_ne, mrow_eq, upd_eq, upd_ne]
  have A48 : ∀ i, i < 144 → A 48 i = N3 258 i := fun i hi => by
    have := q4 i hi
    rw [mset_ne (by omega)] at this
    have e : A 48 i = M' 62 i := this
    rw [e, (t2 i (by omega)).2 (by omega)]
    exact (hD i hi).1
  -- paved, not driven out yet
  have eB : ∃ B0 : zM, B0 = mrow (mset A 0 4 (J 0)) 3 (va_cpy (mset A 0 4 (J 0) 48) (mset A 0 4 (J 0) 3) 0 0 144) := ⟨_, rfl⟩
  obtain ⟨B0, eB⟩ := eB
  have hB0 : ∀ j, j ≠ 0 → j ≠ 3 → B0 j = A j := fun j c1 c2 => by rw [eB, mrow_ne c2, mset_ne c1]
  have hB3 : ∀ i, i < 144 → B0 3 i = N3 258 i := fun i hi => by
    rw [eB, mrow_eq, cpy_in hi, mset_ne (by omega)]
    exact A48 i hi
  have hS0 : Sq B0 1 (N3 258) n m k := by
    have a2' : Sq M 1 (upd (N 258) 942 (N3 258 942)) n m k := Sq_ro2 (fun j hj => by rw [upd_ne (by omega)]) a2
    refine Sq_cl a2' ?_ (fun v hv => ?_) (fun j c1 c2 c3 => ?_) (fun i hi => ⟨hB3 i hi, ?_⟩)
    rotate_left 2
    · by_cases e : j = 942
      · subst e
        rw [upd_eq]
      · rw [upd_ne e]
        exact hρ j (by omega) e c1
    rotate_left 1
    · rw [hB0 1 (by omega) (by omega)]
      exact hA 1 (by omega) (by omega) (by omega) (by omega) (by omega) (by omega) (by omega)
    · rw [hB0 _ (by omega) (by omega)]
      exact hA _ (by omega) (by omega) (by omega) (by omega) (by omega) (by omega) (by omega)
    · rw [(t2 i (by omega)).2 (by omega)]
      exact (hD i hi).2
  have hwk : ∀ w, w < n → WkR (B0 (4 + w)) (N3 258) w m := fun w hw => hS0.2.2.2.2.1 w hw
  obtain ⟨B, b1, b2, b3⟩ := p_paveL (B := B0) hn hS0.2.1.1 (fun w hw => by
    obtain ⟨w1, w2, w3, w4, w5, w6, w7⟩ := hwk w hw
    rcases w3 with e | e
    · exact Or.inl e
    · obtain ⟨v1, v2, v3, v4, v5, v6, v7, v8, _⟩ := w7 e
      exact Or.inr ⟨e, v7, v8⟩)
  obtain ⟨N4, r1, r2, r3, r4⟩ := p_drive (N := N3) hn hS0.2.2.1.1 (fun w hw => by
    obtain ⟨w1, w2, w3, w4, w5, w6, w7⟩ := hwk w hw
    rcases w3 with e | e
    · exact Or.inl (by rw [← w2]; exact e)
    · obtain ⟨v1, v2, v3, v4, v5, v6, v7, v8, _⟩ := w7 e
      exact Or.inr ⟨by rw [← w2]; exact e, by rw [← v1]; exact v7, by rw [← v2]; exact v8⟩)
  have hS1 : Sq B 1 (N4 258) n m k := Sq_out hS0 b2 b3 r3 r4
  have hσ : ∀ i, i < 2425 → i ≠ 942 → 144 ≤ i → (∀ w, w < n → i ≠ 145 + 12 * w) → N4 258 i = N 258 i := fun i c1 c2 c3 c4 => by rw [r3 i c4]; exact hρ i c1 c2 c3
  have hB : ∀ j, (20 ≤ j) → B j = A j := fun j c1 => by rw [b2 j (by omega), hB0 j (by omega) (by omega)]
  have hBz : B 0 = mset A 0 4 (J 0) 0 := by rw [b2 0 (by omega), eB, mrow_ne (by omega)]
  refine ⟨B, mset N4 257 4 (J 0), ?_, ?_, ?_⟩
  · unfold f_X10_settle f_X10_forget j_X10_settle_37 f_X7_pave j_X7_pave_69
    have ne : ¬ J (l : Int) = J (-1) := by rw [J_eq (by omega) (by omega) (by omega) (by omega)]; omega
    have i0 : ix (J 0) = 0 := by decide
    have i144 : ix (J 144) = 144 := by decide
    simp (disch := omega) only [↓nm_s, ↓grd_s, ↓reduceIte, J_lit, J_neg, Int.cast_ofNat_Int, i0, i144, J_lt_t, J_lt_f, J_le_t, J_le_f, J_eq_t, J_eq_f, within_t, within_f, isIn_t, isIn_f, inRow_t, inRow_f, isCell_t, isCell_f, inb_t, ix_Jn, ix_J, Int.reduceToNat, Int.toNat_natCast, ne, Int.reduceToNat, q1, bind_s, Nat.reduceAdd]
    rw [← eB, b1]
    rfl
  · have t3' : j_X11_text_211 (J 1) (J l) N' = _ := t3
    rw [t3', if_pos (by decide), r1]
    simp only [bind_s]
    rw [tx_270 (by omega) (by omega)]
    rfl
  · have e8 : mset N4 257 4 (J 0) 258 = N4 258 := by simp (disch := omega) only [mset_ne, mset_eq, mrow_ne, mrow_eq, upd_eq, upd_ne]
    have hN4 : ∀ j, j ≠ 258 → j ≠ 263 → N4 j = N' j := fun j c1 c2 => by rw [r2 j c1]; exact t1 j c1 c2
    refine IC_txs a1 a2 a4 a5 a8 a9 a10 (u' := 0) (o' := o) (ks' := ks) ?_ ?_ ?_ (fun i hi => by rw [e8]; exact hσ i (by omega) (by omega) (by omega) (fun w hw => by omega)) ?_ (fun j c1 c2 c3 c4 c5 c6 => by rw [hB j (by omega)]; exact hA j (by omega) (by omega) (by omega) c3 c4 c5 c6) ?_ ?_ ?_ ?_ ?_ ?_
    · rw [e8]
      exact hS1
    · rw [e8]
      obtain ⟨x1, x2, x3, x4⟩ := a3
      refine ⟨fun i hi => ?_, ?_, ?_, ?_⟩
      · show B 47 i = _
        rw [hB 47 (by omega)]
        by_cases e : i = 1
        · subst e
          rw [r3 _ (fun w hw => by omega), (t2 942 (by omega)).1 rfl]
          exact A471
        · rw [A47 i e, hσ _ (by omega) (by omega) (by omega) (fun w hw => by omega)]
          exact x1 i hi
      · show LwR (B 41) (B 42) (B 43) (B 44) (B 45) _
        rw [hB 41 (by omega), hB 42 (by omega), hB 43 (by omega), hB 44 (by omega), hB 45 (by omega), hA 41 (by omega) (by omega) (by omega) (by omega) (by omega) (by omega) (by omega), hA 42 (by omega) (by omega) (by omega) (by omega) (by omega) (by omega) (by omega), hA 43 (by omega) (by omega) (by omega) (by omega) (by omega) (by omega) (by omega), hA 44 (by omega) (by omega) (by omega) (by omega) (by omega) (by omega) (by omega), hA 45 (by omega) (by omega) (by omega) (by omega) (by omega) (by omega) (by omega)]
        exact LwR_ro2 (hσ _ (by omega) (by omega) (by omega) (fun w hw => by omega)) (fun j c1 c2 => hσ j (by omega) (by omega) (by omega) (fun w hw => by omega)) x2
      · show WyR (B 49) (B 50) (B 51) _
        rw [hB 49 (by omega), hB 50 (by omega), hB 51 (by omega), hA 49 (by omega) (by omega) (by omega) (by omega) (by omega) (by omega) (by omega), hA 50 (by omega) (by omega) (by omega) (by omega) (by omega) (by omega) (by omega), hA 51 (by omega) (by omega) (by omega) (by omega) (by omega) (by omega) (by omega)]
        exact WyR_ro2 (fun j c1 c2 => hσ j (by omega) (by omega) (by omega) (fun w hw => by omega)) x3
      · show HrR (B 47) (B 52) (B 53) _
        rw [hB 47 (by omega), hB 52 (by omega), hB 53 (by omega), hA 52 (by omega) (by omega) (by omega) (by omega) (by omega) (by omega) (by omega), hA 53 (by omega) (by omega) (by omega) (by omega) (by omega) (by omega) (by omega)]
        exact HrR_ro2 (fun j c1 c2 => hσ j (by omega) (by omega) (by omega) (fun w hw => by omega)) (HrR_r (A47 3 (by omega)) (fun i _ => ⟨rfl, rfl⟩) x4)
    · refine Un_0 a7.2.1 ?_ ?_ (by simp (disch := omega) only [mset_ne, mset_eq, mrow_ne, mrow_eq, upd_eq, upd_ne])
      · rw [hBz]
        simp (disch := omega) only [mset_ne, mset_eq, mrow_ne, mrow_eq, upd_eq, upd_ne]
        rw [hA 0 (by omega) (by omega) (by omega) (by omega) (by omega) (by omega) (by omega)]; exact a7.2.2.1
      · rw [hBz]
        simp (disch := omega) only [mset_ne, mset_eq, mrow_ne, mrow_eq, upd_eq, upd_ne]
    · rw [hBz]
      simp (disch := omega) only [mset_ne, mset_eq, mrow_ne, mrow_eq, upd_eq, upd_ne]
      rw [hA 0 (by omega) (by omega) (by omega) (by omega) (by omega) (by omega) (by omega)]
    · rw [hB 78 (by omega), A78]; exact g2
    · simp (disch := omega) only [mset_ne, mset_eq, mrow_ne, mrow_eq, upd_eq, upd_ne]
      rw [hB 78 (by omega), A78, hN4 257 (by decide) (by decide), h1, g7]
    · simp (disch := omega) only [mset_ne, mset_eq, mrow_ne, mrow_eq, upd_eq, upd_ne]
      rw [hB 78 (by omega), A78, hN4 257 (by decide) (by decide), h2, g8]
    · simp (disch := omega) only [mset_ne, mset_eq, mrow_ne, mrow_eq, upd_eq, upd_ne]
      rw [hN4 257 (by decide) (by decide), g5]
    · simp (disch := omega) only [mset_ne, mset_eq, mrow_ne, mrow_eq, upd_eq, upd_ne]
      rw [hN4 257 (by decide) (by decide), g6]
    · simp (disch := omega) only [mset_ne, mset_eq, mrow_ne, mrow_eq, upd_eq, upd_ne]
      rw [hN4 260 (by decide) (by decide), g3 260 (by decide) (by decide) (by decide)]
