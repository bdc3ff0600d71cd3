/-! ===== a turn; out of the square ===== -/
theorem t_face : ∀ f : Nat, f < 4 → ∀ h : Nat, h < 3 → (J f + (if h = 0 then J 3 else J h)) &&& J 3 = f_X11_turned (J f) (J h) ∧ Lt (f_X11_turned (J f) (J h)) 4 := by
  have key : ∀ f : Nat, f < 4 → ∀ h : Nat, h < 3 → (J f + (if h = 0 then J 3 else J h)) &&& J 3 = f_X11_turned (J f) (J h) ∧ f_X11_turned (J f) (J h) = J (((f + (if h = 0 then 3 else h)) % 4 : Nat) : Int) := by decide +kernel
  intro f hf h hh
  obtain ⟨a, b⟩ := key f hf h hh
  exact ⟨a, by rw [b]; exact ⟨_, Nat.mod_lt _ (by decide), rfl⟩⟩
theorem s_turn {w : Nat} {M N : zM} {n m b k : Nat} (h : Dy M N n m b k) (hw : w < n) (hin : M (4 + w) 1 = 1) {how : Nat} (hh : how < 3) :
    ∃ M' N' k', f_X1_turnRound (J w) (J how) M = some M' ∧ f_X11_turnsRound (J w) (J how) N = some N' ∧ Sy w M N M' N' n m b k k' := by
  have h1 := h.1
  have hn := h1.1.1
  have hwk : WkR (M (4 + w)) (N 259) w b := h1.2.2.2.2.1 w hw
  obtain ⟨w0, w1, wb, w10, w11, w12, win⟩ := hwk
  obtain ⟨h2, h3, h4, h5, h6, h7, ⟨x, lx, ex⟩, ⟨y, ly, ey⟩, ⟨f, lf, ef⟩, ls, hst⟩ := win hin
  have ex2 : N 259 (146 + 12 * w) = J x := by rw [← h2]; exact ex
  have ey2 : N 259 (147 + 12 * w) = J y := by rw [← h3]; exact ey
  have ef2 : N 259 (148 + 12 * w) = J f := by rw [← h4]; exact ef
  obtain ⟨tf, tl⟩ := t_face f lf how hh
  generalize hF : f_X11_turned (J f) (J how) = F at tf tl
  obtain ⟨p, hp⟩ : ∃ p : Nat, p = 12 * y + x := ⟨_, rfl⟩
  have hpJ : J (12 * (y : Int) + (x : Int)) = J p := congrArg J (by omega)
  have ip : (12 * (y : Int) + (x : Int)).toNat = p := by omega
  have hp144 : p < 144 := by omega
  have hcell : M 3 p = N 259 p := (h1.2.2.2.1 p hp144).1
  obtain ⟨q, hq⟩ : ∃ q : Int32, q = (if how = 2 then J 2 else J 1) := ⟨_, rfl⟩
  have hface : ∀ A : zM, A (4 + w) 4 = J f → f_X9_face (4 + w) (J how) A = some (mset A (4 + w) 4 F) := by
    intro A hA
    unfold f_X9_face j_X9_face_14
    by_cases c : how = 0
    · subst c
      simp (disch := omega) only [↓nm_s, ↓grd_s, ↓reduceIte, J_lit, J_nI, J_add, J_sub, J_mul, J_neg, Int.cast_ofNat_Int, J_lt_t, J_lt_f, J_le_t, J_le_f, J_eq_t, J_eq_f, within_t, within_f, isIn_t, isIn_f, inRow_t, inRow_f, isCell_t, isCell_f, inb_t, ix_Jn, ix_J, Int.reduceToNat, Int.toNat_natCast, mset_ne, mset_eq, mrow_ne, mrow_eq, upd_eq, upd_ne, bind_s, bnd2_s, not_true_eq_false, not_false_eq_true, Nat.reduceAdd, hA]
      rw [if_pos rfl, J_add] at tf
      rw [tf]
    · rw [if_neg c, J_add] at tf
      simp (disch := omega) only [↓nm_s, ↓grd_s, ↓reduceIte, J_lit, J_nI, J_add, J_sub, J_mul, J_neg, Int.cast_ofNat_Int, J_lt_t, J_lt_f, J_le_t, J_le_f, J_eq_t, J_eq_f, within_t, within_f, isIn_t, isIn_f, inRow_t, inRow_f, isCell_t, isCell_f, inb_t, ix_Jn, ix_J, Int.reduceToNat, Int.toNat_natCast, mset_ne, mset_eq, mrow_ne, mrow_eq, upd_eq, upd_ne, bind_s, bnd2_s, not_true_eq_false, not_false_eq_true, Nat.reduceAdd, hA, tf]
  -- the walker's row behind it
  have wk : ∀ g : Int32, WkR (upd (upd (upd (M (4 + w)) 4 F) 5 (M (4 + w) 5 + q)) 6 g) (upd (upd (upd (N 259) (148 + 12 * w) F) (149 + 12 * w) (N 259 (149 + 12 * w) + q)) (150 + 12 * w) g) w b := by
    intro g
    refine ⟨?_, ?_, ?_, ?_, ?_, ?_, fun _ => ⟨?_, ?_, ?_, ?_, ?_, ?_, ?_, ?_, ?_, ?_, ?_⟩⟩
    · simp (disch := omega) only [mset_ne, mset_eq, mrow_ne, mrow_eq, upd_eq, upd_ne]; exact w0
    · simp (disch := omega) only [mset_ne, mset_eq, mrow_ne, mrow_eq, upd_eq, upd_ne]; exact w1
    · simp (disch := omega) only [mset_ne, mset_eq, mrow_ne, mrow_eq, upd_eq, upd_ne]; exact wb
    · simp (disch := omega) only [mset_ne, mset_eq, mrow_ne, mrow_eq, upd_eq, upd_ne]; exact w10
    · simp (disch := omega) only [mset_ne, mset_eq, mrow_ne, mrow_eq, upd_eq, upd_ne]; exact w11
    · simp (disch := omega) only [mset_ne, mset_eq, mrow_ne, mrow_eq, upd_eq, upd_ne]; exact w12
    · simp (disch := omega) only [mset_ne, mset_eq, mrow_ne, mrow_eq, upd_eq, upd_ne]; exact h2
    · simp (disch := omega) only [mset_ne, mset_eq, mrow_ne, mrow_eq, upd_eq, upd_ne]; exact h3
    · simp (disch := omega) only [mset_ne, mset_eq, mrow_ne, mrow_eq, upd_eq, upd_ne]
    · simp (disch := omega) only [mset_ne, mset_eq, mrow_ne, mrow_eq, upd_eq, upd_ne]; rw [h5]
    · simp (disch := omega) only [mset_ne, mset_eq, mrow_ne, mrow_eq, upd_eq, upd_ne]
    · simp (disch := omega) only [mset_ne, mset_eq, mrow_ne, mrow_eq, upd_eq, upd_ne]; exact h7
    · simp (disch := omega) only [mset_ne, mset_eq, mrow_ne, mrow_eq, upd_eq, upd_ne]; exact ⟨x, lx, ex⟩
    · simp (disch := omega) only [mset_ne, mset_eq, mrow_ne, mrow_eq, upd_eq, upd_ne]; exact ⟨y, ly, ey⟩
    · simp (disch := omega) only [mset_ne, mset_eq, mrow_ne, mrow_eq, upd_eq, upd_ne]; exact tl
    · simp (disch := omega) only [mset_ne, mset_eq, mrow_ne, mrow_eq, upd_eq, upd_ne]; exact ls
    · obtain ⟨st, dn, S, L, q1, q2, q3, q4⟩ := StR_ro (ρ' := upd (upd (upd (N 259) (148 + 12 * w) F) (149 + 12 * w) (N 259 (149 + 12 * w) + q)) (150 + 12 * w) g) (fun j _ _ => by simp (disch := omega) only [mset_ne, mset_eq, mrow_ne, mrow_eq, upd_eq, upd_ne]) (by simp (disch := omega) only [mset_ne, mset_eq, mrow_ne, mrow_eq, upd_eq, upd_ne]) (by omega) hst
      exact ⟨st, dn, S, L, by simp (disch := omega) only [mset_ne, mset_eq, mrow_ne, mrow_eq, upd_eq, upd_ne]; exact q1, by simp (disch := omega) only [mset_ne, mset_eq, mrow_ne, mrow_eq, upd_eq, upd_ne]; exact q2, q3, q4⟩
  have self : ∀ (r : Nat → Int32) (i : Nat), upd r i (r i) = r := by
    intro r i
    funext j
    by_cases e : j = i
    · subst e; rw [upd_eq]
    · rw [upd_ne e]
  have fin : ∀ g : Int32, g = (if N 259 p = J 3 then M (4 + w) 6 + q else M (4 + w) 6) → ∃ A B, (∀ z, j_X1_turnRound_20 (J w) (J how) (4 + w) q M = z → j_X1_turnRound_65 (J w) (4 + w) A = z) ∧ (∀ z, j_X11_turnsRound_10 (J w) (J how) q N = z → j_X11_turnsRound_56 (J w) B = z) ∧ Sy w M N A B n m b k k ∧ A (4 + w) 2 = J x ∧ A (4 + w) 3 = J y ∧ B 259 (146 + 12 * w) = J x ∧ B 259 (147 + 12 * w) = J y := by
    intro g hg
    by_cases c : N 259 p = J 3
    · rw [if_pos c] at hg
      subst hg
      refine ⟨mset (mset (mset M (4 + w) 4 F) (4 + w) 5 (M (4 + w) 5 + q)) (4 + w) 6 (M (4 + w) 6 + q), mset (mset (mset N 259 (148 + 12 * w) F) 259 (149 + 12 * w) (N 259 (149 + 12 * w) + q)) 259 (150 + 12 * w) (M (4 + w) 6 + q), ?_, ?_, ?_, by simp (disch := omega) only [mset_ne, mset_eq, mrow_ne, mrow_eq, upd_eq, upd_ne]; exact ex, by simp (disch := omega) only [mset_ne, mset_eq, mrow_ne, mrow_eq, upd_eq, upd_ne]; exact ey, by simp (disch := omega) only [mset_ne, mset_eq, mrow_ne, mrow_eq, upd_eq, upd_ne]; exact ex2, by simp (disch := omega) only [mset_ne, mset_eq, mrow_ne, mrow_eq, upd_eq, upd_ne]; exact ey2⟩
      · intro z hz
        rw [← hz]
        unfold j_X1_turnRound_20
        simp (disch := omega) only [hface M ef, ↓nm_s, ↓grd_s, ↓reduceIte, J_lit, J_nI, J_add, J_sub, J_mul, J_neg, Int.cast_ofNat_Int, J_lt_t, J_lt_f, J_le_t, J_le_f, J_eq_t, J_eq_f, within_t, within_f, isIn_t, isIn_f, inRow_t, inRow_f, isCell_t, isCell_f, inb_t, ix_Jn, ix_J, Int.reduceToNat, Int.toNat_natCast, mset_ne, mset_eq, mrow_ne, mrow_eq, upd_eq, upd_ne, bind_s, bnd2_s, not_true_eq_false, not_false_eq_true, Nat.reduceAdd, f_X9_at, ex, ey, ip, hcell, c]
      · intro z hz
        rw [← hz]
        unfold j_X11_turnsRound_10
        simp (disch := omega) only [↓nm_s, ↓grd_s, ↓reduceIte, J_lit, J_nI, J_add, J_sub, J_mul, J_neg, Int.cast_ofNat_Int, J_lt_t, J_lt_f, J_le_t, J_le_f, J_eq_t, J_eq_f, within_t, within_f, isIn_t, isIn_f, inRow_t, inRow_f, isCell_t, isCell_f, inb_t, ix_Jn, ix_J, Int.reduceToNat, Int.toNat_natCast, mset_ne, mset_eq, mrow_ne, mrow_eq, upd_eq, upd_ne, bind_s, bnd2_s, not_true_eq_false, not_false_eq_true, Nat.reduceAdd, th0, ts0, ta0, th1, ts1, ta1, th2, ts2, ta2, th3, ts3, ta3, th4, ts4, ta4, th5, ts5, ta5, th6, ts6, ta6, th7, ts7, ta7, th8, ts8, ta8, th9, ts9, ta9, th10, ts10, ta10, th11, ts11, ta11, ef2, hF, t_standsAt, ex2, ey2, ip, c, h6]
      · refine Sy_wk h hw (fun j hj => by simp (disch := omega) only [mset_ne, mset_eq, mrow_ne, mrow_eq, upd_eq, upd_ne]) (fun j hj => by simp (disch := omega) only [mset_ne, mset_eq, mrow_ne, mrow_eq, upd_eq, upd_ne]) (fun i hi => by simp (disch := omega) only [mset_ne, mset_eq, mrow_ne, mrow_eq, upd_eq, upd_ne]) (by simp (disch := omega) only [mset_ne, mset_eq, mrow_ne, mrow_eq, upd_eq, upd_ne]) ?_ (Ds_same h1 hw (by simp (disch := omega) only [mset_ne, mset_eq, mrow_ne, mrow_eq, upd_eq, upd_ne]) (by simp (disch := omega) only [mset_ne, mset_eq, mrow_ne, mrow_eq, upd_eq, upd_ne]) (by simp (disch := omega) only [mset_ne, mset_eq, mrow_ne, mrow_eq, upd_eq, upd_ne]))
        have := wk (M (4 + w) 6 + q)
        simp only [mset_eq]
        exact this
    · rw [if_neg c] at hg
      subst hg
      refine ⟨mset (mset M (4 + w) 4 F) (4 + w) 5 (M (4 + w) 5 + q), mset (mset N 259 (148 + 12 * w) F) 259 (149 + 12 * w) (N 259 (149 + 12 * w) + q), ?_, ?_, ?_, by simp (disch := omega) only [mset_ne, mset_eq, mrow_ne, mrow_eq, upd_eq, upd_ne]; exact ex, by simp (disch := omega) only [mset_ne, mset_eq, mrow_ne, mrow_eq, upd_eq, upd_ne]; exact ey, by simp (disch := omega) only [mset_ne, mset_eq, mrow_ne, mrow_eq, upd_eq, upd_ne]; exact ex2, by simp (disch := omega) only [mset_ne, mset_eq, mrow_ne, mrow_eq, upd_eq, upd_ne]; exact ey2⟩
      · intro z hz
        rw [← hz]
        unfold j_X1_turnRound_20
        simp (disch := omega) only [hface M ef, ↓nm_s, ↓grd_s, ↓reduceIte, J_lit, J_nI, J_add, J_sub, J_mul, J_neg, Int.cast_ofNat_Int, J_lt_t, J_lt_f, J_le_t, J_le_f, J_eq_t, J_eq_f, within_t, within_f, isIn_t, isIn_f, inRow_t, inRow_f, isCell_t, isCell_f, inb_t, ix_Jn, ix_J, Int.reduceToNat, Int.toNat_natCast, mset_ne, mset_eq, mrow_ne, mrow_eq, upd_eq, upd_ne, bind_s, bnd2_s, not_true_eq_false, not_false_eq_true, Nat.reduceAdd, f_X9_at, ex, ey, ip, hcell, c]
      · intro z hz
        rw [← hz]
        unfold j_X11_turnsRound_10
        simp (disch := omega) only [↓nm_s, ↓grd_s, ↓reduceIte, J_lit, J_nI, J_add, J_sub, J_mul, J_neg, Int.cast_ofNat_Int, J_lt_t, J_lt_f, J_le_t, J_le_f, J_eq_t, J_eq_f, within_t, within_f, isIn_t, isIn_f, inRow_t, inRow_f, isCell_t, isCell_f, inb_t, ix_Jn, ix_J, Int.reduceToNat, Int.toNat_natCast, mset_ne, mset_eq, mrow_ne, mrow_eq, upd_eq, upd_ne, bind_s, bnd2_s, not_true_eq_false, not_false_eq_true, Nat.reduceAdd, th0, ts0, ta0, th1, ts1, ta1, th2, ts2, ta2, th3, ts3, ta3, th4, ts4, ta4, th5, ts5, ta5, th6, ts6, ta6, th7, ts7, ta7, th8, ts8, ta8, th9, ts9, ta9, th10, ts10, ta10, th11, ts11, ta11, ef2, hF, t_standsAt, ex2, ey2, ip, c]
      · refine Sy_wk h hw (fun j hj => by simp (disch := omega) only [mset_ne, mset_eq, mrow_ne, mrow_eq, upd_eq, upd_ne]) (fun j hj => by simp (disch := omega) only [mset_ne, mset_eq, mrow_ne, mrow_eq, upd_eq, upd_ne]) (fun i hi => by simp (disch := omega) only [mset_ne, mset_eq, mrow_ne, mrow_eq, upd_eq, upd_ne]) (by simp (disch := omega) only [mset_ne, mset_eq, mrow_ne, mrow_eq, upd_eq, upd_ne]) ?_ (Ds_same h1 hw (by simp (disch := omega) only [mset_ne, mset_eq, mrow_ne, mrow_eq, upd_eq, upd_ne]) (by simp (disch := omega) only [mset_ne, mset_eq, mrow_ne, mrow_eq, upd_eq, upd_ne]) (by simp (disch := omega) only [mset_ne, mset_eq, mrow_ne, mrow_eq, upd_eq, upd_ne]))
        have := wk (M (4 + w) 6)
        have e1 : upd (upd (upd (M (4 + w)) 4 F) 5 (M (4 + w) 5 + q)) 6 (M (4 + w) 6) = upd (upd (M (4 + w)) 4 F) 5 (M (4 + w) 5 + q) := by
          have := self (upd (upd (M (4 + w)) 4 F) 5 (M (4 + w) 5 + q)) 6
          rw [upd_ne (by omega), upd_ne (by omega)] at this
          exact this
        have e2 : upd (upd (upd (N 259) (148 + 12 * w) F) (149 + 12 * w) (N 259 (149 + 12 * w) + q)) (150 + 12 * w) (M (4 + w) 6) = upd (upd (N 259) (148 + 12 * w) F) (149 + 12 * w) (N 259 (149 + 12 * w) + q) := by
          have := self (upd (upd (N 259) (148 + 12 * w) F) (149 + 12 * w) (N 259 (149 + 12 * w) + q)) (150 + 12 * w)
          rw [upd_ne (by omega), upd_ne (by omega)] at this
          rw [h6]
          exact this
        rw [e1, e2] at this
        simp only [mset_eq]
        exact this
  obtain ⟨A, B, z1, z2, z3, z4, z5, z6, z7⟩ := fin _ rfl
  obtain ⟨M', N', k', r1, r2, r3, _⟩ := s_write (w := w) z3.1 (J 1) (J w) (J p)
  refine ⟨M', N', k', ?_, ?_, Sy_tr z3 r3⟩
  · have : f_X1_turnRound (J w) (J how) M = j_X1_turnRound_20 (J w) (J how) (4 + w) q M := by
      unfold f_X1_turnRound
      by_cases c : how = 2
      · subst c
        simp (disch := omega) only [↓nm_s, ↓grd_s, ↓reduceIte, J_lit, J_nI, J_add, J_sub, J_mul, J_neg, Int.cast_ofNat_Int, J_lt_t, J_lt_f, J_le_t, J_le_f, J_eq_t, J_eq_f, within_t, within_f, isIn_t, isIn_f, inRow_t, inRow_f, isCell_t, isCell_f, inb_t, ix_Jn, ix_J, Int.reduceToNat, Int.toNat_natCast, mset_ne, mset_eq, mrow_ne, mrow_eq, upd_eq, upd_ne, bind_s, bnd2_s, not_true_eq_false, not_false_eq_true, Nat.reduceAdd]
        rw [hq, if_pos rfl]
      · rw [if_neg c] at hq
        simp (disch := omega) only [↓nm_s, ↓grd_s, ↓reduceIte, J_lit, J_nI, J_add, J_sub, J_mul, J_neg, Int.cast_ofNat_Int, J_lt_t, J_lt_f, J_le_t, J_le_f, J_eq_t, J_eq_f, within_t, within_f, isIn_t, isIn_f, inRow_t, inRow_f, isCell_t, isCell_f, inb_t, ix_Jn, ix_J, Int.reduceToNat, Int.toNat_natCast, mset_ne, mset_eq, mrow_ne, mrow_eq, upd_eq, upd_ne, bind_s, bnd2_s, not_true_eq_false, not_false_eq_true, Nat.reduceAdd, hq]
    rw [this, ← z1 _ rfl]
    unfold j_X1_turnRound_65 f_X9_at
    simp (disch := omega) only [↓nm_s, ↓grd_s, ↓reduceIte, J_lit, J_nI, J_add, J_sub, J_mul, J_neg, Int.cast_ofNat_Int, J_lt_t, J_lt_f, J_le_t, J_le_f, J_eq_t, J_eq_f, within_t, within_f, isIn_t, isIn_f, inRow_t, inRow_f, isCell_t, isCell_f, inb_t, ix_Jn, ix_J, Int.reduceToNat, Int.toNat_natCast, mset_ne, mset_eq, mrow_ne, mrow_eq, upd_eq, upd_ne, bind_s, bnd2_s, not_true_eq_false, not_false_eq_true, Nat.reduceAdd, z4, z5, hpJ, r1]
  · have : f_X11_turnsRound (J w) (J how) N = j_X11_turnsRound_10 (J w) (J how) q N := by
      unfold f_X11_turnsRound
      by_cases c : how = 2
      · subst c
        simp (disch := omega) only [↓nm_s, ↓grd_s, ↓reduceIte, J_lit, J_nI, J_add, J_sub, J_mul, J_neg, Int.cast_ofNat_Int, J_lt_t, J_lt_f, J_le_t, J_le_f, J_eq_t, J_eq_f, within_t, within_f, isIn_t, isIn_f, inRow_t, inRow_f, isCell_t, isCell_f, inb_t, ix_Jn, ix_J, Int.reduceToNat, Int.toNat_natCast, mset_ne, mset_eq, mrow_ne, mrow_eq, upd_eq, upd_ne, bind_s, bnd2_s, not_true_eq_false, not_false_eq_true, Nat.reduceAdd]
        rw [hq, if_pos rfl]
      · rw [if_neg c] at hq
        simp (disch := omega) only [↓nm_s, ↓grd_s, ↓reduceIte, J_lit, J_nI, J_add, J_sub, J_mul, J_neg, Int.cast_ofNat_Int, J_lt_t, J_lt_f, J_le_t, J_le_f, J_eq_t, J_eq_f, within_t, within_f, isIn_t, isIn_f, inRow_t, inRow_f, isCell_t, isCell_f, inb_t, ix_Jn, ix_J, Int.reduceToNat, Int.toNat_natCast, mset_ne, mset_eq, mrow_ne, mrow_eq, upd_eq, upd_ne, bind_s, bnd2_s, not_true_eq_false, not_false_eq_true, Nat.reduceAdd, hq]
    rw [this, ← z2 _ rfl]
    unfold j_X11_turnsRound_56
    simp (disch := omega) only [↓nm_s, ↓grd_s, ↓reduceIte, J_lit, J_nI, J_add, J_sub, J_mul, J_neg, Int.cast_ofNat_Int, J_lt_t, J_lt_f, J_le_t, J_le_f, J_eq_t, J_eq_f, within_t, within_f, isIn_t, isIn_f, inRow_t, inRow_f, isCell_t, isCell_f, inb_t, ix_Jn, ix_J, Int.reduceToNat, Int.toNat_natCast, mset_ne, mset_eq, mrow_ne, mrow_eq, upd_eq, upd_ne, bind_s, bnd2_s, not_true_eq_false, not_false_eq_true, Nat.reduceAdd, t_standsAt, z6, z7, hpJ, r2]
