/-! ===== what one does in a minute ===== -/
theorem goes_en {w : Int32} {k : Int32} {B : zM} : loopW (fun s => b_X11_goesOn_4 w s.1 s.2.1 s.2.2) (J 0, k, B) = some B := by
  refine loop_en (s := (J 0, k, B)) ?_
  unfold b_X11_goesOn_4
  simp only
  by_cases c : (2 : Int32) ≤ k
  · rw [if_pos c]
  · rw [if_neg c, if_pos (show J 0 = 0 from rfl)]
theorem goes_st {w a k a' k' : Int32} {B B' : zM} (h : b_X11_goesOn_4 w a k B = some (.inl (a', k', B'))) : loopW (fun s => b_X11_goesOn_4 w s.1 s.2.1 s.2.2) (a, k, B) = loopW (fun s => b_X11_goesOn_4 w s.1 s.2.1 s.2.2) (a', k', B') := loop_st (B := fun s : Int32 × Int32 × zM => b_X11_goesOn_4 w s.1 s.2.1 s.2.2) (s := (a, k, B)) (s' := (a', k', B')) h
/-- from a place where one goes on, so often by now -/
theorem s_goes {w kk : Nat} (hkk : kk < 2) {M N : zM} {n m b k : Nat} (h : Dy M N n m b k) (hw : w < n) (hin : M (4 + w) 1 = 1) (ht : M 83 0 = N 257 6) (htb : M 83 0 = 0 ∨ M 83 0 = 1) (hk1 : kk = 1 ∨ kk = 0) :
    ∃ u A M' N' k', f_X1_goOn (J w) M = some (u, A) ∧ Sy w M N M' N' n m b k k' ∧
      ((kk = 1 ∨ u ≠ J 1 ∨ ¬ A 3 (ix (f_X9_at (4 + w) A)) = 2) → j_X1_act_124 (J w) u A = some M' ∧ loopW (fun s => b_X11_goesOn_4 (J w) s.1 s.2.1 s.2.2) (J 1, J kk, N) = some N') ∧
      (u = J 1 → ∃ B p, p < 144 ∧ f_X9_at (4 + w) A = J (p : Nat) ∧ Sy w M N A B n m b k k ∧ A (4 + w) 1 = 1 ∧ A 3 p = B 259 p ∧ f_X11_standsAt (J w) B = some (J p) ∧ (kk = 0 → B 259 p = J 2 → b_X11_goesOn_4 (J w) (J 1) (J 0) N = bnd2 (f_X11_tells (J 0) (J w) B) (fun u A => bnd2 (f_X11_falls u A) fun v B => if v = J 0 then some (.inl (J 0, J 1, B)) else j_X11_goesOn_152_4 (J w) (J 1) (J 0) B))) := by
  rcases s_go h hw hin with ⟨a1, a2⟩ | ⟨M', N', k', a1, a2, a3⟩ | ⟨M', N', p, a1, a2, a3, a4, a5, a6, a7, a8, a9⟩
  · obtain ⟨M', N', k', b1, b2, b3⟩ := s_leave h hw hin ht htb
    refine ⟨J 2, M, M', N', k', a1, b3, fun _ => ⟨?_, ?_⟩, fun e => absurd e (by decide)⟩
    · unfold j_X1_act_124
      rw [if_pos (show J 2 = 2 from rfl), b1, bind_s]
    · have := a2 kk hkk
      rw [b2, bind_s] at this
      rw [goes_st this, goes_en]
  · refine ⟨J 0, M', M', N', k', a1, a2, fun _ => ⟨?_, ?_⟩, fun e => absurd e (by decide)⟩
    · unfold j_X1_act_124
      rw [if_neg (by decide)]
    · rw [goes_st (a3 kk hkk), goes_en]
  · refine ⟨J 1, M', M', N', k, a1, a2, fun hc => ⟨?_, ?_⟩, fun _ => ⟨N', p, a4, a5, a2, a3, a6, a7, fun _ hs => by rw [a9, if_pos hs]⟩⟩
    · unfold j_X1_act_124
      rw [if_neg (by decide)]
    · rcases hk1 with e | e
      · subst e
        rw [show J ((1 : Nat) : Int) = J 1 from rfl, goes_st a8, goes_en]
      · subst e
        have hs : ¬ N' 259 p = J 2 := by
          rcases hc with hc | hc | hc
          · omega
          · exact absurd rfl hc
          · rw [a5, ix_Jn (by omega), a6] at hc
            exact hc
        rw [if_neg hs] at a9
        rw [show J ((0 : Nat) : Int) = J 0 from rfl, goes_st a9, goes_en]
theorem s_ahead {w : Nat} {M N : zM} {n m b k : Nat} (h : Dy M N n m b k) (hw : w < n) (hin : M (4 + w) 1 = 1) (ht : M 83 0 = N 257 6) (htb : M 83 0 = 0 ∨ M 83 0 = 1) :
    ∃ M' N' k', (bnd2 (f_X1_goOn (J w) M) fun u48 M48 => if u48 = (1 : Int32) then (grd (inb (f_X9_at (4 + w) M48) 144) (
  if (M48 3 (ix (f_X9_at (4 + w) M48))) = (2 : Int32) then (bnd2 (f_X1_ask (128 : Int32) (4 + w) M48) fun u81 M81 =>
  bnd2 (f_X1_falls u81 M81) fun u84 M84 =>
  if u84 = 0 then (j_X1_act_124 (J w) u48 M84)
  else (nm (mset M84 (4 + w) 12 ((M84 (4 + w) 12) + (1 : Int32))) fun M97 =>
  (f_X0_write 68 1 (2 : Int32) (J w) (f_X9_at (4 + w) M97) M97).bind fun M114 =>
  bnd2 (f_X1_goOn (J w) M114) fun u119 M119 =>
  j_X1_act_124 (J w) u119 M119))
  else (j_X1_act_124 (J w) u48 M48)))
  else (j_X1_act_124 (J w) u48 M48)) = some M' ∧ f_X11_goesOn (J w) N = some N' ∧ Sy w M N M' N' n m b k k' := by
  have hn := h.1.1.1
  obtain ⟨u, A, M', N', k', c1, c2, c3, c4⟩ := s_goes (kk := 0) (by omega) h hw hin ht htb (Or.inr rfl)
  rw [c1, bnd2_s]
  unfold f_X11_goesOn j_X11_goesOn_184
  rw [show ((1 : Int32), (0 : Int32), N) = (J 1, J ((0 : Nat) : Int), N) from rfl]
  by_cases hu : u = J 1
  · obtain ⟨B, p, d1, d2, d3, d4, d5, d6, d7⟩ := c4 hu
    rw [if_pos (show u = 1 from hu), grd_t (by rw [d2]; exact inb_J (by omega) (by omega) (by omega)), d2, ix_Jn (by omega)]
    by_cases hs : A 3 p = 2
    · rw [if_pos hs]
      have hs2 : B 259 p = J 2 := by rw [← d5]; exact hs
      have e0 := d7 rfl hs2
      obtain ⟨v1, M1, N1, f1, f2, f3, f4⟩ := s_ask (kind := 0) (w := w) (by decide) d3.1.1 d3.1.2.1 hw
      have S1 := Sy_sc (w := w) d3.1 f3 f4
      obtain ⟨v2, M2, N2, g1, g2, S2, g4, g5, g6, g7⟩ := s_falls (w := w) S1.1 (by rw [f3 83 (by omega) (by omega), f4 257 (by omega) (by omega), d3.2.2.2.1 0 (by omega), d3.2.2.2.2.2.1 257 (by omega) (by omega) (by omega)]; exact ht) (by rw [f3 83 (by omega) (by omega), d3.2.2.2.1 0 (by omega)]; exact htb) v1
      rw [show (128 : Int32) = J (128 + ((0 : Nat) : Int)) from rfl, f1, bnd2_s, g1, bnd2_s]
      rw [show J 0 = J ((0 : Nat) : Int) from rfl, f2, bnd2_s, g2, bnd2_s] at e0
      have S12 := Sy_tr (Sy_tr d3 S1) S2
      rcases g4 with g4 | g4
      · rw [if_pos (show v2 = 0 from g4)]
        rw [if_pos (show v2 = J ((0 : Nat) : Int) from g4)] at e0
        refine ⟨M2, N2, k, ?_, ?_, S12⟩
        · unfold j_X1_act_124
          rw [hu, if_neg (by decide)]
        · rw [goes_st e0, show J ((0 : Nat) : Int) = J 0 from rfl, goes_en, bind_s]
      · rw [if_neg (by rw [g4]; decide), nm_s]
        rw [if_neg (by rw [g4]; decide)] at e0
        have e12 : M2 (4 + w) 12 = N2 259 (155 + 12 * w) := (S2.1.1.2.2.2.2.1 w hw).2.2.2.2.2.1
        have S3 := s_ct (w := w) (c := 12) (e := 155) (M2 (4 + w) 12 + J 1) S2.1 hw (Or.inr ⟨rfl, rfl⟩)
        have hat : f_X9_at (4 + w) (mset M2 (4 + w) 12 (M2 (4 + w) 12 + J 1)) = J p := by
          rw [← d2]
          unfold f_X9_at
          rw [mset_eq, upd_ne (by omega), upd_ne (by omega), g5 (4 + w) (by omega), f3 (4 + w) (by omega) (by omega)]
        have hst : f_X11_standsAt (J w) (mset N2 259 (155 + 12 * w) (M2 (4 + w) 12 + J 1)) = some (J p) := by
          rw [t_standsAt _ (by omega)] at d6 ⊢
          rw [mset_eq, upd_ne (by omega), upd_ne (by omega), g7 _ (by omega), g7 _ (by omega), f4 259 (by omega) (by omega)]
          exact d6
        have hin3 : mset M2 (4 + w) 12 (M2 (4 + w) 12 + J 1) (4 + w) 1 = 1 := by
          rw [mset_eq, upd_ne (by omega), g5 (4 + w) (by omega), f3 (4 + w) (by omega) (by omega)]
          exact d4
        generalize hM3 : mset M2 (4 + w) 12 (M2 (4 + w) 12 + J 1) = M3 at S3 hat hin3
        generalize hN3 : mset N2 259 (155 + 12 * w) (M2 (4 + w) 12 + J 1) = N3 at S3 hst
        obtain ⟨M4, N4, k4, q1, q2, S4, q4, q5, q6⟩ := s_write (w := w) S3.1 (J 2) (J w) (J p)
        have S14 := Sy_tr (Sy_tr S12 S3) S4
        have hin4 : M4 (4 + w) 1 = 1 := by rw [q4 (4 + w) (by omega) (by omega)]; exact hin3
        obtain ⟨u5, A5, M5, N5, k5, r1, r2, r3, _⟩ := s_goes (kk := 1) (by omega) S4.1 hw hin4 (by rw [S14.2.2.2.1 0 (by omega), S14.2.2.2.2.2.1 257 (by omega) (by omega) (by omega)]; exact ht) (by rw [S14.2.2.2.1 0 (by omega)]; exact htb) (Or.inl rfl)
        obtain ⟨r4, r5⟩ := r3 (Or.inl rfl)
        have e1 : j_X11_goesOn_152_4 (J w) (J 1) (J ((0 : Nat) : Int)) N2 = some (.inl (J 1, J ((1 : Nat) : Int), N4)) := by
          unfold j_X11_goesOn_152_4 j_X11_goesOn_178_4
          rw [if_neg (by decide), show (11 : Int32) = J 11 from rfl, show (1 : Int32) = J 1 from rfl, ta11 (J 1) N2 (by omega), bind_s, ← e12, hN3, hst, bind_s, show (2 : Int32) = J 2 from rfl, q2, bind_s]
          rfl
        rw [e1] at e0
        refine ⟨M5, N5, k5, ?_, ?_, Sy_tr S14 r2⟩
        · rw [show (1 : Int32) = J 1 from rfl, hM3, hat, show (2 : Int32) = J 2 from rfl, q1, bind_s, r1, bnd2_s]
          exact r4
        · rw [goes_st e0, r5, bind_s]
    · rw [if_neg hs]
      obtain ⟨r4, r5⟩ := c3 (Or.inr (Or.inr (by rw [d2, ix_Jn (by omega)]; exact hs)))
      exact ⟨M', N', k', r4, by rw [r5, bind_s], c2⟩
  · rw [if_neg (show ¬ u = 1 from hu)]
    obtain ⟨r4, r5⟩ := c3 (Or.inr (Or.inl hu))
    exact ⟨M', N', k', r4, by rw [r5, bind_s], c2⟩
noncomputable def actR (w : Nat) (u : Int32) (A : zM) : Option zM := if u = 154 then some A else if u = 150 then bnd2 (f_X1_goOn (J w) A) fun u48 M48 => if u48 = (1 : Int32) then (grd (inb (f_X9_at (4 + w) M48) 144) (if (M48 3 (ix (f_X9_at (4 + w) M48))) = (2 : Int32) then (bnd2 (f_X1_ask (128 : Int32) (4 + w) M48) fun u81 M81 => bnd2 (f_X1_falls u81 M81) fun u84 M84 => if u84 = 0 then (j_X1_act_124 (J w) u48 M84) else (nm (mset M84 (4 + w) 12 ((M84 (4 + w) 12) + (1 : Int32))) fun M97 => (f_X0_write 68 1 (2 : Int32) (J w) (f_X9_at (4 + w) M97) M97).bind fun A14 => bnd2 (f_X1_goOn (J w) A14) fun u119 A19 => j_X1_act_124 (J w) u119 A19)) else (j_X1_act_124 (J w) u48 M48))) else (j_X1_act_124 (J w) u48 M48) else (f_X1_turnRound (J w) (u - (151 : Int32)) A).bind fun M42 => some M42
theorem s_act {w : Nat} {M N : zM} {n m k : Nat} (h : Dy M N n m (m + 1) k) (hw : w < n) (hin : M (4 + w) 1 = 1) (hs : WkR (M (4 + w)) (N 259) w m) (ht : M 83 0 = N 257 6) (htb : M 83 0 = 0 ∨ M 83 0 = 1) :
    ∃ M' N' k', f_X1_act (J w) M = some M' ∧ b_X11_goesMinute_2 (J w) N = some (.inl (J (w + 1 : Nat), N')) ∧ Sy w M N M' N' n m (m + 1) k k' := by
  have h1 := h.1
  have hn := h1.1.1
  have g2 := h1.2.2.1.1
  have w1 := hs.2.1
  have hin2 : N 259 (145 + 12 * w) = J 1 := by rw [← w1]; exact hin
  obtain ⟨u, v, M1, a1, a2, a3, S1, a5, a6⟩ := s_next h hw hin hs (Nat.le_refl _)
  have e64 : ∀ B : zM, j_X11_goesMinute_64_2 (J w) B = some (.inl (J (w + 1 : Nat), B)) := by
    intro B
    unfold j_X11_goesMinute_64_2
    rw [show (1 : Int32) = J 1 from rfl, J_add]
    rfl
  have eN : b_X11_goesMinute_2 (J w) N = (if (3 : Int32) ≤ v then (if v = (3 : Int32) then ((f_X11_goesOn (J w) (mset N 259 (152 + 12 * w) (N 259 (152 + 12 * w) + J 1))).bind fun M61_2 => j_X11_goesMinute_64_2 (J w) M61_2) else (j_X11_goesMinute_64_2 (J w) (mset N 259 (152 + 12 * w) (N 259 (152 + 12 * w) + J 1)))) else ((f_X11_turnsRound (J w) v (mset N 259 (152 + 12 * w) (N 259 (152 + 12 * w) + J 1))).bind fun M48_2 => j_X11_goesMinute_64_2 (J w) M48_2)) := by
    unfold b_X11_goesMinute_2
    rw [show ix (940 : Int32) = 940 by decide +kernel, g2, if_neg (by rw [J_le (by omega) (by omega) (by omega) (by omega)]; omega), show (1 : Int32) = J 1 from rfl, th1 N (by omega), bind_s, hin2, if_neg (by decide), a2, bind_s, show (8 : Int32) = J 8 from rfl, ta8 (J 1) N (by omega), bind_s]
  have eM : f_X1_act (J w) M = actR w u M1 := by
    unfold f_X1_act actR
    rw [grd_t (inb_J (by omega) (by omega) (by omega)), ix_Jn (by omega), show 1 + 3 + w = 4 + w by omega, a1, bnd2_s]
  rw [eM, eN]
  generalize hN1 : mset N 259 (152 + 12 * w) (N 259 (152 + 12 * w) + J 1) = N1 at S1
  have hin1 : M1 (4 + w) 1 = 1 := by rw [a6 1 (by omega) (by omega)]; exact hin
  have ht1 : M1 83 0 = N1 257 6 := by rw [a5 83 (by omega), ← hN1, mset_ne (by decide)]; exact ht
  have htb1 : M1 83 0 = 0 ∨ M1 83 0 = 1 := by rw [a5 83 (by omega)]; exact htb
  have turn : ∀ q : Nat, q < 3 → u = J (151 + q) → v = J q → ∃ M' N' k', actR w u M1 = some M' ∧ (if (3 : Int32) ≤ v then (if v = (3 : Int32) then ((f_X11_goesOn (J w) N1).bind fun M61_2 => j_X11_goesMinute_64_2 (J w) M61_2) else (j_X11_goesMinute_64_2 (J w) N1)) else ((f_X11_turnsRound (J w) v N1).bind fun M48_2 => j_X11_goesMinute_64_2 (J w) M48_2)) = some (.inl (J (w + 1 : Nat), N')) ∧ Sy w M N M' N' n m (m + 1) k k' := by
    intro q hq eu ev
    subst eu ev
    obtain ⟨M', N', k', b1, b2, b3⟩ := s_turn S1.1 hw hin1 hq
    refine ⟨M', N', k', ?_, ?_, Sy_tr S1 b3⟩
    · unfold actR
      rw [show (154 : Int32) = J 154 from rfl, show (150 : Int32) = J 150 from rfl, show (151 : Int32) = J 151 from rfl, if_neg (by rw [J_eq (by omega) (by omega) (by omega) (by omega)]; omega), if_neg (by rw [J_eq (by omega) (by omega) (by omega) (by omega)]; omega), J_sub, show (151 + (q : Int) - 151) = q by omega, b1, bind_s]
    · rw [show (3 : Int32) = J 3 from rfl, if_neg (by rw [J_le (by omega) (by omega) (by omega) (by omega)]; omega), b2, bind_s, e64]
  rcases a3 with ⟨rfl, rfl⟩ | ⟨rfl, rfl⟩ | ⟨rfl, rfl⟩ | ⟨rfl, rfl⟩ | ⟨rfl, rfl⟩
  · obtain ⟨M', N', k', b1, b2, b3⟩ := s_ahead S1.1 hw hin1 ht1 htb1
    refine ⟨M', N', k', ?_, ?_, Sy_tr S1 b3⟩
    · unfold actR
      rw [if_neg (by decide), if_pos rfl]
      exact b1
    · rw [if_pos (by decide), if_pos rfl, b2, bind_s, e64]
  · exact turn 0 (by omega) rfl rfl
  · exact turn 1 (by omega) rfl rfl
  · exact turn 2 (by omega) rfl rfl
  · refine ⟨M1, N1, k, ?_, ?_, S1⟩
    · unfold actR
      rw [if_pos rfl]
    · rw [if_pos (by decide), if_neg (by decide), e64]
