/-! ===== a law: singles and conditions of both ===== -/
theorem cd_of {rS : Nat → Int32 → zM → Option (Int32 × zM)} {tp : Nat → Nat} {n NN : Nat} {P E : Nat → Nat} {p : Nat} (hp8 : p ≤ 8) (hS : SG rS tp n NN P E p) : CD (fun a p M => g_X3_readCondition rS a p M) tp n NN P E p := by
  intro j q cz cn s wn M N h h19 hw hb h12
  have eC : g_X3_readCondition rS 55 (J p) M = bnd2 (rS 55 (J p) M) fun u M1 => CLp rS p (J 0) u (J 0) M1 := rfl
  simp only
  rw [eC]
  rcases hS _ _ _ _ _ wn _ _ h h19 (by omega) h12 with ⟨M1, N1, r1, r2, j1, q1, L, l1, l2, l3, l4, l5, ⟨l6, l6b, l6c⟩, l7, l8⟩ | ⟨M1, N1, r1, r2, r3⟩
  · rw [r1, r2]
    simp only [bnd2_s]
    have hb' : wn = 0 ∨ N1 264 (wn - 1) = J 1 := by
      by_cases c0 : wn = 0
      · exact Or.inl c0
      · rw [l6c _ (by omega)]
        exact hb
    have hh := p_head (s := s) hp8 hS hw (NN - j1) 0 0 0 j1 q1 _ _ M1 N1 rfl (by omega) (by omega) l2 (by omega) (by rw [l6, h12]) (by rw [l6b, h19]; rfl) hb' (fun e => absurd e (by decide)) (fun e => absurd e (by decide))
    have ch : CH rS p 0 0 0 M1 = CLp rS p (J 0) (J 1) (J 0) M1 := rfl
    rw [ch] at hh
    rcases hh with ⟨M', N', g1, g2, g3⟩ | ⟨M', N', g1, g2, g3⟩
    · left
      obtain ⟨j', q', A, a1, a2, a3, a4, a5, ⟨a6, a6b, a6c⟩, a7, a8⟩ := g3
      have a2c := LwS_c a2
      refine ⟨M', N', g1, g2, j', q', L ++ A, by omega, LwS_app a2, Em_t (by omega) l3 a3, ok_app l4 a4, fun st hst => ?_, ⟨by rw [a6, l6], by rw [a6b, h19], fun i hi => by rw [a6c i hi, l6c i hi]⟩, FrC_t l7 a7, FrN_t l8 a8⟩
      rw [tyL_app, l5 st (by omega)]
      exact a5 st hst
    · right
      exact ⟨M', N', g1, g2, Fc_t l7 l8 g3⟩
  · right
    refine ⟨M1, N1, ?_, r2, r3⟩
    rw [r1]
    simp only [bnd2_s]
    exact clp_0 _ _ _ _ _
theorem opS {M N : zM} {tp : Nat → Nat} {n NN : Nat} {P E : Nat → Nat} {j q cz cn s : Nat} (h : LwS M N tp n NN P E j q cz cn s) (hj : j < NN) (c w p : Nat) : LwS (mset M 78 7 (J (j + 1 : Nat))) (mset (opN N c w p) 257 9 (J (E j))) tp n NN P E (j + 1) (E j) cz cn (s + 1) := by
  have hx := LwS_next h hj
  refine ⟨TS_fr hx.1 rfl rfl rfl rfl ?_ ?_ ?_ ?_, hx.2.1, ?_, hx.2.2.2.1, hx.2.2.2.2⟩
  · unfold opN; simp (disch := omega) only [mset_ne, mset_eq, mrow_ne, mrow_eq, upd_eq, upd_ne]
  · unfold opN; simp (disch := omega) only [mset_ne, mset_eq, mrow_ne, mrow_eq, upd_eq, upd_ne]
  · unfold opN; simp (disch := omega) only [mset_ne, mset_eq, mrow_ne, mrow_eq, upd_eq, upd_ne]
  · unfold opN; simp (disch := omega) only [mset_ne, mset_eq, mrow_ne, mrow_eq, upd_eq, upd_ne]
  · unfold opN; simp (disch := omega) only [mset_ne, mset_eq, mrow_ne, mrow_eq, upd_eq, upd_ne]; exact h.2.2.1
theorem opF (N : zM) (c w p e : Nat) : FrN N (mset (opN N c w p) 257 9 (J e)) := ⟨fun j h1 h2 h3 => by unfold opN; simp (disch := omega) only [mset_ne, mset_eq, mrow_ne, mrow_eq, upd_eq, upd_ne], fun i h1 h2 h3 h4 h5 h6 => by unfold opN; simp (disch := omega) only [mset_ne, mset_eq, mrow_ne, mrow_eq, upd_eq, upd_ne]⟩
theorem LwS_w {M N : zM} {tp : Nat → Nat} {n NN : Nat} {P E : Nat → Nat} {j q cz cn s t : Nat} (h : LwS M N tp n NN P E j q cz cn s) (ht : t ≤ s) : LwS M N tp n NN P E j q cz cn t := ⟨h.1, h.2.1, h.2.2.1, by have := h.2.2.2.1; omega, h.2.2.2.2⟩
/-- behind a fault of both -/
theorem sg_deep {M N : zM} {tp : Nat → Nat} {n NN : Nat} {P E : Nat → Nat} {j q cz cn s wn : Nat} (h : LwS M N tp n NN P E j q cz cn s) (hk : M 80 j = J 134 ∨ M 80 j = J 40) (hw : wn < 420) (h19 : N 257 19 = J wn) (hp : N 257 12 = J 8) : ∃ N', FO N = some N' ∧ Fc M N (cF M 3 (P j)) N' := by
  have hn := TS_n h.1
  have hc := LwS_c h
  obtain ⟨N', d1, d2, d3, d4⟩ := fo_deep h.1 hk hw h19 hp
  exact ⟨N', d1, ⟨3, P j, by omega, by unfold cF; simp (disch := omega) only [mset_ne, mset_eq, mrow_ne, mrow_eq, upd_eq, upd_ne], by unfold cF; simp (disch := omega) only [mset_ne, mset_eq, mrow_ne, mrow_eq, upd_eq, upd_ne], d3, d2⟩, ⟨cz, hc.2.1, by unfold cF; simp (disch := omega) only [mset_ne, mset_eq, mrow_ne, mrow_eq, upd_eq, upd_ne]; exact h.2.1⟩, FrC_c _ _ _, d4⟩
theorem fail_b (M : zM) : bnd2 (f_X5_fail (1 : Int32) M) (fun u N => grd (isB u) (some (u, N))) = f_X5_fail (J 1) M := by
  unfold f_X5_fail
  by_cases c : inb (M 78 7) 401
  · have c' : inb (mset M 78 1 (J 1) 78 7) 401 := by simp (disch := omega) only [mset_ne, mset_eq, mrow_ne, mrow_eq, upd_eq, upd_ne]; exact c
    simp only [nm_s, J_lit, Int.cast_ofNat_Int, grd, if_pos c', bnd2_s]
    rw [if_pos (show isB (J 0) from Or.inl rfl)]
  · have c' : ¬ inb (mset M 78 1 (J 1) 78 7) 401 := by simp (disch := omega) only [mset_ne, mset_eq, mrow_ne, mrow_eq, upd_eq, upd_ne]; exact c
    simp only [nm_s, J_lit, Int.cast_ofNat_Int, grd, if_neg c']
    rfl
theorem sg_two {M N : zM} {tp : Nat → Nat} {n NN : Nat} {P E : Nat → Nat} {j q : Nat} (rC rS : Nat → Int32 → zM → Option (Int32 × zM)) (p : Int32) (h : TS M N tp n NN P E j q) (h1 : ¬ M 80 j = J 134) (h2 : ¬ M 80 j = J 40) : g_X3_readSingle rC rS 55 p M = CTwo M := by
  unfold g_X3_readSingle CTwo
  rw [i_kind h]
  simp only [bind_s]
  rw [if_neg (show ¬ M 80 j = (134 : Int32) from h1), if_neg (show ¬ M 80 j = (40 : Int32) from h2)]
  cases f_X3_readSum 55 M with
  | none => rfl
  | some y =>
    obtain ⟨u, M1⟩ := y
    simp only [bnd2_s]
    by_cases cu : u = J 0
    · rw [if_pos (show u = (0 : Int32) from cu), if_pos cu]
      rfl
    · rw [if_neg (show ¬ u = (0 : Int32) from cu), if_neg cu]
      cases f_X5_kind M1 with
      | none => rfl
      | some v =>
        simp only [bind_s]
        by_cases c60 : v = J 60
        · rw [if_pos (show v = (60 : Int32) from c60), if_pos (Or.inl c60)]
          rfl
        · rw [if_neg (show ¬ v = (60 : Int32) from c60)]
          by_cases c61 : v = J 61
          · rw [if_pos (show v = (61 : Int32) from c61), if_pos (Or.inr (Or.inl c61))]
            rfl
          · rw [if_neg (show ¬ v = (61 : Int32) from c61)]
            by_cases c62 : v = J 62
            · rw [if_pos (show v = (62 : Int32) from c62), if_pos (Or.inr (Or.inr c62))]
              rfl
            · rw [if_neg (show ¬ v = (62 : Int32) from c62), if_neg (fun e => e.elim c60 (fun e => e.elim c61 c62))]
              exact fail_b M1
theorem sg_not {rC rS : Nat → Int32 → zM → Option (Int32 × zM)} {tp : Nat → Nat} {n NN : Nat} {P E : Nat → Nat} {p : Nat} (cp : p < 8) (hS : SG rS tp n NN P E (p + 1)) {j q cz cn s wn : Nat} {M N : zM} (h : LwS M N tp n NN P E j q cz cn s) (h19 : N 257 19 = J wn) (hw : wn ≤ 3 * p + 2) (h12 : N 257 12 = J p) (hk : M 80 j = J 134) :
    (∃ M' N', j_X3_readSingle_18 rC rS 55 (J p) (J 134) M = some (J 1, M') ∧ FO N = FB N' ∧ Sd (44 + 2 * p) wn M N M' N' tp n NN P E j cz cn s) ∨
    (∃ M' N', j_X3_readSingle_18 rC rS 55 (J p) (J 134) M = some (J 0, M') ∧ FO N = some N' ∧ Fc M N M' N') := by
  have hT := h.1
  have hn := TS_n hT
  have co := c_opens hT (p := p) (by omega)
  rw [if_pos cp] at co
  obtain ⟨g1, g2⟩ := fo_not hT hk (by omega) h19 h12 cp
  have nx := i_next hT g1
  have ep : J (p : Int) + (1 : Int32) = J ((p + 1 : Nat) : Int) := J_s p
  have ec : j_X3_readSingle_18 rC rS 55 (J p) (J 134) M = bnd2 (rS 55 (J (p + 1 : Nat)) (mset M 78 7 (J (j + 1 : Nat)))) fun u M72 => if u = J 0 then some (J 0, M72) else (f_X3_emit 55 (J 10134) M72).bind fun M84 => some (J 1, M84) := by
    unfold j_X3_readSingle_18
    rw [show f_X5_opens (1 : Int32) (J p) (8 : Int32) M = some (J 1, M) from co]
    simp only [bnd2_s]
    rw [if_neg (by decide), nx]
    simp only [bind_s]
    rw [if_neg (by decide), ep]
    rfl
  rw [ec, g2]
  have os := opS h g1 2 wn p
  rcases hS _ _ _ _ _ (wn + 1) _ _ os (by unfold opN; simp (disch := omega) only [mset_ne, mset_eq, mrow_ne, mrow_eq, upd_eq, upd_ne]) (by omega) (by unfold opN; simp (disch := omega) only [mset_ne, mset_eq, mrow_ne, mrow_eq, upd_eq, upd_ne]) with ⟨M1, N1, r1, r2, j1, q1, L, l1, l2, l3, l4, l5, ⟨l6, l6b, l6c⟩, l7, l8⟩ | ⟨M1, N1, r1, r2, r3⟩
  · have a19 : N1 257 19 = J (wn + 1 : Nat) := by rw [l6b]; unfold opN; simp (disch := omega) only [mset_ne, mset_eq, mrow_ne, mrow_eq, upd_eq, upd_ne]
    have a12 : N1 257 12 = J (p + 1 : Nat) := by rw [l6]; unfold opN; simp (disch := omega) only [mset_ne, mset_eq, mrow_ne, mrow_eq, upd_eq, upd_ne]
    have a2 : N1 264 wn = J 2 := by rw [l6c _ (by omega)]; unfold opN; simp (disch := omega) only [mset_ne, mset_eq, mrow_ne, mrow_eq, upd_eq, upd_ne]; rfl
    have a64 : ∀ i, i < wn → N1 264 i = N 264 i := fun i hi => by rw [l6c i (by omega)]; unfold opN; simp (disch := omega) only [mset_ne, mset_eq, mrow_ne, mrow_eq, upd_eq, upd_ne]
    have fb := fb_not (wn := wn) (p := p + 1) (by omega) a19 a2 a12 (by omega) (by omega)
    rw [Nat.add_sub_cancel] at fb
    have e12 : LwS M1 (mset (mset N1 257 19 (J wn)) 257 12 (J p)) tp n NN P E j1 q1 (cz + (encL L).length) (cn + L.length) (s + 1) := ⟨TS_fr l2.1 rfl rfl rfl rfl (by simp (disch := omega) only [mset_ne, mset_eq, mrow_ne, mrow_eq, upd_eq, upd_ne]) (by simp (disch := omega) only [mset_ne, mset_eq, mrow_ne, mrow_eq, upd_eq, upd_ne]) (by simp (disch := omega) only [mset_ne, mset_eq, mrow_ne, mrow_eq, upd_eq, upd_ne]) (by simp (disch := omega) only [mset_ne, mset_eq, mrow_ne, mrow_eq, upd_eq, upd_ne]), l2.2.1, by simp (disch := omega) only [mset_ne, mset_eq, mrow_ne, mrow_eq, upd_eq, upd_ne]; exact l2.2.2.1, l2.2.2.2.1, l2.2.2.2.2⟩
    obtain ⟨M2, N2, m1, m2, m3, m4, m5, m6, m7⟩ := em_1 e12 9 (J 0) (J 10134) rfl
    have m2' : f_X11_codes (J 9) (J 0) (mset (mset N1 257 19 (J wn)) 257 12 (J p)) = some N2 := m2
    have m3c := LwS_c m3
    left
    refine ⟨M2, N2, ?_, ?_, j1, q1, L ++ [(9, J 0)], by omega, LwS_app m3, Em_t (by simp only [List.length_singleton]; omega) (Em_fl l3 (fun j _ _ => by simp (disch := omega) only [mset_ne, mset_eq, mrow_ne, mrow_eq, upd_eq, upd_ne]) (by unfold opN; simp (disch := omega) only [mset_ne, mset_eq, mrow_ne, mrow_eq, upd_eq, upd_ne])) (Em_fl m4 (fun j _ _ => rfl) (by simp (disch := omega) only [mset_ne, mset_eq, mrow_ne, mrow_eq, upd_eq, upd_ne])), ok_app l4 ?_, fun st hst => ?_, ⟨?_, ?_, fun i hi => ?_⟩, FrC_t (FrC_7 _ _) (FrC_t l7 m6), FrN_t (opF _ _ _ _ _) (FrN_t l8 (FrN_t ⟨fun j h1 h2 h3 => by simp (disch := omega) only [mset_ne, mset_eq, mrow_ne, mrow_eq, upd_eq, upd_ne], fun i h1 h2 h3 h4 h5 h6 => by simp (disch := omega) only [mset_ne, mset_eq, mrow_ne, mrow_eq, upd_eq, upd_ne]⟩ m7))⟩
    · rw [r1]
      simp only [bnd2_s]
      rw [if_neg (by decide), m1]
      rfl
    · rw [r2, fb, m2']
      rfl
    · intro q hq
      rw [List.mem_singleton] at hq
      subst hq
      exact ⟨by show 9 ≤ 11; omega, fun e => by simp at e, fun e => by simp at e, fun e => by simp at e⟩
    · rw [tyL_app, l5 st (by omega)]
      rfl
    · rw [m5.1, h12]; simp (disch := omega) only [mset_ne, mset_eq, mrow_ne, mrow_eq, upd_eq, upd_ne]
    · rw [m5.2.1, h19]; simp (disch := omega) only [mset_ne, mset_eq, mrow_ne, mrow_eq, upd_eq, upd_ne]
    · rw [m5.2.2]; simp (disch := omega) only [mset_ne, mset_eq, mrow_ne, mrow_eq, upd_eq, upd_ne]; exact a64 i hi
  · right
    refine ⟨M1, N1, ?_, r2, Fc_t (FrC_7 _ _) (opF _ _ _ _ _) r3⟩
    rw [r1]
    simp only [bnd2_s]
    rw [if_pos (by trivial)]
theorem sg_par {rC rS : Nat → Int32 → zM → Option (Int32 × zM)} {tp : Nat → Nat} {n NN : Nat} {P E : Nat → Nat} {p : Nat} (cp : p < 8) (hC : CD rC tp n NN P E (p + 1)) {j q cz cn s wn : Nat} {M N : zM} (h : LwS M N tp n NN P E j q cz cn s) (h19 : N 257 19 = J wn) (hw : wn ≤ 3 * p + 2) (h12 : N 257 12 = J p) (hk : M 80 j = J 40) :
    (∃ M' N', j_X3_readSingle_18 rC rS 55 (J p) (J 40) M = some (J 1, M') ∧ FO N = FB N' ∧ Sd (44 + 2 * p) wn M N M' N' tp n NN P E j cz cn s) ∨
    (∃ M' N', j_X3_readSingle_18 rC rS 55 (J p) (J 40) M = some (J 0, M') ∧ FO N = some N' ∧ Fc M N M' N') := by
  have hT := h.1
  have hn := TS_n hT
  have co := c_opens hT (p := p) (by omega)
  rw [if_pos cp] at co
  obtain ⟨g1, g2⟩ := fo_par hT hk (by omega) h19 h12 cp
  have nx := i_next hT g1
  have ep : J (p : Int) + (1 : Int32) = J ((p + 1 : Nat) : Int) := J_s p
  have ec : j_X3_readSingle_18 rC rS 55 (J p) (J 40) M = bnd2 (rC 55 (J (p + 1 : Nat)) (mset M 78 7 (J (j + 1 : Nat)))) fun u M46 => if u = J 0 then some (J 0, M46) else bnd2 (f_X5_take (J 41) M46) fun u55 M55 => if u55 = J 0 then some (J 0, M55) else some (J 1, M55) := by
    unfold j_X3_readSingle_18
    rw [show f_X5_opens (1 : Int32) (J p) (8 : Int32) M = some (J 1, M) from co]
    simp only [bnd2_s]
    rw [if_neg (by decide), nx]
    simp only [bind_s]
    rw [if_pos (by trivial), ep]
    rfl
  rw [ec, g2]
  have os := opS h g1 1 wn p
  rcases hC _ _ _ _ _ (wn + 1) _ _ os (by unfold opN; simp (disch := omega) only [mset_ne, mset_eq, mrow_ne, mrow_eq, upd_eq, upd_ne]) (by omega) (Or.inr (by rw [Nat.add_sub_cancel]; unfold opN; simp (disch := omega) only [mset_ne, mset_eq, mrow_ne, mrow_eq, upd_eq, upd_ne]; rfl)) (by unfold opN; simp (disch := omega) only [mset_ne, mset_eq, mrow_ne, mrow_eq, upd_eq, upd_ne]) with ⟨M1, N1, r1, r2, j1, q1, L, l1, l2, l3, l4, l5, ⟨l6, l6b, l6c⟩, l7, l8⟩ | ⟨M1, N1, r1, r2, r3⟩
  · have a19 : N1 257 19 = J (wn + 1 : Nat) := by rw [l6b]; unfold opN; simp (disch := omega) only [mset_ne, mset_eq, mrow_ne, mrow_eq, upd_eq, upd_ne]
    have a12 : N1 257 12 = J (p + 1 : Nat) := by rw [l6]; unfold opN; simp (disch := omega) only [mset_ne, mset_eq, mrow_ne, mrow_eq, upd_eq, upd_ne]
    have a64 : ∀ i, i < wn → N1 264 i = N 264 i := fun i hi => by rw [l6c i (by omega)]; unfold opN; simp (disch := omega) only [mset_ne, mset_eq, mrow_ne, mrow_eq, upd_eq, upd_ne]
    have hT1 := l2.1
    have hn1 := TS_n hT1
    have l2c := LwS_c l2
    have fc := fc_close (wn := wn) (by omega) hT1.2.2.2.2.2.2.2 a19
    have ew : J ((wn + 1 : Nat) : Int) - J 1 = J (wn : Int) := by rw [J_sub]; exact congrArg J (by omega)
    have eq : J ((p + 1 : Nat) : Int) - J 1 = J (p : Int) := by rw [J_sub]; exact congrArg J (by omega)
    have emA : Em M N M1 N1 cz cn L := Em_fl l3 (fun j _ _ => by simp (disch := omega) only [mset_ne, mset_eq, mrow_ne, mrow_eq, upd_eq, upd_ne]) (by unfold opN; simp (disch := omega) only [mset_ne, mset_eq, mrow_ne, mrow_eq, upd_eq, upd_ne])
    rcases i_sign hT1 (c := 41) (by unfold isSg; omega) with ⟨s1, s2, s3, s4⟩ | ⟨s1, s3, s4⟩
    · have s3' : f_X5_take (J 41) M1 = some (J 1, mset M1 78 7 (J (j1 + 1 : Nat))) := s3
      have s4' : f_X11_sign (J 41) N1 = some (mset N1 257 9 (J (E j1))) := s4
      have hx := LwS_next l2 s2
      have b19 : mset N1 257 9 (J (E j1)) 257 19 - J 1 = J wn := by simp (disch := omega) only [mset_ne, mset_eq, mrow_ne, mrow_eq, upd_eq, upd_ne]; rw [a19, ew]
      have b12 : mset N1 257 9 (J (E j1)) 257 12 - J 1 = J p := by simp (disch := omega) only [mset_ne, mset_eq, mrow_ne, mrow_eq, upd_eq, upd_ne]; rw [a12, eq]
      have hy : LwS (mset M1 78 7 (J (j1 + 1 : Nat))) (mset (mset (mset N1 257 9 (J (E j1))) 257 19 (J wn)) 257 12 (J p)) tp n NN P E (j1 + 1) (E j1) (cz + (encL L).length) (cn + L.length) s := LwS_w ⟨TS_fr hx.1 rfl rfl rfl rfl (by simp (disch := omega) only [mset_ne, mset_eq, mrow_ne, mrow_eq, upd_eq, upd_ne]) (by simp (disch := omega) only [mset_ne, mset_eq, mrow_ne, mrow_eq, upd_eq, upd_ne]) (by simp (disch := omega) only [mset_ne, mset_eq, mrow_ne, mrow_eq, upd_eq, upd_ne]) (by simp (disch := omega) only [mset_ne, mset_eq, mrow_ne, mrow_eq, upd_eq, upd_ne]), hx.2.1, by simp (disch := omega) only [mset_ne, mset_eq, mrow_ne, mrow_eq, upd_eq, upd_ne]; exact l2.2.2.1, hx.2.2.2.1, hx.2.2.2.2⟩ (by omega)
      have ff : ¬ f_X11_fine (mset (mset (mset N1 257 9 (J (E j1))) 257 19 (J wn)) 257 12 (J p)) = J 0 := by rw [fine_t hy.1.2.2.2.2.2.2.2]; decide
      left
      refine ⟨_, _, ?_, ?_, j1 + 1, E j1, L, by omega, hy, Em_fr emA (fun j _ _ => by simp (disch := omega) only [mset_ne, mset_eq, mrow_ne, mrow_eq, upd_eq, upd_ne]) (by simp (disch := omega) only [mset_ne, mset_eq, mrow_ne, mrow_eq, upd_eq, upd_ne]), l4, fun st hst => l5 st (by omega), ⟨?_, ?_, fun i hi => ?_⟩, FrC_t (FrC_7 _ _) (FrC_t l7 (FrC_7 _ _)), FrN_t (opF _ _ _ _ _) (FrN_t l8 ⟨fun j h1 h2 h3 => by simp (disch := omega) only [mset_ne, mset_eq, mrow_ne, mrow_eq, upd_eq, upd_ne], fun i h1 h2 h3 h4 h5 h6 => by simp (disch := omega) only [mset_ne, mset_eq, mrow_ne, mrow_eq, upd_eq, upd_ne]⟩)⟩
      · rw [r1]
        simp only [bnd2_s]
        rw [if_neg (by decide), s3']
        simp only [bnd2_s]
        rw [if_neg (by decide)]
      · rw [r2, fc, s4']
        simp only [bind_s]
        rw [b19, b12, if_neg ff]
      · rw [h12]; simp (disch := omega) only [mset_ne, mset_eq, mrow_ne, mrow_eq, upd_eq, upd_ne]
      · rw [h19]; simp (disch := omega) only [mset_ne, mset_eq, mrow_ne, mrow_eq, upd_eq, upd_ne]
      · simp (disch := omega) only [mset_ne, mset_eq, mrow_ne, mrow_eq, upd_eq, upd_ne]; exact a64 i hi
    · have s3' : f_X5_take (J 41) M1 = some (J 0, cF M1 1 (P j1)) := s3
      have s4' : f_X11_sign (J 41) N1 = some (rF (mset N1 257 9 (J (P j1))) 1 (P j1)) := s4
      have hpl : P j1 < 2147483648 := by omega
      right
      have n10 : ∀ a b : Int32, mset (mset (rF (mset N1 257 9 (J (P j1))) 1 (P j1)) 257 19 a) 257 12 b 257 10 = J (P j1) := fun a b => by unfold rF; simp (disch := omega) only [mset_ne, mset_eq, mrow_ne, mrow_eq, upd_eq, upd_ne]
      have n11 : ∀ a b : Int32, mset (mset (rF (mset N1 257 9 (J (P j1))) 1 (P j1)) 257 19 a) 257 12 b 257 11 = J 1 := fun a b => by unfold rF; simp (disch := omega) only [mset_ne, mset_eq, mrow_ne, mrow_eq, upd_eq, upd_ne]; rfl
      refine ⟨cF M1 1 (P j1), mset (mset (rF (mset N1 257 9 (J (P j1))) 1 (P j1)) 257 19 ((rF (mset N1 257 9 (J (P j1))) 1 (P j1)) 257 19 - J 1)) 257 12 ((rF (mset N1 257 9 (J (P j1))) 1 (P j1)) 257 12 - J 1), ?_, ?_, ⟨1, P j1, by omega, by unfold cF; simp (disch := omega) only [mset_ne, mset_eq, mrow_ne, mrow_eq, upd_eq, upd_ne], by unfold cF; simp (disch := omega) only [mset_ne, mset_eq, mrow_ne, mrow_eq, upd_eq, upd_ne], n11 _ _, n10 _ _⟩, ⟨cz + (encL L).length, l2c.2.1, by unfold cF; simp (disch := omega) only [mset_ne, mset_eq, mrow_ne, mrow_eq, upd_eq, upd_ne]; exact l2.2.1⟩, FrC_t (FrC_7 _ _) (FrC_t l7 (FrC_c _ _ _)), FrN_t (opF _ _ _ _ _) (FrN_t l8 ⟨fun j h1 h2 h3 => by unfold rF; simp (disch := omega) only [mset_ne, mset_eq, mrow_ne, mrow_eq, upd_eq, upd_ne], fun i h1 h2 h3 h4 h5 h6 => by unfold rF; simp (disch := omega) only [mset_ne, mset_eq, mrow_ne, mrow_eq, upd_eq, upd_ne]⟩)⟩
      · rw [r1]
        simp only [bnd2_s]
        rw [if_neg (by decide), s3']
        simp only [bnd2_s]
        rw [if_pos (by trivial)]
      · rw [r2, fc, s4']
        simp only [bind_s]
        rw [if_pos (fine_f hpl (n10 _ _))]
        exact fc_bad hpl (n10 _ _)
  · right
    refine ⟨M1, N1, ?_, r2, Fc_t (FrC_7 _ _) (opF _ _ _ _ _) r3⟩
    rw [r1]
    simp only [bnd2_s]
    rw [if_pos (by trivial)]
theorem sg_of {rC rS : Nat → Int32 → zM → Option (Int32 × zM)} {tp : Nat → Nat} {n NN : Nat} {P E : Nat → Nat} {p : Nat} (hp8 : p ≤ 8) (hC : p < 8 → CD rC tp n NN P E (p + 1)) (hS : p < 8 → SG rS tp n NN P E (p + 1)) : SG (fun a p M => g_X3_readSingle rC rS a p M) tp n NN P E p := by
  intro j q cz cn s wn M N h h19 hw h12
  simp only
  have hT := h.1
  have hn := TS_n hT
  have hkd := i_kind hT
  obtain ⟨kk, k1, k2, k3, k4⟩ := i_kd hT
  have e18 : (M 80 j = J 134 ∨ M 80 j = J 40) → g_X3_readSingle rC rS 55 (J p) M = j_X3_readSingle_18 rC rS 55 (J p) (M 80 j) M := by
    intro c
    unfold g_X3_readSingle
    rw [hkd]
    simp only [bind_s]
    rcases c with e | e <;> rw [e]
    · rw [if_pos (by trivial)]
    · rw [if_neg (by decide), if_pos (by trivial)]
  have deep : ¬ p < 8 → ∀ v : Int32, j_X3_readSingle_18 rC rS 55 (J p) v M = some (J 0, cF M 3 (P j)) := by
    intro cp v
    have co := c_opens hT hp8
    rw [if_neg cp] at co
    unfold j_X3_readSingle_18
    rw [show f_X5_opens (1 : Int32) (J p) (8 : Int32) M = some (J 0, cF M 3 (P j)) from co]
    simp only [bnd2_s]
    rw [if_pos (by trivial)]
    rfl
  by_cases c134 : M 80 j = J 134
  · rw [e18 (Or.inl c134), c134]
    by_cases cp : p < 8
    · exact sg_not cp (hS cp) h h19 hw h12 c134
    · right
      have p8 : p = 8 := by omega
      obtain ⟨N', d1, d2⟩ := sg_deep h (Or.inl c134) (by omega) h19 (by rw [h12, p8]; rfl)
      exact ⟨_, N', deep cp _, d1, d2⟩
  · by_cases c40 : M 80 j = J 40
    · rw [e18 (Or.inr c40), c40]
      by_cases cp : p < 8
      · exact sg_par cp (hC cp) h h19 hw h12 c40
      · right
        have p8 : p = 8 := by omega
        obtain ⟨N', d1, d2⟩ := sg_deep h (Or.inr c40) (by omega) h19 (by rw [h12, p8]; rfl)
        exact ⟨_, N', deep cp _, d1, d2⟩
    · rw [sg_two rC rS (J p) hT c134 c40, fo_else hT c134 c40]
      unfold FT
      rcases l_two (LwS_at h) with ⟨M1, N1, u1, u2, j1, q1, L, l1, l2, l3, l4, l5, ⟨l6, l6b, l6c⟩, l7, l8⟩ | ⟨M1, N1, u1, u2, u3⟩
      · left
        have f0 : ¬ f_X11_fine N1 = J 0 := by rw [fine_t l2.1.2.2.2.2.2.2.2]; decide
        refine ⟨M1, N1, u1, ?_, j1, q1, L, l1, l2, Em_9 l3, l4, fun st hst => l5 st (by omega), ⟨?_, ?_, fun i _ => ?_⟩, l7, FrN_t (FrN_9 _ _) l8⟩
        · rw [u2]
          simp only [bind_s]
          rw [if_neg f0]
        · rw [l6]; simp (disch := omega) only [mset_ne, mset_eq, mrow_ne, mrow_eq, upd_eq, upd_ne]
        · rw [l6b]; simp (disch := omega) only [mset_ne, mset_eq, mrow_ne, mrow_eq, upd_eq, upd_ne]
        · rw [l6c]; simp (disch := omega) only [mset_ne, mset_eq, mrow_ne, mrow_eq, upd_eq, upd_ne]
      · right
        obtain ⟨pp, hp, hp2⟩ := Fc_bad u3
        refine ⟨M1, N1, u1, ?_, Fc_t (FrC_r _) (FrN_9 _ _) u3⟩
        rw [u2]
        simp only [bind_s]
        rw [if_pos (fine_f hp hp2)]
        exact fc_bad hp hp2
theorem p_cond {tp : Nat → Nat} {n NN : Nat} {P E : Nat → Nat} : ∀ (d f : Nat), d ≤ 8 → 2 * d + 1 ≤ f → SG (rcs f).2 tp n NN P E (8 - d) ∧ CD (rcs (f + 1)).1 tp n NN P E (8 - d) := by
  intro d
  induction d with
  | zero =>
    intro f _ hf
    obtain ⟨g, rfl⟩ : ∃ g, f = g + 1 := ⟨f - 1, by omega⟩
    have hs : SG (rcs (g + 1)).2 tp n NN P E (8 - 0) := sg_of (rC := (rcs g).1) (rS := (rcs g).2) (by omega) (fun c => absurd c (by omega)) (fun c => absurd c (by omega))
    exact ⟨hs, cd_of (by omega) hs⟩
  | succ d ih =>
    intro f hd hf
    obtain ⟨g, rfl⟩ : ∃ g, f = g + 1 + 1 := ⟨f - 2, by omega⟩
    have h1 := ih (g + 1) (by omega) (by omega)
    have h2 := ih g (by omega) (by omega)
    rw [show 8 - d = 8 - (d + 1) + 1 by omega] at h1 h2
    have hs : SG (rcs (g + 1 + 1)).2 tp n NN P E (8 - (d + 1)) := sg_of (rC := (rcs (g + 1)).1) (rS := (rcs (g + 1)).2) (by omega) (fun _ => h2.2) (fun _ => h1.1)
    exact ⟨hs, cd_of (by omega) hs⟩
theorem p_cond0 {tp : Nat → Nat} {n NN : Nat} {P E : Nat → Nat} : CD f_X3_readCondition tp n NN P E 0 := (p_cond 8 28 (by omega) (by omega)).2
