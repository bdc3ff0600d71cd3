/-! ===== out of the square ===== -/
theorem Sy_dy {w : Nat} {M N M' N' : zM} {n m b k k' : Nat} (h : Sy w M N M' N' n m b k k') : Dy M' N' n m b k' := h.1
/-- he is not in any more -/
theorem s_out {w : Nat} {M N : zM} {n m b k : Nat} (h : Dy M N n m b k) (hw : w < n) : Sy w M N (mset M (4 + w) 1 (J 0)) (mset N 259 (145 + 12 * w) (J 0)) n m b k k := by
  have hwk : WkR (M (4 + w)) (N 259) w b := h.1.2.2.2.2.1 w hw
  obtain ⟨w0, w1, wb, w10, w11, w12, win⟩ := hwk
  refine Sy_wk h hw (fun j hj => by simp (disch := omega) only [mset_ne, mset_eq, mrow_ne, mrow_eq, upd_eq, upd_ne]) (fun j hj => by simp (disch := omega) only [mset_ne, mset_eq, mrow_ne, mrow_eq, upd_eq, upd_ne]) (fun i hi => by simp (disch := omega) only [mset_ne, mset_eq, mrow_ne, mrow_eq, upd_eq, upd_ne]) (by simp (disch := omega) only [mset_ne, mset_eq, mrow_ne, mrow_eq, upd_eq, upd_ne]) ?_ (fun v hv hne i1 => by exfalso; revert i1; simp (disch := omega) only [mset_ne, mset_eq, mrow_ne, mrow_eq, upd_eq, upd_ne]; decide)
  refine ⟨?_, ?_, ?_, ?_, ?_, ?_, fun hin => ?_⟩
  · simp (disch := omega) only [mset_ne, mset_eq, mrow_ne, mrow_eq, upd_eq, upd_ne]; exact w0
  · simp (disch := omega) only [mset_ne, mset_eq, mrow_ne, mrow_eq, upd_eq, upd_ne]
  · left
    simp (disch := omega) only [mset_ne, mset_eq, mrow_ne, mrow_eq, upd_eq, upd_ne]
    rfl
  · simp (disch := omega) only [mset_ne, mset_eq, mrow_ne, mrow_eq, upd_eq, upd_ne]; exact w10
  · simp (disch := omega) only [mset_ne, mset_eq, mrow_ne, mrow_eq, upd_eq, upd_ne]; exact w11
  · simp (disch := omega) only [mset_ne, mset_eq, mrow_ne, mrow_eq, upd_eq, upd_ne]; exact w12
  · exfalso
    revert hin
    simp (disch := omega) only [mset_ne, mset_eq, mrow_ne, mrow_eq, upd_eq, upd_ne]
    decide
/-- one of the three counts of a walker: crossed (10, 153), caught (11, 154), slipped (12, 155) -/
theorem WkR_ct {r ρ : Nat → Int32} {w b c e : Nat} (v : Int32) (hw : w < 16) (hc : (c = 10 ∧ e = 153) ∨ (c = 11 ∧ e = 154) ∨ (c = 12 ∧ e = 155)) (h : WkR r ρ w b) : WkR (upd r c v) (upd ρ (e + 12 * w) v) w b := by
  have hce : 10 ≤ c ∧ c ≤ 12 ∧ 153 ≤ e ∧ e ≤ 155 := by omega
  obtain ⟨w0, w1, wb, w10, w11, w12, win⟩ := h
  have key : ∀ j i, j < 10 → i < 153 + 12 * w → 144 + 12 * w ≤ i → r j = ρ i → upd r c v j = upd ρ (e + 12 * w) v i := by
    intro j i a1 a2 a3 a4
    rw [upd_ne (by omega), upd_ne (by omega), a4]
  refine ⟨key 0 _ (by omega) (by omega) (by omega) w0, key 1 _ (by omega) (by omega) (by omega) w1, by rw [upd_ne (by omega)]; exact wb, ?_, ?_, ?_, fun hin => ?_⟩
  · rcases hc with ⟨rfl, rfl⟩ | ⟨rfl, rfl⟩ | ⟨rfl, rfl⟩ <;> simp (disch := omega) only [mset_ne, mset_eq, mrow_ne, mrow_eq, upd_eq, upd_ne] <;> assumption
  · rcases hc with ⟨rfl, rfl⟩ | ⟨rfl, rfl⟩ | ⟨rfl, rfl⟩ <;> simp (disch := omega) only [mset_ne, mset_eq, mrow_ne, mrow_eq, upd_eq, upd_ne] <;> assumption
  · rcases hc with ⟨rfl, rfl⟩ | ⟨rfl, rfl⟩ | ⟨rfl, rfl⟩ <;> simp (disch := omega) only [mset_ne, mset_eq, mrow_ne, mrow_eq, upd_eq, upd_ne] <;> assumption
  · rw [upd_ne (by omega)] at hin
    obtain ⟨h2, h3, h4, h5, h6, h7, lx, ly, lf, ls, hst⟩ := win hin
    refine ⟨key 2 _ (by omega) (by omega) (by omega) h2, key 3 _ (by omega) (by omega) (by omega) h3, key 4 _ (by omega) (by omega) (by omega) h4, key 5 _ (by omega) (by omega) (by omega) h5, key 6 _ (by omega) (by omega) (by omega) h6, key 7 _ (by omega) (by omega) (by omega) h7, by rw [upd_ne (by omega)]; exact lx, by rw [upd_ne (by omega)]; exact ly, by rw [upd_ne (by omega)]; exact lf, by rw [upd_ne (by omega)]; exact ls, ?_⟩
    obtain ⟨st, dn, S, L, q1, q2, q3, q4⟩ := StR_ro (ρ' := upd ρ (e + 12 * w) v) (fun j _ _ => upd_ne (by omega)) (upd_ne (by omega)) hw hst
    exact ⟨st, dn, S, L, by rw [upd_ne (by omega)]; exact q1, by rw [upd_ne (by omega)]; exact q2, q3, q4⟩
theorem s_ct {w : Nat} {M N : zM} {n m b k c e : Nat} (v : Int32) (h : Dy M N n m b k) (hw : w < n) (hc : (c = 11 ∧ e = 154) ∨ (c = 12 ∧ e = 155)) : Sy w M N (mset M (4 + w) c v) (mset N 259 (e + 12 * w) v) n m b k k := by
  have hn := h.1.1.1
  have hce : 11 ≤ c ∧ c ≤ 12 ∧ 154 ≤ e ∧ e ≤ 155 := by omega
  refine Sy_wk h hw (fun j hj => by simp (disch := omega) only [mset_ne, mset_eq, mrow_ne, mrow_eq, upd_eq, upd_ne]) (fun j hj => by simp (disch := omega) only [mset_ne, mset_eq, mrow_ne, mrow_eq, upd_eq, upd_ne]) (fun i hi => by simp (disch := omega) only [mset_ne, mset_eq, mrow_ne, mrow_eq, upd_eq, upd_ne]) (by simp (disch := omega) only [mset_ne, mset_eq, mrow_ne, mrow_eq, upd_eq, upd_ne]) ?_ (Ds_same h.1 hw (by simp (disch := omega) only [mset_ne, mset_eq, mrow_ne, mrow_eq, upd_eq, upd_ne]) (by simp (disch := omega) only [mset_ne, mset_eq, mrow_ne, mrow_eq, upd_eq, upd_ne]) (by simp (disch := omega) only [mset_ne, mset_eq, mrow_ne, mrow_eq, upd_eq, upd_ne]))
  simp only [mset_eq]
  exact WkR_ct v (by omega) (Or.inr hc) (h.1.2.2.2.2.1 w hw)
/-- one crossing more -/
theorem s_cr {w : Nat} {M N : zM} {n m b k : Nat} (h : Dy M N n m b k) (hw : w < n) : Sy w M N (mset (mset M 83 1 (M 83 1 + J 1)) (4 + w) 10 (M (4 + w) 10 + J 1)) (mset N 259 (153 + 12 * w) (N 259 (153 + 12 * w) + J 1)) n m b k k := by
  obtain ⟨h1, h2, h3⟩ := h
  have hn := h1.1.1
  have hwk : WkR (M (4 + w)) (N 259) w b := h1.2.2.2.2.1 w hw
  have e10 := hwk.2.2.2.1
  have hA : SqB (mset M 83 1 (M 83 1 + J 1)) 1 (N 259) n m b k := Sq_fr (fun j _ _ => by simp (disch := omega) only [mset_ne, mset_eq, mrow_ne, mrow_eq, upd_eq, upd_ne]) h1
  refine ⟨⟨?_, ?_, ?_⟩, Nat.le_refl _, fun j hj => by unfold clF at hj; simp (disch := omega) only [mset_ne, mset_eq, mrow_ne, mrow_eq, upd_eq, upd_ne], fun i hi => by simp (disch := omega) only [mset_ne, mset_eq, mrow_ne, mrow_eq, upd_eq, upd_ne], fun i _ => by simp (disch := omega) only [mset_ne, mset_eq, mrow_ne, mrow_eq, upd_eq, upd_ne], fun j c1 _ _ => by simp (disch := omega) only [mset_ne, mset_eq, mrow_ne, mrow_eq, upd_eq, upd_ne], fun i hi => by unfold rfF at hi; simp (disch := omega) only [mset_ne, mset_eq, mrow_ne, mrow_eq, upd_eq, upd_ne], J 1, by simp (disch := omega) only [mset_ne, mset_eq, mrow_ne, mrow_eq, upd_eq, upd_ne], ?_⟩
  · refine Sq_wk hA hw (by simp (disch := omega) only [mset_ne, mset_eq, mrow_ne, mrow_eq, upd_eq, upd_ne]) (by simp (disch := omega) only [mset_ne, mset_eq, mrow_ne, mrow_eq, upd_eq, upd_ne]) (fun v hv hv2 => by simp (disch := omega) only [mset_ne, mset_eq, mrow_ne, mrow_eq, upd_eq, upd_ne]) (fun j c1 c2 c3 => by simp (disch := omega) only [mset_ne, mset_eq, mrow_ne, mrow_eq, upd_eq, upd_ne]) ?_ (Ds_same hA hw (by simp (disch := omega) only [mset_ne, mset_eq, mrow_ne, mrow_eq, upd_eq, upd_ne, J_lit, J_nI, J_add, J_sub, J_mul, J_neg, Int.cast_ofNat_Int, ix_Jn, ix_J, Int.reduceToNat, Int.toNat_natCast, Nat.reduceAdd, Nat.reduceMul]) (by simp (disch := omega) only [mset_ne, mset_eq, mrow_ne, mrow_eq, upd_eq, upd_ne, J_lit, J_nI, J_add, J_sub, J_mul, J_neg, Int.cast_ofNat_Int, ix_Jn, ix_J, Int.reduceToNat, Int.toNat_natCast, Nat.reduceAdd, Nat.reduceMul]) (by simp (disch := omega) only [mset_ne, mset_eq, mrow_ne, mrow_eq, upd_eq, upd_ne, J_lit, J_nI, J_add, J_sub, J_mul, J_neg, Int.cast_ofNat_Int, ix_Jn, ix_J, Int.reduceToNat, Int.toNat_natCast, Nat.reduceAdd, Nat.reduceMul]))
    have := WkR_ct (c := 10) (e := 153) (N 259 (153 + 12 * w) + J 1) (by omega) (Or.inl ⟨rfl, rfl⟩) hwk
    have e4 : 1 + 3 + w = 4 + w := by omega
    rw [e4]
    simp (disch := omega) only [mset_ne, mset_eq, mrow_ne, mrow_eq, upd_eq, upd_ne]
    rw [e10]
    exact this
  · exact Tx_ro (fun j c1 c2 => by simp (disch := omega) only [mset_ne, mset_eq, mrow_ne, mrow_eq, upd_eq, upd_ne]) (Tx_fr (fun j c1 c2 _ => by simp (disch := omega) only [mset_ne, mset_eq, mrow_ne, mrow_eq, upd_eq, upd_ne]) h2)
  · simp (disch := omega) only [mset_ne, mset_eq, mrow_ne, mrow_eq, upd_eq, upd_ne]
    exact Bk_ro h1.1.2.2 (fun j c1 c2 => by simp (disch := omega) only [mset_ne, mset_eq, mrow_ne, mrow_eq, upd_eq, upd_ne]) h3
  · refine csR_add hw (fun v hv hne => ?_) ?_
    · simp (disch := omega) only [mset_ne, mset_eq, mrow_ne, mrow_eq, upd_eq, upd_ne]
    · simp (disch := omega) only [mset_ne, mset_eq, mrow_ne, mrow_eq, upd_eq, upd_ne]
theorem back_eq : ∀ f : Nat, f < 4 → ∀ s : Nat, s < 4 → ((J f = irem (J s + 2) 4) ↔ (irem (J f + 2) 4 = J s)) := by decide +kernel
theorem s_leave {w : Nat} {M N : zM} {n m b k : Nat} (h : Dy M N n m b k) (hw : w < n) (hin : M (4 + w) 1 = 1) (ht : M 83 0 = N 257 6) (htb : M 83 0 = 0 ∨ M 83 0 = 1) :
    ∃ M' N' k', f_X1_leave (J w) M = some M' ∧ f_X11_goesOut (J w) N = some N' ∧ Sy w M N M' N' n m b k k' := by
  have h1 := h.1
  have hn := h1.1.1
  have hwk : WkR (M (4 + w)) (N 259) w b := h1.2.2.2.2.1 w hw
  obtain ⟨w0, w1, wb, w10, w11, w12, win⟩ := hwk
  obtain ⟨h2, h3, h4, h5, h6, h7, lx, ly, ⟨f, lf, ef⟩, ⟨s, ls, es⟩, hst⟩ := win hin
  have ef2 : N 259 (148 + 12 * w) = J f := by rw [← h4]; exact ef
  have es2 : N 259 (151 + 12 * w) = J s := by rw [← h7]; exact es
  have hbk := back_eq f lf s ls
  have eL : f_X1_leave (J w) M = if J f = irem (J s + 2) 4 then j_X1_leave_30 (J w) (4 + w) 1 M else j_X1_leave_30 (J w) (4 + w) 0 M := by
    unfold f_X1_leave
    rw [grd_t (inb_J (by omega) (by omega) (by omega)), ix_Jn (by omega), show 1 + 3 + w = 4 + w by omega, ef, es]
  have eR : f_X11_goesOut (J w) N = if irem (J f + 2) 4 = J s then j_X11_goesOut_25 (J w) N else (f_X11_comesOver (J w) N).bind fun M22 => j_X11_goesOut_25 (J w) M22 := by
    unfold f_X11_goesOut
    rw [show (4 : Int32) = J 4 from rfl, th4 N (by omega), bind_s, show (7 : Int32) = J 7 from rfl, th7 N (by omega), bind_s, ef2, es2]
  have e25 : ∀ B : zM, j_X11_goesOut_25 (J w) B = some (mset B 259 (145 + 12 * w) (J 0)) := by
    intro B
    unfold j_X11_goesOut_25
    simp (disch := omega) only [↓nm_s, ↓grd_s, ↓reduceIte, J_lit, J_nI, J_add, J_sub, J_mul, J_neg, Int.cast_ofNat_Int, J_lt_t, J_lt_f, J_le_t, J_le_f, J_eq_t, J_eq_f, within_t, within_f, isIn_t, isIn_f, inRow_t, inRow_f, isCell_t, isCell_f, inb_t, ix_Jn, ix_J, Int.reduceToNat, Int.toNat_natCast, mset_ne, mset_eq, mrow_ne, mrow_eq, upd_eq, upd_ne, bind_s, bnd2_s, not_true_eq_false, not_false_eq_true, Nat.reduceAdd, th0, ts0, ta0, th1, ts1, ta1, th2, ts2, ta2, th3, ts3, ta3, th4, ts4, ta4, th5, ts5, ta5, th6, ts6, ta6, th7, ts7, ta7, th8, ts8, ta8, th9, ts9, ta9, th10, ts10, ta10, th11, ts11, ta11]
  rw [eL, eR]
  by_cases c : J f = irem (J s + 2) 4
  · rw [if_pos c, if_pos (hbk.mp c), e25]
    refine ⟨_, _, k, ?_, rfl, s_out h hw⟩
    unfold j_X1_leave_30
    simp (disch := omega) only [↓nm_s, ↓grd_s, ↓reduceIte, J_lit, J_nI, J_add, J_sub, J_mul, J_neg, Int.cast_ofNat_Int, J_lt_t, J_lt_f, J_le_t, J_le_f, J_eq_t, J_eq_f, within_t, within_f, isIn_t, isIn_f, inRow_t, inRow_f, isCell_t, isCell_f, inb_t, ix_Jn, ix_J, Int.reduceToNat, Int.toNat_natCast, mset_ne, mset_eq, mrow_ne, mrow_eq, upd_eq, upd_ne, bind_s, bnd2_s, not_true_eq_false, not_false_eq_true, Nat.reduceAdd]
  · rw [if_neg c, if_neg (fun a => c (hbk.mpr a))]
    -- one crossing more
    have S1 := s_cr h hw
    generalize hM1 : mset (mset M 83 1 (M 83 1 + J 1)) (4 + w) 10 (M (4 + w) 10 + J 1) = M1 at S1
    generalize hN1 : mset N 259 (153 + 12 * w) (N 259 (153 + 12 * w) + J 1) = N1 at S1
    obtain ⟨u1, M2, N2, a1, a2, a3, a4⟩ := s_ask (kind := 2) (w := w) (by decide) S1.1.1 S1.1.2.1 hw
    have S2 := Sy_sc (w := w) S1.1 a3 a4
    have e14 : M1 1 4 = N1 259 937 := S1.1.1.2.1.2.2.2.1
    have S3 := Sy_hd (w := w) (c := 4) (r := 937) (M1 1 4 + u1) S2.1 (Or.inl ⟨rfl, rfl⟩)
    generalize hM3 : mset M2 1 4 (M1 1 4 + u1) = M3 at S3
    generalize hN3 : mset N2 259 937 (M1 1 4 + u1) = N3 at S3
    have in3 : M3 (4 + w) 1 = 1 := by
      rw [← hM3, mset_ne (by omega), a3 (4 + w) (by omega) (by omega), ← hM1, mset_eq, upd_ne (by omega), mset_ne (by omega)]
      exact hin
    have t3 : M3 (4 + w) 5 = N3 259 (149 + 12 * w) := ((S3.1.1.2.2.2.2.1 w hw).2.2.2.2.2.2 in3).2.2.2.1
    obtain ⟨M4, N4, k4, b1, b2, S4, b4, b5, b6⟩ := s_write (w := w) S3.1 (J 3) (J w) (M3 (4 + w) 5)
    have in4 : M4 (4 + w) 1 = 1 := by rw [b4 (4 + w) (by omega) (by omega)]; exact in3
    have t4 : M4 (4 + w) 5 = N4 259 (149 + 12 * w) := ((S4.1.1.2.2.2.2.1 w hw).2.2.2.2.2.2 in4).2.2.2.1
    have S14 := Sy_tr (Sy_tr (Sy_tr S1 S2) S3) S4
    have th4' : M4 83 0 = N4 257 6 := by
      rw [S14.2.2.2.1 0 (by omega), S14.2.2.2.2.2.1 257 (by omega) (by omega) (by omega)]
      exact ht
    have tb4 : M4 83 0 = 0 ∨ M4 83 0 = 1 := by rw [S14.2.2.2.1 0 (by omega)]; exact htb
    have cls : ∀ z, j_X1_leave_30 (J w) (4 + w) 0 M = z ↔ (if (M4 (4 + w) 5) = 0 then (bnd2 (f_X1_ask 129 (4 + w) M4) fun u105 M105 => bnd2 (f_X1_falls u105 M105) fun u108 M108 => if u108 = 0 then (nm (mset M108 (4 + w) 1 0) fun M155 => some M155) else (nm (mset M108 (4 + w) 11 ((M108 (4 + w) 11) + 1)) fun M121 => nm (mset M121 1 4 ((M121 1 4) + 50)) fun M135 => (f_X0_write 68 1 4 (J w) 50 M135).bind fun M150 => nm (mset M150 (4 + w) 1 0) fun M155 => some M155)) else (nm (mset M4 (4 + w) 1 0) fun M155 => some M155)) = z := by
      intro z
      unfold j_X1_leave_30
      rw [if_pos rfl, nm_s, nm_s, show (1 : Int32) = J 1 from rfl]
      rw [show mset M 83 1 (M 83 1 + J 1) (4 + w) 10 = M (4 + w) 10 by rw [mset_ne (by omega)], hM1, show (130 : Int32) = J (128 + ((2 : Nat) : Int)) from rfl, a1, bnd2_s, nm_s, hM3, show (3 : Int32) = J 3 from rfl, b1, bind_s]
    have ref : ∀ z, f_X11_comesOver (J w) N = z ↔ (if (N4 259 (149 + 12 * w)) = 0 then (bnd2 (f_X11_tells 1 (J w) N4) fun u50 M50 => bnd2 (f_X11_falls u50 M50) fun u53 M53 => if u53 = 0 then (some M53) else ((f_X11_adds (J w) 10 1 M53).bind fun M64 => nm (mset M64 259 (ix (937 : Int32)) ((M64 259 (ix (937 : Int32))) + 50)) fun M79 => (f_X11_writes 4 (J w) 50 M79).bind fun M85 => some M85)) else (some N4)) = z := by
      intro z
      unfold f_X11_comesOver
      rw [show (9 : Int32) = J 9 from rfl, show (1 : Int32) = J 1 from rfl, ta9 (J 1) N (by omega), bind_s, hN1, show (2 : Int32) = J ((2 : Nat) : Int) from rfl, a2, bnd2_s, nm_s, show ix (937 : Int32) = 937 by decide +kernel, ← e14, hN3, show (5 : Int32) = J 5 from rfl, th5 N3 (by omega), bind_s, ← t3, show (3 : Int32) = J 3 from rfl, b2, bind_s, th5 N4 (by omega), bind_s]
    rw [(cls _).mpr rfl, (ref _).mpr rfl, ← t4]
    by_cases c0 : M4 (4 + w) 5 = 0
    · rw [if_pos c0, if_pos c0]
      obtain ⟨u5, M5, N5, d1, d2, d3, d4⟩ := s_ask (kind := 1) (w := w) (by decide) S4.1.1 S4.1.2.1 hw
      have S5 := Sy_sc (w := w) S4.1 d3 d4
      obtain ⟨u6, M6, N6, f1, f2, S6, f4, f5, f6, f7⟩ := s_falls (w := w) S5.1 (by rw [d3 83 (by omega) (by omega), d4 257 (by omega) (by omega)]; exact th4') (by rw [d3 83 (by omega) (by omega)]; exact tb4) u5
      rw [show (129 : Int32) = J (128 + ((1 : Nat) : Int)) from rfl, d1, bnd2_s, f1, bnd2_s, show (1 : Int32) = J ((1 : Nat) : Int) from rfl, d2, bnd2_s, f2, bnd2_s]
      have S16 := Sy_tr (Sy_tr S14 S5) S6
      rcases f4 with f4 | f4
      · rw [if_pos (show u6 = 0 from f4), if_pos (show u6 = 0 from f4), nm_s, bind_s, e25]
        exact ⟨_, _, _, rfl, rfl, Sy_tr S16 (s_out S6.1 hw)⟩
      · rw [if_neg (by rw [f4]; decide), if_neg (by rw [f4]; decide)]
        have e11 : M6 (4 + w) 11 = N6 259 (154 + 12 * w) := (S6.1.1.2.2.2.2.1 w hw).2.2.2.2.1
        have S7 := s_ct (w := w) (c := 11) (e := 154) (M6 (4 + w) 11 + J 1) S6.1 hw (Or.inl ⟨rfl, rfl⟩)
        generalize hM7 : mset M6 (4 + w) 11 (M6 (4 + w) 11 + J 1) = M7 at S7
        generalize hN7 : mset N6 259 (154 + 12 * w) (M6 (4 + w) 11 + J 1) = N7 at S7
        have e74 : M7 1 4 = N7 259 937 := S7.1.1.2.1.2.2.2.1
        have S8 := Sy_hd (w := w) (c := 4) (r := 937) (M7 1 4 + J 50) S7.1 (Or.inl ⟨rfl, rfl⟩)
        generalize hM8 : mset M7 1 4 (M7 1 4 + J 50) = M8 at S8
        generalize hN8 : mset N7 259 937 (M7 1 4 + J 50) = N8 at S8
        obtain ⟨M9, N9, k9, g1, g2, S9, g4, g5, g6⟩ := s_write (w := w) S8.1 (J 4) (J w) (J 50)
        rw [nm_s, show J ((1 : Nat) : Int) = J 1 from rfl, nm_s, show (50 : Int32) = J 50 from rfl, hM8, show (4 : Int32) = J 4 from rfl, g1, bind_s, nm_s]
        rw [show (10 : Int32) = J 10 from rfl, ta10 (J 1) N6 (by omega), bind_s, ← e11, hN7, nm_s, show ix (937 : Int32) = 937 by decide +kernel, ← e74, hN8, g2, bind_s, bind_s, e25]
        exact ⟨_, _, _, rfl, rfl, Sy_tr (Sy_tr (Sy_tr (Sy_tr S16 S7) S8) S9) (s_out S9.1 hw)⟩
    · rw [if_neg c0, if_neg c0, nm_s, bind_s, e25]
      exact ⟨_, _, _, rfl, rfl, Sy_tr S14 (s_out S4.1 hw)⟩
