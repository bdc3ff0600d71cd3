/-! ===== by hand ===== -/
theorem IC_hand {M N : zM} {n m k u o : Nat} {ks : Nat → Nat} (a1 : m < 10000) (a2 : Sq M 1 (N 258) n m k) (a3 : Tx M 40 (N 258)) (a4 : Bk (M 69) (N 258) k) (a5 : Rw M 70 (N 258)) (a6 : Tp M N) (a7 : Un M N n k u o ks) (a8 : Im M N) (a9 : Vl M) (a10 : M 83 0 = 0) :
    ∃ M1, f_X10_keep M = some M1 ∧ (∀ j, 1 ≤ j → j < 143 → M1 j = M j) ∧ Dy M1 (mset (tkR N) 257 6 (J 0)) n m m k ∧
      ∀ M2 N2 k', Dy M2 N2 n m m k' → k ≤ k' → (∀ j, j = 0 ∨ (20 ≤ j ∧ j ≠ 46 ∧ j ≠ 69 ∧ j ≠ 83 ∧ j ≠ 84) → M2 j = M1 j) → (∀ i, i ≠ 1 → M2 83 i = M1 83 i) → (∀ i, i < 4 * k → M2 69 i = M1 69 i) →
        (∀ j, j ≠ 259 → j ≠ 265 → j ≠ 266 → N2 j = mset (tkR N) 257 6 (J 0) j) → (∀ i, 940 ≤ i → N2 259 i = mset (tkR N) 257 6 (J 0) 259 i) → ∃ N3, f_X11_ends N2 = some N3 ∧ IC M2 N3 := by
  obtain ⟨M1, q0, c3, c4, c5, cS, cf⟩ := p_keep a2 a7.1 a7.2.1 a7.2.2.1 a7.2.2.2.1 rfl rfl
  have hq : ((if u = 6 then (o + 1) % 6 else o) + if u = 6 then 5 else u) % 6 < 6 := Nat.mod_lt _ (by decide)
  refine ⟨M1, q0, fun j h1 h2 => cf j h1 (by omega), ?_, ?_⟩
  · refine ⟨Sq_tk (J 0) (Sq_fr (fun j _ _ => cf j (by omega) (by omega)) a2), Tx_tk (J 0) (Tx_fr (fun j _ _ _ => cf j (by omega) (by omega)) a3), ?_⟩
    rw [cf 69 (by omega) (by omega)]
    exact Bk_tk (J 0) a2.1.2.2 a4
  · intro M2 N2 k' d1 d2 d3 d4 d5 d6 d7
    have e4 : N2 257 4 = J u := by rw [d6 257 (by decide) (by decide) (by decide), tk_7 N (J 0) (by decide)]; exact a7.2.2.2.2.1
    obtain ⟨N3, q3, f1, f2, f3, f4, f5, f6⟩ := p_ends (N := N2) a7.1 e4 rfl rfl
    have h258 : N2 258 = N 258 := by rw [d6 258 (by decide) (by decide) (by decide), tk_ne N (J 0) (by decide) (by decide)]
    have h261 : N2 261 = N 261 := by rw [d6 261 (by decide) (by decide) (by decide), tk_ne N (J 0) (by decide) (by decide)]
    have h260 : N3 260 = N 260 := by rw [f6 260 (by decide) (by decide) (by decide), d6 260 (by decide) (by decide) (by decide), tk_ne N (J 0) (by decide) (by decide)]
    have h262 : N3 262 = N 262 := by rw [f6 262 (by decide) (by decide) (by decide), d6 262 (by decide) (by decide) (by decide), tk_ne N (J 0) (by decide) (by decide)]
    refine ⟨N3, q3, ?_⟩
    refine IC_done a1 (m' := m) a1 a2 a4 a5 a6 a7 a8 a9 a10 rfl rfl rfl c3 c4 c5 cS cf d3 d4 d5 d1 d2 (fun i h1 h2 => ?_) f1 (fun i h1 h2 => ?_) (fun p hp i hi => ?_) (fun i hi => ?_) f5 h260 h262
    · rw [d7 i (by omega), tk_s N (J 0) i h2]
    · rw [f2 i h1, d6 257 (by decide) (by decide) (by decide), tk_7 N (J 0) h2]
    · rw [f3 p hp i hi, h261]
    · rw [f4 i hi, h258]
theorem c_turn (p q : Int32) : Cl2 (f_X10_turn p q) (f_X11_turn p q) := by
  intro M N hI
  obtain ⟨z, rfl, l1, l2⟩ := J_ex p
  obtain ⟨y, rfl, l3, l4⟩ := J_ex q
  have hI2 := hI
  obtain ⟨n, m, k, u, o, ks, a1, a2, a3, a4, a5, a6, a7, a8, a9, a10⟩ := hI2
  have hn := a2.1.1
  have e2 := a2.2.1.1
  have g2 := a2.2.2.1.1
  unfold f_X10_turn f_X11_turn
  by_cases c1 : 0 ≤ z ∧ z < n
  · obtain ⟨w, rfl⟩ : ∃ w : Nat, z = w := ⟨z.toNat, by omega⟩
    have hwk : WkR (M (4 + w)) (N 258) w m := a2.2.2.2.2.1 w (by omega)
    rw [hasIn_t hn e2 (by omega), isW_t hn g2 (by omega) (by omega)]
    have h145 : mset (tkR N) 257 6 (J 0) 259 (145 + 12 * w) = M (4 + w) 1 := by rw [tk_s N (J 0) _ (by omega), hwk.2.1]
    by_cases c2 : 0 ≤ y ∧ y ≤ 2
    · obtain ⟨how, rfl⟩ : ∃ how : Nat, y = how := ⟨y.toNat, by omega⟩
      rcases hwk.2.2.1 with hin | hin
      · have hin' : M (4 + w) 1 = J 0 := hin
        simp (disch := omega) only [↓nm_s, ↓grd_s, ↓reduceIte, J_lit, J_nI, J_add, J_sub, J_mul, J_neg, Int.cast_ofNat_Int, J_lt_t, J_lt_f, J_le_t, J_le_f, J_eq_t, J_eq_f, within_t, within_f, isIn_t, isIn_f, inRow_t, inRow_f, isCell_t, isCell_f, inb_t, ix_Jn, ix_J, Int.reduceToNat, Int.toNat_natCast, mset_ne, mset_eq, mrow_ne, mrow_eq, upd_eq, upd_ne, bind_s, bnd2_s, not_true_eq_false, not_false_eq_true, Nat.reduceAdd, hin', t_begins, th0, ts0, ta0, th1, ts1, ta1, th2, ts2, ta2, th3, ts3, ta3, th4, ts4, ta4, th5, ts5, ta5, th6, ts6, ta6, th7, ts7, ta7, th8, ts8, ta8, th9, ts9, ta9, th10, ts10, ta10, th11, ts11, ta11, h145]
        exact ⟨_, _, _, rfl, rfl, IC_tk (J 0) hI⟩
      · have hin' : M (4 + w) 1 = J 1 := hin
        obtain ⟨M1, q0, q1, q2, q3⟩ := IC_hand a1 a2 a3 a4 a5 a6 a7 a8 a9 a10
        obtain ⟨M2, N2, k', r1, r2, r3⟩ := s_turn (w := w) q2 (by omega) (by rw [q1 (4 + w) (by omega) (by omega)]; exact hin) (how := how) (by omega)
        obtain ⟨N3, r4, r5⟩ := q3 M2 N2 k' r3.1 r3.2.1 (fun j hj => r3.2.2.1 j (by unfold clF; omega)) r3.2.2.2.1 r3.2.2.2.2.1 r3.2.2.2.2.2.1 (fun i hi => r3.2.2.2.2.2.2.1 i (by unfold rfF; omega))
        simp (disch := omega) only [↓nm_s, ↓grd_s, ↓reduceIte, J_lit, J_nI, J_add, J_sub, J_mul, J_neg, Int.cast_ofNat_Int, J_lt_t, J_lt_f, J_le_t, J_le_f, J_eq_t, J_eq_f, within_t, within_f, isIn_t, isIn_f, inRow_t, inRow_f, isCell_t, isCell_f, inb_t, ix_Jn, ix_J, Int.reduceToNat, Int.toNat_natCast, mset_ne, mset_eq, mrow_ne, mrow_eq, upd_eq, upd_ne, bind_s, bnd2_s, not_true_eq_false, not_false_eq_true, Nat.reduceAdd, hin', t_begins, th0, ts0, ta0, th1, ts1, ta1, th2, ts2, ta2, th3, ts3, ta3, th4, ts4, ta4, th5, ts5, ta5, th6, ts6, ta6, th7, ts7, ta7, th8, ts8, ta8, th9, ts9, ta9, th10, ts10, ta10, th11, ts11, ta11, h145, q0, r1, r2, r4]
        exact ⟨_, _, _, rfl, rfl, r5⟩
    · have ha : Wp (f_X11_within (J y) (J 0) (J 2) |> some) (fun v => v = J 0) := ⟨_, rfl, by rw [t_within (by omega) (by omega) (by omega) (by omega) (by omega) (by omega), if_neg (by omega)]; rfl⟩
      rcases hwk.2.2.1 with hin | hin
      · have hin' : M (4 + w) 1 = J 0 := hin
        simp (disch := omega) only [↓nm_s, ↓grd_s, ↓reduceIte, J_lit, J_nI, J_add, J_sub, J_mul, J_neg, Int.cast_ofNat_Int, J_lt_t, J_lt_f, J_le_t, J_le_f, J_eq_t, J_eq_f, within_t, within_f, isIn_t, isIn_f, inRow_t, inRow_f, isCell_t, isCell_f, inb_t, ix_Jn, ix_J, Int.reduceToNat, Int.toNat_natCast, mset_ne, mset_eq, mrow_ne, mrow_eq, upd_eq, upd_ne, bind_s, bnd2_s, not_true_eq_false, not_false_eq_true, Nat.reduceAdd, hin']
        exact ⟨_, _, _, rfl, rfl, hI⟩
      · have hin' : M (4 + w) 1 = J 1 := hin
        by_cases c3 : y < 0
        · simp (disch := omega) only [↓nm_s, ↓grd_s, ↓reduceIte, J_lit, J_nI, J_add, J_sub, J_mul, J_neg, Int.cast_ofNat_Int, J_lt_t, J_lt_f, J_le_t, J_le_f, J_eq_t, J_eq_f, within_t, within_f, isIn_t, isIn_f, inRow_t, inRow_f, isCell_t, isCell_f, inb_t, ix_Jn, ix_J, Int.reduceToNat, Int.toNat_natCast, mset_ne, mset_eq, mrow_ne, mrow_eq, upd_eq, upd_ne, bind_s, bnd2_s, not_true_eq_false, not_false_eq_true, Nat.reduceAdd, hin']
          exact ⟨_, _, _, rfl, rfl, hI⟩
        · simp (disch := omega) only [↓nm_s, ↓grd_s, ↓reduceIte, J_lit, J_nI, J_add, J_sub, J_mul, J_neg, Int.cast_ofNat_Int, J_lt_t, J_lt_f, J_le_t, J_le_f, J_eq_t, J_eq_f, within_t, within_f, isIn_t, isIn_f, inRow_t, inRow_f, isCell_t, isCell_f, inb_t, ix_Jn, ix_J, Int.reduceToNat, Int.toNat_natCast, mset_ne, mset_eq, mrow_ne, mrow_eq, upd_eq, upd_ne, bind_s, bnd2_s, not_true_eq_false, not_false_eq_true, Nat.reduceAdd, hin']
          exact ⟨_, _, _, rfl, rfl, hI⟩
  · rw [hasIn_f hn e2 l1 l2 c1, isW_f hn g2 l1 l2 c1]
    simp (disch := omega) only [↓nm_s, ↓grd_s, ↓reduceIte, J_lit, J_nI, J_add, J_sub, J_mul, J_neg, Int.cast_ofNat_Int, J_lt_t, J_lt_f, J_le_t, J_le_f, J_eq_t, J_eq_f, within_t, within_f, isIn_t, isIn_f, inRow_t, inRow_f, isCell_t, isCell_f, inb_t, ix_Jn, ix_J, Int.reduceToNat, Int.toNat_natCast, mset_ne, mset_eq, mrow_ne, mrow_eq, upd_eq, upd_ne, bind_s, bnd2_s, not_true_eq_false, not_false_eq_true, Nat.reduceAdd]
    exact ⟨_, _, _, rfl, rfl, hI⟩
theorem c_lay (p q r : Int32) : Cl2 (f_X10_lay p q r) (f_X11_lay p q r) := by
  intro M N hI
  obtain ⟨x, rfl, l1, l2⟩ := J_ex p
  obtain ⟨y, rfl, l3, l4⟩ := J_ex q
  obtain ⟨v, rfl, l5, l6⟩ := J_ex r
  have hI2 := hI
  obtain ⟨n, m, k, u, o, ks, a1, a2, a3, a4, a5, a6, a7, a8, a9, a10⟩ := hI2
  have hn := a2.1.1
  unfold f_X10_lay f_X11_lay f_X11_place
  by_cases c1 : 0 ≤ x ∧ x < 12
  · by_cases c2 : 0 ≤ y ∧ y < 12
    · by_cases c3 : 0 ≤ v ∧ v ≤ 3
      · obtain ⟨c, hc⟩ : ∃ c : Nat, 12 * y + x = c := ⟨(12 * y + x).toNat, by omega⟩
        have hc144 : c < 144 := by omega
        have hcell : M 3 c = N 258 c := (a2.2.2.2.1 c hc144).1
        have hcN : mset (tkR N) 257 6 (J 0) 259 c = N 258 c := tk_s N (J 0) c (by omega)
        obtain ⟨a, w1, w2, _⟩ := s_whoAt (Sq_tk (J 0) a2) (J c)
        by_cases c4 : N 258 c = J v
        · simp (disch := omega) only [↓nm_s, ↓grd_s, ↓reduceIte, J_lit, J_nI, J_add, J_sub, J_mul, J_neg, Int.cast_ofNat_Int, J_lt_t, J_lt_f, J_le_t, J_le_f, J_eq_t, J_eq_f, within_t, within_f, isIn_t, isIn_f, inRow_t, inRow_f, isCell_t, isCell_f, inb_t, ix_Jn, ix_J, Int.reduceToNat, Int.toNat_natCast, mset_ne, mset_eq, mrow_ne, mrow_eq, upd_eq, upd_ne, bind_s, bnd2_s, not_true_eq_false, not_false_eq_true, Nat.reduceAdd, hc, hcell, c4, t_begins, hcN]
          exact ⟨_, _, _, rfl, rfl, IC_tk (J 0) hI⟩
        · by_cases c5 : v = 1 ∧ a ≠ J (-1)
          · obtain ⟨rfl, c5⟩ := c5
            simp (disch := omega) only [↓nm_s, ↓grd_s, ↓reduceIte, J_lit, J_nI, J_add, J_sub, J_mul, J_neg, Int.cast_ofNat_Int, J_lt_t, J_lt_f, J_le_t, J_le_f, J_eq_t, J_eq_f, within_t, within_f, isIn_t, isIn_f, inRow_t, inRow_f, isCell_t, isCell_f, inb_t, ix_Jn, ix_J, Int.reduceToNat, Int.toNat_natCast, mset_ne, mset_eq, mrow_ne, mrow_eq, upd_eq, upd_ne, bind_s, bnd2_s, not_true_eq_false, not_false_eq_true, Nat.reduceAdd, hc, hcell, c4, t_begins, hcN, w1, w2, c5]
            exact ⟨_, _, _, rfl, rfl, IC_tk (J 0) hI⟩
          · obtain ⟨M1, q0, q1, q2, q3⟩ := IC_hand a1 a2 a3 a4 a5 a6 a7 a8 a9 a10
            obtain ⟨h1, h2, h3⟩ := q2
            have hD : Dy (mset M1 3 c (J v)) (mset (mset (tkR N) 257 6 (J 0)) 259 c (J v)) n m m k := by
              refine ⟨?_, ?_, ?_⟩
              · refine Sq_cl h1 (by simp (disch := omega) only [mset_ne, mset_eq, mrow_ne, mrow_eq, upd_eq, upd_ne]) (fun w hw => by simp (disch := omega) only [mset_ne, mset_eq, mrow_ne, mrow_eq, upd_eq, upd_ne]) (fun j h1 h2 h3 => by simp (disch := omega) only [mset_ne, mset_eq, mrow_ne, mrow_eq, upd_eq, upd_ne]) (fun i hi => ?_)
                by_cases e : i = c
                · subst e
                  simp (disch := omega) only [mset_ne, mset_eq, mrow_ne, mrow_eq, upd_eq, upd_ne, J_lit, J_nI, J_add, J_sub, J_mul, J_neg, Int.cast_ofNat_Int, ix_Jn, ix_J, Int.reduceToNat, Int.toNat_natCast, Nat.reduceAdd, Nat.reduceMul]
                  exact ⟨trivial, ⟨v.toNat, by omega, congrArg J (by omega)⟩⟩
                · have := h1.2.2.2.1 i hi
                  simp (disch := omega) only [mset_ne, mset_eq, mrow_ne, mrow_eq, upd_eq, upd_ne, J_lit, J_nI, J_add, J_sub, J_mul, J_neg, Int.cast_ofNat_Int, ix_Jn, ix_J, Int.reduceToNat, Int.toNat_natCast, Nat.reduceAdd, Nat.reduceMul]
                  exact this
              · exact Tx_ro (fun j _ _ => by simp (disch := omega) only [mset_ne, mset_eq, mrow_ne, mrow_eq, upd_eq, upd_ne]) (Tx_fr (fun j _ _ _ => by simp (disch := omega) only [mset_ne, mset_eq, mrow_ne, mrow_eq, upd_eq, upd_ne]) h2)
              · simp (disch := omega) only [mset_ne, mset_eq, mrow_ne, mrow_eq, upd_eq, upd_ne]
                exact Bk_ro a2.1.2.2 (fun j _ _ => by simp (disch := omega) only [mset_ne, mset_eq, mrow_ne, mrow_eq, upd_eq, upd_ne]) h3
            obtain ⟨N3, r4, r5⟩ := q3 _ _ k hD (Nat.le_refl _) (fun j hj => by simp (disch := omega) only [mset_ne, mset_eq, mrow_ne, mrow_eq, upd_eq, upd_ne]) (fun i hi => by simp (disch := omega) only [mset_ne, mset_eq, mrow_ne, mrow_eq, upd_eq, upd_ne]) (fun i hi => by simp (disch := omega) only [mset_ne, mset_eq, mrow_ne, mrow_eq, upd_eq, upd_ne]) (fun j h1 h2 h3 => by simp (disch := omega) only [mset_ne, mset_eq, mrow_ne, mrow_eq, upd_eq, upd_ne]) (fun i hi => by simp (disch := omega) only [mset_ne, mset_eq, mrow_ne, mrow_eq, upd_eq, upd_ne])
            have hj1 : j_X10_lay_67 (J v) (J c) M = some (J 1, mset M1 3 c (J v)) := by
              unfold j_X10_lay_67
              simp (disch := omega) only [↓nm_s, ↓grd_s, ↓reduceIte, J_lit, J_nI, J_add, J_sub, J_mul, J_neg, Int.cast_ofNat_Int, J_lt_t, J_lt_f, J_le_t, J_le_f, J_eq_t, J_eq_f, within_t, within_f, isIn_t, isIn_f, inRow_t, inRow_f, isCell_t, isCell_f, inb_t, ix_Jn, ix_J, Int.reduceToNat, Int.toNat_natCast, mset_ne, mset_eq, mrow_ne, mrow_eq, upd_eq, upd_ne, bind_s, bnd2_s, not_true_eq_false, not_false_eq_true, Nat.reduceAdd, q0]
            have hj2 : j_X11_lay_58 (J v) (J c) (mset (tkR N) 257 6 (J 0)) = some (J 1, N3) := by
              unfold j_X11_lay_58
              simp (disch := omega) only [↓nm_s, ↓grd_s, ↓reduceIte, J_lit, J_nI, J_add, J_sub, J_mul, J_neg, Int.cast_ofNat_Int, J_lt_t, J_lt_f, J_le_t, J_le_f, J_eq_t, J_eq_f, within_t, within_f, isIn_t, isIn_f, inRow_t, inRow_f, isCell_t, isCell_f, inb_t, ix_Jn, ix_J, Int.reduceToNat, Int.toNat_natCast, bind_s, r4]
            by_cases c6 : v = 1
            · have c7 : a = J (-1) := by
                by_cases c7 : a = J (-1)
                · exact c7
                · exact absurd ⟨c6, c7⟩ c5
              subst c6
              simp (disch := omega) only [↓nm_s, ↓grd_s, ↓reduceIte, J_lit, J_nI, J_add, J_sub, J_mul, J_neg, Int.cast_ofNat_Int, J_lt_t, J_lt_f, J_le_t, J_le_f, J_eq_t, J_eq_f, within_t, within_f, isIn_t, isIn_f, inRow_t, inRow_f, isCell_t, isCell_f, inb_t, ix_Jn, ix_J, Int.reduceToNat, Int.toNat_natCast, mset_ne, mset_eq, mrow_ne, mrow_eq, upd_eq, upd_ne, bind_s, bnd2_s, not_true_eq_false, not_false_eq_true, Nat.reduceAdd, hc, hcell, c4, t_begins, hcN, w1, w2, c7, hj1, hj2]
              exact ⟨_, _, _, rfl, rfl, r5⟩
            · simp (disch := omega) only [↓nm_s, ↓grd_s, ↓reduceIte, J_lit, J_nI, J_add, J_sub, J_mul, J_neg, Int.cast_ofNat_Int, J_lt_t, J_lt_f, J_le_t, J_le_f, J_eq_t, J_eq_f, within_t, within_f, isIn_t, isIn_f, inRow_t, inRow_f, isCell_t, isCell_f, inb_t, ix_Jn, ix_J, Int.reduceToNat, Int.toNat_natCast, mset_ne, mset_eq, mrow_ne, mrow_eq, upd_eq, upd_ne, bind_s, bnd2_s, not_true_eq_false, not_false_eq_true, Nat.reduceAdd, hc, hcell, c4, t_begins, hcN, hj1, hj2]
              exact ⟨_, _, _, rfl, rfl, r5⟩
      · by_cases c4 : v < 0
        · simp (disch := omega) only [↓nm_s, ↓grd_s, ↓reduceIte, J_lit, J_nI, J_add, J_sub, J_mul, J_neg, Int.cast_ofNat_Int, J_lt_t, J_lt_f, J_le_t, J_le_f, J_eq_t, J_eq_f, within_t, within_f, isIn_t, isIn_f, inRow_t, inRow_f, isCell_t, isCell_f, inb_t, ix_Jn, ix_J, Int.reduceToNat, Int.toNat_natCast, mset_ne, mset_eq, mrow_ne, mrow_eq, upd_eq, upd_ne, bind_s, bnd2_s, not_true_eq_false, not_false_eq_true, Nat.reduceAdd]
          exact ⟨_, _, _, rfl, rfl, hI⟩
        · simp (disch := omega) only [↓nm_s, ↓grd_s, ↓reduceIte, J_lit, J_nI, J_add, J_sub, J_mul, J_neg, Int.cast_ofNat_Int, J_lt_t, J_lt_f, J_le_t, J_le_f, J_eq_t, J_eq_f, within_t, within_f, isIn_t, isIn_f, inRow_t, inRow_f, isCell_t, isCell_f, inb_t, ix_Jn, ix_J, Int.reduceToNat, Int.toNat_natCast, mset_ne, mset_eq, mrow_ne, mrow_eq, upd_eq, upd_ne, bind_s, bnd2_s, not_true_eq_false, not_false_eq_true, Nat.reduceAdd]
          exact ⟨_, _, _, rfl, rfl, hI⟩
    · simp (disch := omega) only [↓nm_s, ↓grd_s, ↓reduceIte, J_lit, J_nI, J_add, J_sub, J_mul, J_neg, Int.cast_ofNat_Int, J_lt_t, J_lt_f, J_le_t, J_le_f, J_eq_t, J_eq_f, within_t, within_f, isIn_t, isIn_f, inRow_t, inRow_f, isCell_t, isCell_f, inb_t, ix_Jn, ix_J, Int.reduceToNat, Int.toNat_natCast, mset_ne, mset_eq, mrow_ne, mrow_eq, upd_eq, upd_ne, bind_s, bnd2_s, not_true_eq_false, not_false_eq_true, Nat.reduceAdd]
      exact ⟨_, _, _, rfl, rfl, hI⟩
  · simp (disch := omega) only [↓nm_s, ↓grd_s, ↓reduceIte, J_lit, J_nI, J_add, J_sub, J_mul, J_neg, Int.cast_ofNat_Int, J_lt_t, J_lt_f, J_le_t, J_le_f, J_eq_t, J_eq_f, within_t, within_f, isIn_t, isIn_f, inRow_t, inRow_f, isCell_t, isCell_f, inb_t, ix_Jn, ix_J, Int.reduceToNat, Int.toNat_natCast, mset_ne, mset_eq, mrow_ne, mrow_eq, upd_eq, upd_ne, bind_s, bnd2_s, not_true_eq_false, not_false_eq_true, Nat.reduceAdd]
    exact ⟨_, _, _, rfl, rfl, hI⟩
