/-! ===== walkers by number ===== -/
theorem isW_t {N : zM} {n : Nat} {z : Int} (hn : n ≤ 16) (e : N 258 940 = J n) (h0 : 0 ≤ z) (h1 : z < n) : f_X11_isWalker (J z) N = some (J 1) := by
  unfold f_X11_isWalker
  simp (disch := omega) only [↓nm_s, ↓grd_s, ↓reduceIte, J_lit, J_nI, J_add, J_sub, J_mul, J_neg, Int.cast_ofNat_Int, J_lt_t, J_lt_f, J_le_t, J_le_f, J_eq_t, J_eq_f, within_t, within_f, isIn_t, isIn_f, inRow_t, inRow_f, isCell_t, isCell_f, inb_t, ix_Jn, ix_J, Int.reduceToNat, Int.toNat_natCast, mset_ne, mset_eq, mrow_ne, mrow_eq, upd_eq, upd_ne, bind_s, bnd2_s, not_true_eq_false, not_false_eq_true, Nat.reduceAdd, e, t_within]
  rw [if_pos (show (0 : Int) ≤ z ∧ z ≤ (n : Int) - 1 by omega), if_pos (by decide)]
theorem isW_f {N : zM} {n : Nat} {z : Int} (hn : n ≤ 16) (e : N 258 940 = J n) (l1 : -2147483648 ≤ z) (l2 : z < 2147483648) (h : ¬ (0 ≤ z ∧ z < n)) : f_X11_isWalker (J z) N = some (J 0) := by
  unfold f_X11_isWalker
  simp (disch := omega) only [↓nm_s, ↓grd_s, ↓reduceIte, J_lit, J_nI, J_add, J_sub, J_mul, J_neg, Int.cast_ofNat_Int, J_lt_t, J_lt_f, J_le_t, J_le_f, J_eq_t, J_eq_f, within_t, within_f, isIn_t, isIn_f, inRow_t, inRow_f, isCell_t, isCell_f, inb_t, ix_Jn, ix_J, Int.reduceToNat, Int.toNat_natCast, mset_ne, mset_eq, mrow_ne, mrow_eq, upd_eq, upd_ne, bind_s, bnd2_s, not_true_eq_false, not_false_eq_true, Nat.reduceAdd, e, t_within]
  rw [if_neg (show ¬ ((0 : Int) ≤ z ∧ z ≤ (n : Int) - 1) by omega), if_pos (by decide)]
theorem has_t {M : zM} {n : Nat} {z : Int} (hn : n ≤ 16) (e : M 1 2 = J n) (h0 : 0 ≤ z) (h1 : z < n) : f_X7_has 1 (J z) M = J 1 := by
  unfold f_X7_has
  simp (disch := omega) only [↓nm_s, ↓grd_s, ↓reduceIte, J_lit, J_nI, J_add, J_sub, J_mul, J_neg, Int.cast_ofNat_Int, J_lt_t, J_lt_f, J_le_t, J_le_f, J_eq_t, J_eq_f, within_t, within_f, isIn_t, isIn_f, inRow_t, inRow_f, isCell_t, isCell_f, inb_t, ix_Jn, ix_J, Int.reduceToNat, Int.toNat_natCast, mset_ne, mset_eq, mrow_ne, mrow_eq, upd_eq, upd_ne, bind_s, bnd2_s, not_true_eq_false, not_false_eq_true, Nat.reduceAdd, e]
theorem has_f {M : zM} {n : Nat} {z : Int} (hn : n ≤ 16) (e : M 1 2 = J n) (l1 : -2147483648 ≤ z) (l2 : z < 2147483648) (h : ¬ (0 ≤ z ∧ z < n)) : f_X7_has 1 (J z) M = J 0 := by
  unfold f_X7_has
  by_cases c : z < 0
  · simp (disch := omega) only [↓nm_s, ↓grd_s, ↓reduceIte, J_lit, J_nI, J_add, J_sub, J_mul, J_neg, Int.cast_ofNat_Int, J_lt_t, J_lt_f, J_le_t, J_le_f, J_eq_t, J_eq_f, within_t, within_f, isIn_t, isIn_f, inRow_t, inRow_f, isCell_t, isCell_f, inb_t, ix_Jn, ix_J, Int.reduceToNat, Int.toNat_natCast, mset_ne, mset_eq, mrow_ne, mrow_eq, upd_eq, upd_ne, bind_s, bnd2_s, not_true_eq_false, not_false_eq_true, Nat.reduceAdd, e]
  · simp (disch := omega) only [↓nm_s, ↓grd_s, ↓reduceIte, J_lit, J_nI, J_add, J_sub, J_mul, J_neg, Int.cast_ofNat_Int, J_lt_t, J_lt_f, J_le_t, J_le_f, J_eq_t, J_eq_f, within_t, within_f, isIn_t, isIn_f, inRow_t, inRow_f, isCell_t, isCell_f, inb_t, ix_Jn, ix_J, Int.reduceToNat, Int.toNat_natCast, mset_ne, mset_eq, mrow_ne, mrow_eq, upd_eq, upd_ne, bind_s, bnd2_s, not_true_eq_false, not_false_eq_true, Nat.reduceAdd, e]
theorem hasIn_t {M : zM} {n w : Nat} (hn : n ≤ 16) (e : M 1 2 = J n) (h1 : w < n) : f_X7_hasIn 1 (J w) M = some (if M (4 + w) 1 = J 0 then J 0 else J 1) := by
  unfold f_X7_hasIn
  rw [has_t hn e (by omega) (by omega)]
  simp (disch := omega) only [↓nm_s, ↓grd_s, ↓reduceIte, J_lit, J_nI, J_add, J_sub, J_mul, J_neg, Int.cast_ofNat_Int, J_lt_t, J_lt_f, J_le_t, J_le_f, J_eq_t, J_eq_f, within_t, within_f, isIn_t, isIn_f, inRow_t, inRow_f, isCell_t, isCell_f, inb_t, ix_Jn, ix_J, Int.reduceToNat, Int.toNat_natCast, mset_ne, mset_eq, mrow_ne, mrow_eq, upd_eq, upd_ne, bind_s, bnd2_s, not_true_eq_false, not_false_eq_true, Nat.reduceAdd]
  by_cases c : M (4 + w) 1 = J 0
  · rw [if_pos c, if_pos c]
  · rw [if_neg c, if_neg c]
theorem hasIn_f {M : zM} {n : Nat} {z : Int} (hn : n ≤ 16) (e : M 1 2 = J n) (l1 : -2147483648 ≤ z) (l2 : z < 2147483648) (h : ¬ (0 ≤ z ∧ z < n)) : f_X7_hasIn 1 (J z) M = some (J 0) := by
  unfold f_X7_hasIn
  rw [has_f hn e l1 l2 h]
  simp (disch := omega) only [↓nm_s, ↓grd_s, ↓reduceIte, J_lit, J_nI, J_add, J_sub, J_mul, J_neg, Int.cast_ofNat_Int, J_lt_t, J_lt_f, J_le_t, J_le_f, J_eq_t, J_eq_f, within_t, within_f, isIn_t, isIn_f, inRow_t, inRow_f, isCell_t, isCell_f, inb_t, ix_Jn, ix_J, Int.reduceToNat, Int.toNat_natCast, mset_ne, mset_eq, mrow_ne, mrow_eq, upd_eq, upd_ne, bind_s, bnd2_s, not_true_eq_false, not_false_eq_true, Nat.reduceAdd]
theorem Tx_tk {M N : zM} (v : Int32) (h : Tx M 40 (N 258)) : Tx M 40 (mset (tkR N) 257 6 v 259) := Tx_ro (fun j _ _ => tk_s N v j (by omega)) h
theorem Bk_tk {M N : zM} {k : Nat} (v : Int32) (hk : k ≤ 150) (h : Bk (M 69) (N 258) k) : Bk (M 69) (mset (tkR N) 257 6 v 259) k := Bk_ro hk (fun j _ _ => tk_s N v j (by omega)) h
/-! ===== minutes ===== -/
theorem s_one {M N : zM} {n m : Nat} (hI : IC M N) (hn : n ≤ 16) (e2 : M 1 2 = J n) (hm : m + 1 < 10000) (e3 : M 1 3 = J m) :
    ∃ M1 M2 N1 N2 N3, f_X10_keep M = some M1 ∧ f_X1_pass M1 = some M2 ∧ f_X11_begins N = some N1 ∧ f_X11_goesMinute N1 = some N2 ∧ f_X11_ends N2 = some N3 ∧ IC M2 N3 ∧ M2 1 2 = J n ∧ M2 1 3 = J (m + 1 : Nat) ∧ (∃ d, M2 83 1 = M 83 1 + d ∧ csR (N3 258) n = csR (N 258) n + d) ∧ ∀ j, j < 2425 → N3 259 j = N3 258 j := by
  obtain ⟨n', m', k, u, o, ks, a1, a2, a3, a4, a5, a6, a7, a8, a9, a10⟩ := hI
  have hn' : n' = n := by
    have := a2.2.1.1
    rw [e2] at this
    have := (J_eq (by omega) (by omega) (by omega) (by have := a2.1.1; omega)).mp this
    omega
  have hm' : m' = m := by
    have := a2.2.1.2.1
    rw [e3] at this
    have := (J_eq (by omega) (by omega) (by omega) (by omega)).mp this
    omega
  subst hn' hm'
  obtain ⟨M1, q0, c3, c4, c5, cS, cf⟩ := p_keep a2 a7.1 a7.2.1 a7.2.2.1 a7.2.2.2.1 rfl rfl
  have hq : ((if u = 6 then (o + 1) % 6 else o) + if u = 6 then 5 else u) % 6 < 6 := Nat.mod_lt _ (by decide)
  have hD1 : Dy M1 (mset (tkR N) 257 6 (J 0)) n' m' m' k := by
    refine ⟨Sq_tk (J 0) (Sq_fr (fun j _ _ => cf j (by omega) (by omega)) a2), Tx_tk (J 0) (Tx_fr (fun j _ _ _ => cf j (by omega) (by omega)) a3), ?_⟩
    rw [cf 69 (by omega) (by omega)]
    exact Bk_tk (J 0) a2.1.2.2 a4
  have t83 : M1 83 0 = 0 := by rw [cf 83 (by omega) (by omega)]; exact a10
  obtain ⟨M2, N2, k2, q1, q2, hMd⟩ := s_min hD1 (by omega) (by rw [t83, mset_eq, upd_eq]; rfl) (Or.inl t83)
  obtain ⟨d1, d2, d3, d4, d5, d6, d7, d, d8, d9⟩ := hMd
  have e4 : N2 257 4 = J u := by rw [d6 257 (by decide) (by decide) (by decide), tk_7 N (J 0) (by decide)]; exact a7.2.2.2.2.1
  obtain ⟨N3, q3, f1, f2, f3, f4, f5, f6⟩ := p_ends (N := N2) a7.1 e4 rfl rfl
  have h258 : N2 258 = N 258 := by rw [d6 258 (by decide) (by decide) (by decide), tk_ne N (J 0) (by decide) (by decide)]
  have h261 : N2 261 = N 261 := by rw [d6 261 (by decide) (by decide) (by decide), tk_ne N (J 0) (by decide) (by decide)]
  have h260 : N3 260 = N 260 := by rw [f6 260 (by decide) (by decide) (by decide), d6 260 (by decide) (by decide) (by decide), tk_ne N (J 0) (by decide) (by decide)]
  have h262 : N3 262 = N 262 := by rw [f6 262 (by decide) (by decide) (by decide), d6 262 (by decide) (by decide) (by decide), tk_ne N (J 0) (by decide) (by decide)]
  refine ⟨M1, M2, _, N2, N3, q0, q1, t_begins N, q2, q3, ?_, d1.1.2.1.1, d1.1.2.1.2.1, ⟨d, ?_, ?_⟩, ?_⟩
  · refine IC_done a1 (m' := m' + 1) (by omega) a2 a4 a5 a6 a7 a8 a9 a10 rfl rfl rfl c3 c4 c5 cS cf (fun j hj => d3 j (by omega)) d4 d5 d1 d2 (fun i h1 h2 => ?_) f1 (fun i h1 h2 => ?_) (fun p hp i hi => ?_) (fun i hi => ?_) f5 h260 h262
    · rw [d7 i (by omega), tk_s N (J 0) i h2]
    · rw [f2 i h1, d6 257 (by decide) (by decide) (by decide), tk_7 N (J 0) h2]
    · rw [f3 p hp i hi, h261]
    · rw [f4 i hi, h258]
  · rw [d8, cf 83 (by omega) (by omega)]
  · have e1 : csR (N3 258) n' = csR (N2 259) n' := csR_ro (fun v hv => f5 _ (by omega))
    have e5 : csR (mset (tkR N) 257 6 (J 0) 259) n' = csR (N 258) n' := csR_ro (fun v hv => tk_s N (J 0) _ (by omega))
    rw [e1, d9, e5]
  · intro j hj
    rw [f5 j hj, f6 259 (by decide) (by decide) (by decide)]
theorem t_sumOf {N : zM} {n e : Nat} (hn : n ≤ 16) (he : e < 12) (h : N 259 940 = J n) : ∃ s, f_X11_sumOf (J e) N = some s ∧ (e = 9 → s = csR (N 259) n) := by
  have key : Wp (loopW (fun s => b_X11_sumOf_4 (J e) s.1 s.2 N) (J 0, J 0)) (fun v => e = 9 → v = csR (N 259) n) := by
    refine loop_up (fun k s => s.2 = J k ∧ (e = 9 → s.1 = csR (N 259) k)) n ⟨rfl, fun _ => rfl⟩ ?_ ?_
    · rintro k ⟨s1, s2⟩ hk ⟨e1, e2⟩
      simp only at e1 e2
      subst e1
      unfold b_X11_sumOf_4
      simp (disch := omega) only [↓nm_s, ↓grd_s, ↓reduceIte, J_lit, J_nI, J_add, J_sub, J_mul, J_neg, Int.cast_ofNat_Int, J_lt_t, J_lt_f, J_le_t, J_le_f, J_eq_t, J_eq_f, within_t, within_f, isIn_t, isIn_f, inRow_t, inRow_f, isCell_t, isCell_f, inb_t, ix_Jn, ix_J, Int.reduceToNat, Int.toNat_natCast, mset_ne, mset_eq, mrow_ne, mrow_eq, upd_eq, upd_ne, bind_s, bnd2_s, not_true_eq_false, not_false_eq_true, Nat.reduceAdd, h, t_has]
      refine wp_some ⟨rfl, fun h9 => ?_⟩
      subst h9
      show s1 + _ = _
      rw [csR, e2 rfl]
      congr 2
      omega
    · rintro ⟨s1, s2⟩ ⟨e1, e2⟩
      simp only at e1 e2
      subst e1
      unfold b_X11_sumOf_4
      simp (disch := omega) only [↓nm_s, ↓grd_s, ↓reduceIte, J_lit, J_nI, J_add, J_sub, J_mul, J_neg, Int.cast_ofNat_Int, J_lt_t, J_lt_f, J_le_t, J_le_f, J_eq_t, J_eq_f, within_t, within_f, isIn_t, isIn_f, inRow_t, inRow_f, isCell_t, isCell_f, inb_t, ix_Jn, ix_J, Int.reduceToNat, Int.toNat_natCast, mset_ne, mset_eq, mrow_ne, mrow_eq, upd_eq, upd_ne, bind_s, bnd2_s, not_true_eq_false, not_false_eq_true, Nat.reduceAdd, h]
      exact wp_some e2
  obtain ⟨v, e1, e2⟩ := key
  refine ⟨v, ?_, e2⟩
  unfold f_X11_sumOf j_X11_sumOf_31
  rw [show (0 : Int32) = J 0 from rfl, e1]
  rfl
theorem c_minutes (p : Int32) : Cl2 (f_X10_minutes p) (f_X11_minutes p) := by
  intro M N hI
  obtain ⟨z, rfl, l1, l2⟩ := J_ex p
  have hI2 := hI
  obtain ⟨n, m, k, u, o, ks, a1, a2, _⟩ := hI2
  have hn := a2.1.1
  have e2 := a2.2.1.1
  have e3 := a2.2.1.2.1
  have g2 := a2.2.2.1.1
  have g3 := a2.2.2.1.2.1
  unfold f_X10_minutes f_X11_minutes
  by_cases c1 : 1 ≤ z ∧ z ≤ 60
  · by_cases c2 : (m : Int) + z ≤ 9999
    · obtain ⟨q, rfl⟩ : ∃ q : Nat, z = q := ⟨z.toNat, by omega⟩
      simp (disch := omega) only [↓nm_s, ↓grd_s, ↓reduceIte, J_lit, J_nI, J_add, J_sub, J_mul, J_neg, Int.cast_ofNat_Int, J_lt_t, J_lt_f, J_le_t, J_le_f, J_eq_t, J_eq_f, within_t, within_f, isIn_t, isIn_f, inRow_t, inRow_f, isCell_t, isCell_f, inb_t, ix_Jn, ix_J, Int.reduceToNat, Int.toNat_natCast, mset_ne, mset_eq, mrow_ne, mrow_eq, upd_eq, upd_ne, bind_s, bnd2_s, not_true_eq_false, not_false_eq_true, Nat.reduceAdd, e3, g3]
      have hb : loopW (fun s => b_X11_minutes_32 (J q) s.1 s.2 N) (J 0, J 0) = some (csR (N 258) n) := by
        have key : Wp (loopW (fun s => b_X11_minutes_32 (J q) s.1 s.2 N) (J 0, J 0)) (fun v => v = csR (N 258) n) := by
          refine loop_up (fun k s => s.2 = J k ∧ s.1 = csR (N 258) k) n ⟨rfl, rfl⟩ ?_ ?_
          · rintro k ⟨s1, s2⟩ hk ⟨e1, e2⟩
            simp only at e1 e2
            subst e1 e2
            unfold b_X11_minutes_32
            have i9 : (144 + 12 * (k : Int) + 9).toNat = 153 + 12 * k := by omega
            simp (disch := omega) only [↓nm_s, ↓grd_s, ↓reduceIte, J_lit, J_nI, J_add, J_sub, J_mul, J_neg, Int.cast_ofNat_Int, J_lt_t, J_lt_f, J_le_t, J_le_f, J_eq_t, J_eq_f, within_t, within_f, isIn_t, isIn_f, inRow_t, inRow_f, isCell_t, isCell_f, inb_t, ix_Jn, ix_J, Int.reduceToNat, Int.toNat_natCast, mset_ne, mset_eq, mrow_ne, mrow_eq, upd_eq, upd_ne, bind_s, bnd2_s, not_true_eq_false, not_false_eq_true, Nat.reduceAdd, g2, i9]
            exact wp_some ⟨rfl, rfl⟩
          · rintro ⟨s1, s2⟩ ⟨e1, e2⟩
            simp only at e1 e2
            subst e1 e2
            unfold b_X11_minutes_32
            simp (disch := omega) only [↓nm_s, ↓grd_s, ↓reduceIte, J_lit, J_nI, J_add, J_sub, J_mul, J_neg, Int.cast_ofNat_Int, J_lt_t, J_lt_f, J_le_t, J_le_f, J_eq_t, J_eq_f, within_t, within_f, isIn_t, isIn_f, inRow_t, inRow_f, isCell_t, isCell_f, inb_t, ix_Jn, ix_J, Int.reduceToNat, Int.toNat_natCast, mset_ne, mset_eq, mrow_ne, mrow_eq, upd_eq, upd_ne, bind_s, bnd2_s, not_true_eq_false, not_false_eq_true, Nat.reduceAdd, g2]
            exact wp_some rfl
        obtain ⟨v, e, rfl⟩ := key
        exact e
      have hI0 : IC (mset M 83 1 (J 0)) N := IC_scM (fun j h1 h2 => by unfold scC at h2; simp (disch := omega) only [mset_ne, mset_eq, mrow_ne, mrow_eq, upd_eq, upd_ne]) (fun i _ => by simp (disch := omega) only [mset_ne, mset_eq, mrow_ne, mrow_eq, upd_eq, upd_ne]) (fun i _ => by simp (disch := omega) only [mset_ne, mset_eq, mrow_ne, mrow_eq, upd_eq, upd_ne]) (by simp (disch := omega) only [mset_ne, mset_eq, mrow_ne, mrow_eq, upd_eq, upd_ne]) (by simp (disch := omega) only [mset_ne, mset_eq, mrow_ne, mrow_eq, upd_eq, upd_ne]) hI
      have key : W2 (loopW (fun s => b_X10_minutes_38 (J q) s.1 s.2) (J 0, mset M 83 1 (J 0))) (loopW (fun s => b_X11_minutes_71 (J q) (csR (N 258) n) s.1 s.2) (J 0, N)) (fun A B => IC A B ∧ A 1 2 = J n ∧ csR (B 258) n = csR (N 258) n + A 83 1 ∧ ∀ j, j < 2425 → B 259 j = B 258 j) := by
        refine loopR (fun i s t => s.1 = J i ∧ t.1 = J i ∧ IC s.2 t.2 ∧ s.2 1 2 = J n ∧ s.2 1 3 = J (m + i : Nat) ∧ csR (t.2 258) n = csR (N 258) n + s.2 83 1 ∧ (0 < i → ∀ j, j < 2425 → t.2 259 j = t.2 258 j)) q ?_ ?_ ?_
        · refine ⟨rfl, rfl, hI0, by simp (disch := omega) only [mset_ne, mset_eq, mrow_ne, mrow_eq, upd_eq, upd_ne]; exact e2, by simp (disch := omega) only [mset_ne, mset_eq, mrow_ne, mrow_eq, upd_eq, upd_ne]; exact e3, ?_, fun h => by omega⟩
          simp only [mset_eq, upd_eq]
          exact (Int32.add_zero _).symm
        · rintro i ⟨s1, A⟩ ⟨t1, B⟩ hi ⟨f1, f2, f3, f4, f5, f6, f7⟩
          simp only at f1 f2 f3 f4 f5 f6 f7
          subst f1 f2
          obtain ⟨M1, M2, N1, N2, N3, r1, r2, r3, r4, r5, r6, r7, r8, ⟨d, r9, r10⟩, r11⟩ := s_one f3 hn f4 (m := m + i) (by omega) f5
          unfold b_X10_minutes_38 b_X11_minutes_71
          simp (disch := omega) only [↓nm_s, ↓grd_s, ↓reduceIte, J_lit, J_nI, J_add, J_sub, J_mul, J_neg, Int.cast_ofNat_Int, J_lt_t, J_lt_f, J_le_t, J_le_f, J_eq_t, J_eq_f, within_t, within_f, isIn_t, isIn_f, inRow_t, inRow_f, isCell_t, isCell_f, inb_t, ix_Jn, ix_J, Int.reduceToNat, Int.toNat_natCast, mset_ne, mset_eq, mrow_ne, mrow_eq, upd_eq, upd_ne, bind_s, bnd2_s, not_true_eq_false, not_false_eq_true, Nat.reduceAdd, r1, r2, r3, r4, r5]
          refine w2_some ⟨rfl, rfl, r6, r7, r8, ?_, fun _ => r11⟩
          show csR (N3 258) n = csR (N 258) n + M2 83 1
          rw [r10, f6, r9, Int32.add_assoc]
        · rintro ⟨s1, A⟩ ⟨t1, B⟩ ⟨f1, f2, f3, f4, f5, f6, f7⟩
          simp only at f1 f2 f3 f4 f5 f6 f7
          subst f1 f2
          unfold b_X10_minutes_38 b_X11_minutes_71
          simp (disch := omega) only [↓nm_s, ↓grd_s, ↓reduceIte, J_lit, J_nI, J_add, J_sub, J_mul, J_neg, Int.cast_ofNat_Int, J_lt_t, J_lt_f, J_le_t, J_le_f, J_eq_t, J_eq_f, within_t, within_f, isIn_t, isIn_f, inRow_t, inRow_f, isCell_t, isCell_f, inb_t, ix_Jn, ix_J, Int.reduceToNat, Int.toNat_natCast, mset_ne, mset_eq, mrow_ne, mrow_eq, upd_eq, upd_ne, bind_s, bnd2_s, not_true_eq_false, not_false_eq_true, Nat.reduceAdd]
          exact w2_some ⟨f3, f4, f6, f7 (by omega)⟩
      obtain ⟨A, B, r1, r2, r3, r4, r5, r6⟩ := key
      rw [hb, bind_s]
      unfold j_X10_minutes_60 j_X11_minutes_69 j_X11_minutes_94
      rw [show (0 : Int32) = J 0 from rfl, r1, r2]
      have hB940 : B 259 940 = J n := by
        obtain ⟨n', m', k', u', o', ks', b1, b2, _⟩ := r3
        rw [r6 940 (by omega), ← r4, b2.2.2.1.1, b2.2.1.1]
      obtain ⟨s, r7, r8⟩ := t_sumOf hn (e := 9) (by omega) hB940
      have e9 : s = csR (N 258) n + A 83 1 := by
        rw [r8 rfl, ← r5]
        exact csR_ro (fun v hv => r6 _ (by omega))
      simp (disch := omega) only [↓nm_s, ↓grd_s, ↓reduceIte, J_lit, J_nI, J_add, J_sub, J_mul, J_neg, Int.cast_ofNat_Int, J_lt_t, J_lt_f, J_le_t, J_le_f, J_eq_t, J_eq_f, within_t, within_f, isIn_t, isIn_f, inRow_t, inRow_f, isCell_t, isCell_f, inb_t, ix_Jn, ix_J, Int.reduceToNat, Int.toNat_natCast, mset_ne, mset_eq, mrow_ne, mrow_eq, upd_eq, upd_ne, bind_s, bnd2_s, not_true_eq_false, not_false_eq_true, Nat.reduceAdd]
      rw [show J 9 = J ((9 : Nat) : Int) from rfl, r7, bind_s, e9]
      refine ⟨_, _, _, rfl, ?_, r3⟩
      congr 2
      rw [Int32.add_comm, Int32.add_sub_cancel]
    · simp (disch := omega) only [↓nm_s, ↓grd_s, ↓reduceIte, J_lit, J_nI, J_add, J_sub, J_mul, J_neg, Int.cast_ofNat_Int, J_lt_t, J_lt_f, J_le_t, J_le_f, J_eq_t, J_eq_f, within_t, within_f, isIn_t, isIn_f, inRow_t, inRow_f, isCell_t, isCell_f, inb_t, ix_Jn, ix_J, Int.reduceToNat, Int.toNat_natCast, mset_ne, mset_eq, mrow_ne, mrow_eq, upd_eq, upd_ne, bind_s, bnd2_s, not_true_eq_false, not_false_eq_true, Nat.reduceAdd, e3, g3]
      exact ⟨_, _, _, rfl, rfl, hI⟩
  · by_cases c3 : z < 1
    · simp (disch := omega) only [↓nm_s, ↓grd_s, ↓reduceIte, J_lit, J_nI, J_add, J_sub, J_mul, J_neg, Int.cast_ofNat_Int, J_lt_t, J_lt_f, J_le_t, J_le_f, J_eq_t, J_eq_f, within_t, within_f, isIn_t, isIn_f, inRow_t, inRow_f, isCell_t, isCell_f, inb_t, ix_Jn, ix_J, Int.reduceToNat, Int.toNat_natCast, mset_ne, mset_eq, mrow_ne, mrow_eq, upd_eq, upd_ne, bind_s, bnd2_s, not_true_eq_false, not_false_eq_true, Nat.reduceAdd]
      exact ⟨_, _, _, rfl, rfl, hI⟩
    · simp (disch := omega) only [↓nm_s, ↓grd_s, ↓reduceIte, J_lit, J_nI, J_add, J_sub, J_mul, J_neg, Int.cast_ofNat_Int, J_lt_t, J_lt_f, J_le_t, J_le_f, J_eq_t, J_eq_f, within_t, within_f, isIn_t, isIn_f, inRow_t, inRow_f, isCell_t, isCell_f, inb_t, ix_Jn, ix_J, Int.reduceToNat, Int.toNat_natCast, mset_ne, mset_eq, mrow_ne, mrow_eq, upd_eq, upd_ne, bind_s, bnd2_s, not_true_eq_false, not_false_eq_true, Nat.reduceAdd]
      exact ⟨_, _, _, rfl, rfl, hI⟩
