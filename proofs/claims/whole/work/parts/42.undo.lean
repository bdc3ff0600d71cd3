/-! ===== what can be undone ===== -/
theorem Un_keep {M M1 M2 N N3 : zM} {n m k k' u o u1 o1 sh : Nat} {ks : Nat → Nat} (hS : Sq M 1 (N 258) n m k) (hm : m < 10000) (hB : Bk (M 69) (N 258) k) (hU : Un M N n k u o ks)
    (hu1 : u1 = if u = 6 then 5 else u) (ho1 : o1 = if u = 6 then (o + 1) % 6 else o) (hsh : sh = if u = 6 then 1 else 0)
    (c3 : M1 0 3 = J o1) (c4 : M1 0 4 = J (u1 + 1 : Nat)) (cS : Sq M1 (143 + 19 * ((o1 + u1) % 6)) (N 258) n m k) (cf : ∀ j, 1 ≤ j → (j < 143 + 19 * ((o1 + u1) % 6) ∨ 143 + 19 * ((o1 + u1) % 6) + 19 ≤ j) → M1 j = M j)
    (d0 : M2 0 = M1 0) (d1 : ∀ j, 143 ≤ j → j < 257 → M2 j = M1 j) (d2 : ∀ i, i < 4 * k → M2 69 i = M 69 i)
    (n4 : N3 257 4 = J (u1 + 1 : Nat)) (n1 : ∀ p, p < u1 → ∀ i, i < 940 → N3 261 (940 * p + i) = N 261 (940 * (p + sh) + i)) (n2 : ∀ i, i < 940 → N3 261 (940 * u1 + i) = N 258 i) (n8 : ∀ i, 940 ≤ i → i < 2357 → N3 258 i = N 258 i) (hk : k ≤ k') :
    Un M2 N3 n k' (u1 + 1) o1 (fun p => if p = u1 then k else ks (p + sh)) := by
  obtain ⟨hu, ho, q3, q4, q5, q6, q7⟩ := hU
  have hk2 := hS.1.2.2
  have hcase : (u = 6 ∧ u1 = 5 ∧ sh = 1 ∧ o1 = (o + 1) % 6) ∨ (u < 6 ∧ u1 = u ∧ sh = 0 ∧ o1 = o) := by
    by_cases h6 : u = 6
    · rw [if_pos h6] at hu1 ho1 hsh
      exact Or.inl ⟨h6, hu1, hsh, ho1⟩
    · rw [if_neg h6] at hu1 ho1 hsh
      exact Or.inr ⟨by omega, hu1, hsh, ho1⟩
  have ho1' : o1 < 6 := by omega
  have hu1' : u1 ≤ 5 := by omega
  refine ⟨by omega, ho1', by rw [d0]; exact c3, by rw [d0]; exact c4, n4, ?_, ?_⟩
  · intro p hp
    by_cases e : p = u1
    · subst e
      simp only [if_true]
      have hmix : ∀ j, j < 2357 → mix N3 p j = N 258 j := by
        intro j hj
        unfold mix
        by_cases h : j < 940
        · rw [if_pos h, n2 j h]
        · rw [if_neg h, n8 j (by omega) hj]
      refine ⟨hk, ⟨m, hm, Sq_ro (fun j h _ => hmix j (by omega)) (Sq_fr (fun j h1 h2 => d1 j (by omega) (by omega)) cS)⟩, ?_⟩
      intro i hi
      rw [d2 i hi, hmix _ (by omega)]
      exact hB i hi
    · simp only [e, if_false]
      obtain ⟨b1, ⟨mp, b2, b3⟩, b4⟩ := q6 (p + sh) (by omega)
      have hmix : ∀ j, j < 2357 → mix N3 p j = mix N (p + sh) j := by
        intro j hj
        unfold mix
        by_cases h : j < 940
        · rw [if_pos h, if_pos h, n1 p (by omega) j h]
        · rw [if_neg h, if_neg h, n8 j (by omega) hj]
      have hslot : (o1 + p) % 6 = (o + (p + sh)) % 6 := by omega
      have hne : (o1 + p) % 6 ≠ (o1 + u1) % 6 := by omega
      have hq : (o1 + p) % 6 < 6 := Nat.mod_lt _ (by decide)
      have hq2 : (o1 + u1) % 6 < 6 := Nat.mod_lt _ (by decide)
      refine ⟨by omega, ⟨mp, b2, Sq_ro (fun j h _ => hmix j (by omega)) ?_⟩, ?_⟩
      · rw [← hslot] at b3
        exact Sq_fr (fun j h1 h2 => by rw [d1 j (by omega) (by omega), cf j (by omega) (by omega)]) b3
      · intro i hi
        rw [d2 i (by omega), hmix _ (by omega)]
        exact b4 i hi
  · intro p q hpq hq
    by_cases e1 : q = u1
    · simp only [e1, if_true]
      by_cases e2 : p = u1
      · simp only [e2, if_true]
        omega
      · simp only [e2, if_false]
        exact (q6 (p + sh) (by omega)).1
    · simp only [e1, if_false, show p ≠ u1 by omega]
      exact q7 (p + sh) (q + sh) (by omega) (by omega)
theorem c_undo : Cl2 f_X10_undo f_X11_undo := by
  intro M N hI
  have hI2 := hI
  obtain ⟨n, m, k, u, o, ks, a1, a2, a3, a4, a5, a6, a7, a8, a9, a10⟩ := hI2
  obtain ⟨hu, ho, q3, q4, q5, q6, q7⟩ := a7
  unfold f_X10_undo f_X11_undo
  by_cases h0 : u = 0
  · subst h0
    simp (disch := omega) only [J_lit, J_nI, J_add, J_sub, J_mul, J_neg, Int.cast_ofNat_Int, q4, q5, J_lt, J_le, J_eq, within0, isIn0, inRow0, isCell0, if_true, if_false, if_pos, if_neg]
    exact ⟨_, _, _, rfl, rfl, hI⟩
  · obtain ⟨v, rfl⟩ : ∃ v, u = v + 1 := ⟨u - 1, by omega⟩
    obtain ⟨b1, ⟨mp, b2, b3⟩, b4⟩ := q6 v (by omega)
    have e : (((o : Int) + (((v + 1 : Nat) : Int) - 1)) % 6).toNat = (o + v) % 6 := by omega
    have hq : (o + v) % 6 < 6 := Nat.mod_lt _ (by decide)
    simp (disch := omega) only [J_lit, J_nI, J_add, J_sub, J_mul, J_neg, Int.cast_ofNat_Int, q3, q4, q5, J_lt, J_le, J_eq, within0, isIn0, inRow0, isCell0, if_true, if_false, if_pos, if_neg, nm_eq, mset_ne, mset_eq, mrow_ne, mrow_eq, upd_eq, upd_ne, J_rem, grd_J, ix_Jn, ix_J, Int.reduceToNat, Int.toNat_natCast, e]
    have hA : Sq (mset M 0 4 (J (((v + 1 : Nat) : Int) - 1))) (143 + 19 * ((o + v) % 6)) (mix N v) n mp (ks v) := Sq_fr (fun j c1 c2 => by simp (disch := omega) only [mset_ne, mrow_ne]) b3
    obtain ⟨M1, f1, f2, f3⟩ := p_sqcp (a := 1) (b := 143 + 19 * ((o + v) % 6)) (by omega) hA
    have hN : Wp (loopW (fun s => b_X11_undo_21 s.1 s.2) (J 0, mset N 257 4 (J (((v + 1 : Nat) : Int) - 1)))) (fun N1 => N1 257 = upd (N 257) 4 (J v) ∧ (∀ i, i < 2425 → N1 258 i = mix N v i) ∧ ∀ j, j ≠ 257 → j ≠ 258 → N1 j = N j) := by
      have e4 : ((v + 1 : Nat) : Int) - 1 = (v : Int) := by omega
      rw [e4]
      refine loop_up (fun j s => s.1 = J j ∧ s.2 257 = upd (N 257) 4 (J v) ∧ (∀ i, i < j → s.2 258 i = mix N v i) ∧ (∀ i, j ≤ i → s.2 258 i = N 258 i) ∧ ∀ j, j ≠ 257 → j ≠ 258 → s.2 j = N j) 940 ?_ ?_ ?_
      · exact ⟨rfl, by simp (disch := omega) only [mset_ne, mset_eq, mrow_ne, mrow_eq, upd_eq, upd_ne], fun i hi => by omega, fun i _ => by simp (disch := omega) only [mset_ne, mset_eq, mrow_ne, mrow_eq, upd_eq, upd_ne], fun j h1 h2 => by simp (disch := omega) only [mset_ne, mset_eq, mrow_ne, mrow_eq, upd_eq, upd_ne]⟩
      · rintro j ⟨s1, s2⟩ hj ⟨g0, g1, g2, g3, g4⟩
        simp only at g0 g1 g2 g3 g4
        subst g0
        unfold b_X11_undo_21
        have e5 : (940 * (v : Int) + (j : Int)).toNat = 940 * v + j := by omega
        simp (disch := omega) only [J_lit, J_nI, J_add, J_sub, J_mul, J_neg, Int.cast_ofNat_Int, g1, upd_eq, J_lt, J_le, J_eq, within0, isIn0, inRow0, isCell0, if_true, if_false, if_pos, if_neg, grd_J, ix_Jn, ix_J, Int.reduceToNat, Int.toNat_natCast, nm_eq, e5]
        refine wp_some ⟨rfl, ?_, ?_, ?_, ?_⟩
        · simp (disch := omega) only [mset_ne, mset_eq, mrow_ne, mrow_eq, upd_eq, upd_ne]
          exact g1
        · intro i hi
          by_cases c : i = j
          · subst c
            simp (disch := omega) only [mset_ne, mset_eq, mrow_ne, mrow_eq, upd_eq, upd_ne]
            rw [g4 261 (by decide) (by decide)]
            unfold mix
            rw [if_pos hj]
          · simp (disch := omega) only [mset_ne, mset_eq, mrow_ne, mrow_eq, upd_eq, upd_ne]
            exact g2 i (by omega)
        · intro i hi
          simp (disch := omega) only [mset_ne, mset_eq, mrow_ne, mrow_eq, upd_eq, upd_ne]
          exact g3 i (by omega)
        · intro i h1 h2
          simp (disch := omega) only [mset_ne, mset_eq, mrow_ne, mrow_eq, upd_eq, upd_ne]
          exact g4 i h1 h2
      · rintro ⟨s1, s2⟩ ⟨g0, g1, g2, g3, g4⟩
        simp only at g0 g1 g2 g3 g4
        subst g0
        unfold b_X11_undo_21
        simp (disch := omega) only [J_lit, J_nI, J_add, J_sub, J_mul, J_neg, Int.cast_ofNat_Int, J_lt, J_le, J_eq, within0, isIn0, inRow0, isCell0, if_true, if_false, if_pos, if_neg]
        refine wp_some ⟨g1, ?_, g4⟩
        intro i hi
        by_cases c : i < 940
        · exact g2 i c
        · rw [g3 i (by omega)]
          unfold mix
          rw [if_neg c]
    obtain ⟨N1, g0, g1, g2, g3⟩ := hN
    rw [f1, g0]
    refine ⟨_, _, _, rfl, rfl, ⟨n, mp, ks v, v, o, ks, b2, ?_, ?_, ?_, ?_, ?_, ?_, ?_, ?_, ?_⟩⟩
    · exact Sq_ro (fun j h _ => g2 j (by omega)) (f2 _ _ _ _ hA)
    · refine Tx_ro (fun j h1 h2 => ?_) (Tx_fr (fun j h1 h2 _ => by rw [f3 j (by omega)]; simp (disch := omega) only [mset_ne, mset_eq, mrow_ne, mrow_eq, upd_eq, upd_ne]) a3)
      rw [g2 j (by omega)]
      unfold mix
      rw [if_neg (by omega)]
    · rw [f3 69 (by omega), mset_ne (by decide)]
      have := b3.1.2.2
      exact Bk_ro this (fun j h1 h2 => g2 j (by omega)) b4
    · refine Rw_ro (fun j h1 h2 => ?_) (Rw_fr (fun j h1 h2 => by rw [f3 j (by omega)]; simp (disch := omega) only [mset_ne, mset_eq, mrow_ne, mrow_eq, upd_eq, upd_ne]) (by rw [f3 70 (by omega)]; simp (disch := omega) only [mset_ne, mset_eq, mrow_ne, mrow_eq, upd_eq, upd_ne]) (by rw [f3 70 (by omega)]; simp (disch := omega) only [mset_ne, mset_eq, mrow_ne, mrow_eq, upd_eq, upd_ne]) a5)
      rw [g2 j (by omega)]
      unfold mix
      rw [if_neg (by omega)]
    · exact Tp_fr (fun i _ => by rw [f3 78 (by omega)]; simp (disch := omega) only [mset_ne, mset_eq, mrow_ne, mrow_eq, upd_eq, upd_ne]) (fun i _ => by rw [f3 79 (by omega)]; simp (disch := omega) only [mset_ne, mset_eq, mrow_ne, mrow_eq, upd_eq, upd_ne]) (by rw [g1]; simp (disch := omega) only [mset_ne, mset_eq, mrow_ne, mrow_eq, upd_eq, upd_ne]) (fun i _ => by rw [g3 262 (by omega) (by omega)]) (by rw [g1]; simp (disch := omega) only [mset_ne, mset_eq, mrow_ne, mrow_eq, upd_eq, upd_ne]) (by rw [g1]; simp (disch := omega) only [mset_ne, mset_eq, mrow_ne, mrow_eq, upd_eq, upd_ne]) a6
    · refine ⟨by omega, ho, ?_, ?_, ?_, ?_, fun p q h1 h2 => q7 p q h1 (by omega)⟩
      · rw [f3 0 (by omega)]
        simp (disch := omega) only [mset_ne, mset_eq, mrow_ne, mrow_eq, upd_eq, upd_ne]
        exact q3
      · rw [f3 0 (by omega)]
        simp (disch := omega) only [mset_ne, mset_eq, mrow_ne, mrow_eq, upd_eq, upd_ne]
        exact congrArg J (by omega)
      · rw [g1]
        simp (disch := omega) only [mset_ne, mset_eq, mrow_ne, mrow_eq, upd_eq, upd_ne]
      · intro p hp
        obtain ⟨r1, ⟨mq, r2, r3⟩, r4⟩ := q6 p (by omega)
        have hmix : ∀ j, j < 2357 → mix N1 p j = mix N p j := by
          intro j hj
          unfold mix
          by_cases h : j < 940
          · rw [if_pos h, if_pos h, g3 261 (by decide) (by decide)]
          · rw [if_neg h, if_neg h, g2 j (by omega)]
            unfold mix
            rw [if_neg h]
        have hq2 : (o + p) % 6 < 6 := Nat.mod_lt _ (by decide)
        refine ⟨q7 p v (by omega) (by omega), ⟨mq, r2, Sq_ro (fun j h _ => hmix j (by omega)) (Sq_fr (fun j c1 c2 => by rw [f3 j (by omega)]; simp (disch := omega) only [mset_ne, mset_eq, mrow_ne, mrow_eq, upd_eq, upd_ne]) r3)⟩, ?_⟩
        intro i hi
        have := r3.1.2.2
        rw [f3 69 (by omega), mset_ne (by decide), hmix _ (by omega)]
        exact r4 i hi
    · exact Im_fr (by rw [f3 0 (by omega)]; simp (disch := omega) only [mset_ne, mset_eq, mrow_ne, mrow_eq, upd_eq, upd_ne]) (fun j c1 c2 => by rw [f3 j (by omega)]; simp (disch := omega) only [mset_ne, mset_eq, mrow_ne, mrow_eq, upd_eq, upd_ne]) (by rw [g1]; simp (disch := omega) only [mset_ne, mset_eq, mrow_ne, mrow_eq, upd_eq, upd_ne]) (fun i _ => by rw [g3 260 (by omega) (by omega)]) a8
    · exact Vl_fr (by rw [f3 95 (by omega)]; simp (disch := omega) only [mset_ne, mset_eq, mrow_ne, mrow_eq, upd_eq, upd_ne]) (by rw [f3 99 (by omega)]; simp (disch := omega) only [mset_ne, mset_eq, mrow_ne, mrow_eq, upd_eq, upd_ne]) a9
    · rw [f3 83 (by omega)]
      simp (disch := omega) only [mset_ne, mset_eq, mrow_ne, mrow_eq, upd_eq, upd_ne]
      exact a10
theorem c_walker (p : Int32) : Cl2 (f_X10_walker p) (f_X11_walker p) := by
  intro M N hI
  obtain ⟨z, rfl, l1, l2⟩ := J_ex p
  have hI2 := hI
  obtain ⟨n, m, k, u, o, ks, a1, a2, a3, a4, a5, a6, a7, a8, a9, a10⟩ := hI2
  obtain ⟨⟨hn, hm, hk⟩, ⟨e2, e3, e6, e4, e5⟩, ⟨g2, g3, g4⟩, hc, hw, hz, hds⟩ := a2
  unfold f_X10_walker f_X11_walker f_X9_begin f_X9_beginWay f_X10_forget
  by_cases h1 : 0 ≤ z ∧ z ≤ 9
  · by_cases h2 : n = 16
    · subst h2
      simp (disch := omega) only [J_lit, J_nI, J_add, J_sub, J_mul, J_neg, Int.cast_ofNat_Int, J_lt, J_le, J_eq, within0, isIn0, inRow0, isCell0, ix_Jn, ix_J, Int.reduceToNat, Int.toNat_natCast, e2, g2, if_true, if_false, if_pos, if_neg]
      exact ⟨_, _, _, rfl, rfl, hI⟩
    · have e : (144 + 12 * (n : Int) + 0).toNat = 144 + 12 * n := by omega
      simp (disch := omega) only [J_lit, J_nI, J_add, J_sub, J_mul, J_neg, Int.cast_ofNat_Int, J_lt, J_le, J_eq, within0, isIn0, inRow0, isCell0, ix_Jn, ix_J, Int.reduceToNat, Int.toNat_natCast, e2, g2, if_true, if_false, if_pos, if_neg, nm_eq, bind_some, bnd2_some, grd_J, e, mset_ne, mset_eq, mrow_ne, mrow_eq, upd_eq, upd_ne]
      rw [show (n : Int) + 1 - 1 = n by omega]
      refine ⟨J n, _, _, rfl, rfl, ⟨n + 1, m, k, 0, o, ks, a1, ?_, ?_, ?_, ?_, ?_, ?_, ?_, ?_, ?_⟩⟩
      · simp (disch := omega) only [mset_ne, mset_eq, mrow_ne, mrow_eq, upd_eq, upd_ne]
        refine ⟨⟨by omega, hm, hk⟩, ?_, ?_, ?_, ?_, ?_, ?_⟩
        · simp (disch := omega) only [mset_ne, mset_eq, mrow_ne, mrow_eq, upd_eq, upd_ne]
          exact ⟨by exact congrArg J (by omega), e3, e6, e4, e5⟩
        · simp (disch := omega) only [mset_ne, mset_eq, mrow_ne, mrow_eq, upd_eq, upd_ne]
          exact ⟨by exact congrArg J (by omega), g3, g4⟩
        · intro i hi
          simp (disch := omega) only [mset_ne, mset_eq, mrow_ne, mrow_eq, upd_eq, upd_ne]
          exact hc i hi
        · intro w hw'
          by_cases ew : w = n
          · subst ew
            have z1 := hz w (by omega) (by omega) 1 (by omega)
            have z9 := hz w (by omega) (by omega) 9 (by omega)
            have z10 := hz w (by omega) (by omega) 10 (by omega)
            have z11 := hz w (by omega) (by omega) 11 (by omega)
            rw [show 144 + 12 * w + 1 = 145 + 12 * w by omega] at z1
            rw [show 144 + 12 * w + 9 = 153 + 12 * w by omega] at z9
            rw [show 144 + 12 * w + 10 = 154 + 12 * w by omega] at z10
            rw [show 144 + 12 * w + 11 = 155 + 12 * w by omega] at z11
            refine ⟨?_, ?_, ?_, ?_, ?_, ?_, ?_⟩
            · simp (disch := omega) only [mset_ne, mset_eq, mrow_ne, mrow_eq, upd_eq, upd_ne]
            · simp (disch := omega) only [mset_ne, mset_eq, mrow_ne, mrow_eq, upd_eq, upd_ne]
              rw [z1]
              rfl
            · left
              simp (disch := omega) only [mset_ne, mset_eq, mrow_ne, mrow_eq, upd_eq, upd_ne]
              rfl
            · simp (disch := omega) only [mset_ne, mset_eq, mrow_ne, mrow_eq, upd_eq, upd_ne]
              rw [z9]
              rfl
            · simp (disch := omega) only [mset_ne, mset_eq, mrow_ne, mrow_eq, upd_eq, upd_ne]
              rw [z10]
              rfl
            · simp (disch := omega) only [mset_ne, mset_eq, mrow_ne, mrow_eq, upd_eq, upd_ne]
              rw [z11]
              rfl
            · intro h
              exfalso
              revert h
              simp (disch := omega) only [mset_ne, mset_eq, mrow_ne, mrow_eq, upd_eq, upd_ne]
              decide
          · have : w < n := by omega
            simp (disch := omega) only [mset_ne, mset_eq, mrow_ne, mrow_eq, upd_eq, upd_ne]
            exact WkR_ro (fun j h1 h2 => by simp (disch := omega) only [mset_ne, mset_eq, mrow_ne, mrow_eq, upd_eq, upd_ne]) (fun j h1 h2 => by simp (disch := omega) only [mset_ne, mset_eq, mrow_ne, mrow_eq, upd_eq, upd_ne]) (by omega) (hw w this)
        · intro w h1 h2 i hi
          simp (disch := omega) only [mset_ne, mset_eq, mrow_ne, mrow_eq, upd_eq, upd_ne]
          exact hz w (by omega) h2 i hi
        · intro v w hv hw' hne i1 i2
          by_cases ev : v = n
          · subst ev
            exfalso
            revert i1
            simp (disch := omega) only [mset_ne, mset_eq, mrow_ne, mrow_eq, upd_eq, upd_ne]
            decide
          · by_cases ew : w = n
            · subst ew
              exfalso
              revert i2
              simp (disch := omega) only [mset_ne, mset_eq, mrow_ne, mrow_eq, upd_eq, upd_ne]
              decide
            · revert i1 i2
              simp (disch := omega) only [mset_ne, mset_eq, mrow_ne, mrow_eq, upd_eq, upd_ne]
              exact hds v w (by omega) (by omega) hne
      · simp (disch := omega) only [mset_ne, mset_eq, mrow_ne, mrow_eq, upd_eq, upd_ne]
        exact Tx_ro (fun j h1 h2 => by simp (disch := omega) only [mset_ne, mset_eq, mrow_ne, mrow_eq, upd_eq, upd_ne]) (Tx_fr (fun j h1 h2 _ => by simp (disch := omega) only [mset_ne, mrow_ne]) a3)
      · simp (disch := omega) only [mset_ne, mset_eq, mrow_ne, mrow_eq, upd_eq, upd_ne]
        exact Bk_ro hk (fun j h1 h2 => by simp (disch := omega) only [mset_ne, mset_eq, mrow_ne, mrow_eq, upd_eq, upd_ne]) a4
      · simp (disch := omega) only [mset_ne, mset_eq, mrow_ne, mrow_eq, upd_eq, upd_ne]
        exact Rw_ro (fun j h1 h2 => by simp (disch := omega) only [mset_ne, mset_eq, mrow_ne, mrow_eq, upd_eq, upd_ne]) (Rw_fr (fun j h1 h2 => by simp (disch := omega) only [mset_ne, mrow_ne]) (by simp (disch := omega) only [mset_ne, mrow_ne]) (by simp (disch := omega) only [mset_ne, mrow_ne]) a5)
      · exact Tp_fr (fun i _ => by simp (disch := omega) only [mset_ne, mrow_ne]) (fun i _ => by simp (disch := omega) only [mset_ne, mrow_ne]) (by simp (disch := omega) only [mset_ne, mset_eq, mrow_ne, mrow_eq, upd_eq, upd_ne]) (fun i _ => by simp (disch := omega) only [mset_ne, mrow_ne]) (by simp (disch := omega) only [mset_ne, mset_eq, mrow_ne, mrow_eq, upd_eq, upd_ne]) (by simp (disch := omega) only [mset_ne, mset_eq, mrow_ne, mrow_eq, upd_eq, upd_ne]) a6
      · exact Un_0 a7.2.1 (by simp (disch := omega) only [mset_ne, mset_eq, mrow_ne, mrow_eq, upd_eq, upd_ne]; exact a7.2.2.1) (by simp (disch := omega) only [mset_ne, mset_eq, mrow_ne, mrow_eq, upd_eq, upd_ne]) (by simp (disch := omega) only [mset_ne, mset_eq, mrow_ne, mrow_eq, upd_eq, upd_ne])
      · exact Im_fr (by simp (disch := omega) only [mset_ne, mset_eq, mrow_ne, mrow_eq, upd_eq, upd_ne]) (fun j h1 h2 => by simp (disch := omega) only [mset_ne, mrow_ne]) (by simp (disch := omega) only [mset_ne, mset_eq, mrow_ne, mrow_eq, upd_eq, upd_ne]) (fun i _ => by simp (disch := omega) only [mset_ne, mrow_ne]) a8
      · exact Vl_fr (by simp (disch := omega) only [mset_ne, mrow_ne]) (by simp (disch := omega) only [mset_ne, mrow_ne]) a9
      · simp (disch := omega) only [mset_ne, mset_eq, mrow_ne, mrow_eq, upd_eq, upd_ne]
        exact a10
  · by_cases h3 : z < 0
    · simp (disch := omega) only [J_lit, J_nI, J_add, J_sub, J_mul, J_neg, Int.cast_ofNat_Int, J_lt, J_le, J_eq, within0, isIn0, inRow0, isCell0, if_true, if_false, if_pos, if_neg]
      exact ⟨_, _, _, rfl, rfl, hI⟩
    · simp (disch := omega) only [J_lit, J_nI, J_add, J_sub, J_mul, J_neg, Int.cast_ofNat_Int, J_lt, J_le, J_eq, within0, isIn0, inRow0, isCell0, if_true, if_false, if_pos, if_neg]
      exact ⟨_, _, _, rfl, rfl, hI⟩
