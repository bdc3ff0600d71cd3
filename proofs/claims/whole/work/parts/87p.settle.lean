/-! ===== what stands behind a text ===== -/
theorem Sq_ro2 {M : zM} {a : Nat} {ρ ρ' : Nat → Int32} {n m b k : Nat} (h : ∀ j, (j < 336 ∨ (936 ≤ j ∧ j ≤ 940) ∨ (1925 ≤ j ∧ j < 2325)) → ρ' j = ρ j) : SqB M a ρ n m b k → SqB M a ρ' n m b k := by
  rintro ⟨hb, he, hr, hc, hw, hz, hd⟩
  refine ⟨hb, ?_, ?_, ?_, ?_, ?_, hd⟩
  · rw [h 937 (by omega), h 938 (by omega)]
    exact he
  · rw [h 940 (by omega), h 936 (by omega), h 939 (by omega)]
    exact hr
  · intro i hi
    rw [h i (by omega)]
    exact hc i hi
  · intro w hw'
    exact WkR_ro (fun j h1 h2 => h j (by omega)) (fun j h1 h2 => h j (by have := hb.1; omega)) (by have := hb.1; omega) (hw w hw')
  · intro w h1 h2 i hi
    rw [h _ (by omega)]
    exact hz w h1 h2 i hi
theorem Un_ro2 {M M' N N' : zM} {n k u o : Nat} {ks : Nat → Nat} (h0 : M' 0 3 = M 0 3) (h1 : M' 0 4 = M 0 4) (h2 : N' 257 4 = N 257 4) (h3 : ∀ j, 143 ≤ j → j < 257 → M' j = M j) (h4 : M' 69 = M 69) (h5 : ∀ i, (i = 940 ∨ (1925 ≤ i ∧ i < 2325)) → N' 258 i = N 258 i) (h6 : N' 261 = N 261) (hk2 : k ≤ 150) : Un M N n k u o ks → Un M' N' n k u o ks := by
  rintro ⟨a1, a2, a3, a4, a5, a6, a7⟩
  refine ⟨a1, a2, by rw [h0]; exact a3, by rw [h1]; exact a4, by rw [h2]; exact a5, fun p hp => ?_, a7⟩
  obtain ⟨b1, ⟨mp, b2, b3⟩, b4⟩ := a6 p hp
  have hm : ∀ j, (j < 940 ∨ j = 940 ∨ (1925 ≤ j ∧ j < 2325)) → mix N' p j = mix N p j := by
    intro j hj
    unfold mix
    by_cases c : j < 940
    · rw [if_pos c, if_pos c, h6]
    · rw [if_neg c, if_neg c, h5 j (by omega)]
  have hq : (o + p) % 6 < 6 := Nat.mod_lt _ (by decide)
  refine ⟨by omega, ⟨mp, b2, Sq_ro2 (fun j hj => hm j (by omega)) (Sq_fr (fun j c1 c2 => h3 j (by omega) (by omega)) b3)⟩, fun i hi => ?_⟩
  rw [h4, hm _ (by omega)]
  exact b4 i hi
/-- all together again -/
theorem IC_txs {M M' N N' : zM} {n m k u' o' : Nat} {ks' : Nat → Nat} (a1 : m < 10000) (a2 : Sq M 1 (N 258) n m k) (a4 : Bk (M 69) (N 258) k) (a5 : Rw M 70 (N 258)) (a8 : Im M N) (a9 : Vl M) (a10 : M 83 0 = 0)
    (hS : Sq M' 1 (N' 258) n m k) (hT : Tx M' 40 (N' 258)) (hU : Un M' N' n k u' o' ks') (hB : ∀ i, (336 ≤ i ∧ i < 936) ∨ (2357 ≤ i ∧ i < 2425) → N' 258 i = N 258 i)
    (h0 : M' 0 13 = M 0 13) (h1 : ∀ j, 69 ≤ j → j < 143 → j ≠ 78 → j ≠ 80 → j ≠ 81 → j ≠ 82 → M' j = M j) (h78 : M' 78 0 = J 0) (f1 : M' 78 1 = N' 257 13) (f2 : M' 78 2 = N' 257 14)
    (g5 : N' 257 5 = N 257 5) (g7 : N' 257 7 = J 0) (g60 : N' 260 = N 260) : IC M' N' := by
  refine ⟨n, m, k, u', o', ks', a1, hS, hT, ?_, ?_, ⟨0, by omega, h78, g7, fun i hi => by omega, f1, f2⟩, hU, ?_, ?_, ?_⟩
  · rw [h1 69 (by omega) (by omega) (by omega) (by omega) (by omega) (by omega)]
    exact Bk_ro a2.1.2.2 (fun j c1 c2 => hB j (by omega)) a4
  · exact Rw_ro (fun j c1 c2 => hB j (by omega)) (Rw_fr (fun j c1 c2 => h1 j (by omega) (by omega) (by omega) (by omega) (by omega) (by omega)) (by rw [h1 70 (by omega) (by omega) (by omega) (by omega) (by omega) (by omega)]) (by rw [h1 70 (by omega) (by omega) (by omega) (by omega) (by omega) (by omega)]) a5)
  · exact Im_fr h0 (fun j c1 c2 => h1 j (by omega) (by omega) (by omega) (by omega) (by omega) (by omega)) g5 (fun i _ => by rw [g60]) a8
  · exact Vl_fr (by rw [h1 95 (by omega) (by omega) (by omega) (by omega) (by omega) (by omega)]) (h1 99 (by omega) (by omega) (by omega) (by omega) (by omega) (by omega)) a9
  · rw [h1 83 (by omega) (by omega) (by omega) (by omega) (by omega) (by omega)]
    exact a10
/-- the class's beginning -/
theorem tx_scan {M N : zM} (h : Tp M N) : ∃ (tp : Nat → Nat) (n NN : Nat) (P E : Nat → Nat) (M4 : zM), f_X5_scan M = some M4 ∧ N 257 7 = J n ∧ (∀ N', N' 262 = N 262 → N' 257 8 = J n → N' 257 9 = J 0 → N' 257 10 = J (-1) → TS (mset M4 78 0 (J 0)) N' tp n NN P E 0 0) ∧ mset M4 78 0 (J 0) 78 0 = J 0 ∧ mset M4 78 0 (J 0) 78 1 = J 0 ∧ mset M4 78 0 (J 0) 78 2 = J (-1) ∧ ∀ j, j ≠ 78 → j ≠ 80 → j ≠ 81 → j ≠ 82 → mset M4 78 0 (J 0) j = M j := by
  obtain ⟨n, h1, h2, h3, h4, h5, h6⟩ := h
  have hT : TpR (M 79) (fun i => (M 79 i).toInt.toNat) n := by
    refine ⟨h1, fun i hi => ?_⟩
    obtain ⟨x, hx, e⟩ := (h4 i hi).2
    simp only [e]
    rw [J_toInt (by omega) (by omega)]
    exact ⟨by rw [Int.toNat_natCast], by omega⟩
  obtain ⟨M4, e, ⟨NN, P, E, hk⟩, ⟨q0, q1, q2, q7⟩, hf⟩ := p_scan h2 hT
  refine ⟨fun i => (M 79 i).toInt.toNat, n, NN, P, E, M4, e, h3, fun N' g1 g2 g3 g4 => ?_, by simp (disch := omega) only [mset_ne, mset_eq, mrow_ne, mrow_eq, upd_eq, upd_ne], by simp (disch := omega) only [mset_ne, mset_eq, mrow_ne, mrow_eq, upd_eq, upd_ne]; exact q1, by simp (disch := omega) only [mset_ne, mset_eq, mrow_ne, mrow_eq, upd_eq, upd_ne]; exact q2, fun j c1 c2 c3 c4 => by rw [mset_ne c1]; exact hf j c1 c2 c3 c4⟩
  have hk' := hk
  obtain ⟨k1, k2, k3, k4, k5, k6, k7⟩ := hk'
  refine ⟨?_, ?_, ⟨Nat.zero_le _, by simp (disch := omega) only [mset_ne, mset_eq, mrow_ne, mrow_eq, upd_eq, upd_ne]; exact q1, by simp (disch := omega) only [mset_ne, mset_eq, mrow_ne, mrow_eq, upd_eq, upd_ne]; exact q2⟩, ?_, g2, g3, ?_, g4⟩
  · simp (disch := omega) only [mset_ne, mset_eq, mrow_ne, mrow_eq, upd_eq, upd_ne]
    exact hk
  · refine ⟨h1, fun i hi => ?_⟩
    rw [g1, ← (h4 i hi).1]
    exact hT.2 i hi
  · simp (disch := omega) only [mset_ne, mset_eq, mrow_ne, mrow_eq, upd_eq, upd_ne]
    exact q7
  · exact k3
