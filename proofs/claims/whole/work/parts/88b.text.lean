/-! ===== the call: a text ===== -/
theorem c_text (p0 : Int32) : Cl2 (f_X10_text p0) (f_X11_text p0) := by
  intro M N hI
  have hI2 := hI
  obtain ⟨n0, m, k0, u0, o, ks, a1, a2, a3, a4, a5, a6, a7, a8, a9, a10⟩ := hI2
  obtain ⟨tp, n, NN, P, E, M4, c1, c2, c3, c4, c5, c6, c7⟩ := tx_scan a6
  obtain ⟨z, rfl, z1, z2⟩ := J_ex p0
  by_cases hz : z < 0 ∨ 3 < z
  · have et := tx_40 z1 z2 N hz
    refine ⟨J (-1), mset M4 78 0 (J 0), tx40 N, ?_, et, ?_⟩
    · unfold f_X10_text
      simp (disch := omega) only [↓nm_s, ↓reduceIte, J_lit, J_neg, Int.cast_ofNat_Int, J_lt_t, J_lt_f, J_le_t, J_le_f, J_eq_t, J_eq_f, within_t, within_f, isIn_t, isIn_f, inRow_t, inRow_f, isCell_t, isCell_f, inb_t, c1, bind_s]
    · have e8 : tx40 N 258 = N 258 := by unfold tx40; simp (disch := omega) only [mset_ne, mset_eq, mrow_ne, mrow_eq, upd_eq, upd_ne]
      refine IC_txs a1 a2 a4 a5 a8 a9 a10 (u' := u0) (o' := o) (ks' := ks) ?_ ?_ ?_ (fun i _ => by rw [e8]) ?_ (fun j d1 d2 d3 d4 d5 d6 => c7 j d3 d4 d5 d6) c4 ?_ ?_ ?_ ?_ ?_
      · rw [e8]
        exact Sq_fr (fun j d1 d2 => c7 j (by omega) (by omega) (by omega) (by omega)) a2
      · rw [e8]
        exact Tx_fr (fun j d1 d2 d3 => c7 j (by omega) (by omega) (by omega) (by omega)) a3
      · exact Un_ro2 (by rw [c7 0 (by omega) (by omega) (by omega) (by omega)]) (by rw [c7 0 (by omega) (by omega) (by omega) (by omega)]) (by unfold tx40; simp (disch := omega) only [mset_ne, mset_eq, mrow_ne, mrow_eq, upd_eq, upd_ne]) (fun j d1 d2 => c7 j (by omega) (by omega) (by omega) (by omega)) (c7 69 (by omega) (by omega) (by omega) (by omega)) (fun i _ => by rw [e8]) (by unfold tx40; simp (disch := omega) only [mset_ne, mset_eq, mrow_ne, mrow_eq, upd_eq, upd_ne]) a2.1.2.2 a7
      · rw [c7 0 (by omega) (by omega) (by omega) (by omega)]
      · rw [c5]; unfold tx40; simp (disch := omega) only [mset_ne, mset_eq, mrow_ne, mrow_eq, upd_eq, upd_ne]
      · rw [c6]; unfold tx40; simp (disch := omega) only [mset_ne, mset_eq, mrow_ne, mrow_eq, upd_eq, upd_ne]
      · unfold tx40; simp (disch := omega) only [mset_ne, mset_eq, mrow_ne, mrow_eq, upd_eq, upd_ne]
      · unfold tx40; simp (disch := omega) only [mset_ne, mset_eq, mrow_ne, mrow_eq, upd_eq, upd_ne]
      · unfold tx40; simp (disch := omega) only [mset_ne, mset_eq, mrow_ne, mrow_eq, upd_eq, upd_ne]
  · obtain ⟨k, hk, rfl⟩ : ∃ k : Nat, k < 4 ∧ z = (k : Int) := ⟨z.toNat, by omega, by omega⟩
    obtain ⟨N1, n1, n2, n3⟩ := tx_begin hk N
    obtain ⟨t1, t2, t3, t4⟩ := tx72_f N
    have hTS : TS (mset M4 78 0 (J 0)) N1 tp n NN P E 0 0 := c3 N1 (by rw [n1 262 (by decide)]; exact t1 262 (by decide) (by decide)) (by rw [n1 257 (by decide), t2.2.2.2.1]; exact c2) (by rw [n1 257 (by decide)]; exact t2.2.2.2.2.1) (by rw [n1 257 (by decide)]; exact t2.2.2.2.2.2)
    rw [n3]
    have bad : ∀ (M' N' : zM) (v : Int32), loopW (fun s => b_X11_text_131 (J k) s.1 s.2) (J 0, N1) = some (v, N') → FL M' N' → FrC (mset M4 78 0 (J 0)) M' → FrN N1 N' → f_X10_text (J k) M = some (J (-1), M') → ∃ u M1 N1', f_X10_text (J k) M = some (u, M1) ∧ ((loopW (fun s => b_X11_text_131 (J k) s.1 s.2) (J 0, N1)).bind (fun r => j_X11_text_211 (J k) r.1 r.2)) = some (u, N1') ∧ IC M1 N1' := by
      intro M' N' v e1 e2 e3 e4 e5
      obtain ⟨N2, f1, f2⟩ := tx_fail hI (Ga_of c7 c4 n1 e3 e4) e2 (J k)
      refine ⟨J (-1), M', N2, e5, ?_, f2⟩
      rw [e1]
      simp only [bind_s, f1]
    have good : ∀ (M' N' : zM) (l : Nat), loopW (fun s => b_X11_text_131 (J k) s.1 s.2) (J 0, N1) = some (J l, N') → f_X10_text (J k) M = (bnd2 (f_X10_settle (J k) (J l) M') fun u M64 => some (u, M64)) → (∃ M1 N1', f_X10_settle (J k) (J l) M' = some (J l, M1) ∧ j_X11_text_211 (J k) (J l) N' = some (J l, N1') ∧ IC M1 N1') → ∃ u M1 N1', f_X10_text (J k) M = some (u, M1) ∧ ((loopW (fun s => b_X11_text_131 (J k) s.1 s.2) (J 0, N1)).bind (fun r => j_X11_text_211 (J k) r.1 r.2)) = some (u, N1') ∧ IC M1 N1' := by
      rintro M' N' l e1 e2 ⟨M1, N1', e3, e4, e5⟩
      refine ⟨J l, M1, N1', ?_, ?_, e5⟩
      · rw [e2, e3]; rfl
      · rw [e1]
        simp only [bind_s]
        exact e4
    have sb : ∀ (kk : Int32) (M' : zM), f_X10_settle kk (J (-1)) M' = some (J (-1), M') := fun kk M' => by
      unfold f_X10_settle
      rw [if_pos (by rfl)]
      rfl
    rcases (show k = 0 ∨ k = 1 ∨ k = 2 ∨ k = 3 by omega) with e | e | e | e
    · subst e
      have ht : ∀ q, f_X3_read 55 (mset M4 78 0 (J 0)) = some q → f_X10_text (J ((0 : Nat) : Int)) M = (bnd2 (f_X10_settle (J ((0 : Nat) : Int)) q.1 q.2) fun u M64 => some (u, M64)) := by
        intro q hq
        unfold f_X10_text
        rw [c1]
        simp (disch := omega) only [↓nm_s, ↓reduceIte, J_lit, J_neg, Int.cast_ofNat_Int, Int.natCast_zero, bind_s, hq, bnd2_s]
        rfl
      rcases p_law hTS (by rw [n1 257 (by decide)]; exact t3.2.2.2) (by rw [n1 257 (by decide)]; exact t3.1) with ⟨l', M', N', f1, f2, f3, f4, f5, f6, f7⟩ | ⟨v, M', N', f2, f3, f4, f6, f7⟩
      · exact good M' N' l' f3 (ht _ f2) (s_law hI (Ga_of c7 c4 n1 f6 f7) f5.2.1 f5.2.2 f5.1 f1 f4.1 f4.2.1 (fun i hi hi2 => by rw [f4.2.2 i hi2]; exact (n2 i hi).2 (by unfold Zk; omega)))
      · exact bad M' N' v f3 f4 f6 f7 (by rw [ht _ f2, sb]; rfl)
    · subst e
      have ht : ∀ q, f_X8_readStones 54 (mset M4 78 0 (J 0)) = some q → f_X10_text (J ((1 : Nat) : Int)) M = (bnd2 (f_X10_settle (J ((1 : Nat) : Int)) q.1 q.2) fun u M64 => some (u, M64)) := by
        intro q hq
        unfold f_X10_text
        rw [c1]
        simp (disch := omega) only [↓nm_s, ↓reduceIte, J_lit, J_neg, Int.cast_ofNat_Int, Int.natCast_one, J_lt_t, J_lt_f, J_le_t, J_le_f, J_eq_t, J_eq_f, within_t, within_f, isIn_t, isIn_f, inRow_t, inRow_f, isCell_t, isCell_f, inb_t, bind_s, hq, bnd2_s]
        rfl
      rcases p_stones hTS (fun i hi => (n2 i (by omega)).1 (Or.inl ⟨rfl, hi⟩)) with ⟨l', M', N', f1, f2, f3, f4, f5, f6, f7⟩ | ⟨v, M', N', f2, f3, f4, f6, f7⟩
      · exact good M' N' l' f3 (ht _ f2) (s_stoned hI (Ga_of c7 c4 n1 f6 f7) f5.2.1 f5.2.2 f5.1 f1 f4.1 (fun i hi hi2 => by rw [f4.2 i hi2]; exact (n2 i hi).2 (by unfold Zk; omega)))
      · exact bad M' N' v f3 f4 f6 f7 (by rw [ht _ f2, sb]; rfl)
    · subst e
      have e12 : mset M4 78 0 (J 0) 1 2 = J n0 := by
        rw [c7 1 (by decide) (by decide) (by decide) (by decide)]
        exact a2.2.1.1
      have ht : ∀ q, f_X8_readWays 54 (J n0) (mset M4 78 0 (J 0)) = some q → f_X10_text (J ((2 : Nat) : Int)) M = (bnd2 (f_X10_settle (J ((2 : Nat) : Int)) q.1 q.2) fun u M64 => some (u, M64)) := by
        intro q hq
        unfold f_X10_text
        rw [c1]
        simp (disch := omega) only [↓nm_s, ↓reduceIte, J_lit, J_neg, Int.cast_ofNat_Int, J_lt_t, J_lt_f, J_le_t, J_le_f, J_eq_t, J_eq_f, within_t, within_f, isIn_t, isIn_f, inRow_t, inRow_f, isCell_t, isCell_f, inb_t, bind_s, e12, hq, bnd2_s]
        rfl
      rcases p_ways hTS (wn := n0) a2.1.1 (by rw [n1 258 (by decide), t1 258 (by decide) (by decide)]; exact a2.2.2.1.1) (fun i hi => (n2 _ (by omega)).1 (Or.inr ⟨rfl, by omega, by omega⟩)) with ⟨l', M', N', f1, f2, f3, f4, f5, f6, f7⟩ | ⟨v, M', N', f2, f3, f4, f6, f7⟩
      · exact good M' N' l' f3 (ht _ f2) (s_ways hI (Ga_of c7 c4 n1 f6 f7) f5.2.1 f5.2.2 f5.1 f1 f4.1 (fun i hi hi2 => by rw [f4.2.1 i hi2]; exact (n2 i hi).2 (by unfold Zk; omega)))
      · exact bad M' N' v f3 f4 f6 f7 (by rw [ht _ f2, sb]; rfl)
    · subst e
      have ht : ∀ q, f_X8_readWatch 54 (mset M4 78 0 (J 0)) = some q → f_X10_text (J ((3 : Nat) : Int)) M = (bnd2 (f_X10_settle (J ((3 : Nat) : Int)) q.1 q.2) fun u M64 => some (u, M64)) := by
        intro q hq
        unfold f_X10_text
        rw [c1]
        simp (disch := omega) only [↓nm_s, ↓reduceIte, J_lit, J_neg, Int.cast_ofNat_Int, J_lt_t, J_lt_f, J_le_t, J_le_f, J_eq_t, J_eq_f, within_t, within_f, isIn_t, isIn_f, inRow_t, inRow_f, isCell_t, isCell_f, inb_t, bind_s, hq, bnd2_s]
        rfl
      rcases p_watch hTS with ⟨l', M', N', f1, f2, f3, f4, f5, f6, f7⟩ | ⟨v, M', N', f2, f3, f4, f6, f7⟩
      · exact good M' N' l' f3 (ht _ f2) (s_watch hI (Ga_of c7 c4 n1 f6 f7) f5.2.1 f5.2.2 f5.1 f1 f4.1 (fun i hi hi2 => by rw [f4.2 i (by omega)]; exact (n2 i hi).2 (by unfold Zk; omega)))
      · exact bad M' N' v f3 f4 f6 f7 (by rw [ht _ f2, sb]; rfl)
