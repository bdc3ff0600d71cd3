/-! ===== feed ===== -/
def byt (v : Int32) (j : Nat) : Int32 := (iush v (J (24 - 8 * j))) &&& J 255
theorem byt_lt (v : Int32) (j : Nat) : Lt (byt v j) 256 := by
  unfold byt
  obtain ⟨z, e, _, _⟩ := J_ex (iush v (J (24 - 8 * j)))
  rw [e, J_and255]
  exact ⟨(z % 256).toNat, by omega, by congr 1; omega⟩
theorem byt_eq (v : Int32) (j : Nat) (hj : j < 4) : (v >>> (J (24 - 8 * (j : Int)) &&& 31)) &&& J 255 = byt v j := by
  have key : ∀ s : Nat, s ≤ 24 → (v.toBitVec.sshiftRight s) &&& 255#32 = (v.toBitVec >>> s) &&& 255#32 := by
    intro s hs
    apply BitVec.eq_of_getLsbD_eq
    intro i hi
    rw [BitVec.getLsbD_and, BitVec.getLsbD_and]
    by_cases h8 : i < 8
    · congr 1
      rw [BitVec.getLsbD_sshiftRight, BitVec.getLsbD_ushiftRight]
      simp [show s + i < 32 by omega, show ¬ 32 ≤ i by omega]
    · have : (255#32).getLsbD i = false := by
        have : ∀ i, i < 32 → ¬ i < 8 → (255#32).getLsbD i = false := by decide
        exact this i hi h8
      rw [this, Bool.and_false, Bool.and_false]
  unfold byt iush
  apply Int32.toBitVec_inj.1
  rcases (show j = 0 ∨ j = 1 ∨ j = 2 ∨ j = 3 by omega) with e | e | e | e <;> subst e
  · exact key 24 (by decide)
  · exact key 16 (by decide)
  · exact key 8 (by decide)
  · exact key 0 (by decide)
theorem p_put (v : Int32) {n : Nat} (hn : n + 4 ≤ 400) {M : zM} (h0 : M 78 0 = J n) : Wp (f_X5_put v M) (fun M' => M' 78 0 = J (n + 4 : Nat) ∧ (∀ i, i ≠ 0 → M' 78 i = M 78 i) ∧ (∀ i, i < n → M' 79 i = M 79 i) ∧ (∀ j, j < 4 → M' 79 (n + j) = byt v j) ∧ ∀ k, k ≠ 78 → k ≠ 79 → M' k = M k) := by
  unfold f_X5_put j_X5_put_49
  refine wp_bind ?_
  refine wp_mono (P := fun M' => M' 78 0 = J (n + 4 : Nat) ∧ (∀ i, i ≠ 0 → M' 78 i = M 78 i) ∧ (∀ i, i < n → M' 79 i = M 79 i) ∧ (∀ j, j < 4 → M' 79 (n + j) = byt v j) ∧ ∀ k, k ≠ 78 → k ≠ 79 → M' k = M k) ?_ (fun _ h => wp_some h)
  refine loop_up (fun k s => s.1 = J (24 - 8 * (k : Int)) ∧ s.2 78 0 = J (n + k : Nat) ∧ (∀ i, i ≠ 0 → s.2 78 i = M 78 i) ∧ (∀ i, i < n → s.2 79 i = M 79 i) ∧ (∀ j, j < k → s.2 79 (n + j) = byt v j) ∧ ∀ k, k ≠ 78 → k ≠ 79 → s.2 k = M k) 4 ?_ ?_ ?_
  · exact ⟨rfl, h0, fun _ _ => rfl, fun _ _ => rfl, fun j hj => by omega, fun _ _ _ => rfl⟩
  · rintro k ⟨s1, s2⟩ hk ⟨e1, e2, e3, e4, e5, e6⟩
    simp only at e1 e2 e3 e4 e5 e6
    subst e1
    unfold b_X5_put_3
    simp (disch := omega) only [J_lit, J_nI, J_add, J_sub, J_mul, J_neg, Int.cast_ofNat_Int, e2, J_lt, J_le, J_eq, within0, isIn0, inRow0, isCell0, if_true, if_false, if_pos, if_neg, grd_J, ix_Jn, ix_J, Int.reduceToNat, Int.toNat_natCast, nm_eq, mset_ne, mset_eq, mrow_ne, mrow_eq, upd_eq, upd_ne]
    refine wp_some ⟨by exact congrArg J (by omega), by simp (disch := omega) only [mset_ne, mset_eq, mrow_ne, mrow_eq, upd_eq, upd_ne]; exact congrArg J (by omega), ?_, ?_, ?_, ?_⟩
    · intro i hi
      simp (disch := omega) only [mset_ne, mset_eq, mrow_ne, mrow_eq, upd_eq, upd_ne]
      exact e3 i hi
    · intro i hi
      simp (disch := omega) only [mset_ne, mset_eq, mrow_ne, mrow_eq, upd_eq, upd_ne]
      exact e4 i hi
    · intro j hj
      simp only
      by_cases e : j = k
      · subst e
        simp (disch := omega) only [mset_ne, mset_eq, mrow_ne, mrow_eq, upd_eq, upd_ne]
        rfl
      · simp (disch := omega) only [mset_ne, mset_eq, mrow_ne, mrow_eq, upd_eq, upd_ne]
        exact e5 j (by omega)
    · intro k k1 k2
      simp (disch := omega) only [mset_ne, mset_eq, mrow_ne, mrow_eq, upd_eq, upd_ne]
      exact e6 k k1 k2
  · rintro ⟨s1, s2⟩ ⟨e1, e2, e3, e4, e5, e6⟩
    simp only at e1 e2 e3 e4 e5 e6
    subst e1
    unfold b_X5_put_3
    simp (disch := omega) only [J_lit, J_nI, J_add, J_sub, J_mul, J_neg, Int.cast_ofNat_Int, J_lt, J_le, J_eq, within0, isIn0, inRow0, isCell0, if_true, if_false, if_pos, if_neg]
    exact wp_some ⟨e2, e3, e4, e5, e6⟩
def arg5 (p1 p2 p3 p4 p5 : Int32) (i : Nat) : Int32 := if i = 0 then p1 else if i = 1 then p2 else if i = 2 then p3 else if i = 3 then p4 else p5
theorem p_feed11 (p1 p2 p3 p4 p5 : Int32) {n : Nat} (hn : n + 20 ≤ 400) {N : zM} (h0 : N 257 7 = J n) : Wp (loopW (fun s => b_X11_feed_18 p1 p2 p3 p4 p5 s.1 s.2) ((0 : Int32), N)) (fun N' => N' 257 7 = J (n + 20 : Nat) ∧ (∀ i, i ≠ 7 → N' 257 i = N 257 i) ∧ (∀ i, i < n → N' 262 i = N 262 i) ∧ (∀ i, i < 20 → N' 262 (n + i) = byt (arg5 p1 p2 p3 p4 p5 (i / 4)) (i % 4)) ∧ ∀ k, k ≠ 257 → k ≠ 262 → N' k = N k) := by
  refine loop_up (fun k s => s.1 = J (k : Int) ∧ s.2 257 7 = J (n + k : Nat) ∧ (∀ i, i ≠ 7 → s.2 257 i = N 257 i) ∧ (∀ i, i < n → s.2 262 i = N 262 i) ∧ (∀ i, i < k → s.2 262 (n + i) = byt (arg5 p1 p2 p3 p4 p5 (i / 4)) (i % 4)) ∧ ∀ k, k ≠ 257 → k ≠ 262 → s.2 k = N k) 20 ?_ ?_ ?_
  · exact ⟨rfl, h0, fun _ _ => rfl, fun _ _ => rfl, fun j hj => by omega, fun _ _ _ => rfl⟩
  · rintro k ⟨s1, s2⟩ hk ⟨e1, e2, e3, e4, e5, e6⟩
    simp only at e1 e2 e3 e4 e5 e6
    subst e1
    have hb : b_X11_feed_18 p1 p2 p3 p4 p5 (J k) s2 = j_X11_feed_71_18 p1 p2 p3 p4 p5 (J k) (arg5 p1 p2 p3 p4 p5 (k / 4)) s2 := by
      unfold b_X11_feed_18 arg5
      simp (disch := omega) only [J_lit, J_nI, J_add, J_sub, J_mul, J_neg, Int.cast_ofNat_Int, J_lt, J_le, J_eq, within0, isIn0, inRow0, isCell0]
      rcases (show k / 4 = 0 ∨ k / 4 = 1 ∨ k / 4 = 2 ∨ k / 4 = 3 ∨ k / 4 = 4 by omega) with e | e | e | e | e <;> simp (disch := omega) only [if_true, if_false, if_pos, if_neg]
    rw [hb]
    unfold j_X11_feed_71_18
    have e31 : (31 : Int32) = J 31 := rfl
    simp (disch := omega) only [J_lit, J_nI, J_add, J_sub, J_mul, J_neg, Int.cast_ofNat_Int, J_rem, e2, J_lt, J_le, J_eq, within0, isIn0, inRow0, isCell0, if_true, if_false, if_pos, if_neg, grd_J, ix_Jn, ix_J, Int.reduceToNat, Int.toNat_natCast, nm_eq, mset_ne, mset_eq, mrow_ne, mrow_eq, upd_eq, upd_ne]
    have eb := byt_eq (arg5 p1 p2 p3 p4 p5 (k / 4)) (k % 4) (by omega)
    rw [e31] at eb
    rw [show ((k % 4 : Nat) : Int) = (k : Int) % 4 by omega] at eb
    rw [eb]
    refine wp_some ⟨by exact congrArg J (by omega), by simp (disch := omega) only [mset_ne, mset_eq, mrow_ne, mrow_eq, upd_eq, upd_ne]; exact congrArg J (by omega), ?_, ?_, ?_, ?_⟩
    · intro i hi
      simp (disch := omega) only [mset_ne, mset_eq, mrow_ne, mrow_eq, upd_eq, upd_ne]
      exact e3 i hi
    · intro i hi
      simp (disch := omega) only [mset_ne, mset_eq, mrow_ne, mrow_eq, upd_eq, upd_ne]
      exact e4 i hi
    · intro j hj
      simp only
      by_cases e : j = k
      · subst e
        simp (disch := omega) only [mset_ne, mset_eq, mrow_ne, mrow_eq, upd_eq, upd_ne]
      · simp (disch := omega) only [mset_ne, mset_eq, mrow_ne, mrow_eq, upd_eq, upd_ne]
        exact e5 j (by omega)
    · intro k k1 k2
      simp (disch := omega) only [mset_ne, mset_eq, mrow_ne, mrow_eq, upd_eq, upd_ne]
      exact e6 k k1 k2
  · rintro ⟨s1, s2⟩ ⟨e1, e2, e3, e4, e5, e6⟩
    simp only at e1 e2 e3 e4 e5 e6
    subst e1
    unfold b_X11_feed_18
    simp (disch := omega) only [J_lit, J_nI, J_add, J_sub, J_mul, J_neg, Int.cast_ofNat_Int, J_lt, J_le, J_eq, within0, isIn0, inRow0, isCell0, if_true, if_false, if_pos, if_neg]
    exact wp_some ⟨e2, e3, e4, e5, e6⟩
theorem p_feed10 (p1 p2 p3 p4 p5 : Int32) {n : Nat} (hn : n + 20 ≤ 400) {M : zM} (h0 : M 78 0 = J n) : Wp (f_X10_feed p1 p2 p3 p4 p5 M) (fun q => q.1 = J (n + 20 : Nat) ∧ q.2 78 0 = J (n + 20 : Nat) ∧ (∀ i, i ≠ 0 → q.2 78 i = M 78 i) ∧ (∀ i, i < n → q.2 79 i = M 79 i) ∧ (∀ i, i < 20 → q.2 79 (n + i) = byt (arg5 p1 p2 p3 p4 p5 (i / 4)) (i % 4)) ∧ ∀ k, k ≠ 78 → k ≠ 79 → q.2 k = M k) := by
  unfold f_X10_feed
  simp (disch := omega) only [J_lit, J_nI, J_add, J_sub, J_mul, J_neg, Int.cast_ofNat_Int, h0, J_lt, J_le, J_eq, within0, isIn0, inRow0, isCell0, if_true, if_false, if_pos, if_neg]
  refine wp_bind (wp_mono (p_put p1 (n := n) (by omega) h0) ?_)
  rintro A ⟨a1, a2, a3, a4, a5⟩
  refine wp_bind (wp_mono (p_put p2 (n := n + 4) (by omega) a1) ?_)
  rintro B ⟨b1, b2, b3, b4, b5⟩
  refine wp_bind (wp_mono (p_put p3 (n := n + 4 + 4) (by omega) b1) ?_)
  rintro C ⟨c1, c2, c3, c4, c5⟩
  refine wp_bind (wp_mono (p_put p4 (n := n + 4 + 4 + 4) (by omega) c1) ?_)
  rintro D ⟨d1, d2, d3, d4, d5⟩
  refine wp_bind (wp_mono (p_put p5 (n := n + 4 + 4 + 4 + 4) (by omega) d1) ?_)
  rintro E ⟨e1, e2, e3, e4, e5⟩
  refine wp_some ⟨e1, e1, ?_, ?_, ?_, ?_⟩
  · intro i hi
    dsimp only
    rw [e2 i hi, d2 i hi, c2 i hi, b2 i hi, a2 i hi]
  · intro i hi
    dsimp only
    rw [e3 i (by omega), d3 i (by omega), c3 i (by omega), b3 i (by omega), a3 i hi]
  · intro i hi
    simp only [arg5]
    rcases (show i / 4 = 0 ∨ i / 4 = 1 ∨ i / 4 = 2 ∨ i / 4 = 3 ∨ i / 4 = 4 by omega) with e | e | e | e | e
    · rw [e3 _ (by omega), d3 _ (by omega), c3 _ (by omega), b3 _ (by omega), show n + i = n + i % 4 by omega, a4 _ (by omega)]
      simp [e]
    · rw [e3 _ (by omega), d3 _ (by omega), c3 _ (by omega), show n + i = n + 4 + i % 4 by omega, b4 _ (by omega)]
      simp [e]
    · rw [e3 _ (by omega), d3 _ (by omega), show n + i = n + 4 + 4 + i % 4 by omega, c4 _ (by omega)]
      simp [e]
    · rw [e3 _ (by omega), show n + i = n + 4 + 4 + 4 + i % 4 by omega, d4 _ (by omega)]
      simp [e]
    · rw [show n + i = n + 4 + 4 + 4 + 4 + i % 4 by omega, e4 _ (by omega)]
      simp [e]
  · intro k k1 k2
    dsimp only
    rw [e5 k k1 k2, d5 k k1 k2, c5 k k1 k2, b5 k k1 k2, a5 k k1 k2]
theorem c_feed (p1 p2 p3 p4 p5 : Int32) : Cl2 (f_X10_feed p1 p2 p3 p4 p5) (f_X11_feed p1 p2 p3 p4 p5) := by
  rintro M N ⟨n, m, k, u, o, ks, a1, a2, a3, a4, a5, ⟨tn, t1, t2, t3, t4, t5, t6⟩, a7, a8, a9, a10⟩
  have hI : IC M N := ⟨n, m, k, u, o, ks, a1, a2, a3, a4, a5, ⟨tn, t1, t2, t3, t4, t5, t6⟩, a7, a8, a9, a10⟩
  by_cases c : tn + 20 ≤ 400
  · obtain ⟨⟨q1, M'⟩, e1, f0, f1, f2, f3, f4, f5⟩ := p_feed10 p1 p2 p3 p4 p5 c t2
    obtain ⟨N', e2, g1, g2, g3, g4, g5⟩ := p_feed11 p1 p2 p3 p4 p5 c t3
    simp only at f0 f1 f2 f3 f4 f5
    refine ⟨q1, M', N', e1, ?_, ⟨n, m, k, u, o, ks, a1, ?_, ?_, ?_, ?_, ?_, ?_, ?_, ?_, ?_⟩⟩
    · unfold f_X11_feed
      simp (disch := omega) only [J_lit, J_nI, J_add, J_sub, J_mul, J_neg, Int.cast_ofNat_Int, t3, J_lt, J_le, J_eq, within0, isIn0, inRow0, isCell0, if_true, if_false, if_pos, if_neg]
      rw [show (J 0, N) = ((0 : Int32), N) from rfl, e2, bind_some]
      unfold j_X11_feed_115
      rw [g1, f0]
    · rw [g5 258 (by omega) (by omega)]
      exact Sq_fr (fun j c1 c2 => f5 j (by omega) (by omega)) a2
    · rw [g5 258 (by omega) (by omega)]
      exact Tx_fr (fun j c1 c2 _ => f5 j (by omega) (by omega)) a3
    · rw [g5 258 (by omega) (by omega), f5 69 (by omega) (by omega)]
      exact a4
    · rw [g5 258 (by omega) (by omega)]
      exact Rw_fr (fun j c1 c2 => f5 j (by omega) (by omega)) (by rw [f5 70 (by omega) (by omega)]) (by rw [f5 70 (by omega) (by omega)]) a5
    · refine ⟨tn + 20, c, f1, g1, ?_, ?_, ?_⟩
      · intro i hi
        by_cases hi2 : i < tn
        · rw [f3 i hi2, g3 i hi2]
          exact t4 i hi2
        · obtain ⟨j, rfl⟩ : ∃ j, i = tn + j := ⟨i - tn, by omega⟩
          rw [f4 j (by omega), g4 j (by omega)]
          exact ⟨rfl, byt_lt _ _⟩
      · rw [f2 1 (by omega), g2 13 (by omega)]
        exact t5
      · rw [f2 2 (by omega), g2 14 (by omega)]
        exact t6
    · exact Un_fr (by rw [f5 0 (by omega) (by omega)]) (by rw [f5 0 (by omega) (by omega)]) (g2 4 (by omega)) (fun j c1 c2 => f5 j (by omega) (by omega)) (fun i _ => by rw [f5 69 (by omega) (by omega)]) (fun i _ _ => by rw [g5 258 (by omega) (by omega)]) (g5 261 (by omega) (by omega)) (Nat.le_refl _) a2.1.2.2 a7
    · exact Im_fr (by rw [f5 0 (by omega) (by omega)]) (fun j c1 c2 => f5 j (by omega) (by omega)) (g2 5 (by omega)) (fun i _ => by rw [g5 260 (by omega) (by omega)]) a8
    · exact Vl_fr (by rw [f5 95 (by omega) (by omega)]) (f5 99 (by omega) (by omega)) a9
    · rw [f5 83 (by omega) (by omega)]
      exact a10
  · unfold f_X10_feed f_X11_feed
    simp (disch := omega) only [J_lit, J_nI, J_add, J_sub, J_mul, J_neg, Int.cast_ofNat_Int, t2, t3, J_lt, J_le, J_eq, within0, isIn0, inRow0, isCell0, if_true, if_false, if_pos, if_neg]
    exact ⟨_, _, _, rfl, rfl, hI⟩
