/-! ===== the reference reads ===== -/
theorem mset_id {N : zM} {a j : Nat} {v : Int32} (h : N a j = v) : mset N a j v = N := by
  funext k i
  rw [mset_get]
  by_cases q : k = a ∧ i = j
  · rw [if_pos q, q.1, q.2, h]
  · rw [if_neg q]
theorem mset_2 (N : zM) (a j : Nat) (u v : Int32) : mset (mset N a j u) a j v = mset N a j v := by
  funext k i
  rw [mset_get, mset_get, mset_get]
  by_cases q : k = a ∧ i = j
  · rw [if_pos q, if_pos q]
  · rw [if_neg q, if_neg q, if_neg q]
theorem r_here {N : zM} {tp : Nat → Nat} {n q p : Nat} (h8 : N 257 8 = J n) (hT : TpR (N 262) tp n) (h9 : N 257 9 = J q) (hE : IsE (fun i => isBl (tp i)) n q p) : f_X11_here N = some (J ((if p < n then tp p else 0 : Nat) : Int), mset N 257 9 (J p)) := by
  have hn := hT.1
  have hp := hE.2.1
  have key : Wp (loopW (fun s => b_X11_here_0 s) N) (fun N' => N' = mset N 257 9 (J p)) := by
    refine loop_fr (fun k s => s = mset N 257 9 (J k)) q p hE.1 (mset_id h9).symm ?_ ?_
    · rintro k s h1 h2 rfl
      obtain ⟨q1, q2⟩ := hT.2 k (by omega)
      have hb := hE.2.2.1 k h1 h2
      unfold b_X11_here_0 j_X11_here_39_0
      by_cases c : tp k = 32
      · simp (disch := omega) only [↓nm_s, ↓grd_s, ↓reduceIte, J_lit, Int.cast_ofNat_Int, J_lt_t, J_lt_f, J_le_t, J_le_f, J_eq_t, J_eq_f, within_t, within_f, isIn_t, isIn_f, inRow_t, inRow_f, isCell_t, isCell_f, inb_t, ix_Jn, ix_J, Int.reduceToNat, Int.toNat_natCast, mset_ne, mset_eq, mrow_ne, mrow_eq, upd_eq, upd_ne, h8, q1, mset_2]
        exact wp_some (by rw [J_s]; rfl)
      · have c2 : tp k = 10 := by
          rcases hb with r | r
          · exact absurd r c
          · exact r
        simp (disch := omega) only [↓nm_s, ↓grd_s, ↓reduceIte, J_lit, Int.cast_ofNat_Int, J_lt_t, J_lt_f, J_le_t, J_le_f, J_eq_t, J_eq_f, within_t, within_f, isIn_t, isIn_f, inRow_t, inRow_f, isCell_t, isCell_f, inb_t, ix_Jn, ix_J, Int.reduceToNat, Int.toNat_natCast, mset_ne, mset_eq, mrow_ne, mrow_eq, upd_eq, upd_ne, h8, q1, mset_2]
        exact wp_some (by rw [J_s]; rfl)
    · rintro s rfl
      unfold b_X11_here_0
      by_cases c : n ≤ p
      · simp (disch := omega) only [↓nm_s, ↓grd_s, ↓reduceIte, J_lit, Int.cast_ofNat_Int, J_lt_t, J_lt_f, J_le_t, J_le_f, J_eq_t, J_eq_f, within_t, within_f, isIn_t, isIn_f, inRow_t, inRow_f, isCell_t, isCell_f, inb_t, ix_Jn, ix_J, Int.reduceToNat, Int.toNat_natCast, mset_ne, mset_eq, mrow_ne, mrow_eq, upd_eq, upd_ne, h8]
        exact wp_some rfl
      · obtain ⟨q1, q2⟩ := hT.2 p (by omega)
        have hb : ¬ isBl (tp p) := by
          rcases hE.2.2.2 with r | r
          · omega
          · exact r
        have c1 : tp p ≠ 32 := fun r => hb (Or.inl r)
        have c2 : tp p ≠ 10 := fun r => hb (Or.inr r)
        simp (disch := omega) only [↓nm_s, ↓grd_s, ↓reduceIte, J_lit, Int.cast_ofNat_Int, J_lt_t, J_lt_f, J_le_t, J_le_f, J_eq_t, J_eq_f, within_t, within_f, isIn_t, isIn_f, inRow_t, inRow_f, isCell_t, isCell_f, inb_t, ix_Jn, ix_J, Int.reduceToNat, Int.toNat_natCast, mset_ne, mset_eq, mrow_ne, mrow_eq, upd_eq, upd_ne, h8, q1]
        exact wp_some rfl
  obtain ⟨N', e, rfl⟩ := key
  unfold f_X11_here j_X11_here_52
  rw [e]
  by_cases c : p < n
  · obtain ⟨q1, q2⟩ := hT.2 p c
    rw [if_pos c]
    simp (disch := omega) only [bind_s, ↓nm_s, ↓grd_s, ↓reduceIte, J_lit, Int.cast_ofNat_Int, J_lt_t, J_lt_f, J_le_t, J_le_f, J_eq_t, J_eq_f, within_t, within_f, isIn_t, isIn_f, inRow_t, inRow_f, isCell_t, isCell_f, inb_t, ix_Jn, ix_J, Int.reduceToNat, Int.toNat_natCast, mset_ne, mset_eq, mrow_ne, mrow_eq, upd_eq, upd_ne, h8, q1]
  · rw [if_neg c]
    simp (disch := omega) only [bind_s, ↓nm_s, ↓grd_s, ↓reduceIte, J_lit, Int.cast_ofNat_Int, J_lt_t, J_lt_f, J_le_t, J_le_f, J_eq_t, J_eq_f, within_t, within_f, isIn_t, isIn_f, inRow_t, inRow_f, isCell_t, isCell_f, inb_t, ix_Jn, ix_J, Int.reduceToNat, Int.toNat_natCast, mset_ne, mset_eq, mrow_ne, mrow_eq, upd_eq, upd_ne, h8]
theorem r_pass {N : zM} {tp : Nat → Nat} {n q e : Nat} (h8 : N 257 8 = J n) (hT : TpR (N 262) tp n) (h9 : N 257 9 = J q) (hE : IsE (fun i => isLet (tp i)) n q e) : f_X11_pass N = some (mset N 257 9 (J e)) := by
  have hn := hT.1
  have hp := hE.2.1
  have key : Wp (loopW (fun s => b_X11_pass_0 s) N) (fun N' => N' = mset N 257 9 (J e)) := by
    refine loop_fr (fun k s => s = mset N 257 9 (J k)) q e hE.1 (mset_id h9).symm ?_ ?_
    · rintro k s h1 h2 rfl
      obtain ⟨q1, q2⟩ := hT.2 k (by omega)
      have hl := ((lt_5 (tp k) q2).1 (hE.2.2.1 k h1 h2)).2
      unfold b_X11_pass_0
      simp (disch := omega) only [↓nm_s, ↓grd_s, ↓reduceIte, J_lit, Int.cast_ofNat_Int, J_lt_t, J_lt_f, J_le_t, J_le_f, J_eq_t, J_eq_f, within_t, within_f, isIn_t, isIn_f, inRow_t, inRow_f, isCell_t, isCell_f, inb_t, ix_Jn, ix_J, Int.reduceToNat, Int.toNat_natCast, mset_ne, mset_eq, mrow_ne, mrow_eq, upd_eq, upd_ne, h8, q1, hl, mset_2]
      exact wp_some (by rw [J_s]; rfl)
    · rintro s rfl
      unfold b_X11_pass_0
      by_cases c : n ≤ e
      · simp (disch := omega) only [↓nm_s, ↓grd_s, ↓reduceIte, J_lit, Int.cast_ofNat_Int, J_lt_t, J_lt_f, J_le_t, J_le_f, J_eq_t, J_eq_f, within_t, within_f, isIn_t, isIn_f, inRow_t, inRow_f, isCell_t, isCell_f, inb_t, ix_Jn, ix_J, Int.reduceToNat, Int.toNat_natCast, mset_ne, mset_eq, mrow_ne, mrow_eq, upd_eq, upd_ne, h8]
        exact wp_some rfl
      · obtain ⟨q1, q2⟩ := hT.2 e (by omega)
        have hb : ¬ isLet (tp e) := by
          rcases hE.2.2.2 with r | r
          · omega
          · exact r
        have hl := ((lt_5 (tp e) q2).2.1 hb).2
        simp (disch := omega) only [↓nm_s, ↓grd_s, ↓reduceIte, J_lit, Int.cast_ofNat_Int, J_lt_t, J_lt_f, J_le_t, J_le_f, J_eq_t, J_eq_f, within_t, within_f, isIn_t, isIn_f, inRow_t, inRow_f, isCell_t, isCell_f, inb_t, ix_Jn, ix_J, Int.reduceToNat, Int.toNat_natCast, mset_ne, mset_eq, mrow_ne, mrow_eq, upd_eq, upd_ne, h8, q1, hl]
        exact wp_some rfl
  obtain ⟨N', e', rfl⟩ := key
  unfold f_X11_pass j_X11_pass_39
  rw [e']
  rfl
/-! words, five bits a letter -/
def pkf (d : Nat → Nat) : Nat → Nat
  | 0 => 0
  | r + 1 => 32 * pkf d r + d r
theorem pkf_lt {d : Nat → Nat} : ∀ r, (∀ t, t < r → d t < 32) → pkf d r < 32 ^ r := by
  intro r
  induction r with
  | zero => intro _; simp [pkf]
  | succ r ih =>
    intro h
    have := ih (fun t ht => h t (by omega))
    have := h r (by omega)
    simp only [pkf]
    rw [Nat.pow_succ]
    omega
theorem pkf_inj {d d' : Nat → Nat} : ∀ r s, (∀ t, t < r → 1 ≤ d t ∧ d t < 32) → (∀ t, t < s → 1 ≤ d' t ∧ d' t < 32) → pkf d r = pkf d' s → r = s ∧ ∀ t, t < r → d t = d' t := by
  intro r
  induction r with
  | zero =>
    intro s _ h2 h
    cases s with
    | zero => exact ⟨rfl, fun t ht => by omega⟩
    | succ s =>
      have := (h2 s (by omega)).1
      simp only [pkf] at h
      omega
  | succ r ih =>
    intro s h1 h2 h
    cases s with
    | zero =>
      have := (h1 r (by omega)).1
      simp only [pkf] at h
      omega
    | succ s =>
      have a := h1 r (by omega)
      have b := h2 s (by omega)
      simp only [pkf] at h
      obtain ⟨e1, e2⟩ := ih s (fun t ht => h1 t (by omega)) (fun t ht => h2 t (by omega)) (by omega)
      refine ⟨by omega, fun t ht => ?_⟩
      by_cases e : t = r
      · subst e1 e; omega
      · exact e2 t (by omega)
theorem t_packed {v c : Nat} (hv : v < 33554432) (h1 : 97 ≤ c) (h2 : c ≤ 122) : f_X11_packed (J v) (J c) = J (32 * v + (c - 96) : Nat) := by
  unfold f_X11_packed
  have e1 : J (c : Int) - (96 : Int32) = J ((c - 96 : Nat) : Int) := by
    rw [show (96 : Int32) = J 96 from rfl, J_sub]; exact congrArg J (by omega)
  rw [e1]
  apply Int32.toBitVec_inj.1
  have hb : ((5 : Int32) &&& 31).toBitVec.smod 32 = 5#32 := by decide
  rw [Int32.toBitVec_or, Int32.toBitVec_shiftLeft, hb]
  have jb : ∀ w : Nat, (J (w : Int)).toBitVec = BitVec.ofNat 32 w := fun w => BitVec.ofInt_natCast 32 w
  rw [jb, jb, jb]
  apply BitVec.eq_of_toNat_eq
  rw [BitVec.toNat_or, BitVec.shiftLeft_eq', BitVec.toNat_shiftLeft, BitVec.toNat_ofNat, BitVec.toNat_ofNat, BitVec.toNat_ofNat, BitVec.toNat_ofNat]
  rw [Nat.mod_eq_of_lt (show v < 2 ^ 32 by omega), Nat.mod_eq_of_lt (show c - 96 < 2 ^ 32 by omega), Nat.mod_eq_of_lt (show 5 < 2 ^ 32 by decide)]
  have e2 : v <<< 5 = 32 * v := by rw [Nat.shiftLeft_eq]; omega
  rw [e2, Nat.mod_eq_of_lt (show 32 * v < 2 ^ 32 by omega), Nat.mod_eq_of_lt (show 32 * v + (c - 96) < 2 ^ 32 by omega)]
  rw [← e2]
  exact (Nat.shiftLeft_add_eq_or_of_lt (show c - 96 < 2 ^ 5 by omega) v).symm
