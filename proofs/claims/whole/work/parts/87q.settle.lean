/-! ===== the reference's beginning and end of a text ===== -/
theorem LnR_ro2 {r1 r2 r3 r4 ρ ρ' : Nat → Int32} {k c0 c1 : Nat} (hk : k < 16) (h : ∀ j, 945 ≤ j → j < 1925 → ρ' j = ρ j) : LnR r1 r2 r3 r4 ρ k c0 c1 → LnR r1 r2 r3 r4 ρ' k c0 c1 := by
  rintro ⟨kind, fr, L1, h1, h2, h3, h4, h5, h6, h7, h8, h9, h10, h11, h12, h13, h14⟩
  have hl : fr + L1.length ≤ 450 := by
    rcases h14 with ⟨_, _, a⟩ | ⟨L2, _, _, _, _, _, _, a⟩ <;> omega
  refine ⟨kind, fr, L1, h1, h2, by rw [h _ (by omega) (by omega)]; exact h3, by rw [h _ (by omega) (by omega)]; exact h4, by rw [h _ (by omega) (by omega)]; exact h5, by rw [h _ (by omega) (by omega)]; exact h6, RdR_ro (fun j a b => h j (by omega) (by omega)) hl h7, h8, h9, h10, h11, h12, h13, ?_⟩
  rcases h14 with ⟨a1, a2, a3⟩ | ⟨L2, a1, a2, a3, a4, a5, a6, a7⟩
  · left
    exact ⟨by rw [h _ (by omega) (by omega)]; exact a1, a2, a3⟩
  · right
    exact ⟨L2, by rw [h _ (by omega) (by omega)]; exact a1, RdR_ro (fun j a b => h j (by omega) (by omega)) a7 a2, a3, a4, a5, a6, a7⟩
theorem LwR_ro2 {r0 r1 r2 r3 r4 ρ ρ' : Nat → Int32} (h0 : ρ' 941 = ρ 941) (h : ∀ j, 945 ≤ j → j < 1925 → ρ' j = ρ j) : LwR r0 r1 r2 r3 r4 ρ → LwR r0 r1 r2 r3 r4 ρ' := by
  rintro ⟨nl, c, h1, h2, h3, h4, h5⟩
  exact ⟨nl, c, h1, h2, by rw [h0]; exact h3, h4, fun k hk => LnR_ro2 (by omega) h (h5 k hk)⟩
theorem WyR_ro2 {r9 r10 r11 ρ ρ' : Nat → Int32} (h : ∀ j, 1925 ≤ j → j < 2325 → ρ' j = ρ j) : WyR r9 r10 r11 ρ → WyR r9 r10 r11 ρ' := by
  intro hy w hw
  obtain ⟨L, h1, h2, h3, h4⟩ := hy w hw
  refine ⟨L, h1, h2, by rw [h _ (by omega) (by omega)]; exact h3, fun i hi => ?_⟩
  rw [h _ (by omega) (by omega), h _ (by omega) (by omega)]
  exact h4 i hi
theorem HrR_ro2 {r7 r12 r13 ρ ρ' : Nat → Int32} (h : ∀ j, 2325 ≤ j → j < 2357 → ρ' j = ρ j) : HrR r7 r12 r13 ρ → HrR r7 r12 r13 ρ' := by
  rintro ⟨nh, h1, h2, h3⟩
  refine ⟨nh, h1, h2, fun i hi => ?_⟩
  rw [h _ (by omega) (by omega), h _ (by omega) (by omega)]
  exact h3 i hi
def tx40 (N : zM) : zM := mset (mset (mset (mset (mset (mset (mset (mset N 257 8 (N 257 7)) 257 7 (J 0)) 257 9 (J 0)) 257 10 (J (-1))) 257 11 (J 0)) 257 12 (J 0)) 257 13 (J 0)) 257 14 (J (-1))
def tx72 (N : zM) : zM := mset (mrow (tx40 N) 263 (va_cpy (N 258) (N 263) 0 0 2425)) 257 17 (J 0)
theorem tx72_f (N : zM) : (∀ j, j ≠ 257 → j ≠ 263 → tx72 N j = N j) ∧ (tx72 N 257 4 = N 257 4 ∧ tx72 N 257 5 = N 257 5 ∧ tx72 N 257 7 = J 0 ∧ tx72 N 257 8 = N 257 7 ∧ tx72 N 257 9 = J 0 ∧ tx72 N 257 10 = J (-1)) ∧ (tx72 N 257 12 = J 0 ∧ tx72 N 257 13 = J 0 ∧ tx72 N 257 14 = J (-1) ∧ tx72 N 257 17 = J 0) ∧ ∀ i, i < 2425 → tx72 N 263 i = N 258 i := by
  unfold tx72 tx40
  refine ⟨fun j h1 h2 => by simp (disch := omega) only [mset_ne, mset_eq, mrow_ne, mrow_eq, upd_eq, upd_ne], ⟨by simp (disch := omega) only [mset_ne, mset_eq, mrow_ne, mrow_eq, upd_eq, upd_ne], by simp (disch := omega) only [mset_ne, mset_eq, mrow_ne, mrow_eq, upd_eq, upd_ne], by simp (disch := omega) only [mset_ne, mset_eq, mrow_ne, mrow_eq, upd_eq, upd_ne], by simp (disch := omega) only [mset_ne, mset_eq, mrow_ne, mrow_eq, upd_eq, upd_ne], by simp (disch := omega) only [mset_ne, mset_eq, mrow_ne, mrow_eq, upd_eq, upd_ne], by simp (disch := omega) only [mset_ne, mset_eq, mrow_ne, mrow_eq, upd_eq, upd_ne]⟩, ⟨by simp (disch := omega) only [mset_ne, mset_eq, mrow_ne, mrow_eq, upd_eq, upd_ne], by simp (disch := omega) only [mset_ne, mset_eq, mrow_ne, mrow_eq, upd_eq, upd_ne], by simp (disch := omega) only [mset_ne, mset_eq, mrow_ne, mrow_eq, upd_eq, upd_ne], by simp (disch := omega) only [mset_ne, mset_eq, mrow_ne, mrow_eq, upd_eq, upd_ne]⟩, fun i hi => ?_⟩
  simp (disch := omega) only [mset_ne, mset_eq, mrow_ne, mrow_eq, upd_eq, upd_ne]
  exact cpy_in hi
theorem tx_40 {z : Int} (h1 : -2147483648 ≤ z) (h2 : z < 2147483648) (N : zM) (h : z < 0 ∨ 3 < z) : f_X11_text (J z) N = some (J (-1), tx40 N) := by
  unfold f_X11_text f_X11_within tx40
  have w : (if J z < J 0 then J 0 else if J 3 < J z then J 0 else J 1) = J 0 := by
    rcases h with h | h
    · rw [if_pos (by rw [J_lt (by omega) (by omega) (by omega) (by omega)]; omega)]
    · rw [if_neg (by rw [J_lt (by omega) (by omega) (by omega) (by omega)]; omega), if_pos (by rw [J_lt (by omega) (by omega) (by omega) (by omega)]; omega)]
  simp (disch := omega) only [↓nm_s, J_lit, J_neg, Int.cast_ofNat_Int, w, if_true, mset_ne, mset_eq, mrow_ne, mrow_eq, upd_eq, upd_ne]
def Zk (k i : Nat) : Prop := k = 1 ∧ i < 144 ∨ k = 2 ∧ 1925 ≤ i ∧ i < 2325
theorem tx_82 (a b : Int32) (N : zM) : Wp (loopW (fun s => b_X11_text_82 a b s.1 s.2) (J 0, N)) (fun N1 => (∀ j, j ≠ 263 → N1 j = N j) ∧ ∀ i, (i < 144 → N1 263 i = J 0) ∧ (144 ≤ i → N1 263 i = N 263 i)) := by
  refine loop_up (fun k s => s.1 = J k ∧ (∀ j, j ≠ 263 → s.2 j = N j) ∧ ∀ i, (i < k → s.2 263 i = J 0) ∧ (k ≤ i → s.2 263 i = N 263 i)) 144 ⟨rfl, fun _ _ => rfl, fun i => ⟨fun h => by omega, fun _ => rfl⟩⟩ ?_ ?_
  · rintro k ⟨s, A⟩ hk ⟨e1, e2, e3⟩
    simp only at e1 e2 e3
    subst e1
    unfold b_X11_text_82
    simp (disch := omega) only [↓nm_s, ↓grd_s, ↓reduceIte, J_lit, Int.cast_ofNat_Int, J_lt_t, J_lt_f, J_le_t, J_le_f, J_eq_t, J_eq_f, within_t, within_f, isIn_t, isIn_f, inRow_t, inRow_f, isCell_t, isCell_f, inb_t, ix_Jn, ix_J, Int.reduceToNat, Int.toNat_natCast]
    refine wp_some ⟨J_s k, fun j hj => by simp only; rw [mset_ne (by omega)]; exact e2 j hj, fun i => ⟨fun h => ?_, fun h => ?_⟩⟩
    · simp only
      by_cases c : i = k
      · subst c; simp (disch := omega) only [mset_ne, mset_eq, mrow_ne, mrow_eq, upd_eq, upd_ne]
      · simp (disch := omega) only [mset_ne, mset_eq, mrow_ne, mrow_eq, upd_eq, upd_ne]; exact (e3 i).1 (by omega)
    · simp only
      simp (disch := omega) only [mset_ne, mset_eq, mrow_ne, mrow_eq, upd_eq, upd_ne]
      exact (e3 i).2 (by omega)
  · rintro ⟨s, A⟩ ⟨e1, e2, e3⟩
    simp only at e1 e2 e3
    subst e1
    unfold b_X11_text_82
    simp (disch := omega) only [↓nm_s, ↓grd_s, ↓reduceIte, J_lit, Int.cast_ofNat_Int, J_lt_t, J_lt_f, J_le_t, J_le_f, J_eq_t, J_eq_f, within_t, within_f, isIn_t, isIn_f, inRow_t, inRow_f, isCell_t, isCell_f, inb_t, ix_Jn, ix_J, Int.reduceToNat, Int.toNat_natCast]
    exact wp_some ⟨e2, e3⟩
theorem tx_111 (a b : Int32) (N : zM) : Wp (loopW (fun s => b_X11_text_111 a b s.1 s.2) (J 1925, N)) (fun N1 => (∀ j, j ≠ 263 → N1 j = N j) ∧ ∀ i, (1925 ≤ i ∧ i < 2325 → N1 263 i = J 0) ∧ (¬ (1925 ≤ i ∧ i < 2325) → N1 263 i = N 263 i)) := by
  refine loop_fr (fun k s => s.1 = J k ∧ (∀ j, j ≠ 263 → s.2 j = N j) ∧ ∀ i, (1925 ≤ i ∧ i < k → s.2 263 i = J 0) ∧ (¬ (1925 ≤ i ∧ i < k) → s.2 263 i = N 263 i)) 1925 2325 (by omega) ⟨rfl, fun _ _ => rfl, fun i => ⟨fun h => by omega, fun _ => rfl⟩⟩ ?_ ?_
  · rintro k ⟨s, A⟩ hk0 hk ⟨e1, e2, e3⟩
    simp only at e1 e2 e3
    subst e1
    unfold b_X11_text_111
    simp (disch := omega) only [↓nm_s, ↓grd_s, ↓reduceIte, J_lit, Int.cast_ofNat_Int, J_lt_t, J_lt_f, J_le_t, J_le_f, J_eq_t, J_eq_f, within_t, within_f, isIn_t, isIn_f, inRow_t, inRow_f, isCell_t, isCell_f, inb_t, ix_Jn, ix_J, Int.reduceToNat, Int.toNat_natCast]
    refine wp_some ⟨J_s k, fun j hj => by simp only; rw [mset_ne (by omega)]; exact e2 j hj, fun i => ⟨fun h => ?_, fun h => ?_⟩⟩
    · simp only
      by_cases c : i = k
      · subst c; simp (disch := omega) only [mset_ne, mset_eq, mrow_ne, mrow_eq, upd_eq, upd_ne]
      · simp (disch := omega) only [mset_ne, mset_eq, mrow_ne, mrow_eq, upd_eq, upd_ne]; exact (e3 i).1 (by omega)
    · simp only
      have : i ≠ k := by omega
      simp (disch := omega) only [mset_ne, mset_eq, mrow_ne, mrow_eq, upd_eq, upd_ne]
      exact (e3 i).2 (by omega)
  · rintro ⟨s, A⟩ ⟨e1, e2, e3⟩
    simp only at e1 e2 e3
    subst e1
    unfold b_X11_text_111
    simp (disch := omega) only [↓nm_s, ↓grd_s, ↓reduceIte, J_lit, Int.cast_ofNat_Int, J_lt_t, J_lt_f, J_le_t, J_le_f, J_eq_t, J_eq_f, within_t, within_f, isIn_t, isIn_f, inRow_t, inRow_f, isCell_t, isCell_f, inb_t, ix_Jn, ix_J, Int.reduceToNat, Int.toNat_natCast]
    exact wp_some ⟨e2, e3⟩
theorem LN263' : LN 263 = 2425 := by decide +kernel
theorem tx_begin {k : Nat} (hk : k < 4) (N : zM) : ∃ N1, (∀ j, j ≠ 263 → N1 j = tx72 N j) ∧ (∀ i, i < 2425 → (Zk k i → N1 263 i = J 0) ∧ (¬ Zk k i → N1 263 i = N 258 i)) ∧ f_X11_text (J k) N = (loopW (fun s => b_X11_text_131 (J k) s.1 s.2) (J 0, N1)).bind (fun r => j_X11_text_211 (J k) r.1 r.2) := by
  have ec := t_copies (a := 258) (b := 263) (n := 2425) (tx40 N) (by decide) (by rw [LN258]; decide) (by rw [LN263']; decide) (by decide)
  have e1 : tx40 N 258 = N 258 := by unfold tx40; simp (disch := omega) only [mset_ne, mset_eq, mrow_ne, mrow_eq, upd_eq, upd_ne]
  have e2 : tx40 N 263 = N 263 := by unfold tx40; simp (disch := omega) only [mset_ne, mset_eq, mrow_ne, mrow_eq, upd_eq, upd_ne]
  rw [e1, e2] at ec
  have ec' : f_X11_copies 258 263 (J 2425) (mset (mset (mset (mset (mset (mset (mset (mset N 257 8 (N 257 7)) 257 7 (J 0)) 257 9 (J 0)) 257 10 (J (-1))) 257 11 (J 0)) 257 12 (J 0)) 257 13 (J 0)) 257 14 (J (-1))) = some (mrow (tx40 N) 263 (va_cpy (N 258) (N 263) 0 0 2425)) := ec
  have ht := (tx72_f N).2.2.2
  have start : f_X11_text (J k) N = if J (k : Int) = J 1 then (loopW (fun s => b_X11_text_82 (J k) (J 0) s.1 s.2) (J 0, tx72 N)).bind (fun r => j_X11_text_102 (J k) (J 0) r) else j_X11_text_102 (J k) (J 0) (tx72 N) := by
    unfold f_X11_text f_X11_within
    simp (disch := omega) only [↓nm_s, ↓reduceIte, J_lit, J_neg, Int.cast_ofNat_Int, J_lt_t, J_lt_f, J_le_t, J_le_f, J_eq_t, J_eq_f, within_t, within_f, isIn_t, isIn_f, inRow_t, inRow_f, isCell_t, isCell_f, inb_t, ec', bind_s]
    rfl
  rw [start]
  unfold j_X11_text_102
  rcases (show k = 0 ∨ k = 1 ∨ k = 2 ∨ k = 3 by omega) with e | e | e | e
  · subst e
    refine ⟨tx72 N, fun _ _ => rfl, fun i hi => ⟨fun h => by unfold Zk at h; omega, fun _ => ht i hi⟩, ?_⟩
    rw [if_neg (by decide), if_neg (by decide)]
  · subst e
    obtain ⟨N1, q1, q2, q3⟩ := tx_82 (J 1) (J 0) (tx72 N)
    refine ⟨N1, q2, fun i hi => ⟨fun h => (q3 i).1 (by unfold Zk at h; omega), fun h => ?_⟩, ?_⟩
    · rw [(q3 i).2 (by unfold Zk at h; omega)]
      exact ht i hi
    · have q1' : loopW (fun s => b_X11_text_82 (J ((1 : Nat) : Int)) (J 0) s.1 s.2) (J 0, tx72 N) = some N1 := q1
      rw [if_pos (by decide), q1']
      simp only [bind_s]
      rw [if_neg (by decide)]
  · subst e
    obtain ⟨N1, q1, q2, q3⟩ := tx_111 (J 2) (J 0) (tx72 N)
    refine ⟨N1, q2, fun i hi => ⟨fun h => (q3 i).1 (by unfold Zk at h; omega), fun h => ?_⟩, ?_⟩
    · rw [(q3 i).2 (by unfold Zk at h; omega)]
      exact ht i hi
    · have q1' : loopW (fun s => b_X11_text_111 (J ((2 : Nat) : Int)) (J 0) s.1 s.2) ((1925 : Int32), tx72 N) = some N1 := q1
      rw [if_neg (by decide), if_pos (by rfl), q1']
      simp only [bind_s]
  · subst e
    refine ⟨tx72 N, fun _ _ => rfl, fun i hi => ⟨fun h => by unfold Zk at h; omega, fun _ => ht i hi⟩, ?_⟩
    rw [if_neg (by decide), if_neg (by decide)]
/-- what both have behind the reading -/
def Ga (M N M' N' : zM) : Prop := (∀ j, (j < 54 ∨ 68 ≤ j) → j ≠ 78 → j ≠ 80 → j ≠ 81 → j ≠ 82 → M' j = M j) ∧ M' 78 0 = J 0 ∧ (∀ j, j ≠ 257 → j ≠ 263 → j ≠ 264 → N' j = N j) ∧ N' 257 4 = N 257 4 ∧ N' 257 5 = N 257 5 ∧ N' 257 7 = J 0 ∧ N' 257 13 = J 0 ∧ N' 257 14 = J (-1)
theorem Ga_of {M N M12 N1 M' N' : zM} (h1 : ∀ j, j ≠ 78 → j ≠ 80 → j ≠ 81 → j ≠ 82 → M12 j = M j) (h2 : M12 78 0 = J 0) (h3 : ∀ j, j ≠ 263 → N1 j = tx72 N j) (fC : FrC M12 M') (fN : FrN N1 N') : Ga M N M' N' := by
  obtain ⟨t1, t2, t3, t4⟩ := tx72_f N
  have e7 : ∀ i, i ≠ 9 → i ≠ 10 → i ≠ 11 → i ≠ 12 → i ≠ 17 → i ≠ 19 → N' 257 i = tx72 N 257 i := fun i a b c d e f => by rw [fN.2 i a b c d e f, h3 257 (by omega)]
  refine ⟨fun j c1 c2 c3 c4 c5 => by rw [fC.1 j c2 c1]; exact h1 j c2 c3 c4 c5, by rw [fC.2 0 (by omega) (by omega) (by omega)]; exact h2, fun j c1 c2 c3 => by rw [fN.1 j c1 c2 c3, h3 j c2]; exact t1 j c1 c2, ?_, ?_, ?_, ?_, ?_⟩
  · rw [e7 4 (by omega) (by omega) (by omega) (by omega) (by omega) (by omega)]; exact t2.1
  · rw [e7 5 (by omega) (by omega) (by omega) (by omega) (by omega) (by omega)]; exact t2.2.1
  · rw [e7 7 (by omega) (by omega) (by omega) (by omega) (by omega) (by omega)]; exact t2.2.2.1
  · rw [e7 13 (by omega) (by omega) (by omega) (by omega) (by omega) (by omega)]; exact t3.2.1
  · rw [e7 14 (by omega) (by omega) (by omega) (by omega) (by omega) (by omega)]; exact t3.2.2.1
theorem tx_fail {M N M' N' : zM} (hI : IC M N) (hG : Ga M N M' N') (hF : FL M' N') (k : Int32) : ∃ N2, (∀ v, j_X11_text_211 k v N' = some (J (-1), N2)) ∧ IC M' N2 := by
  obtain ⟨kf, pf, p1, p2, p3, p4, p5⟩ := hF
  have ff := fine_f (show pf < 2147483648 by omega) p5
  obtain ⟨n, m, k, u, o, ks, a1, a2, a3, a4, a5, a6, a7, a8, a9, a10⟩ := hI
  obtain ⟨g1, g2, g3, g4, g5, g6, g7, g8⟩ := hG
  refine ⟨mset (mset N' 257 13 (J kf)) 257 14 (J pf), fun v => ?_, ?_⟩
  · unfold j_X11_text_211
    rw [if_pos (show f_X11_fine N' = (0 : Int32) from ff)]
    simp (disch := omega) only [↓nm_s, mset_ne, mset_eq, mrow_ne, mrow_eq, upd_eq, upd_ne, p4, p5]
    rfl
  · have e8 : mset (mset N' 257 13 (J kf)) 257 14 (J pf) 258 = N 258 := by
      simp (disch := omega) only [mset_ne, mset_eq, mrow_ne, mrow_eq, upd_eq, upd_ne]
      exact g3 258 (by decide) (by decide) (by decide)
    refine IC_txs a1 a2 a4 a5 a8 a9 a10 (u' := u) (o' := o) (ks' := ks) ?_ ?_ ?_ (fun i _ => by rw [e8]) ?_ (fun j c1 c2 c3 c4 c5 c6 => g1 j (by omega) c3 c4 c5 c6) g2 (by simp (disch := omega) only [mset_ne, mset_eq, mrow_ne, mrow_eq, upd_eq, upd_ne]; exact p2) (by simp (disch := omega) only [mset_ne, mset_eq, mrow_ne, mrow_eq, upd_eq, upd_ne]; exact p3) (by simp (disch := omega) only [mset_ne, mset_eq, mrow_ne, mrow_eq, upd_eq, upd_ne]; exact g5) (by simp (disch := omega) only [mset_ne, mset_eq, mrow_ne, mrow_eq, upd_eq, upd_ne]; exact g6) (by simp (disch := omega) only [mset_ne, mset_eq, mrow_ne, mrow_eq, upd_eq, upd_ne]; exact g3 260 (by decide) (by decide) (by decide))
    · rw [e8]
      exact Sq_fr (fun j c1 c2 => g1 j (by omega) (by omega) (by omega) (by omega) (by omega)) a2
    · rw [e8]
      exact Tx_fr (fun j c1 c2 c3 => g1 j (by omega) (by omega) (by omega) (by omega) (by omega)) a3
    · exact Un_ro2 (by rw [g1 0 (by omega) (by omega) (by omega) (by omega) (by omega)]) (by rw [g1 0 (by omega) (by omega) (by omega) (by omega) (by omega)]) (by simp (disch := omega) only [mset_ne, mset_eq, mrow_ne, mrow_eq, upd_eq, upd_ne]; exact g4) (fun j c1 c2 => g1 j (by omega) (by omega) (by omega) (by omega) (by omega)) (g1 69 (by omega) (by omega) (by omega) (by omega) (by omega)) (fun i _ => by rw [e8]) (by simp (disch := omega) only [mset_ne, mset_eq, mrow_ne, mrow_eq, upd_eq, upd_ne]; exact g3 261 (by decide) (by decide) (by decide)) a2.1.2.2 a7
    · rw [g1 0 (by omega) (by omega) (by omega) (by omega) (by omega)]
