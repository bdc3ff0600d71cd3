/-! ===== a minute ===== -/
def Md (M N M' N' : zM) (n m b k k' : Nat) : Prop :=
  Dy M' N' n m b k' ∧ k ≤ k' ∧ (∀ j, j = 0 ∨ j = 3 ∨ (20 ≤ j ∧ j ≠ 46 ∧ j ≠ 69 ∧ j ≠ 83 ∧ j ≠ 84) → M' j = M j) ∧ (∀ i, i ≠ 1 → M' 83 i = M 83 i) ∧ (∀ i, i < 4 * k → M' 69 i = M 69 i) ∧
  (∀ j, j ≠ 259 → j ≠ 265 → j ≠ 266 → N' j = N j) ∧ (∀ i, i < 144 ∨ 940 ≤ i → N' 259 i = N 259 i) ∧ (∃ d, M' 83 1 = M 83 1 + d ∧ csR (N' 259) n = csR (N 259) n + d)
theorem Md_id {M N : zM} {n m b k : Nat} (h : Dy M N n m b k) : Md M N M N n m b k k := ⟨h, Nat.le_refl _, fun _ _ => rfl, fun _ _ => rfl, fun _ _ => rfl, fun _ _ _ _ => rfl, fun _ _ => rfl, J 0, (Int32.add_zero _).symm, (Int32.add_zero _).symm⟩
theorem Md_sy {w : Nat} {M N M1 N1 M2 N2 : zM} {n m b k k1 k2 : Nat} (h1 : Md M N M1 N1 n m b k k1) (h2 : Sy w M1 N1 M2 N2 n m b k1 k2) : Md M N M2 N2 n m b k k2 := by
  obtain ⟨a1, a2, a3, a4, a5, a6, a7, d, a8, a9⟩ := h1
  obtain ⟨b1, b2, b3, b4, b5, b6, b7, e, b8, b9⟩ := h2
  refine ⟨b1, by omega, fun j hj => by rw [b3 j (by unfold clF; omega), a3 j hj], fun i hi => by rw [b4 i hi, a4 i hi], fun i hi => by rw [b5 i (by omega), a5 i hi], fun j c1 c2 c3 => by rw [b6 j c1 c2 c3, a6 j c1 c2 c3], fun i hi => by rw [b7 i (by unfold rfF; omega), a7 i hi], d + e, ?_, ?_⟩
  · rw [b8, a8, Int32.add_assoc]
  · rw [b9, a9, Int32.add_assoc]
theorem s_min {M N : zM} {n m k : Nat} (h : Dy M N n m m k) (hm : m ≤ 10090) (ht : M 83 0 = N 257 6) (htb : M 83 0 = 0 ∨ M 83 0 = 1) :
    ∃ M' N' k', f_X1_pass M = some M' ∧ f_X11_goesMinute N = some N' ∧ Md M N M' N' n (m + 1) (m + 1) k k' := by
  have hn := h.1.1.1
  have h0 : Dy M N n m (m + 1) k := by
    obtain ⟨⟨b1, b2, b3, b4, b5, b6⟩, c2, c3⟩ := h
    exact ⟨⟨b1, b2, b3, b4, fun w hw => WkR_mo (by omega) (b5 w hw), b6⟩, c2, c3⟩
  have key : W2 (loopW (fun s => b_X1_pass_2 s.1 s.2) (J 0, M)) (loopW (fun s => b_X11_goesMinute_2 s.1 s.2) (J 0, N)) (fun A B => ∃ k', Md M N A B n m (m + 1) k k') := by
    refine loopR (fun i s t => s.1 = J i ∧ t.1 = J i ∧ (∃ k', Md M N s.2 t.2 n m (m + 1) k k') ∧ ∀ v, i ≤ v → v < n → WkR (s.2 (4 + v)) (t.2 259) v m) n ⟨rfl, rfl, ⟨k, Md_id h0⟩, fun v _ hv => h.1.2.2.2.2.1 v hv⟩ ?_ ?_
    · rintro i ⟨s1, A⟩ ⟨t1, B⟩ hi ⟨e1, e2, ⟨k', e3⟩, e4⟩
      simp only at e1 e2 e3 e4
      subst e1 e2
      have hD := e3.1
      have c2 := hD.1.2.1.1
      have g2 := hD.1.2.2.1.1
      have hwk := e4 i (Nat.le_refl _) hi
      have w1 := hwk.2.1
      rcases hwk.2.2.1 with hin | hin
      · have hin' : A (4 + i) 1 = J 0 := hin
        have hin2 : B 259 (145 + 12 * i) = J 0 := by rw [← w1]; exact hin'
        unfold b_X1_pass_2 b_X11_goesMinute_2 j_X1_pass_33_2 j_X11_goesMinute_64_2
        simp (disch := omega) only [↓nm_s, ↓grd_s, ↓reduceIte, J_lit, J_nI, J_add, J_sub, J_mul, J_neg, Int.cast_ofNat_Int, J_lt_t, J_lt_f, J_le_t, J_le_f, J_eq_t, J_eq_f, within_t, within_f, isIn_t, isIn_f, inRow_t, inRow_f, isCell_t, isCell_f, inb_t, ix_Jn, ix_J, Int.reduceToNat, Int.toNat_natCast, mset_ne, mset_eq, mrow_ne, mrow_eq, upd_eq, upd_ne, bind_s, bnd2_s, not_true_eq_false, not_false_eq_true, Nat.reduceAdd, c2, g2, th0, ts0, ta0, th1, ts1, ta1, th2, ts2, ta2, th3, ts3, ta3, th4, ts4, ta4, th5, ts5, ta5, th6, ts6, ta6, th7, ts7, ta7, th8, ts8, ta8, th9, ts9, ta9, th10, ts10, ta10, th11, ts11, ta11, hin', hin2]
        exact w2_some ⟨rfl, rfl, ⟨k', e3⟩, fun v h1 h2 => e4 v (by omega) h2⟩
      · have ht' : A 83 0 = B 257 6 := by
          rw [e3.2.2.2.1 0 (by omega), e3.2.2.2.2.2.1 257 (by omega) (by omega) (by omega)]
          exact ht
        have htb' : A 83 0 = 0 ∨ A 83 0 = 1 := by rw [e3.2.2.2.1 0 (by omega)]; exact htb
        obtain ⟨A', B', k2, q1, q2, q3⟩ := s_act hD hi hin hwk ht' htb'
        have q0 : b_X1_pass_2 (J i) A = some (.inl (J (i + 1 : Nat), A')) := by
          unfold b_X1_pass_2 j_X1_pass_33_2
          have hin' : A (4 + i) 1 = J 1 := hin
          simp (disch := omega) only [↓nm_s, ↓grd_s, ↓reduceIte, J_lit, J_nI, J_add, J_sub, J_mul, J_neg, Int.cast_ofNat_Int, J_lt_t, J_lt_f, J_le_t, J_le_f, J_eq_t, J_eq_f, within_t, within_f, isIn_t, isIn_f, inRow_t, inRow_f, isCell_t, isCell_f, inb_t, ix_Jn, ix_J, Int.reduceToNat, Int.toNat_natCast, mset_ne, mset_eq, mrow_ne, mrow_eq, upd_eq, upd_ne, bind_s, bnd2_s, not_true_eq_false, not_false_eq_true, Nat.reduceAdd, c2, hin', q1]
          rfl
        simp only
        rw [q0, q2]
        refine w2_some ⟨rfl, rfl, ⟨k2, Md_sy e3 q3⟩, fun v h1 h2 => ?_⟩
        show WkR (A' (4 + v)) (B' 259) v m
        rw [q3.2.2.1 (4 + v) (by unfold clF; omega)]
        exact WkR_ro (fun j _ _ => q3.2.2.2.2.2.2.1 j (by unfold rfF; omega)) (fun j _ _ => q3.2.2.2.2.2.2.1 j (by unfold rfF; omega)) (by omega) (e4 v (by omega) h2)
    · rintro ⟨s1, A⟩ ⟨t1, B⟩ ⟨e1, e2, e3, e4⟩
      simp only at e1 e2 e3 e4
      subst e1 e2
      obtain ⟨k', e3'⟩ := e3
      have hD := e3'.1
      have c2 := hD.1.2.1.1
      have g2 := hD.1.2.2.1.1
      unfold b_X1_pass_2 b_X11_goesMinute_2
      simp (disch := omega) only [↓nm_s, ↓grd_s, ↓reduceIte, J_lit, J_nI, J_add, J_sub, J_mul, J_neg, Int.cast_ofNat_Int, J_lt_t, J_lt_f, J_le_t, J_le_f, J_eq_t, J_eq_f, within_t, within_f, isIn_t, isIn_f, inRow_t, inRow_f, isCell_t, isCell_f, inb_t, ix_Jn, ix_J, Int.reduceToNat, Int.toNat_natCast, mset_ne, mset_eq, mrow_ne, mrow_eq, upd_eq, upd_ne, bind_s, bnd2_s, not_true_eq_false, not_false_eq_true, Nat.reduceAdd, c2, g2]
      exact w2_some ⟨k', e3'⟩
  obtain ⟨A, B, q1, q2, k', q3⟩ := key
  obtain ⟨⟨d1, d2, d3⟩, a2, a3, a4, a5, a6, a7, d, a8, a9⟩ := q3
  obtain ⟨e2, e3, e6, e4, e5⟩ := d1.2.1
  obtain ⟨g2, g3, g4⟩ := d1.2.2.1
  unfold f_X1_pass f_X11_goesMinute j_X1_pass_39 j_X11_goesMinute_70
  rw [show (0 : Int32) = J 0 from rfl, q1, q2]
  simp (disch := omega) only [↓nm_s, ↓grd_s, ↓reduceIte, J_lit, J_nI, J_add, J_sub, J_mul, J_neg, Int.cast_ofNat_Int, J_lt_t, J_lt_f, J_le_t, J_le_f, J_eq_t, J_eq_f, within_t, within_f, isIn_t, isIn_f, inRow_t, inRow_f, isCell_t, isCell_f, inb_t, ix_Jn, ix_J, Int.reduceToNat, Int.toNat_natCast, mset_ne, mset_eq, mrow_ne, mrow_eq, upd_eq, upd_ne, bind_s, bnd2_s, not_true_eq_false, not_false_eq_true, Nat.reduceAdd, e3, g3]
  refine ⟨_, _, k', rfl, rfl, ⟨⟨?_, ?_, ?_⟩, a2, fun j hj => by simp (disch := omega) only [mset_ne, mset_eq, mrow_ne, mrow_eq, upd_eq, upd_ne]; exact a3 j hj, fun i hi => by simp (disch := omega) only [mset_ne, mset_eq, mrow_ne, mrow_eq, upd_eq, upd_ne]; exact a4 i hi, fun i hi => by simp (disch := omega) only [mset_ne, mset_eq, mrow_ne, mrow_eq, upd_eq, upd_ne]; exact a5 i hi, fun j c1 c2 c3 => by simp (disch := omega) only [mset_ne, mset_eq, mrow_ne, mrow_eq, upd_eq, upd_ne]; exact a6 j c1 c2 c3, fun i hi => by simp (disch := omega) only [mset_ne, mset_eq, mrow_ne, mrow_eq, upd_eq, upd_ne]; exact a7 i hi, d, by simp (disch := omega) only [mset_ne, mset_eq, mrow_ne, mrow_eq, upd_eq, upd_ne]; exact a8, ?_⟩⟩
  · refine Sq_hd d1 (by simp (disch := omega) only [mset_ne, mset_eq, mrow_ne, mrow_eq, upd_eq, upd_ne]) (fun w hw => by simp (disch := omega) only [mset_ne, mset_eq, mrow_ne, mrow_eq, upd_eq, upd_ne]) (fun j h1 h2 => by simp (disch := omega) only [mset_ne, mset_eq, mrow_ne, mrow_eq, upd_eq, upd_ne]) (Nat.le_refl _) (by omega) d1.1.2.2 ?_ ?_
    · simp (disch := omega) only [mset_ne, mset_eq, mrow_ne, mrow_eq, upd_eq, upd_ne]
      exact ⟨e2, by exact congrArg J (by omega), e6, e4, e5⟩
    · simp (disch := omega) only [mset_ne, mset_eq, mrow_ne, mrow_eq, upd_eq, upd_ne]
      exact ⟨by exact congrArg J (by omega), g4⟩
  · exact Tx_ro (fun j h1 h2 => by simp (disch := omega) only [mset_ne, mset_eq, mrow_ne, mrow_eq, upd_eq, upd_ne]) (Tx_fr (fun j h1 h2 _ => by simp (disch := omega) only [mset_ne, mset_eq, mrow_ne, mrow_eq, upd_eq, upd_ne]) d2)
  · simp (disch := omega) only [mset_ne, mset_eq, mrow_ne, mrow_eq, upd_eq, upd_ne]
    exact Bk_ro d1.1.2.2 (fun j h1 h2 => by simp (disch := omega) only [mset_ne, mset_eq, mrow_ne, mrow_eq, upd_eq, upd_ne]) d3
  · rw [csR_ro (ρ := B 259)]
    · exact a9
    · intro v hv
      simp (disch := omega) only [mset_ne, mset_eq, mrow_ne, mrow_eq, upd_eq, upd_ne]
/-! ===== comes, turn, lay ===== -/
/-- the reference's end of what is done: past and now -/
theorem p_ends {N : zM} {u u1 sh : Nat} (hu : u ≤ 6) (e4 : N 257 4 = J u) (hu1 : u1 = if u = 6 then 5 else u) (hsh : sh = if u = 6 then 1 else 0) :
    Wp (f_X11_ends N) (fun N' => N' 257 4 = J (u1 + 1 : Nat) ∧ (∀ i, i ≠ 4 → N' 257 i = N 257 i) ∧ (∀ p, p < u1 → ∀ i, i < 940 → N' 261 (940 * p + i) = N 261 (940 * (p + sh) + i)) ∧ (∀ i, i < 940 → N' 261 (940 * u1 + i) = N 258 i) ∧ (∀ i, i < 2425 → N' 258 i = N 259 i) ∧ ∀ j, j ≠ 257 → j ≠ 258 → j ≠ 261 → N' j = N j) := by
  unfold f_X11_ends
  refine wp_bind (wp_mono (p_keepsPast hu e4 hu1 hsh) ?_)
  rintro A ⟨a1, a2, a3, a4, a5⟩
  have ec := t_copies (a := 259) (b := 258) (n := 2425) A (by decide) (by rw [LN259]; decide) (by rw [LN258]; decide) (by decide)
  rw [show (2425 : Int32) = J (2425 : Nat) from rfl, ec]
  refine wp_some ⟨by simp (disch := omega) only [mset_ne, mset_eq, mrow_ne, mrow_eq, upd_eq, upd_ne]; exact a1, fun i hi => by simp (disch := omega) only [mset_ne, mset_eq, mrow_ne, mrow_eq, upd_eq, upd_ne]; exact a2 i hi, fun p hp i hi => by simp (disch := omega) only [mset_ne, mset_eq, mrow_ne, mrow_eq, upd_eq, upd_ne]; exact a3 p hp i hi, fun i hi => by simp (disch := omega) only [mset_ne, mset_eq, mrow_ne, mrow_eq, upd_eq, upd_ne]; exact a4 i hi, fun i hi => ?_, fun j h1 h2 h3 => by simp (disch := omega) only [mset_ne, mset_eq, mrow_ne, mrow_eq, upd_eq, upd_ne]; exact a5 j h1 h3⟩
  rw [mrow_eq, cpy_in hi, a5 259 (by decide) (by decide)]
/-- what is done by hand or by a minute: class and reference behind it -/
theorem IC_done {M M1 M2 N N2 N3 : zM} {n m m' k k' u o u1 o1 sh : Nat} {ks : Nat → Nat} (hm : m < 10000) (hm' : m' < 10000) (a2 : Sq M 1 (N 258) n m k) (a4 : Bk (M 69) (N 258) k) (a5 : Rw M 70 (N 258)) (a6 : Tp M N) (a7 : Un M N n k u o ks) (a8 : Im M N) (a9 : Vl M) (a10 : M 83 0 = 0)
    (hu1 : u1 = if u = 6 then 5 else u) (ho1 : o1 = if u = 6 then (o + 1) % 6 else o) (hsh : sh = if u = 6 then 1 else 0)
    (c3 : M1 0 3 = J o1) (c4 : M1 0 4 = J (u1 + 1 : Nat)) (c5 : ∀ i, i ≠ 3 → i ≠ 4 → M1 0 i = M 0 i) (cS : Sq M1 (143 + 19 * ((o1 + u1) % 6)) (N 258) n m k) (cf : ∀ j, 1 ≤ j → (j < 143 + 19 * ((o1 + u1) % 6) ∨ 143 + 19 * ((o1 + u1) % 6) + 19 ≤ j) → M1 j = M j)
    (d : ∀ j, j = 0 ∨ (20 ≤ j ∧ j ≠ 46 ∧ j ≠ 69 ∧ j ≠ 83 ∧ j ≠ 84) → M2 j = M1 j) (d83 : ∀ i, i ≠ 1 → M2 83 i = M1 83 i) (d69 : ∀ i, i < 4 * k → M2 69 i = M1 69 i)
    (hD : Dy M2 N2 n m' m' k') (hk : k ≤ k') (hr : ∀ i, 940 ≤ i → i < 2425 → N2 259 i = N 258 i)
    (n4 : N3 257 4 = J (u1 + 1 : Nat)) (n5 : ∀ i, i ≠ 4 → i ≠ 6 → N3 257 i = N 257 i) (n1 : ∀ p, p < u1 → ∀ i, i < 940 → N3 261 (940 * p + i) = N 261 (940 * (p + sh) + i)) (n2 : ∀ i, i < 940 → N3 261 (940 * u1 + i) = N 258 i) (n8 : ∀ i, i < 2425 → N3 258 i = N2 259 i) (n0 : N3 260 = N 260) (n9 : N3 262 = N 262) : IC M2 N3 := by
  obtain ⟨h1, h2, h3⟩ := hD
  have hq : (o1 + u1) % 6 < 6 := Nat.mod_lt _ (by decide)
  have hf : ∀ j, (20 ≤ j ∧ j < 143 ∧ j ≠ 46 ∧ j ≠ 69 ∧ j ≠ 83 ∧ j ≠ 84) → M2 j = M j := fun j hj => by rw [d j (by omega), cf j (by omega) (by omega)]
  have hk150 := a2.1.2.2
  have hk150' := h1.1.2.2
  refine ⟨n, m', k', u1 + 1, o1, fun p => if p = u1 then k else ks (p + sh), hm', ?_, ?_, ?_, ?_, ?_, ?_, ?_, ?_, ?_⟩
  · exact Sq_ro (fun j hj _ => n8 j (by omega)) h1
  · exact Tx_ro (fun j _ _ => n8 j (by omega)) h2
  · exact Bk_ro hk150' (fun j _ _ => n8 j (by omega)) h3
  · exact Rw_ro (fun j _ _ => by rw [n8 j (by omega), hr j (by omega) (by omega)]) (Rw_fr (fun j _ _ => hf j (by omega)) (by rw [hf 70 (by omega)]) (by rw [hf 70 (by omega)]) a5)
  · exact Tp_fr (fun i _ => by rw [hf 78 (by omega)]) (fun i _ => by rw [hf 79 (by omega)]) (n5 7 (by omega) (by omega)) (fun i _ => by rw [n9]) (n5 13 (by omega) (by omega)) (n5 14 (by omega) (by omega)) a6
  · exact Un_keep a2 hm a4 a7 hu1 ho1 hsh c3 c4 cS cf (d 0 (by omega)) (fun j _ _ => d j (by omega)) (fun i hi => by rw [d69 i hi, cf 69 (by omega) (by omega)]) n4 n1 n2 (fun i _ _ => by rw [n8 i (by omega), hr i (by omega) (by omega)]) hk
  · exact Im_fr (by rw [d 0 (by omega), c5 13 (by omega) (by omega)]) (fun j _ _ => hf j (by omega)) (n5 5 (by omega) (by omega)) (fun i _ => by rw [n0]) a8
  · exact Vl_fr (by rw [hf 95 (by omega)]) (hf 99 (by omega)) a9
  · rw [d83 0 (by omega), cf 83 (by omega) (by omega)]
    exact a10
