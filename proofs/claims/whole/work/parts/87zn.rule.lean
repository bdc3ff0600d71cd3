/-! ===== a law: a line is read, what it leaves ===== -/
theorem rule_fin {N0 M N M1 N1 M4 N4 : zM} {l cn cz2 cn2 kind jj ee : Nat} {c : Nat → Nat} {L1 : List (Nat × Int32)} {d : Int32} (hd : DLq N0 l c cn M N) (hl : l < 16) (hk : kind < 3) (hE : Em M N M1 N1 (c l) cn L1) (f56 : M4 56 = upd (M1 56) l (J (128 + kind : Nat))) (f57 : M4 57 = upd (M1 57) l (J (c l + (encL L1).length : Nat))) (f58 : M4 58 = M1 58) (f59 : ∀ i, i < c l + (encL L1).length → M4 59 i = M1 59 i) (g : ∀ i, i < 1025 + 2 * (cn + L1.length) ∨ 1925 ≤ i → N4 263 i = N1 263 i) (b1 : cz2 ≤ 400) (b2 : cn2 ≤ 400) (a3 : tyL L1 [] = some [false]) (a4 : ∀ q ∈ L1, okQ q)
    (hw : d = J (-1) ∧ cz2 = c l + (encL L1).length ∧ cn2 = cn + L1.length ∨ ∃ L2 : List (Nat × Int32), d = J cn2 ∧ RdR (N4 263) (cn + L1.length) L2 ∧ RdC (M4 59) (c l + (encL L1).length) (encL L2) ∧ cz2 = c l + (encL L1).length + (encL L2).length ∧ cn2 = cn + L1.length + L2.length ∧ tyL L2 [] = some [true] ∧ (∀ q ∈ L2, okQ q)) :
    DLq N0 (l + 1) (fun k => if k ≤ l then c k else cz2) cn2 (mset (mset (mset M4 58 l (J cz2)) 78 7 (J jj)) 55 0 (J (l + 1 : Nat))) (mset (rwN N4 l (J kind) (J cn) (J (cn + L1.length : Nat)) d) 257 9 (J ee)) := by
  obtain ⟨m1, m2, m3, m4, m5, m6, m7, m8⟩ := hE
  have hcz : c l + (encL L1).length ≤ cz2 := by
    rcases hw with ⟨_, e, _⟩ | ⟨L2, _, _, _, e, _⟩ <;> omega
  have hcn : cn + L1.length ≤ cn2 := by
    rcases hw with ⟨_, _, e⟩ | ⟨L2, _, _, _, _, e, _⟩ <;> omega
  have n56 : ∀ k, k ≠ l → M4 56 k = M 56 k := fun k hk => by rw [f56, m6]; simp (disch := omega) only [mset_ne, mset_eq, mrow_ne, mrow_eq, upd_eq, upd_ne]
  have n57 : ∀ k, k ≠ l → M4 57 k = M 57 k := fun k hk => by rw [f57, m7]; simp (disch := omega) only [mset_ne, mset_eq, mrow_ne, mrow_eq, upd_eq, upd_ne]
  have q56 : M4 56 l = J (128 + kind : Nat) := by rw [f56]; simp (disch := omega) only [mset_ne, mset_eq, mrow_ne, mrow_eq, upd_eq, upd_ne]
  have q57 : M4 57 l = J (c l + (encL L1).length : Nat) := by rw [f57]; simp (disch := omega) only [mset_ne, mset_eq, mrow_ne, mrow_eq, upd_eq, upd_ne]
  have n263 : ∀ i, (i < 945 + 5 * l ∨ 1025 ≤ i) → mset (rwN N4 l (J kind) (J cn) (J (cn + L1.length : Nat)) d) 257 9 (J ee) 263 i = N4 263 i := fun i hi => by
    have e0 : i ≠ 945 + 5 * l := by omega
    have e1 : i ≠ 946 + 5 * l := by omega
    have e2 : i ≠ 947 + 5 * l := by omega
    have e3 : i ≠ 948 + 5 * l := by omega
    have e4 : i ≠ 949 + 5 * l := by omega
    unfold rwN
    simp (disch := omega) only [mset_ne, mset_eq, mrow_ne, mrow_eq, upd_eq, upd_ne]
  refine DLq_step hd hl (by simp (disch := omega) only [mset_ne, mset_eq, mrow_ne, mrow_eq, upd_eq, upd_ne]) (fun k hk => ⟨?_, ?_, ?_⟩) (fun i hi => ?_) (fun i hi => ?_) (by omega) (by omega) ?_
  · simp (disch := omega) only [mset_ne, mset_eq, mrow_ne, mrow_eq, upd_eq, upd_ne]; exact n56 k (by omega)
  · simp (disch := omega) only [mset_ne, mset_eq, mrow_ne, mrow_eq, upd_eq, upd_ne]; exact n57 k (by omega)
  · simp (disch := omega) only [mset_ne, mset_eq, mrow_ne, mrow_eq, upd_eq, upd_ne]; rw [f58, m8]
  · simp (disch := omega) only [mset_ne, mset_eq, mrow_ne, mrow_eq, upd_eq, upd_ne]; rw [f59 i (by omega), m1 i hi]
  · rw [n263 i (by omega), g i (by omega), m3 i (by omega)]
  · refine ln_new (kind := kind) (L1 := L1) hl hk (by simp (disch := omega) only [mset_ne, mset_eq, mrow_ne, mrow_eq, upd_eq, upd_ne]; exact q56) (by simp (disch := omega) only [mset_ne, mset_eq, mrow_ne, mrow_eq, upd_eq, upd_ne]; exact q57) (by simp (disch := omega) only [mset_ne, mset_eq, mrow_ne, mrow_eq, upd_eq, upd_ne]) (by unfold rwN; simp (disch := omega) only [mset_ne, mset_eq, mrow_ne, mrow_eq, upd_eq, upd_ne]) (by unfold rwN; simp (disch := omega) only [mset_ne, mset_eq, mrow_ne, mrow_eq, upd_eq, upd_ne]) (by unfold rwN; simp (disch := omega) only [mset_ne, mset_eq, mrow_ne, mrow_eq, upd_eq, upd_ne]) (by unfold rwN; simp (disch := omega) only [mset_ne, mset_eq, mrow_ne, mrow_eq, upd_eq, upd_ne]) (lw_rr m4 (fun i h1 h2 => by rw [n263 i (by omega), g i (by omega)])) (lw_rc m2 (fun i h1 => by simp (disch := omega) only [mset_ne, mset_eq, mrow_ne, mrow_eq, upd_eq, upd_ne]; exact f59 i h1)) a3 a4 b1 b2 ?_
    rcases hw with ⟨q1, q2, q3⟩ | ⟨L2, q1, q2, q3, q4, q5, q6, q7⟩
    · exact Or.inl ⟨by unfold rwN; simp (disch := omega) only [mset_ne, mset_eq, mrow_ne, mrow_eq, upd_eq, upd_ne]; exact q1, q2, q3⟩
    · exact Or.inr ⟨L2, by unfold rwN; simp (disch := omega) only [mset_ne, mset_eq, mrow_ne, mrow_eq, upd_eq, upd_ne]; exact q1, lw_rr q2 (fun i h1 h2 => n263 i (by omega)), lw_rc q3 (fun i h1 => by simp (disch := omega) only [mset_ne, mset_eq, mrow_ne, mrow_eq, upd_eq, upd_ne]), q4, q5, q6, q7⟩
theorem sp_slips : f_X11_spelt (J 115) (J 108) (J 105) (J 112) (J 115) (J 0) = J (pkK 0) := by decide +kernel
theorem sp_sees : f_X11_spelt (J 115) (J 101) (J 101) (J 115) (J 0) (J 0) = J (pkK 1) := by decide +kernel
theorem sp_pays : f_X11_spelt (J 112) (J 97) (J 121) (J 115) (J 0) (J 0) = J (pkK 2) := by decide +kernel
theorem sp_when : f_X11_spelt (J 119) (J 104) (J 101) (J 110) (J 0) (J 0) = J (pkK 3) := by decide +kernel
theorem re_eq (N : zM) : f_X11_readEither N = FA (mset N 257 19 (J 0)) := by
  unfold f_X11_readEither
  simp only [nm_s]
  unfold FA
  have e : loopW (fun s => b_X11_readEither_7 s.1 s.2) ((1 : Int32), mset N 257 19 (0 : Int32)) = loopW (fun s => b_X11_readEither_7 s.1 s.2) (J 1, mset N 257 19 (J 0)) := rfl
  rw [e]
  cases loopW (fun s => b_X11_readEither_7 s.1 s.2) (J 1, mset N 257 19 (J 0)) with
  | none => rfl
  | some y => rfl
/-- behind a sum: the class's -/
noncomputable def CR (M : zM) : Option ((zM) ⊕ ((zM) ⊕ (Int32 × zM))) := (f_X5_kind M).bind fun u => if u = J 131 then ((f_X5_next M).bind fun M1 => bnd2 (f_X3_readCondition 55 (J 0) M1) fun u2 M2 => if u2 = J 0 then (some (.inr (.inr (J (-1), M2)))) else (j_X3_read_127_10 55 M2)) else (j_X3_read_127_10 55 M)
/-- and the reference's -/
noncomputable def RR (l kd v4 v5 : Int32) (N : zM) : Option zM := (bnd2 (f_X11_word N) fun u N1 => if u = J (pkK 3) then ((f_X11_pass N1).bind fun N2 => (f_X11_readEither N2).bind fun N3 => j_X11_readRule_156 l kd v4 v5 (N3 257 17) N3) else (j_X11_readRule_156 l kd v4 v5 (J (-1)) N1)).bind (f_X11_sign (J 59))
theorem l_when {N0 M N M1 N1 : zM} {tp : Nat → Nat} {n NN : Nat} {P E : Nat → Nat} {l cn kind j1 q1 : Nat} {c : Nat → Nat} {L1 : List (Nat × Int32)} (hd : DLq N0 l c cn M N) (hl : l < 16) (hk : kind < 3) (hE : Em M N M1 N1 (c l) cn L1) (h : LwS M1 N1 tp n NN P E j1 q1 (c l + (encL L1).length) (cn + L1.length) 0) (h12 : N1 257 12 = J 0) (a3 : tyL L1 [] = some [false]) (a4 : ∀ q ∈ L1, okQ q) :
    (∃ (j' q' : Nat) (M' N' : zM), j1 < j' ∧ CR (mset (mset M1 56 l (J (128 + kind : Nat))) 57 l (J (c l + (encL L1).length : Nat))) = some (.inl M') ∧ RR (J l) (J kind) (J cn) (J (cn + L1.length : Nat)) N1 = some N' ∧ TS M' N' tp n NN P E j' q' ∧ DLx N0 (l + 1) M' N' ∧ FrC M1 M' ∧ FrN N1 N') ∨
    (∃ M' N' : zM, CR (mset (mset M1 56 l (J (128 + kind : Nat))) 57 l (J (c l + (encL L1).length : Nat))) = some (.inr (.inr (J (-1), M'))) ∧ RR (J l) (J kind) (J cn) (J (cn + L1.length : Nat)) N1 = some N' ∧ FL M' N' ∧ FrC M1 M' ∧ FrN N1 N') := by
  have hT := h.1
  have hn := TS_n hT
  have hc := LwS_c h
  have m5 : M1 55 0 = J l := by rw [hE.2.2.2.2.1]; exact hd.1
  have hx2 : LwS (mset (mset M1 56 l (J (128 + kind : Nat))) 57 l (J (c l + (encL L1).length : Nat))) N1 tp n NN P E j1 q1 (c l + (encL L1).length) (cn + L1.length) 0 := ⟨TS_fr hT (by simp (disch := omega) only [mset_ne, mset_eq, mrow_ne, mrow_eq, upd_eq, upd_ne]) (by simp (disch := omega) only [mset_ne, mset_eq, mrow_ne, mrow_eq, upd_eq, upd_ne]) (by simp (disch := omega) only [mset_ne, mset_eq, mrow_ne, mrow_eq, upd_eq, upd_ne]) (by simp (disch := omega) only [mset_ne, mset_eq, mrow_ne, mrow_eq, upd_eq, upd_ne]) rfl rfl rfl rfl, by simp (disch := omega) only [mset_ne, mset_eq, mrow_ne, mrow_eq, upd_eq, upd_ne]; exact h.2.1, h.2.2.1, h.2.2.2.1, h.2.2.2.2⟩
  have hkd := i_kind hx2.1
  obtain ⟨u, w1, w2⟩ := i_word hx2.1
  have hw3 := w2 3 (by omega)
  have fr2 : FrC M1 (mset (mset M1 56 l (J (128 + kind : Nat))) 57 l (J (c l + (encL L1).length : Nat))) := FrC_t (FrC_d _ (by omega) (by omega) _ _) (FrC_d _ (by omega) (by omega) _ _)
  generalize hM2 : mset (mset M1 56 l (J (128 + kind : Nat))) 57 l (J (c l + (encL L1).length : Nat)) = M2 at hx2 hkd w2 hw3 fr2 ⊢
  have e56 : M2 56 = upd (M1 56) l (J (128 + kind : Nat)) := by subst hM2; funext i; by_cases ci : i = l <;> (try subst ci) <;> simp (disch := omega) only [mset_ne, mset_eq, mrow_ne, mrow_eq, upd_eq, upd_ne]
  have e57 : M2 57 = upd (M1 57) l (J (c l + (encL L1).length : Nat)) := by subst hM2; funext i; by_cases ci : i = l <;> (try subst ci) <;> simp (disch := omega) only [mset_ne, mset_eq, mrow_ne, mrow_eq, upd_eq, upd_ne]
  have e58 : M2 58 = M1 58 := by subst hM2; simp (disch := omega) only [mset_ne, mset_eq, mrow_ne, mrow_eq, upd_eq, upd_ne]
  have e59 : M2 59 = M1 59 := by subst hM2; simp (disch := omega) only [mset_ne, mset_eq, mrow_ne, mrow_eq, upd_eq, upd_ne]
  have e550 : M2 55 0 = J l := by subst hM2; simp (disch := omega) only [mset_ne, mset_eq, mrow_ne, mrow_eq, upd_eq, upd_ne]; exact m5
  unfold CR RR
  rw [hkd, w1]
  simp only [bind_s, bnd2_s]
  by_cases c131 : M2 80 j1 = J 131
  · have cu : u = J (pkK 3) := hw3.2 c131
    obtain ⟨p1, p2⟩ := i_pass (TS_at hx2.1) (i := 3) (by omega) c131
    rw [mset_2] at p2
    have nx := i_next hx2.1 p1
    rw [if_pos c131, if_pos cu, nx, p2]
    simp only [bind_s]
    have hx3 := LwS_next hx2 p1
    have hx4 : LwS (mset M2 78 7 (J (j1 + 1 : Nat))) (mset (mset N1 257 9 (J (E j1))) 257 19 (J 0)) tp n NN P E (j1 + 1) (E j1) (c l + (encL L1).length) (cn + L1.length) (0 + 1) := ⟨TS_fr hx3.1 rfl rfl rfl rfl (by simp (disch := omega) only [mset_ne, mset_eq, mrow_ne, mrow_eq, upd_eq, upd_ne]) (by simp (disch := omega) only [mset_ne, mset_eq, mrow_ne, mrow_eq, upd_eq, upd_ne]) (by simp (disch := omega) only [mset_ne, mset_eq, mrow_ne, mrow_eq, upd_eq, upd_ne]) (by simp (disch := omega) only [mset_ne, mset_eq, mrow_ne, mrow_eq, upd_eq, upd_ne]), hx3.2.1, by simp (disch := omega) only [mset_ne, mset_eq, mrow_ne, mrow_eq, upd_eq, upd_ne]; exact h.2.2.1, hx3.2.2.2.1, hx3.2.2.2.2⟩
    rw [re_eq, fa_go hx4.1.2.2.2.2.2.2.2]
    have nz : ∀ i, i < 0 → False := fun i hi => by omega
    rcases p_cond0 _ _ _ _ _ 0 _ _ hx4 (by simp (disch := omega) only [mset_ne, mset_eq, mrow_ne, mrow_eq, upd_eq, upd_ne]; rfl) (by omega) (Or.inl rfl) (by simp (disch := omega) only [mset_ne, mset_eq, mrow_ne, mrow_eq, upd_eq, upd_ne]; exact h12) with ⟨M4, N4, r1, r2, j4, q4, L2, l1, l2, l3, l4, l5, ⟨l6, l6b, _⟩, l7, l8⟩ | ⟨M4, N4, r1, r2, r3⟩
    · have r1' : f_X3_readCondition 55 (J 0) (mset M2 78 7 (J (j1 + 1 : Nat))) = some (J 1, M4) := r1
      have N419 : N4 257 19 = J 0 := by rw [l6b]; simp (disch := omega) only [mset_ne, mset_eq, mrow_ne, mrow_eq, upd_eq, upd_ne]
      have N412 : N4 257 12 = J 0 := by rw [l6]; simp (disch := omega) only [mset_ne, mset_eq, mrow_ne, mrow_eq, upd_eq, upd_ne]; exact h12
      have l2c := LwS_c l2
      obtain ⟨x1, x2, x3, x4, x5, x6, x7, x8⟩ := l3
      rw [r1', r2, fc_end l2.1.2.2.2.2.2.2.2 N419]
      simp only [bind_s, bnd2_s]
      rw [if_neg (by decide), l2.2.2.1]
      have h40 : M4 55 0 = J l := by rw [x5]; simp (disch := omega) only [mset_ne, mset_eq, mrow_ne, mrow_eq, upd_eq, upd_ne]; exact e550
      have fC : FrC M1 M4 := FrC_t fr2 (FrC_t (FrC_7 _ _) l7)
      have fN : FrN N1 N4 := FrN_t (FrN_t (FrN_9 _ (J (E j1))) ⟨fun j h1 h2 h3 => by simp (disch := omega) only [mset_ne, mset_eq, mrow_ne, mrow_eq, upd_eq, upd_ne], fun i h1 h2 h3 h4 h5 h6 => by simp (disch := omega) only [mset_ne, mset_eq, mrow_ne, mrow_eq, upd_eq, upd_ne]⟩) l8
      rcases l_tail l2.1 l2.2.1 h40 hl (J kind) (J cn) (J (cn + L1.length : Nat)) (J (cn + L1.length + L2.length : Nat)) with ⟨t1, t2, t3⟩ | ⟨M', N', t2, t3, t4, t5, t6⟩
      · left
        have hn4 := TS_n l2.1
        have hTn := TS_next l2.1 t1
        refine ⟨j4 + 1, E j4, _, _, by omega, t2, t3, TS_fr hTn (by simp (disch := omega) only [mset_ne, mset_eq, mrow_ne, mrow_eq, upd_eq, upd_ne]) (by simp (disch := omega) only [mset_ne, mset_eq, mrow_ne, mrow_eq, upd_eq, upd_ne]) (by simp (disch := omega) only [mset_ne, mset_eq, mrow_ne, mrow_eq, upd_eq, upd_ne]) ?_ (by unfold rwN; simp (disch := omega) only [mset_ne, mset_eq, mrow_ne, mrow_eq, upd_eq, upd_ne]) (by unfold rwN; simp (disch := omega) only [mset_ne, mset_eq, mrow_ne, mrow_eq, upd_eq, upd_ne]) (by simp (disch := omega) only [mset_ne, mset_eq, mrow_ne, mrow_eq, upd_eq, upd_ne]) (by unfold rwN; simp (disch := omega) only [mset_ne, mset_eq, mrow_ne, mrow_eq, upd_eq, upd_ne]), ⟨by unfold rwN; simp (disch := omega) only [mset_ne, mset_eq, mrow_ne, mrow_eq, upd_eq, upd_ne]; exact N412, _, j4 + 1, _, rule_fin hd hl hk hE ?_ ?_ ?_ ?_ ?_ l2c.2.1 l2c.1 a3 a4 (Or.inr ⟨L2, rfl, x4, x2, rfl, rfl, l5 [] (by simp), l4⟩), ?_, ?_, by simp (disch := omega) only [mset_ne, mset_eq, mrow_ne, mrow_eq, upd_eq, upd_ne], by omega, ?_, ?_⟩, FrC_t fC (FrC_t (FrC_d _ (by omega) (by omega) _ _) (FrC_t (FrC_7 _ _) (FrC_d _ (by omega) (by omega) _ _))), FrN_t fN (FrN_t (rwF _ _ _ _ _ _) (FrN_9 _ _))⟩
        · funext i
          by_cases ci : i = 7 <;> (try subst ci) <;> simp (disch := omega) only [mset_ne, mset_eq, mrow_ne, mrow_eq, upd_eq, upd_ne]
        · rw [x6]; simp (disch := omega) only [mset_ne, mset_eq, mrow_ne, mrow_eq, upd_eq, upd_ne]; exact e56
        · rw [x7]; simp (disch := omega) only [mset_ne, mset_eq, mrow_ne, mrow_eq, upd_eq, upd_ne]; exact e57
        · rw [x8]; simp (disch := omega) only [mset_ne, mset_eq, mrow_ne, mrow_eq, upd_eq, upd_ne]; exact e58
        · intro i hi
          rw [x1 i hi]; simp (disch := omega) only [mset_ne, mset_eq, mrow_ne, mrow_eq, upd_eq, upd_ne]; rw [e59]
        · intro i hi
          rw [x3 i hi]; simp (disch := omega) only [mset_ne, mset_eq, mrow_ne, mrow_eq, upd_eq, upd_ne]
        · rw [if_neg (by omega)]; simp (disch := omega) only [mset_ne, mset_eq, mrow_ne, mrow_eq, upd_eq, upd_ne]; exact l2.2.1
        · unfold rwN; simp (disch := omega) only [mset_ne, mset_eq, mrow_ne, mrow_eq, upd_eq, upd_ne]; exact l2.2.2.1
        · rw [if_neg (by omega)]
          have := l2.2.2.2.1
          omega
        · rw [if_neg (by omega)]
          exact l2.2.2.2.2
      · right
        exact ⟨M', N', t2, t3, t4, FrC_t fC t5, FrN_t fN t6⟩
    · right
      have r1' : f_X3_readCondition 55 (J 0) (mset M2 78 7 (J (j1 + 1 : Nat))) = some (J 0, M4) := r1
      obtain ⟨pp, hp, hp2⟩ := Fc_bad r3
      have fN : FrN N1 N4 := FrN_t (FrN_t (FrN_9 _ (J (E j1))) ⟨fun j h1 h2 h3 => by simp (disch := omega) only [mset_ne, mset_eq, mrow_ne, mrow_eq, upd_eq, upd_ne], fun i h1 h2 h3 h4 h5 h6 => by simp (disch := omega) only [mset_ne, mset_eq, mrow_ne, mrow_eq, upd_eq, upd_ne]⟩) r3.2.2.2
      refine ⟨M4, N4, ?_, ?_, r3.1, FrC_t fr2 (FrC_t (FrC_7 _ _) r3.2.2.1), fN⟩
      · rw [r1']
        simp only [bnd2_s]
        rw [if_pos (by trivial)]
      · rw [r2]
        simp only [bind_s]
        rw [r_156b hp hp2]
        simp only [bind_s]
        exact n_sign hp hp2 _
  · have cu : ¬ u = J (pkK 3) := fun e => c131 (hw3.1 e)
    rw [if_neg c131, if_neg cu]
    have hx3 := LwS_at hx2
    rcases l_tail hx3.1 hx3.2.1 e550 hl (J kind) (J cn) (J (cn + L1.length : Nat)) (J (-1)) with ⟨t1, t2, t3⟩ | ⟨M', N', t2, t3, t4, t5, t6⟩
    · left
      have hTn := TS_next hx3.1 t1
      refine ⟨j1 + 1, E j1, _, _, by omega, t2, t3, TS_fr hTn (by simp (disch := omega) only [mset_ne, mset_eq, mrow_ne, mrow_eq, upd_eq, upd_ne]) (by simp (disch := omega) only [mset_ne, mset_eq, mrow_ne, mrow_eq, upd_eq, upd_ne]) (by simp (disch := omega) only [mset_ne, mset_eq, mrow_ne, mrow_eq, upd_eq, upd_ne]) ?_ (by unfold rwN; simp (disch := omega) only [mset_ne, mset_eq, mrow_ne, mrow_eq, upd_eq, upd_ne]) (by unfold rwN; simp (disch := omega) only [mset_ne, mset_eq, mrow_ne, mrow_eq, upd_eq, upd_ne]) (by simp (disch := omega) only [mset_ne, mset_eq, mrow_ne, mrow_eq, upd_eq, upd_ne]) (by unfold rwN; simp (disch := omega) only [mset_ne, mset_eq, mrow_ne, mrow_eq, upd_eq, upd_ne]), ⟨by unfold rwN; simp (disch := omega) only [mset_ne, mset_eq, mrow_ne, mrow_eq, upd_eq, upd_ne]; exact h12, _, j1 + 1, _, rule_fin hd hl hk hE e56 e57 e58 (fun i _ => by rw [e59]) ?_ hc.2.1 hc.1 a3 a4 (Or.inl ⟨rfl, rfl, rfl⟩), ?_, ?_, by simp (disch := omega) only [mset_ne, mset_eq, mrow_ne, mrow_eq, upd_eq, upd_ne], by omega, ?_, ?_⟩, FrC_t fr2 (FrC_t (FrC_d _ (by omega) (by omega) _ _) (FrC_t (FrC_7 _ _) (FrC_d _ (by omega) (by omega) _ _))), FrN_t (FrN_9 _ _) (FrN_t (rwF _ _ _ _ _ _) (FrN_9 _ _))⟩
      · funext i
        by_cases ci : i = 7 <;> (try subst ci) <;> simp (disch := omega) only [mset_ne, mset_eq, mrow_ne, mrow_eq, upd_eq, upd_ne]
      · intro i hi
        simp (disch := omega) only [mset_ne, mset_eq, mrow_ne, mrow_eq, upd_eq, upd_ne]
      · rw [if_neg (by omega)]; simp (disch := omega) only [mset_ne, mset_eq, mrow_ne, mrow_eq, upd_eq, upd_ne]; exact hx2.2.1
      · unfold rwN; simp (disch := omega) only [mset_ne, mset_eq, mrow_ne, mrow_eq, upd_eq, upd_ne]; exact h.2.2.1
      · rw [if_neg (by omega)]
        have := h.2.2.2.1
        omega
      · rw [if_neg (by omega)]
        exact h.2.2.2.2
    · right
      exact ⟨M', N', t2, t3, t4, FrC_t fr2 t5, FrN_t (FrN_9 _ _) t6⟩
