/-! ===== apart: rounds of both ===== -/
def ApR (A B : zM) (D : Nat → Nat) : Prop := ∀ c, c < 144 → A 88 c = J (e6 (D c)) ∧ B 279 c = J (e9 (D c))
theorem Ap_DR {w D T : Nat → Nat} {L : Nat → List Nat} {t i : Nat} (h : ApI w D T L t i) : DR D := by
  intro c hc
  rcases h.2.1 c hc with ⟨_, q⟩ | ⟨_, _, q⟩ <;> omega
def wtI (f : Nat → Int32) (c : Nat) : Nat := if f c = J 1 then 0 else 1
theorem wtI_le (f : Nat → Int32) (c : Nat) : wtI f c ≤ 1 := by unfold wtI; split <;> omega
theorem p_sweep {A B : zM} {D T : Nat → Nat} {L : Nat → List Nat} {t : Nat} (r : Int32) (hM : ∀ c, c < 144 → A 3 c = B 258 c) (hI : ApI (wtI (B 258)) D T L t 0) (hR : ApR A B D) :
    W2 (loopW (fun s => b_X2_fewestToPart_28_13 r s.1 s.2.1 s.2.2) (J 0, J 0, A)) (loopW (fun s => b_X11_apart_45_37 s.1 s.2.1 s.2.2) (J 0, J 0, B)) (fun q p => q.1 = p.1 ∧ (∃ D' T' L', ((q.1 = J 0 ∧ D' = D) ∨ (q.1 = J 1 ∧ t < 144)) ∧ ApI (wtI (B 258)) D' T' L' t 144 ∧ ApR q.2 p.2 D') ∧ (∀ j, j ≠ 88 → q.2 j = A j) ∧ ∀ j, j ≠ 279 → p.2 j = B j) := by
  refine loopR (fun i s u => s.1 = u.1 ∧ s.2.1 = J i ∧ u.2.1 = J i ∧ (∃ D' T' L', ((s.1 = J 0 ∧ D' = D) ∨ (s.1 = J 1 ∧ t < 144)) ∧ ApI (wtI (B 258)) D' T' L' t i ∧ ApR s.2.2 u.2.2 D') ∧ (∀ j, j ≠ 88 → s.2.2 j = A j) ∧ ∀ j, j ≠ 279 → u.2.2 j = B j) 144 ⟨rfl, rfl, rfl, ⟨D, T, L, Or.inl ⟨rfl, rfl⟩, hI, hR⟩, fun _ _ => rfl, fun _ _ => rfl⟩ ?_ ?_
  · rintro i ⟨s1, s2, A1⟩ ⟨u1, u2, B1⟩ hi ⟨e1, e2, e3, ⟨D', T', L', e4, e5, e6'⟩, e7, e8⟩
    simp only at e1 e2 e3 e4 e5 e6' e7 e8
    subst e1 e2 e3
    have hDR := Ap_DR e5
    have hl : i % 12 ≠ 0 → D' (i - 1) ≤ 12 := by
      intro h
      rcases e5.2.1 (i - 1) (by omega) with ⟨_, q⟩ | ⟨q, _⟩ <;> omega
    obtain ⟨v, k1, v', rfl, k2, k3⟩ := p_cheap hi (fun p hp => (e6' p hp).1) hDR hl
    obtain ⟨v2, k4, v2', rfl, k5, k6⟩ := p_besid hi (fun p hp => (e6' p hp).2) hDR hl
    have ev := IsMn_u k5 k2
    subst ev
    obtain ⟨q1, q2⟩ := e6' i hi
    have a3 : A1 3 = A 3 := e7 3 (by decide)
    have b258 : B1 258 = B 258 := e8 258 (by decide)
    have hmi := hM i hi
    have hdi := hDR i hi
    -- both add the same
    obtain ⟨wv, hwv, hw1, hw2⟩ : ∃ wv : Nat, wv = wtI (B 258) i ∧ wv ≤ 1 ∧ (B 258 i = J 1 ∧ wv = 0 ∨ ¬ B 258 i = J 1 ∧ wv = 1) := by
      refine ⟨_, rfl, wtI_le _ _, ?_⟩
      unfold wtI
      by_cases c : B 258 i = J 1
      · rw [if_pos c]; exact Or.inl ⟨c, rfl⟩
      · rw [if_neg c]; exact Or.inr ⟨c, rfl⟩
    have tail : W2 (j_X2_fewestToPart_55_13_28 s1 r (J i) (J v2') (J wv) A1) (j_X11_apart_72_37_45 s1 (J i) (J v2') (J wv) B1) (SumR (fun (s : Int32 × Int32 × zM) (u : Int32 × Int32 × zM) => s.1 = u.1 ∧ s.2.1 = J ((i + 1 : Nat) : Int) ∧ u.2.1 = J ((i + 1 : Nat) : Int) ∧ (∃ D' T' L', ((s.1 = J 0 ∧ D' = D) ∨ (s.1 = J 1 ∧ t < 144)) ∧ ApI (wtI (B 258)) D' T' L' t (i + 1) ∧ ApR s.2.2 u.2.2 D') ∧ (∀ j, j ≠ 88 → s.2.2 j = A j) ∧ ∀ j, j ≠ 279 → u.2.2 j = B j) (fun (q : Int32 × zM) (p : Int32 × zM) => q.1 = p.1 ∧ (∃ D' T' L', ((q.1 = J 0 ∧ D' = D) ∨ (q.1 = J 1 ∧ t < 144)) ∧ ApI (wtI (B 258)) D' T' L' t 144 ∧ ApR q.2 p.2 D') ∧ (∀ j, j ≠ 88 → q.2 j = A j) ∧ ∀ j, j ≠ 279 → p.2 j = B j)) := by
      unfold j_X2_fewestToPart_55_13_28 j_X2_fewestToPart_79_13_28 j_X11_apart_72_37_45 j_X11_apart_99_37_45
      have h6 : v2' + wv < D' i ↔ v2' + wv < e6 (D' i) := by unfold e6; split <;> omega
      have h9 : v2' + wv < D' i ↔ v2' + wv < e9 (D' i) := by unfold e9; split <;> omega
      have h10 := (e6_le hdi hdi).2.1
      have h11 := (e6_le hdi hdi).2.2.2
      by_cases c : v2' + wv < D' i
      · have c6 := h6.1 c
        have c9 := h9.1 c
        simp (disch := omega) only [↓nm_s, ↓grd_s, ↓reduceIte, J_lit, Int.cast_ofNat_Int, J_add, J_lt_t, J_lt_f, J_le_t, J_le_f, J_eq_t, J_eq_f, within_t, within_f, isIn_t, isIn_f, inRow_t, inRow_f, isCell_t, isCell_f, inb_t, ix_Jn, ix_J, Int.reduceToNat, Int.toNat_natCast, q1, q2]
        obtain ⟨ht, T2, L2, hA2⟩ := Ap_yes e5 hi (wtI_le _) k5 (by rw [← hwv]; exact c)
        refine w2_some ⟨rfl, rfl, rfl, ⟨_, T2, L2, Or.inr ⟨rfl, ht⟩, hA2, fun p hp => ?_⟩, fun j hj => by simp (disch := omega) only [mset_ne, mset_eq, mrow_ne, mrow_eq, upd_eq, upd_ne]; exact e7 j hj, fun j hj => by simp (disch := omega) only [mset_ne, mset_eq, mrow_ne, mrow_eq, upd_eq, upd_ne]; exact e8 j hj⟩
        rw [← hwv]
        by_cases e : p = i
        · subst e
          rw [upN_eq]
          simp (disch := omega) only [mset_ne, mset_eq, mrow_ne, mrow_eq, upd_eq, upd_ne]
          have z6 : e6 (v2' + wv) = v2' + wv := by unfold e6; rw [if_neg (by omega)]
          have z9 : e9 (v2' + wv) = v2' + wv := by unfold e9; rw [if_neg (by omega)]
          rw [z6, z9]
          exact ⟨rfl, rfl⟩
        · rw [upN_ne e]
          simp (disch := omega) only [mset_ne, mset_eq, mrow_ne, mrow_eq, upd_eq, upd_ne]
          exact e6' p hp
      · have c6 : ¬ v2' + wv < e6 (D' i) := fun h => c (h6.2 h)
        have c9 : ¬ v2' + wv < e9 (D' i) := fun h => c (h9.2 h)
        simp (disch := omega) only [↓nm_s, ↓grd_s, ↓reduceIte, J_lit, Int.cast_ofNat_Int, J_add, J_lt_t, J_lt_f, J_le_t, J_le_f, J_eq_t, J_eq_f, within_t, within_f, isIn_t, isIn_f, inRow_t, inRow_f, isCell_t, isCell_f, inb_t, ix_Jn, ix_J, Int.reduceToNat, Int.toNat_natCast, q1, q2]
        exact w2_some ⟨rfl, rfl, rfl, ⟨D', T', L', e4, Ap_no e5 hi (wtI_le _) k5 (by omega), e6'⟩, e7, e8⟩
    unfold b_X2_fewestToPart_28_13 b_X11_apart_45_37
    rcases hw2 with ⟨c, hz⟩ | ⟨c, hz⟩
    · rw [hz] at tail
      simp (disch := omega) only [↓nm_s, ↓grd_s, ↓reduceIte, J_lit, Int.cast_ofNat_Int, J_lt_t, J_lt_f, J_le_t, J_le_f, J_eq_t, J_eq_f, within_t, within_f, isIn_t, isIn_f, inRow_t, inRow_f, isCell_t, isCell_f, inb_t, ix_Jn, ix_J, Int.reduceToNat, Int.toNat_natCast, k1, k4, bind_s, a3, b258, hmi, c]
      exact tail
    · rw [hz] at tail
      simp (disch := omega) only [↓nm_s, ↓grd_s, ↓reduceIte, J_lit, Int.cast_ofNat_Int, J_lt_t, J_lt_f, J_le_t, J_le_f, J_eq_t, J_eq_f, within_t, within_f, isIn_t, isIn_f, inRow_t, inRow_f, isCell_t, isCell_f, inb_t, ix_Jn, ix_J, Int.reduceToNat, Int.toNat_natCast, k1, k4, bind_s, a3, b258, hmi, c]
      exact tail
  · rintro ⟨s1, s2, A1⟩ ⟨u1, u2, B1⟩ ⟨e1, e2, e3, e4, e7, e8⟩
    simp only at e1 e2 e3 e4 e7 e8
    subst e1 e2 e3
    unfold b_X2_fewestToPart_28_13 b_X11_apart_45_37
    simp (disch := omega) only [↓reduceIte, J_lit, Int.cast_ofNat_Int, J_lt_t, J_lt_f, J_le_t, J_le_f, J_eq_t, J_eq_f, within_t, within_f, isIn_t, isIn_f, inRow_t, inRow_f, isCell_t, isCell_f, inb_t]
    exact w2_some ⟨rfl, e4, e7, e8⟩
theorem p_rounds (M N : zM) (hM : ∀ c, c < 144 → M 3 c = N 258 c) : ∀ m k (fl : Int32) (A B : zM) (D T : Nat → Nat) (L : Nat → List Nat), k + m = 144 → (fl = J 0 ∨ fl = J 1) → (k = 0 → fl = J 1) → ApI (wtI (N 258)) D T L k 0 → ApR A B D → (∀ j, j ≠ 88 → A j = M j) → (∀ j, j ≠ 279 → B j = N j) →
    ∃ A' B' D', loopW (fun s => b_X2_fewestToPart_13 s.1 s.2.1 s.2.2) (fl, J k, A) = some A' ∧ loopW (fun s => b_X11_apart_37 s.1 s.2) (fl, B) = some B' ∧ (∀ c, c < 144 → D' c ≤ 12) ∧ ApR A' B' D' ∧ (∀ j, j ≠ 88 → A' j = M j) ∧ ∀ j, j ≠ 279 → B' j = N j := by
  intro m
  induction m with
  | zero =>
    intro k fl A B D T L hk hfl h0 hI hR fA fB
    have ek : k = 144 := by omega
    subst ek
    have h12 : ∀ c, c < 144 → D c ≤ 12 := by
      intro c hc
      rcases hI.2.1 c hc with ⟨_, q⟩ | ⟨_, q, _⟩ <;> omega
    have hc : loopW (fun s => b_X2_fewestToPart_13 s.1 s.2.1 s.2.2) (fl, J ((144 : Nat) : Int), A) = some A := by
      rw [loopW_eq]
      unfold b_X2_fewestToPart_13
      simp (disch := omega) only [↓reduceIte, J_lit, Int.cast_ofNat_Int, J_lt_t, J_lt_f, J_le_t, J_le_f, J_eq_t, J_eq_f, within_t, within_f, isIn_t, isIn_f, inRow_t, inRow_f, isCell_t, isCell_f, inb_t]
    have h00 : ∀ B1 : zM, loopW (fun s => b_X11_apart_37 s.1 s.2) (J 0, B1) = some B1 := by
      intro B1
      rw [loopW_eq]
      unfold b_X11_apart_37
      simp (disch := omega) only [↓reduceIte, J_lit, Int.cast_ofNat_Int, J_lt_t, J_lt_f, J_le_t, J_le_f, J_eq_t, J_eq_f, within_t, within_f, isIn_t, isIn_f, inRow_t, inRow_f, isCell_t, isCell_f, inb_t]
    rcases hfl with rfl | rfl
    · exact ⟨A, B, D, hc, h00 B, h12, hR, fA, fB⟩
    · obtain ⟨⟨q, A1⟩, ⟨p, B1⟩, g1, g2, g3, ⟨D', T', L', g4, g5, g6⟩, g7, g8⟩ := p_sweep (A := A) (B := B) (J 0) (fun c hc => by rw [fA 3 (by decide), fB 258 (by decide)]; exact hM c hc) (by rw [fB 258 (by decide)]; exact hI) hR
      simp only at g3 g4 g6 g7 g8
      rcases g4 with ⟨rfl, rfl⟩ | ⟨_, g⟩
      · subst g3
        refine ⟨A, B1, D', hc, ?_, h12, fun c hc => ⟨(hR c hc).1, (g6 c hc).2⟩, fA, fun j hj => (g8 j hj).trans (fB j hj)⟩
        rw [loopW_eq]
        unfold b_X11_apart_37 j_X11_apart_105_37
        simp (disch := omega) only [↓reduceIte, J_lit, Int.cast_ofNat_Int, J_lt_t, J_lt_f, J_le_t, J_le_f, J_eq_t, J_eq_f, within_t, within_f, isIn_t, isIn_f, inRow_t, inRow_f, isCell_t, isCell_f, inb_t, g2, bind_s]
        exact h00 B1
      · omega
  | succ m ih =>
    intro k fl A B D T L hk hfl h0 hI hR fA fB
    rcases hfl with rfl | rfl
    · have k0 : k ≠ 0 := by
        intro e
        have := h0 e
        exact absurd this (by decide)
      have h12 : ∀ c, c < 144 → D c ≤ 12 := by
        intro c hc
        rcases hI.2.1 c hc with ⟨_, q⟩ | ⟨_, q, _⟩ <;> omega
      refine ⟨A, B, D, ?_, ?_, h12, hR, fA, fB⟩
      · rw [loopW_eq]
        unfold b_X2_fewestToPart_13
        simp (disch := omega) only [↓reduceIte, J_lit, Int.cast_ofNat_Int, J_lt_t, J_lt_f, J_le_t, J_le_f, J_eq_t, J_eq_f, within_t, within_f, isIn_t, isIn_f, inRow_t, inRow_f, isCell_t, isCell_f, inb_t]
      · rw [loopW_eq]
        unfold b_X11_apart_37
        simp (disch := omega) only [↓reduceIte, J_lit, Int.cast_ofNat_Int, J_lt_t, J_lt_f, J_le_t, J_le_f, J_eq_t, J_eq_f, within_t, within_f, isIn_t, isIn_f, inRow_t, inRow_f, isCell_t, isCell_f, inb_t]
    · obtain ⟨⟨q, A1⟩, ⟨p, B1⟩, g1, g2, g3, ⟨D', T', L', g4, g5, g6⟩, g7, g8⟩ := p_sweep (A := A) (B := B) (J k) (fun c hc => by rw [fA 3 (by decide), fB 258 (by decide)]; exact hM c hc) (by rw [fB 258 (by decide)]; exact hI) hR
      simp only at g3 g4 g6 g7 g8
      subst g3
      have g5' := Ap_end g5
      rw [fB 258 (by decide)] at g5'
      obtain ⟨A', B', D2, z1, z2, z3⟩ := ih (k + 1) q A1 B1 D' T' L' (by omega) (by rcases g4 with ⟨e, _⟩ | ⟨e, _⟩; exact Or.inl e; exact Or.inr e) (by omega) g5' g6 (fun j hj => (g7 j hj).trans (fA j hj)) (fun j hj => (g8 j hj).trans (fB j hj))
      refine ⟨A', B', D2, ?_, ?_, z3⟩
      · rw [loopW_eq]
        unfold b_X2_fewestToPart_13 j_X2_fewestToPart_85_13
        simp (disch := omega) only [↓reduceIte, J_lit, Int.cast_ofNat_Int, J_lt_t, J_lt_f, J_le_t, J_le_f, J_eq_t, J_eq_f, within_t, within_f, isIn_t, isIn_f, inRow_t, inRow_f, isCell_t, isCell_f, inb_t, g1, bind_s, J_add]
        exact z1
      · rw [loopW_eq]
        unfold b_X11_apart_37 j_X11_apart_105_37
        simp (disch := omega) only [↓reduceIte, J_lit, Int.cast_ofNat_Int, J_lt_t, J_lt_f, J_le_t, J_le_f, J_eq_t, J_eq_f, within_t, within_f, isIn_t, isIn_f, inRow_t, inRow_f, isCell_t, isCell_f, inb_t, g2, bind_s]
        exact z2
theorem LN88 : LN 88 = 576 := by decide +kernel
theorem c_apart (p0 : Int32) : Cl2 (f_X10_apart p0) (f_X11_apart p0) := by
  intro M N hI
  obtain ⟨z, rfl, l1, l2⟩ := J_ex p0
  by_cases c0 : 0 ≤ z ∧ z ≤ 1
  · have hM : ∀ c, c < 144 → M 3 c = N 258 c := by
      obtain ⟨n, m, k, u, o, ks, a1, a2, a3, a4, a5, a6, a7, a8, a9, a10⟩ := hI
      exact fun c hc => (a2.2.2.2.1 c hc).1
    have fillN : Wp (loopW (fun s => b_X11_apart_13 s.1 s.2) (J 0, N)) (fun N' => (∀ x, x < 144 → N' 279 x = J 9999) ∧ ∀ j, j ≠ 279 → N' j = N j) := by
      refine loop_up (fun k s => s.1 = J k ∧ (∀ x, x < k → s.2 279 x = J 9999) ∧ ∀ j, j ≠ 279 → s.2 j = N j) 144 ⟨rfl, fun x h => by omega, fun _ _ => rfl⟩ ?_ ?_
      · rintro k ⟨s1, B⟩ hk ⟨e1, e2, e3⟩
        simp only at e1 e2 e3
        subst e1
        unfold b_X11_apart_13
        simp (disch := omega) only [↓nm_s, ↓grd_s, ↓reduceIte, J_lit, Int.cast_ofNat_Int, J_lt_t, J_lt_f, J_le_t, J_le_f, J_eq_t, J_eq_f, within_t, within_f, isIn_t, isIn_f, inRow_t, inRow_f, isCell_t, isCell_f, inb_t, ix_Jn, ix_J, Int.reduceToNat, Int.toNat_natCast]
        refine wp_some ⟨J_s _, fun x hx => ?_, fun j hj => by simp (disch := omega) only [mset_ne, mset_eq, mrow_ne, mrow_eq, upd_eq, upd_ne]; exact e3 j hj⟩
        by_cases e : x = k
        · subst e; simp (disch := omega) only [mset_ne, mset_eq, mrow_ne, mrow_eq, upd_eq, upd_ne]
        · simp (disch := omega) only [mset_ne, mset_eq, mrow_ne, mrow_eq, upd_eq, upd_ne]
          exact e2 x (by omega)
      · rintro ⟨s1, B⟩ ⟨e1, e2, e3⟩
        simp only at e1 e2 e3
        subst e1
        unfold b_X11_apart_13
        simp (disch := omega) only [↓reduceIte, J_lit, Int.cast_ofNat_Int, J_lt_t, J_lt_f, J_le_t, J_le_f, J_eq_t, J_eq_f, within_t, within_f, isIn_t, isIn_f, inRow_t, inRow_f, isCell_t, isCell_f, inb_t]
        exact wp_some ⟨e2, e3⟩
    obtain ⟨N1, f0, f1, f2⟩ := fillN
    have fM := t_fill (a := 88) (J 1000000) M (by rw [LN88]; decide)
    rw [LN88] at fM
    obtain ⟨A, B, D, k1, k2, k3, k4, k5, k6⟩ := p_rounds M N hM 144 0 (J 1) (mrow M 88 (fun i => if i < 576 then J 1000000 else M 88 i)) N1 (fun _ => 1000) (fun _ => 0) (fun _ => []) rfl (Or.inr rfl) (fun _ => rfl) (Ap_0 _) (fun c hc => ⟨by rw [mrow_eq]; simp only; rw [if_pos (by omega)]; rfl, by rw [f1 c hc]; rfl⟩) (fun j hj => mrow_ne hj) f2
    have fin : W2 (loopW (fun s => b_X2_fewestToPart_96 s.1 s.2 A) (J 12, J 0)) (loopW (fun s => b_X11_apart_115 s.1 s.2 B) (J 9999, J 0)) (fun a b => a = b) := by
      refine loopR (fun k s t => s.2 = J k ∧ t.2 = J k ∧ ((k = 0 ∧ s.1 = J 12 ∧ t.1 = J 9999) ∨ ∃ v : Nat, v ≤ 12 ∧ 0 < k ∧ s.1 = J v ∧ t.1 = J v)) 12 ⟨rfl, rfl, Or.inl ⟨rfl, rfl, rfl⟩⟩ ?_ ?_
      · rintro k ⟨s1, s2⟩ ⟨t1, t2⟩ hk ⟨e1, e2, e3⟩
        simp only at e1 e2 e3
        subst e1 e2
        have hd := k3 (12 * k + 11) (by omega)
        obtain ⟨q1, q2⟩ := k4 (12 * k + 11) (by omega)
        rw [show e6 (D (12 * k + 11)) = D (12 * k + 11) from by unfold e6; rw [if_neg (by omega)]] at q1
        rw [show e9 (D (12 * k + 11)) = D (12 * k + 11) from by unfold e9; rw [if_neg (by omega)]] at q2
        have ei : J 12 * J (k : Int) + J 12 - J 1 = J ((12 * k + 11 : Nat) : Int) := by rw [J_mul, J_add, J_sub]; exact congrArg J (by omega)
        have ep : f_X11_place (J 11) (J (k : Int)) = J ((12 * k + 11 : Nat) : Int) := by
          unfold f_X11_place
          simp only [J_lit, Int.cast_ofNat_Int, J_mul, J_add]
          rfl
        unfold b_X2_fewestToPart_96 b_X11_apart_115 j_X11_apart_154_115 f_J9_min_7cf53
        rcases e3 with ⟨e, rfl, rfl⟩ | ⟨v, hv, hk0, rfl, rfl⟩
        · by_cases c : D (12 * k + 11) < 12
          · simp (disch := omega) only [↓nm_s, ↓grd_s, ↓reduceIte, J_lit, Int.cast_ofNat_Int, J_lt_t, J_lt_f, J_le_t, J_le_f, J_eq_t, J_eq_f, within_t, within_f, isIn_t, isIn_f, inRow_t, inRow_f, isCell_t, isCell_f, inb_t, ix_Jn, ix_J, Int.reduceToNat, Int.toNat_natCast, ei, ep, q1, q2]
            exact w2_some ⟨J_s _, J_s _, Or.inr ⟨_, hd, by omega, rfl, rfl⟩⟩
          · have e12 : D (12 * k + 11) = 12 := by omega
            rw [e12] at q1 q2
            simp (disch := omega) only [↓nm_s, ↓grd_s, ↓reduceIte, J_lit, Int.cast_ofNat_Int, J_lt_t, J_lt_f, J_le_t, J_le_f, J_eq_t, J_eq_f, within_t, within_f, isIn_t, isIn_f, inRow_t, inRow_f, isCell_t, isCell_f, inb_t, ix_Jn, ix_J, Int.reduceToNat, Int.toNat_natCast, ei, ep, q1, q2]
            exact w2_some ⟨J_s _, J_s _, Or.inr ⟨12, by omega, by omega, rfl, rfl⟩⟩
        · by_cases c : D (12 * k + 11) < v
          · simp (disch := omega) only [↓nm_s, ↓grd_s, ↓reduceIte, J_lit, Int.cast_ofNat_Int, J_lt_t, J_lt_f, J_le_t, J_le_f, J_eq_t, J_eq_f, within_t, within_f, isIn_t, isIn_f, inRow_t, inRow_f, isCell_t, isCell_f, inb_t, ix_Jn, ix_J, Int.reduceToNat, Int.toNat_natCast, ei, ep, q1, q2]
            exact w2_some ⟨J_s _, J_s _, Or.inr ⟨_, hd, by omega, rfl, rfl⟩⟩
          · simp (disch := omega) only [↓nm_s, ↓grd_s, ↓reduceIte, J_lit, Int.cast_ofNat_Int, J_lt_t, J_lt_f, J_le_t, J_le_f, J_eq_t, J_eq_f, within_t, within_f, isIn_t, isIn_f, inRow_t, inRow_f, isCell_t, isCell_f, inb_t, ix_Jn, ix_J, Int.reduceToNat, Int.toNat_natCast, ei, ep, q1, q2]
            exact w2_some ⟨J_s _, J_s _, Or.inr ⟨v, hv, by omega, rfl, rfl⟩⟩
      · rintro ⟨s1, s2⟩ ⟨t1, t2⟩ ⟨e1, e2, e3⟩
        simp only at e1 e2 e3
        subst e1 e2
        unfold b_X2_fewestToPart_96 b_X11_apart_115
        simp (disch := omega) only [↓reduceIte, J_lit, Int.cast_ofNat_Int, J_lt_t, J_lt_f, J_le_t, J_le_f, J_eq_t, J_eq_f, within_t, within_f, isIn_t, isIn_f, inRow_t, inRow_f, isCell_t, isCell_f, inb_t]
        rcases e3 with ⟨e, _⟩ | ⟨v, _, _, rfl, rfl⟩
        · omega
        · exact w2_some rfl
    obtain ⟨a, b, g1, g2, rfl⟩ := fin
    have k1' : loopW (fun s => b_X2_fewestToPart_13 s.1 s.2.1 s.2.2) (J 1, J 0, mrow M 88 (fun i => if i < 576 then J 1000000 else M 88 i)) = some A := k1
    unfold f_X10_apart f_X11_apart f_X2_fewestToPart j_X2_fewestToPart_91 j_X2_fewestToPart_127 j_X11_apart_35 j_X11_apart_108 j_X11_apart_161
    simp (disch := omega) only [↓nm_s, ↓reduceIte, J_lit, J_neg, Int.cast_ofNat_Int, J_lt_t, J_lt_f, J_le_t, J_le_f, J_eq_t, J_eq_f, within_t, within_f, isIn_t, isIn_f, inRow_t, inRow_f, isCell_t, isCell_f, inb_t, bind_s, bnd2_s, f0, fM, k1', k2, g1, g2]
    exact ⟨_, _, _, rfl, rfl, IC_scN (fun j _ _ _ _ => k6 j (by omega)) (fun i _ => by rw [k6 257 (by decide)]) (IC_scM (fun j _ h => k5 j (by unfold scC at h; omega)) (fun i _ => by rw [k5 70 (by decide)]) (fun i _ => by rw [k5 78 (by decide)]) (by rw [k5 83 (by decide)]) (by rw [k5 95 (by decide)]) hI)⟩
  · by_cases c1 : z < 0
    · unfold f_X10_apart f_X11_apart
      simp (disch := omega) only [↓nm_s, ↓reduceIte, J_lit, J_neg, Int.cast_ofNat_Int, J_lt_t, J_lt_f, J_le_t, J_le_f, J_eq_t, J_eq_f, within_t, within_f, isIn_t, isIn_f, inRow_t, inRow_f, isCell_t, isCell_f, inb_t]
      exact ⟨_, _, _, rfl, rfl, hI⟩
    · unfold f_X10_apart f_X11_apart
      simp (disch := omega) only [↓nm_s, ↓reduceIte, J_lit, J_neg, Int.cast_ofNat_Int, J_lt_t, J_lt_f, J_le_t, J_le_f, J_eq_t, J_eq_f, within_t, within_f, isIn_t, isIn_f, inRow_t, inRow_f, isCell_t, isCell_f, inb_t]
      exact ⟨_, _, _, rfl, rfl, hI⟩
