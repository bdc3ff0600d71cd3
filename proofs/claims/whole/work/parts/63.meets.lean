theorem at_stand {r ρ : Nat → Int32} {w b : Nat} {N : zM} (hw : w < 16) (h : WkR r (N 259) w b) (hin : r 1 = 1) : f_X11_standsAt (J w) N = some (atR r) := by
  obtain ⟨_, _, _, _, _, _, win⟩ := h
  obtain ⟨h2, h3, _⟩ := win hin
  rw [t_standsAt N hw, ← h2, ← h3]
  rfl
/-- both as they go alone: at 85 and at 86 -/
def Me (a b mS : Nat) (M0 N0 M N : zM) : Prop := WkR (M 85) (N 259) a mS ∧ WkR (M 86) (N 259) b mS ∧ (∀ j, j ≠ 85 → j ≠ 86 → M j = M0 j) ∧ (∀ j, j ≠ 259 → N j = N0 j) ∧ (∀ i, (i < 144 + 12 * a ∨ 156 + 12 * a ≤ i) → (i < 144 + 12 * b ∨ 156 + 12 * b ≤ i) → N 259 i = N0 259 i)
theorem Me_step {a b mS : Nat} {M0 N0 M N : zM} (ha : a < 16) (hb : b < 16) (hab : a ≠ b) (hm : mS ≤ 10100) (hT : WyR (M0 49) (M0 50) (M0 51) (N0 259)) (hc : ∀ i, i < 144 → M0 3 i = N0 259 i) (h : Me a b mS M0 N0 M N) (ia : M 85 1 = 1) (ib : M 86 1 = 1) :
    ∃ M1 M2 N1 N2, f_X1_actAlone (J a) 85 M = some M1 ∧ f_X1_actAlone (J b) 86 M1 = some M2 ∧ f_X11_goesAlone (J a) N = some N1 ∧ f_X11_goesAlone (J b) N1 = some N2 ∧ Me a b (mS + 1) M0 N0 M2 N2 := by
  obtain ⟨h1, h2, h3, h4, h5⟩ := h
  have hro : ∀ j, 941 ≤ j → j < 2357 → N 259 j = N0 259 j := fun j _ _ => h5 j (by omega) (by omega)
  obtain ⟨M1, N1, q1, q2, q3, q4, q5, q6⟩ := s_alone (A := 85) (w := a) (by omega) (by rw [h3 49 (by omega) (by omega), h3 50 (by omega) (by omega), h3 51 (by omega) (by omega)]; exact WyR_ro hro hT) (fun i hi => by rw [h3 3 (by omega) (by omega), h5 i (by omega) (by omega)]; exact hc i hi) ha hm ia h1
  have hro1 : ∀ j, 941 ≤ j → j < 2357 → N1 259 j = N0 259 j := fun j _ _ => by rw [q6 j (by omega)]; exact hro j (by omega) (by omega)
  have hb1 : WkR (M1 86) (N1 259) b mS := by
    rw [q4 86 (by omega)]
    exact WkR_ro (fun j _ _ => q6 j (by omega)) (fun j _ _ => q6 j (by omega)) hb h2
  obtain ⟨M2, N2, r1, r2, r3, r4, r5, r6⟩ := s_alone (A := 86) (w := b) (M := M1) (N := N1) (by omega) (by rw [q4 49 (by omega), q4 50 (by omega), q4 51 (by omega), h3 49 (by omega) (by omega), h3 50 (by omega) (by omega), h3 51 (by omega) (by omega)]; exact WyR_ro hro1 hT) (fun i hi => by rw [q4 3 (by omega), h3 3 (by omega) (by omega), q6 i (by omega), h5 i (by omega) (by omega)]; exact hc i hi) hb hm (by rw [q4 86 (by omega)]; exact ib) hb1
  refine ⟨M1, M2, N1, N2, q1, r1, q2, r2, ?_, r3, fun j c1 c2 => by rw [r4 j c2, q4 j c1, h3 j c1 c2], fun j c => by rw [r5 j c, q5 j c, h4 j c], fun i c1 c2 => by rw [r6 i c2, q6 i c1, h5 i c1 c2]⟩
  rw [r4 85 (by omega)]
  exact WkR_ro (fun j _ _ => r6 j (by omega)) (fun j _ _ => r6 j (by omega)) ha q3
theorem meet_key {a b : Nat} {M0 N0 : zM} (ha : a < 16) (hb : b < 16) (hab : a ≠ b) (hT : WyR (M0 49) (M0 50) (M0 51) (N0 259)) (hc : ∀ i, i < 144 → M0 3 i = N0 259 i) : ∀ (r i mS : Nat) (M N : zM), i + r = 60 → mS + r ≤ 10090 → Me a b mS M0 N0 M N → M 85 1 = 1 → M 86 1 = 1 → atR (M 85) ≠ atR (M 86) →
    ∃ v M2 N2, ((loopW (fun s => b_X1_meeting_34 (J a) (J b) s.1 s.2) (J (i + 1 : Nat), M)).bind (fun q => Sum.elim (fun r => j_X1_meeting_105 r) some q)) = some (v, M2) ∧ ((loopW (fun s => b_X11_meets_24 (J a) (J b) s.1 s.2) (J i, N)).bind (fun q => Sum.elim (fun r => j_X11_meets_81 r) some q)) = some (v, N2) ∧ (∀ j, j ≠ 85 → j ≠ 86 → M2 j = M0 j) ∧ (∀ j, j ≠ 259 → N2 j = N0 j) := by
  intro r
  induction r with
  | zero =>
    intro i mS M N hi hm h ia ib hne
    obtain ⟨M1, M2, N1, N2, q1, q2, q3, q4, q5⟩ := Me_step ha hb hab (by omega) hT hc h ia ib
    have s1 := at_stand (ρ := N 259) ha h.1 ia
    have s2 := at_stand (ρ := N 259) hb h.2.1 ib
    have i1 : N 259 (145 + 12 * a) = J 1 := by rw [← h.1.2.1]; exact ia
    have i2 : N 259 (145 + 12 * b) = J 1 := by rw [← h.2.1.2.1]; exact ib
    refine ⟨J (-1), M, N2, ?_, ?_, h.2.2.1, q5.2.2.2.1⟩
    · rw [loop_en (B := fun s : Int32 × zM => b_X1_meeting_34 (J a) (J b) s.1 s.2) (s := (J (i + 1 : Nat), M)) (r := .inl M) (by
        unfold b_X1_meeting_34
        simp (disch := omega) only [↓nm_s, ↓grd_s, ↓reduceIte, J_lit, J_nI, J_add, J_sub, J_mul, J_neg, Int.cast_ofNat_Int, J_lt_t, J_lt_f, J_le_t, J_le_f, J_eq_t, J_eq_f, within_t, within_f, isIn_t, isIn_f, inRow_t, inRow_f, isCell_t, isCell_f, inb_t, ix_Jn, ix_J, Int.reduceToNat, Int.toNat_natCast, mset_ne, mset_eq, mrow_ne, mrow_eq, upd_eq, upd_ne, bind_s, bnd2_s, not_true_eq_false, not_false_eq_true, Nat.reduceAdd])]
      rfl
    · rw [loop_st (B := fun s : Int32 × zM => b_X11_meets_24 (J a) (J b) s.1 s.2) (s := (J i, N)) (s' := (J (i + 1 : Nat), N2)) (by
        unfold b_X11_meets_24
        simp (disch := omega) only [↓nm_s, ↓grd_s, ↓reduceIte, J_lit, J_nI, J_add, J_sub, J_mul, J_neg, Int.cast_ofNat_Int, J_lt_t, J_lt_f, J_le_t, J_le_f, J_eq_t, J_eq_f, within_t, within_f, isIn_t, isIn_f, inRow_t, inRow_f, isCell_t, isCell_f, inb_t, ix_Jn, ix_J, Int.reduceToNat, Int.toNat_natCast, mset_ne, mset_eq, mrow_ne, mrow_eq, upd_eq, upd_ne, bind_s, bnd2_s, not_true_eq_false, not_false_eq_true, Nat.reduceAdd, th0, ts0, ta0, th1, ts1, ta1, th2, ts2, ta2, th3, ts3, ta3, th4, ts4, ta4, th5, ts5, ta5, th6, ts6, ta6, th7, ts7, ta7, th8, ts8, ta8, th9, ts9, ta9, th10, ts10, ta10, th11, ts11, ta11, i1, i2, s1, s2, hne, q3, q4]
        rfl), loop_en (B := fun s : Int32 × zM => b_X11_meets_24 (J a) (J b) s.1 s.2) (s := (J (i + 1 : Nat), N2)) (r := .inl N2) (by
        unfold b_X11_meets_24
        simp (disch := omega) only [↓nm_s, ↓grd_s, ↓reduceIte, J_lit, J_nI, J_add, J_sub, J_mul, J_neg, Int.cast_ofNat_Int, J_lt_t, J_lt_f, J_le_t, J_le_f, J_eq_t, J_eq_f, within_t, within_f, isIn_t, isIn_f, inRow_t, inRow_f, isCell_t, isCell_f, inb_t, ix_Jn, ix_J, Int.reduceToNat, Int.toNat_natCast, mset_ne, mset_eq, mrow_ne, mrow_eq, upd_eq, upd_ne, bind_s, bnd2_s, not_true_eq_false, not_false_eq_true, Nat.reduceAdd])]
      rfl
  | succ r ih =>
    intro i mS M N hi hm h ia ib hne
    obtain ⟨M1, M2, N1, N2, q1, q2, q3, q4, q5⟩ := Me_step ha hb hab (by omega) hT hc h ia ib
    have s1 := at_stand (ρ := N 259) ha h.1 ia
    have s2 := at_stand (ρ := N 259) hb h.2.1 ib
    have i1 : N 259 (145 + 12 * a) = J 1 := by rw [← h.1.2.1]; exact ia
    have i2 : N 259 (145 + 12 * b) = J 1 := by rw [← h.2.1.2.1]; exact ib
    have st : b_X11_meets_24 (J a) (J b) (J i) N = some (.inl (J (i + 1 : Nat), N2)) := by
      unfold b_X11_meets_24
      simp (disch := omega) only [↓nm_s, ↓grd_s, ↓reduceIte, J_lit, J_nI, J_add, J_sub, J_mul, J_neg, Int.cast_ofNat_Int, J_lt_t, J_lt_f, J_le_t, J_le_f, J_eq_t, J_eq_f, within_t, within_f, isIn_t, isIn_f, inRow_t, inRow_f, isCell_t, isCell_f, inb_t, ix_Jn, ix_J, Int.reduceToNat, Int.toNat_natCast, mset_ne, mset_eq, mrow_ne, mrow_eq, upd_eq, upd_ne, bind_s, bnd2_s, not_true_eq_false, not_false_eq_true, Nat.reduceAdd, th0, ts0, ta0, th1, ts1, ta1, th2, ts2, ta2, th3, ts3, ta3, th4, ts4, ta4, th5, ts5, ta5, th6, ts6, ta6, th7, ts7, ta7, th8, ts8, ta8, th9, ts9, ta9, th10, ts10, ta10, th11, ts11, ta11, i1, i2, s1, s2, hne, q3, q4]
      rfl
    rw [loop_st (B := fun s : Int32 × zM => b_X11_meets_24 (J a) (J b) s.1 s.2) (s := (J i, N)) (s' := (J (i + 1 : Nat), N2)) st]
    have j1 : N2 259 (145 + 12 * a) = M2 85 1 := q5.1.2.1.symm
    have j2 : N2 259 (145 + 12 * b) = M2 86 1 := q5.2.1.2.1.symm
    rcases q5.1.2.2.1 with ja | ja
    · have ja' : M2 85 1 = J 0 := ja
      refine ⟨J (-1), M2, N2, ?_, ?_, q5.2.2.1, q5.2.2.2.1⟩
      · rw [loop_en (B := fun s : Int32 × zM => b_X1_meeting_34 (J a) (J b) s.1 s.2) (s := (J (i + 1 : Nat), M)) (r := .inr (J (-1), M2)) (by
          unfold b_X1_meeting_34
          simp (disch := omega) only [↓nm_s, ↓grd_s, ↓reduceIte, J_lit, J_nI, J_add, J_sub, J_mul, J_neg, Int.cast_ofNat_Int, J_lt_t, J_lt_f, J_le_t, J_le_f, J_eq_t, J_eq_f, within_t, within_f, isIn_t, isIn_f, inRow_t, inRow_f, isCell_t, isCell_f, inb_t, ix_Jn, ix_J, Int.reduceToNat, Int.toNat_natCast, mset_ne, mset_eq, mrow_ne, mrow_eq, upd_eq, upd_ne, bind_s, bnd2_s, not_true_eq_false, not_false_eq_true, Nat.reduceAdd, q1, q2, ja'])]
        rfl
      · rw [loop_en (B := fun s : Int32 × zM => b_X11_meets_24 (J a) (J b) s.1 s.2) (s := (J (i + 1 : Nat), N2)) (r := .inr (J (-1), N2)) (by
          unfold b_X11_meets_24
          simp (disch := omega) only [↓nm_s, ↓grd_s, ↓reduceIte, J_lit, J_nI, J_add, J_sub, J_mul, J_neg, Int.cast_ofNat_Int, J_lt_t, J_lt_f, J_le_t, J_le_f, J_eq_t, J_eq_f, within_t, within_f, isIn_t, isIn_f, inRow_t, inRow_f, isCell_t, isCell_f, inb_t, ix_Jn, ix_J, Int.reduceToNat, Int.toNat_natCast, mset_ne, mset_eq, mrow_ne, mrow_eq, upd_eq, upd_ne, bind_s, bnd2_s, not_true_eq_false, not_false_eq_true, Nat.reduceAdd, th0, ts0, ta0, th1, ts1, ta1, th2, ts2, ta2, th3, ts3, ta3, th4, ts4, ta4, th5, ts5, ta5, th6, ts6, ta6, th7, ts7, ta7, th8, ts8, ta8, th9, ts9, ta9, th10, ts10, ta10, th11, ts11, ta11, j1, ja'])]
        rfl
    · have ja' : M2 85 1 = J 1 := ja
      rcases q5.2.1.2.2.1 with jb | jb
      · have jb' : M2 86 1 = J 0 := jb
        refine ⟨J (-1), M2, N2, ?_, ?_, q5.2.2.1, q5.2.2.2.1⟩
        · rw [loop_en (B := fun s : Int32 × zM => b_X1_meeting_34 (J a) (J b) s.1 s.2) (s := (J (i + 1 : Nat), M)) (r := .inr (J (-1), M2)) (by
            unfold b_X1_meeting_34
            simp (disch := omega) only [↓nm_s, ↓grd_s, ↓reduceIte, J_lit, J_nI, J_add, J_sub, J_mul, J_neg, Int.cast_ofNat_Int, J_lt_t, J_lt_f, J_le_t, J_le_f, J_eq_t, J_eq_f, within_t, within_f, isIn_t, isIn_f, inRow_t, inRow_f, isCell_t, isCell_f, inb_t, ix_Jn, ix_J, Int.reduceToNat, Int.toNat_natCast, mset_ne, mset_eq, mrow_ne, mrow_eq, upd_eq, upd_ne, bind_s, bnd2_s, not_true_eq_false, not_false_eq_true, Nat.reduceAdd, q1, q2, ja', jb'])]
          rfl
        · rw [loop_en (B := fun s : Int32 × zM => b_X11_meets_24 (J a) (J b) s.1 s.2) (s := (J (i + 1 : Nat), N2)) (r := .inr (J (-1), N2)) (by
            unfold b_X11_meets_24
            simp (disch := omega) only [↓nm_s, ↓grd_s, ↓reduceIte, J_lit, J_nI, J_add, J_sub, J_mul, J_neg, Int.cast_ofNat_Int, J_lt_t, J_lt_f, J_le_t, J_le_f, J_eq_t, J_eq_f, within_t, within_f, isIn_t, isIn_f, inRow_t, inRow_f, isCell_t, isCell_f, inb_t, ix_Jn, ix_J, Int.reduceToNat, Int.toNat_natCast, mset_ne, mset_eq, mrow_ne, mrow_eq, upd_eq, upd_ne, bind_s, bnd2_s, not_true_eq_false, not_false_eq_true, Nat.reduceAdd, th0, ts0, ta0, th1, ts1, ta1, th2, ts2, ta2, th3, ts3, ta3, th4, ts4, ta4, th5, ts5, ta5, th6, ts6, ta6, th7, ts7, ta7, th8, ts8, ta8, th9, ts9, ta9, th10, ts10, ta10, th11, ts11, ta11, j1, j2, ja', jb'])]
          rfl
      · have jb' : M2 86 1 = J 1 := jb
        have t1 := at_stand (ρ := N2 259) ha q5.1 ja
        have t2 := at_stand (ρ := N2 259) hb q5.2.1 jb
        have a85 : f_X9_at 85 M2 = atR (M2 85) := rfl
        have a86 : f_X9_at 86 M2 = atR (M2 86) := rfl
        by_cases c : atR (M2 85) = atR (M2 86)
        · refine ⟨J (i + 1 : Nat), M2, N2, ?_, ?_, q5.2.2.1, q5.2.2.2.1⟩
          · rw [loop_en (B := fun s : Int32 × zM => b_X1_meeting_34 (J a) (J b) s.1 s.2) (s := (J (i + 1 : Nat), M)) (r := .inr (J (i + 1 : Nat), M2)) (by
              unfold b_X1_meeting_34
              simp (disch := omega) only [↓nm_s, ↓grd_s, ↓reduceIte, J_lit, J_nI, J_add, J_sub, J_mul, J_neg, Int.cast_ofNat_Int, J_lt_t, J_lt_f, J_le_t, J_le_f, J_eq_t, J_eq_f, within_t, within_f, isIn_t, isIn_f, inRow_t, inRow_f, isCell_t, isCell_f, inb_t, ix_Jn, ix_J, Int.reduceToNat, Int.toNat_natCast, mset_ne, mset_eq, mrow_ne, mrow_eq, upd_eq, upd_ne, bind_s, bnd2_s, not_true_eq_false, not_false_eq_true, Nat.reduceAdd, q1, q2, ja', jb', a85, a86, c])]
            rfl
          · rw [loop_en (B := fun s : Int32 × zM => b_X11_meets_24 (J a) (J b) s.1 s.2) (s := (J (i + 1 : Nat), N2)) (r := .inr (J (i + 1 : Nat), N2)) (by
              unfold b_X11_meets_24
              simp (disch := omega) only [↓nm_s, ↓grd_s, ↓reduceIte, J_lit, J_nI, J_add, J_sub, J_mul, J_neg, Int.cast_ofNat_Int, J_lt_t, J_lt_f, J_le_t, J_le_f, J_eq_t, J_eq_f, within_t, within_f, isIn_t, isIn_f, inRow_t, inRow_f, isCell_t, isCell_f, inb_t, ix_Jn, ix_J, Int.reduceToNat, Int.toNat_natCast, mset_ne, mset_eq, mrow_ne, mrow_eq, upd_eq, upd_ne, bind_s, bnd2_s, not_true_eq_false, not_false_eq_true, Nat.reduceAdd, th0, ts0, ta0, th1, ts1, ta1, th2, ts2, ta2, th3, ts3, ta3, th4, ts4, ta4, th5, ts5, ta5, th6, ts6, ta6, th7, ts7, ta7, th8, ts8, ta8, th9, ts9, ta9, th10, ts10, ta10, th11, ts11, ta11, j1, j2, ja', jb', t1, t2, c])]
            rfl
        · rw [loop_st (B := fun s : Int32 × zM => b_X1_meeting_34 (J a) (J b) s.1 s.2) (s := (J (i + 1 : Nat), M)) (s' := (J (i + 1 + 1 : Nat), M2)) (by
            unfold b_X1_meeting_34
            simp (disch := omega) only [↓nm_s, ↓grd_s, ↓reduceIte, J_lit, J_nI, J_add, J_sub, J_mul, J_neg, Int.cast_ofNat_Int, J_lt_t, J_lt_f, J_le_t, J_le_f, J_eq_t, J_eq_f, within_t, within_f, isIn_t, isIn_f, inRow_t, inRow_f, isCell_t, isCell_f, inb_t, ix_Jn, ix_J, Int.reduceToNat, Int.toNat_natCast, mset_ne, mset_eq, mrow_ne, mrow_eq, upd_eq, upd_ne, bind_s, bnd2_s, not_true_eq_false, not_false_eq_true, Nat.reduceAdd, q1, q2, ja', jb', a85, a86, c]
            rfl)]
          exact ih (i + 1) (mS + 1) M2 N2 (by omega) (by omega) q5 ja jb c
theorem c_meets (p q : Int32) : Cl2 (f_X10_meets p q) (f_X11_meets p q) := by
  intro M N hI
  obtain ⟨z, rfl, l1, l2⟩ := J_ex p
  obtain ⟨y, rfl, l3, l4⟩ := J_ex q
  have hI2 := hI
  obtain ⟨n, m, k, u, o, ks, a1, a2, a3, a4, a5, a6, a7, a8, a9, a10⟩ := hI2
  have hn := a2.1.1
  have e2 := a2.2.1.1
  have g2 := a2.2.2.1.1
  unfold f_X10_meets f_X11_meets
  by_cases c1 : 0 ≤ z ∧ z < n
  · obtain ⟨a, rfl⟩ : ∃ w : Nat, z = w := ⟨z.toNat, by omega⟩
    have hwa : WkR (M (4 + a)) (N 258) a m := a2.2.2.2.2.1 a (by omega)
    rw [hasIn_t hn e2 (by omega), isW_t hn g2 (by omega) (by omega)]
    have h145 : mset (tkR N) 257 6 (J 1) 259 (145 + 12 * a) = M (4 + a) 1 := by rw [tk_s N (J 1) _ (by omega), hwa.2.1]
    by_cases c2 : 0 ≤ y ∧ y < n
    · obtain ⟨b, rfl⟩ : ∃ w : Nat, y = w := ⟨y.toNat, by omega⟩
      have hwb : WkR (M (4 + b)) (N 258) b m := a2.2.2.2.2.1 b (by omega)
      rw [hasIn_t hn e2 (by omega), isW_t hn g2 (by omega) (by omega)]
      have h145b : mset (tkR N) 257 6 (J 1) 259 (145 + 12 * b) = M (4 + b) 1 := by rw [tk_s N (J 1) _ (by omega), hwb.2.1]
      generalize hB : mset (tkR N) 257 6 (J 1) = B at h145 h145b
      have hIB : IC M B := by rw [← hB]; exact IC_tk (J 1) hI
      have hSB : Sq M 1 (B 259) n m k := by rw [← hB]; exact Sq_tk (J 1) a2
      have hTB : Tx M 40 (B 259) := by rw [← hB]; exact Tx_tk (J 1) a3
      have htk : f_X11_take N = some B := by rw [t_take, hB]
      have wa : WkR (M (4 + a)) (B 259) a m := hSB.2.2.2.2.1 a (by omega)
      have wbb : WkR (M (4 + b)) (B 259) b m := hSB.2.2.2.2.1 b (by omega)
      rcases hwa.2.2.1 with ia | ia
      · have ia' : M (4 + a) 1 = J 0 := ia
        have hl : loopW (fun s => b_X11_meets_24 (J a) (J b) s.1 s.2) (J 0, B) = some (.inr (J (-1), B)) := by
          refine loop_en (s := (J 0, B)) ?_
          unfold b_X11_meets_24
          simp (disch := omega) only [↓nm_s, ↓grd_s, ↓reduceIte, J_lit, J_nI, J_add, J_sub, J_mul, J_neg, Int.cast_ofNat_Int, J_lt_t, J_lt_f, J_le_t, J_le_f, J_eq_t, J_eq_f, within_t, within_f, isIn_t, isIn_f, inRow_t, inRow_f, isCell_t, isCell_f, inb_t, ix_Jn, ix_J, Int.reduceToNat, Int.toNat_natCast, mset_ne, mset_eq, mrow_ne, mrow_eq, upd_eq, upd_ne, bind_s, bnd2_s, not_true_eq_false, not_false_eq_true, Nat.reduceAdd, th0, ts0, ta0, th1, ts1, ta1, th2, ts2, ta2, th3, ts3, ta3, th4, ts4, ta4, th5, ts5, ta5, th6, ts6, ta6, th7, ts7, ta7, th8, ts8, ta8, th9, ts9, ta9, th10, ts10, ta10, th11, ts11, ta11, h145, ia']
        simp (disch := omega) only [↓nm_s, ↓grd_s, ↓reduceIte, J_lit, J_nI, J_add, J_sub, J_mul, J_neg, Int.cast_ofNat_Int, J_lt_t, J_lt_f, J_le_t, J_le_f, J_eq_t, J_eq_f, within_t, within_f, isIn_t, isIn_f, inRow_t, inRow_f, isCell_t, isCell_f, inb_t, ix_Jn, ix_J, Int.reduceToNat, Int.toNat_natCast, mset_ne, mset_eq, mrow_ne, mrow_eq, upd_eq, upd_ne, bind_s, bnd2_s, not_true_eq_false, not_false_eq_true, Nat.reduceAdd, ia', htk, hl]
        exact ⟨_, _, _, rfl, rfl, hIB⟩
      · have ia' : M (4 + a) 1 = J 1 := ia
        rcases hwb.2.2.1 with ib | ib
        · have ib' : M (4 + b) 1 = J 0 := ib
          have hl : loopW (fun s => b_X11_meets_24 (J a) (J b) s.1 s.2) (J 0, B) = some (.inr (J (-1), B)) := by
            refine loop_en (s := (J 0, B)) ?_
            unfold b_X11_meets_24
            simp (disch := omega) only [↓nm_s, ↓grd_s, ↓reduceIte, J_lit, J_nI, J_add, J_sub, J_mul, J_neg, Int.cast_ofNat_Int, J_lt_t, J_lt_f, J_le_t, J_le_f, J_eq_t, J_eq_f, within_t, within_f, isIn_t, isIn_f, inRow_t, inRow_f, isCell_t, isCell_f, inb_t, ix_Jn, ix_J, Int.reduceToNat, Int.toNat_natCast, mset_ne, mset_eq, mrow_ne, mrow_eq, upd_eq, upd_ne, bind_s, bnd2_s, not_true_eq_false, not_false_eq_true, Nat.reduceAdd, th0, ts0, ta0, th1, ts1, ta1, th2, ts2, ta2, th3, ts3, ta3, th4, ts4, ta4, th5, ts5, ta5, th6, ts6, ta6, th7, ts7, ta7, th8, ts8, ta8, th9, ts9, ta9, th10, ts10, ta10, th11, ts11, ta11, h145, h145b, ia', ib']
          simp (disch := omega) only [↓nm_s, ↓grd_s, ↓reduceIte, J_lit, J_nI, J_add, J_sub, J_mul, J_neg, Int.cast_ofNat_Int, J_lt_t, J_lt_f, J_le_t, J_le_f, J_eq_t, J_eq_f, within_t, within_f, isIn_t, isIn_f, inRow_t, inRow_f, isCell_t, isCell_f, inb_t, ix_Jn, ix_J, Int.reduceToNat, Int.toNat_natCast, mset_ne, mset_eq, mrow_ne, mrow_eq, upd_eq, upd_ne, bind_s, bnd2_s, not_true_eq_false, not_false_eq_true, Nat.reduceAdd, ia', ib', htk, hl]
          exact ⟨_, _, _, rfl, rfl, hIB⟩
        · have ib' : M (4 + b) 1 = J 1 := ib
          by_cases c3 : a = b
          · subst c3
            have st := at_stand (ρ := B 259) (by omega) wa ia
            have hl : loopW (fun s => b_X11_meets_24 (J a) (J a) s.1 s.2) (J 0, B) = some (.inr (J 0, B)) := by
              refine loop_en (s := (J 0, B)) ?_
              unfold b_X11_meets_24
              simp (disch := omega) only [↓nm_s, ↓grd_s, ↓reduceIte, J_lit, J_nI, J_add, J_sub, J_mul, J_neg, Int.cast_ofNat_Int, J_lt_t, J_lt_f, J_le_t, J_le_f, J_eq_t, J_eq_f, within_t, within_f, isIn_t, isIn_f, inRow_t, inRow_f, isCell_t, isCell_f, inb_t, ix_Jn, ix_J, Int.reduceToNat, Int.toNat_natCast, mset_ne, mset_eq, mrow_ne, mrow_eq, upd_eq, upd_ne, bind_s, bnd2_s, not_true_eq_false, not_false_eq_true, Nat.reduceAdd, th0, ts0, ta0, th1, ts1, ta1, th2, ts2, ta2, th3, ts3, ta3, th4, ts4, ta4, th5, ts5, ta5, th6, ts6, ta6, th7, ts7, ta7, th8, ts8, ta8, th9, ts9, ta9, th10, ts10, ta10, th11, ts11, ta11, h145, ia', st]
            simp (disch := omega) only [↓nm_s, ↓grd_s, ↓reduceIte, J_lit, J_nI, J_add, J_sub, J_mul, J_neg, Int.cast_ofNat_Int, J_lt_t, J_lt_f, J_le_t, J_le_f, J_eq_t, J_eq_f, within_t, within_f, isIn_t, isIn_f, inRow_t, inRow_f, isCell_t, isCell_f, inb_t, ix_Jn, ix_J, Int.reduceToNat, Int.toNat_natCast, mset_ne, mset_eq, mrow_ne, mrow_eq, upd_eq, upd_ne, bind_s, bnd2_s, not_true_eq_false, not_false_eq_true, Nat.reduceAdd, ia', htk, hl]
            exact ⟨_, _, _, rfl, rfl, hIB⟩
          · obtain ⟨A1, q1, q2, q3⟩ := p_wcopy (a := 85) (b := 4 + a) (M := M) (by omega) hwa.2.2.1
            obtain ⟨A2, r1, r2, r3⟩ := p_wcopy (a := 86) (b := 4 + b) (M := A1) (by omega) (by rw [q3 (4 + b) (by omega)]; exact hwb.2.2.1)
            have hMe : Me a b m M B A2 B := by
              refine ⟨?_, ?_, fun j c1 c2 => by rw [r3 j c2, q3 j c1], fun _ _ => rfl, fun _ _ _ => rfl⟩
              · exact WkR_r (fun j hj => by rw [r3 85 (by omega), q2 j hj]) wa
              · exact WkR_r (fun j hj => by rw [r2 j hj, q3 (4 + b) (by omega)]) wbb
            have hds : atR (A2 85) ≠ atR (A2 86) := by
              have : atR (M (4 + a)) ≠ atR (M (4 + b)) := a2.2.2.2.2.2.2 a b (by omega) (by omega) c3 ia ib
              unfold atR at this ⊢
              rw [r3 85 (by omega), q2 2 (by omega), q2 3 (by omega), r2 2 (by omega), r2 3 (by omega), q3 (4 + b) (by omega)]
              exact this
            obtain ⟨v, M2, N2, t1, t2, t3, t4⟩ := meet_key (M0 := M) (N0 := B) (a := a) (b := b) (by omega) (by omega) c3 hTB.2.2.1 (fun i hi => (hSB.2.2.2.1 i hi).1) 60 0 m A2 B (by omega) (by omega) hMe (by rw [r3 85 (by omega), q2 1 (by omega)]; exact ia) (by rw [r2 1 (by omega), q3 (4 + b) (by omega)]; exact ib) hds
            have t1' : ((loopW (fun s => b_X1_meeting_34 (J a) (J b) s.1 s.2) (J 1, A2)).bind (fun q => Sum.elim (fun r => j_X1_meeting_105 r) some q)) = some (v, M2) := t1
            have t2' : ((loopW (fun s => b_X11_meets_24 (J a) (J b) s.1 s.2) (J 0, B)).bind (fun q => Sum.elim (fun r => j_X11_meets_81 r) some q)) = some (v, N2) := t2
            have hme : f_X1_meeting (J a) (J b) M = some (v, M2) := by
              unfold f_X1_meeting
              simp (disch := omega) only [↓nm_s, ↓grd_s, ↓reduceIte, J_lit, J_nI, J_add, J_sub, J_mul, J_neg, Int.cast_ofNat_Int, J_lt_t, J_lt_f, J_le_t, J_le_f, J_eq_t, J_eq_f, within_t, within_f, isIn_t, isIn_f, inRow_t, inRow_f, isCell_t, isCell_f, inb_t, ix_Jn, ix_J, Int.reduceToNat, Int.toNat_natCast, mset_ne, mset_eq, mrow_ne, mrow_eq, upd_eq, upd_ne, bind_s, bnd2_s, not_true_eq_false, not_false_eq_true, Nat.reduceAdd, q1, r1, t1']
            simp (disch := omega) only [↓nm_s, ↓grd_s, ↓reduceIte, J_lit, J_nI, J_add, J_sub, J_mul, J_neg, Int.cast_ofNat_Int, J_lt_t, J_lt_f, J_le_t, J_le_f, J_eq_t, J_eq_f, within_t, within_f, isIn_t, isIn_f, inRow_t, inRow_f, isCell_t, isCell_f, inb_t, ix_Jn, ix_J, Int.reduceToNat, Int.toNat_natCast, mset_ne, mset_eq, mrow_ne, mrow_eq, upd_eq, upd_ne, bind_s, bnd2_s, not_true_eq_false, not_false_eq_true, Nat.reduceAdd, ia', ib', htk, t2', hme]
            refine ⟨_, _, _, rfl, rfl, IC_scN (fun j h1 h2 h3 h4 => t4 j h3) (fun i hi => by rw [t4 257 (by omega)]) (IC_scM (fun j h1 h2 => t3 j (by unfold scC at h2; omega) (by unfold scC at h2; omega)) (fun i _ => by rw [t3 70 (by omega) (by omega)]) (fun i _ => by rw [t3 78 (by omega) (by omega)]) (by rw [t3 83 (by omega) (by omega)]) (by rw [t3 95 (by omega) (by omega)]) hIB)⟩
    · rcases hwa.2.2.1 with ia | ia
      · have ia' : M (4 + a) 1 = J 0 := ia
        rw [isW_f hn g2 l3 l4 c2]
        simp (disch := omega) only [↓nm_s, ↓grd_s, ↓reduceIte, J_lit, J_nI, J_add, J_sub, J_mul, J_neg, Int.cast_ofNat_Int, J_lt_t, J_lt_f, J_le_t, J_le_f, J_eq_t, J_eq_f, within_t, within_f, isIn_t, isIn_f, inRow_t, inRow_f, isCell_t, isCell_f, inb_t, ix_Jn, ix_J, Int.reduceToNat, Int.toNat_natCast, mset_ne, mset_eq, mrow_ne, mrow_eq, upd_eq, upd_ne, bind_s, bnd2_s, not_true_eq_false, not_false_eq_true, Nat.reduceAdd, ia']
        exact ⟨_, _, _, rfl, rfl, hI⟩
      · have ia' : M (4 + a) 1 = J 1 := ia
        rw [isW_f hn g2 l3 l4 c2, hasIn_f hn e2 l3 l4 c2]
        simp (disch := omega) only [↓nm_s, ↓grd_s, ↓reduceIte, J_lit, J_nI, J_add, J_sub, J_mul, J_neg, Int.cast_ofNat_Int, J_lt_t, J_lt_f, J_le_t, J_le_f, J_eq_t, J_eq_f, within_t, within_f, isIn_t, isIn_f, inRow_t, inRow_f, isCell_t, isCell_f, inb_t, ix_Jn, ix_J, Int.reduceToNat, Int.toNat_natCast, mset_ne, mset_eq, mrow_ne, mrow_eq, upd_eq, upd_ne, bind_s, bnd2_s, not_true_eq_false, not_false_eq_true, Nat.reduceAdd, ia']
        exact ⟨_, _, _, rfl, rfl, hI⟩
  · rw [hasIn_f hn e2 l1 l2 c1, isW_f hn g2 l1 l2 c1]
    simp (disch := omega) only [↓nm_s, ↓grd_s, ↓reduceIte, J_lit, J_nI, J_add, J_sub, J_mul, J_neg, Int.cast_ofNat_Int, J_lt_t, J_lt_f, J_le_t, J_le_f, J_eq_t, J_eq_f, within_t, within_f, isIn_t, isIn_f, inRow_t, inRow_f, isCell_t, isCell_f, inb_t, ix_Jn, ix_J, Int.reduceToNat, Int.toNat_natCast, mset_ne, mset_eq, mrow_ne, mrow_eq, upd_eq, upd_ne, bind_s, bnd2_s, not_true_eq_false, not_false_eq_true, Nat.reduceAdd]
    exact ⟨_, _, _, rfl, rfl, hI⟩
