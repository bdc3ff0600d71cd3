/-! ===== who meets whom ===== -/
theorem s_nextA {A w : Nat} {M N : zM} {mS : Nat} (hA : 54 ≤ A) (hT : WyR (M 49) (M 50) (M 51) (N 259)) (hw : w < 16) (hm : mS ≤ 10100) (hin : M A 1 = 1) (hs : WkR (M A) (N 259) w mS) :
    ∃ u v M', f_X8_nextWord 40 (J w) A M = some (u, M') ∧ f_X11_nextWord (J w) N = some v ∧ WdR u v ∧ WkR (M' A) (mset N 259 (152 + 12 * w) (N 259 (152 + 12 * w) + J 1) 259) w (mS + 1) ∧ (∀ j, j ≠ A → M' j = M j) ∧ (∀ i, i ≠ 8 → i ≠ 9 → M' A i = M A i) := by
  obtain ⟨w0, w1, wb, w10, w11, w12, win⟩ := hs
  obtain ⟨h2, h3, h4, h5, h6, h7, lx, ly, lf, ls, st, dn, S, L, s8, s9, sS, sm, sL, sL2, sc⟩ := win hin
  obtain ⟨L', y1, y2, y3, y4⟩ := hT w hw
  have eL : L' = L := by
    rw [sL] at y3
    have := (J_eq (by omega) (by omega) (by omega) (by omega)).mp y3
    omega
  subst eL
  have hAm : ∀ i, i < L' → ∃ A : Nat, 1 ≤ A ∧ A ≤ 11 ∧ N 259 (1927 + 25 * w + 2 * i) = J A ∧ amt (N 259) w i = A := by
    intro i hi
    obtain ⟨_, _, A, q1, q2, q3⟩ := y4 i hi
    exact ⟨A, q1, q2, q3, amt_J q3 q2⟩
  have hR := t_nextR (N := N) (w := w) (S := S) (L := L') (st := st) (dn := dn) (by omega) sL2 (by omega) sS sL (fun i hi => by obtain ⟨A, _, _, q3, q4⟩ := hAm i hi; rw [q3, q4]) (fun i hi => by obtain ⟨A, _, q2, _, q4⟩ := hAm i hi; rw [q4]; exact q2) sc
  have wk : ∀ M' : zM, ∀ st' dn' : Nat, M' A 8 = J st' → M' A 9 = J dn' → (∀ i, i ≠ 8 → i ≠ 9 → M' A i = M A i) → (st' < L' ∧ dn' < amt (N 259) w st' ∧ S + 1 = smA (N 259) w st' + dn' ∨ st' = L' ∧ smA (N 259) w L' ≤ S + 1) → WkR (M' A) (mset N 259 (152 + 12 * w) (N 259 (152 + 12 * w) + J 1) 259) w (mS + 1) := by
    intro M' st' dn' q1 q2 q4 q5
    have hro : ∀ i, 1925 ≤ i → i < 2325 → mset N 259 (152 + 12 * w) (N 259 (152 + 12 * w) + J 1) 259 i = N 259 i := fun i _ _ => by simp (disch := omega) only [mset_ne, mset_eq, mrow_ne, mrow_eq, upd_eq, upd_ne]
    refine ⟨?_, ?_, ?_, ?_, ?_, ?_, fun _ => ⟨?_, ?_, ?_, ?_, ?_, ?_, ?_, ?_, ?_, ?_, st', dn', S + 1, L', q1, q2, ?_, by omega, ?_, sL2, ?_⟩⟩
    · rw [q4 0 (by omega) (by omega)]; simp (disch := omega) only [mset_ne, mset_eq, mrow_ne, mrow_eq, upd_eq, upd_ne]; exact w0
    · rw [q4 1 (by omega) (by omega)]; simp (disch := omega) only [mset_ne, mset_eq, mrow_ne, mrow_eq, upd_eq, upd_ne]; exact w1
    · rw [q4 1 (by omega) (by omega)]; exact wb
    · rw [q4 10 (by omega) (by omega)]; simp (disch := omega) only [mset_ne, mset_eq, mrow_ne, mrow_eq, upd_eq, upd_ne]; exact w10
    · rw [q4 11 (by omega) (by omega)]; simp (disch := omega) only [mset_ne, mset_eq, mrow_ne, mrow_eq, upd_eq, upd_ne]; exact w11
    · rw [q4 12 (by omega) (by omega)]; simp (disch := omega) only [mset_ne, mset_eq, mrow_ne, mrow_eq, upd_eq, upd_ne]; exact w12
    · rw [q4 2 (by omega) (by omega)]; simp (disch := omega) only [mset_ne, mset_eq, mrow_ne, mrow_eq, upd_eq, upd_ne]; exact h2
    · rw [q4 3 (by omega) (by omega)]; simp (disch := omega) only [mset_ne, mset_eq, mrow_ne, mrow_eq, upd_eq, upd_ne]; exact h3
    · rw [q4 4 (by omega) (by omega)]; simp (disch := omega) only [mset_ne, mset_eq, mrow_ne, mrow_eq, upd_eq, upd_ne]; exact h4
    · rw [q4 5 (by omega) (by omega)]; simp (disch := omega) only [mset_ne, mset_eq, mrow_ne, mrow_eq, upd_eq, upd_ne]; exact h5
    · rw [q4 6 (by omega) (by omega)]; simp (disch := omega) only [mset_ne, mset_eq, mrow_ne, mrow_eq, upd_eq, upd_ne]; exact h6
    · rw [q4 7 (by omega) (by omega)]; simp (disch := omega) only [mset_ne, mset_eq, mrow_ne, mrow_eq, upd_eq, upd_ne]; exact h7
    · rw [q4 2 (by omega) (by omega)]; exact lx
    · rw [q4 3 (by omega) (by omega)]; exact ly
    · rw [q4 4 (by omega) (by omega)]; exact lf
    · rw [q4 7 (by omega) (by omega)]; exact ls
    · simp (disch := omega) only [mset_ne, mset_eq, mrow_ne, mrow_eq, upd_eq, upd_ne]
      rw [sS, J_add]
      exact congrArg J (by omega)
    · simp (disch := omega) only [mset_ne, mset_eq, mrow_ne, mrow_eq, upd_eq, upd_ne]
      exact sL
    · rw [smA_ro hro (by omega) sL2]
      rcases q5 with ⟨a1, a2, a3⟩ | a
      · left
        rw [amt_ro hro (by omega) (by omega), smA_ro hro (by omega) (by omega)]
        exact ⟨a1, a2, a3⟩
      · right
        exact a
  have e49 : M 49 w = J L' := y2
  rcases sc with ⟨a1, a2, a3⟩ | ⟨a1, a2⟩
  · obtain ⟨Am, q1, q2, q3, q4⟩ := hAm st a1
    obtain ⟨d1, d2, _⟩ := y4 st a1
    have d2' : M 51 (12 * w + st) = J Am := by rw [← q3]; exact d2
    have iw : (12 * (w : Int) + (st : Int)).toNat = 12 * w + st := by omega
    rw [if_pos a1] at hR
    by_cases c : dn + 1 < Am
    · refine ⟨M 50 (12 * w + st), _, mset M A 9 (J (dn + 1 : Nat)), ?_, hR, d1, ?_, fun j hj => mset_ne hj, fun i _ hi => by simp (disch := omega) only [mset_ne, mset_eq, mrow_ne, mrow_eq, upd_eq, upd_ne]⟩
      · unfold f_X8_nextWord j_X8_nextWord_65
        simp (disch := omega) only [↓nm_s, ↓grd_s, ↓reduceIte, J_lit, J_nI, J_add, J_sub, J_mul, J_neg, Int.cast_ofNat_Int, J_lt_t, J_lt_f, J_le_t, J_le_f, J_eq_t, J_eq_f, within_t, within_f, isIn_t, isIn_f, inRow_t, inRow_f, isCell_t, isCell_f, inb_t, ix_Jn, ix_J, Int.reduceToNat, Int.toNat_natCast, mset_ne, mset_eq, mrow_ne, mrow_eq, upd_eq, upd_ne, bind_s, bnd2_s, not_true_eq_false, not_false_eq_true, Nat.reduceAdd, s8, s9, e49, iw, d2']
        rfl
      · refine wk _ st (dn + 1) ?_ ?_ (fun i _ hi => by simp (disch := omega) only [mset_ne, mset_eq, mrow_ne, mrow_eq, upd_eq, upd_ne]) (Or.inl ⟨a1, by omega, by omega⟩)
        · simp (disch := omega) only [mset_ne, mset_eq, mrow_ne, mrow_eq, upd_eq, upd_ne]
          exact s8
        · simp (disch := omega) only [mset_ne, mset_eq, mrow_ne, mrow_eq, upd_eq, upd_ne]
    · refine ⟨M 50 (12 * w + st), _, mset (mset (mset M A 9 (J (dn + 1 : Nat))) A 8 (J (st + 1 : Nat))) A 9 (J 0), ?_, hR, d1, ?_, fun j hj => by simp (disch := omega) only [mset_ne, mset_eq, mrow_ne, mrow_eq, upd_eq, upd_ne], fun i hi hi2 => by simp (disch := omega) only [mset_ne, mset_eq, mrow_ne, mrow_eq, upd_eq, upd_ne]⟩
      · unfold f_X8_nextWord j_X8_nextWord_65
        simp (disch := omega) only [↓nm_s, ↓grd_s, ↓reduceIte, J_lit, J_nI, J_add, J_sub, J_mul, J_neg, Int.cast_ofNat_Int, J_lt_t, J_lt_f, J_le_t, J_le_f, J_eq_t, J_eq_f, within_t, within_f, isIn_t, isIn_f, inRow_t, inRow_f, isCell_t, isCell_f, inb_t, ix_Jn, ix_J, Int.reduceToNat, Int.toNat_natCast, mset_ne, mset_eq, mrow_ne, mrow_eq, upd_eq, upd_ne, bind_s, bnd2_s, not_true_eq_false, not_false_eq_true, Nat.reduceAdd, s8, s9, e49, iw, d2']
        rfl
      · refine wk _ (st + 1) 0 ?_ ?_ (fun i hi hi2 => by simp (disch := omega) only [mset_ne, mset_eq, mrow_ne, mrow_eq, upd_eq, upd_ne]) ?_
        · simp (disch := omega) only [mset_ne, mset_eq, mrow_ne, mrow_eq, upd_eq, upd_ne]
        · simp (disch := omega) only [mset_ne, mset_eq, mrow_ne, mrow_eq, upd_eq, upd_ne]
          rfl
        · by_cases c2 : st + 1 < L'
          · left
            obtain ⟨A2, r1, r2, r3, r4⟩ := hAm (st + 1) c2
            refine ⟨c2, by omega, ?_⟩
            rw [smA]
            omega
          · right
            have : L' = st + 1 := by omega
            subst this
            refine ⟨rfl, ?_⟩
            rw [smA]
            omega
  · subst a1
    rw [if_neg (Nat.lt_irrefl _)] at hR
    refine ⟨J 150, J 3, M, ?_, hR, Or.inl ⟨rfl, rfl⟩, ?_, fun _ _ => rfl, fun _ _ _ => rfl⟩
    · unfold f_X8_nextWord
      simp (disch := omega) only [↓nm_s, ↓grd_s, ↓reduceIte, J_lit, J_nI, J_add, J_sub, J_mul, J_neg, Int.cast_ofNat_Int, J_lt_t, J_lt_f, J_le_t, J_le_f, J_eq_t, J_eq_f, within_t, within_f, isIn_t, isIn_f, inRow_t, inRow_f, isCell_t, isCell_f, inb_t, ix_Jn, ix_J, Int.reduceToNat, Int.toNat_natCast, mset_ne, mset_eq, mrow_ne, mrow_eq, upd_eq, upd_ne, bind_s, bnd2_s, not_true_eq_false, not_false_eq_true, Nat.reduceAdd, s8, e49]
    · exact wk M st dn s8 s9 (fun _ _ _ => rfl) (Or.inr ⟨rfl, by omega⟩)
/-- one of two goes on by his way alone -/
theorem s_alone {A w : Nat} {M N : zM} {mS : Nat} (hA : 54 ≤ A) (hT : WyR (M 49) (M 50) (M 51) (N 259)) (hc : ∀ i, i < 144 → M 3 i = N 259 i) (hw : w < 16) (hm : mS ≤ 10100) (hin : M A 1 = 1) (hs : WkR (M A) (N 259) w mS) :
    ∃ M' N', f_X1_actAlone (J w) A M = some M' ∧ f_X11_goesAlone (J w) N = some N' ∧ WkR (M' A) (N' 259) w (mS + 1) ∧ (∀ j, j ≠ A → M' j = M j) ∧ (∀ j, j ≠ 259 → N' j = N j) ∧ (∀ i, i < 144 + 12 * w ∨ 156 + 12 * w ≤ i → N' 259 i = N 259 i) := by
  obtain ⟨u, v, M1, b1, b2, b3, b4, b5, b6⟩ := s_nextA hA hT hw hm hin hs
  generalize hN1 : mset N 259 (152 + 12 * w) (N 259 (152 + 12 * w) + J 1) = N1 at b4
  have hin1 : M1 A 1 = 1 := by rw [b6 1 (by omega) (by omega)]; exact hin
  have fN : ∀ i, i < 144 + 12 * w ∨ 156 + 12 * w ≤ i → N1 259 i = N 259 i := fun i hi => by rw [← hN1]; simp (disch := omega) only [mset_ne, mset_eq, mrow_ne, mrow_eq, upd_eq, upd_ne]
  have fN2 : ∀ j, j ≠ 259 → N1 j = N j := fun j hj => by rw [← hN1]; simp (disch := omega) only [mset_ne, mset_eq, mrow_ne, mrow_eq, upd_eq, upd_ne]
  have b4' := b4
  obtain ⟨w0, w1, wb, w10, w11, w12, win⟩ := b4
  obtain ⟨h2, h3, h4, h5, h6, h7, ⟨x, lx, ex⟩, ⟨y, ly, ey⟩, ⟨f, lf, ef⟩, ls, hst⟩ := win hin1
  have ex2 : N1 259 (146 + 12 * w) = J x := by rw [← h2]; exact ex
  have ey2 : N1 259 (147 + 12 * w) = J y := by rw [← h3]; exact ey
  have ef2 : N1 259 (148 + 12 * w) = J f := by rw [← h4]; exact ef
  have eN : f_X11_goesAlone (J w) N = (if (3 : Int32) ≤ v then (j_X11_goesAlone_35 (J w) v N1) else ((f_X11_has (J w) 4 N1).bind fun u25 => (f_X11_sets (J w) 4 (f_X11_turned u25 v) N1).bind fun M32 => j_X11_goesAlone_35 (J w) v M32)) := by
    unfold f_X11_goesAlone
    rw [b2, bind_s, show (8 : Int32) = J 8 from rfl, show (1 : Int32) = J 1 from rfl, ta8 (J 1) N hw, bind_s, hN1]
  have eM : f_X1_actAlone (J w) A M = (if u = (154 : Int32) then (some M1) else (if u = (150 : Int32) then ((f_X9_ahead A M1).bind fun u36 => if u36 = (-1 : Int32) then (nm (mset M1 A 1 (0 : Int32)) fun M49 => some M49) else (grd (inb u36 144) (if (M1 3 (ix u36)) = (1 : Int32) then (some M1) else ((f_X9_stand A u36 M1).bind fun M72 => some M72)))) else ((f_X9_face A (u - (151 : Int32)) M1).bind fun M31 => some M31))) := by
    unfold f_X1_actAlone
    rw [b1, bnd2_s]
  rw [eN, eM]
  have turn : ∀ q : Nat, q < 3 → u = J (151 + q) → v = J q → ∃ M' N', (if u = (154 : Int32) then (some M1) else (if u = (150 : Int32) then ((f_X9_ahead A M1).bind fun u36 => if u36 = (-1 : Int32) then (nm (mset M1 A 1 (0 : Int32)) fun M49 => some M49) else (grd (inb u36 144) (if (M1 3 (ix u36)) = (1 : Int32) then (some M1) else ((f_X9_stand A u36 M1).bind fun M72 => some M72)))) else ((f_X9_face A (u - (151 : Int32)) M1).bind fun M31 => some M31))) = some M' ∧ (if (3 : Int32) ≤ v then (j_X11_goesAlone_35 (J w) v N1) else ((f_X11_has (J w) 4 N1).bind fun u25 => (f_X11_sets (J w) 4 (f_X11_turned u25 v) N1).bind fun M32 => j_X11_goesAlone_35 (J w) v M32)) = some N' ∧ WkR (M' A) (N' 259) w (mS + 1) ∧ (∀ j, j ≠ A → M' j = M j) ∧ (∀ j, j ≠ 259 → N' j = N j) ∧ (∀ i, i < 144 + 12 * w ∨ 156 + 12 * w ≤ i → N' 259 i = N 259 i) := by
    intro q hq eu ev
    subst eu ev
    obtain ⟨tf, tl⟩ := t_face f lf q hq
    generalize hF : f_X11_turned (J f) (J q) = F at tf tl
    have hface : f_X9_face A (J q) M1 = some (mset M1 A 4 F) := by
      unfold f_X9_face j_X9_face_14
      by_cases c : q = 0
      · subst c
        simp (disch := omega) only [↓nm_s, ↓grd_s, ↓reduceIte, J_lit, J_nI, J_add, J_sub, J_mul, J_neg, Int.cast_ofNat_Int, J_lt_t, J_lt_f, J_le_t, J_le_f, J_eq_t, J_eq_f, within_t, within_f, isIn_t, isIn_f, inRow_t, inRow_f, isCell_t, isCell_f, inb_t, ix_Jn, ix_J, Int.reduceToNat, Int.toNat_natCast, mset_ne, mset_eq, mrow_ne, mrow_eq, upd_eq, upd_ne, bind_s, bnd2_s, not_true_eq_false, not_false_eq_true, Nat.reduceAdd, ef]
        rw [if_pos rfl, J_add] at tf
        rw [tf]
      · rw [if_neg c, J_add] at tf
        simp (disch := omega) only [↓nm_s, ↓grd_s, ↓reduceIte, J_lit, J_nI, J_add, J_sub, J_mul, J_neg, Int.cast_ofNat_Int, J_lt_t, J_lt_f, J_le_t, J_le_f, J_eq_t, J_eq_f, within_t, within_f, isIn_t, isIn_f, inRow_t, inRow_f, isCell_t, isCell_f, inb_t, ix_Jn, ix_J, Int.reduceToNat, Int.toNat_natCast, mset_ne, mset_eq, mrow_ne, mrow_eq, upd_eq, upd_ne, bind_s, bnd2_s, not_true_eq_false, not_false_eq_true, Nat.reduceAdd, ef, tf]
    refine ⟨mset M1 A 4 F, mset N1 259 (148 + 12 * w) F, ?_, ?_, ?_, fun j hj => by simp (disch := omega) only [mset_ne, mset_eq, mrow_ne, mrow_eq, upd_eq, upd_ne]; exact b5 j hj, fun j hj => by simp (disch := omega) only [mset_ne, mset_eq, mrow_ne, mrow_eq, upd_eq, upd_ne]; exact fN2 j hj, fun i hi => by simp (disch := omega) only [mset_ne, mset_eq, mrow_ne, mrow_eq, upd_eq, upd_ne]; exact fN i hi⟩
    · rw [show (154 : Int32) = J 154 from rfl, show (150 : Int32) = J 150 from rfl, show (151 : Int32) = J 151 from rfl, if_neg (by rw [J_eq (by omega) (by omega) (by omega) (by omega)]; omega), if_neg (by rw [J_eq (by omega) (by omega) (by omega) (by omega)]; omega), J_sub, show (151 + (q : Int) - 151) = q by omega, hface, bind_s]
    · rw [show (3 : Int32) = J 3 from rfl, if_neg (by rw [J_le (by omega) (by omega) (by omega) (by omega)]; omega), show (4 : Int32) = J 4 from rfl, th4 N1 hw, bind_s, ef2, hF, ts4 _ _ hw, bind_s]
      unfold j_X11_goesAlone_35
      rw [show (3 : Int32) = J 3 from rfl, if_neg (by rw [J_eq (by omega) (by omega) (by omega) (by omega)]; omega)]
    · refine ⟨?_, ?_, ?_, ?_, ?_, ?_, fun _ => ⟨?_, ?_, ?_, ?_, ?_, ?_, ?_, ?_, ?_, ?_, ?_⟩⟩
      · simp (disch := omega) only [mset_ne, mset_eq, mrow_ne, mrow_eq, upd_eq, upd_ne]; exact w0
      · simp (disch := omega) only [mset_ne, mset_eq, mrow_ne, mrow_eq, upd_eq, upd_ne]; exact w1
      · simp (disch := omega) only [mset_ne, mset_eq, mrow_ne, mrow_eq, upd_eq, upd_ne]; exact wb
      · simp (disch := omega) only [mset_ne, mset_eq, mrow_ne, mrow_eq, upd_eq, upd_ne]; exact w10
      · simp (disch := omega) only [mset_ne, mset_eq, mrow_ne, mrow_eq, upd_eq, upd_ne]; exact w11
      · simp (disch := omega) only [mset_ne, mset_eq, mrow_ne, mrow_eq, upd_eq, upd_ne]; exact w12
      · simp (disch := omega) only [mset_ne, mset_eq, mrow_ne, mrow_eq, upd_eq, upd_ne]; exact h2
      · simp (disch := omega) only [mset_ne, mset_eq, mrow_ne, mrow_eq, upd_eq, upd_ne]; exact h3
      · simp (disch := omega) only [mset_ne, mset_eq, mrow_ne, mrow_eq, upd_eq, upd_ne]
      · simp (disch := omega) only [mset_ne, mset_eq, mrow_ne, mrow_eq, upd_eq, upd_ne]; exact h5
      · simp (disch := omega) only [mset_ne, mset_eq, mrow_ne, mrow_eq, upd_eq, upd_ne]; exact h6
      · simp (disch := omega) only [mset_ne, mset_eq, mrow_ne, mrow_eq, upd_eq, upd_ne]; exact h7
      · simp (disch := omega) only [mset_ne, mset_eq, mrow_ne, mrow_eq, upd_eq, upd_ne]; exact ⟨x, lx, ex⟩
      · simp (disch := omega) only [mset_ne, mset_eq, mrow_ne, mrow_eq, upd_eq, upd_ne]; exact ⟨y, ly, ey⟩
      · simp (disch := omega) only [mset_ne, mset_eq, mrow_ne, mrow_eq, upd_eq, upd_ne]; exact tl
      · simp (disch := omega) only [mset_ne, mset_eq, mrow_ne, mrow_eq, upd_eq, upd_ne]; exact ls
      · obtain ⟨st, dn, S, L, q1, q2, q3, q4⟩ := StR_ro (ρ' := upd (N1 259) (148 + 12 * w) F) (fun j _ _ => by simp (disch := omega) only [mset_ne, mset_eq, mrow_ne, mrow_eq, upd_eq, upd_ne]) (by simp (disch := omega) only [mset_ne, mset_eq, mrow_ne, mrow_eq, upd_eq, upd_ne]) hw hst
        rw [mset_eq, mset_eq]
        exact ⟨st, dn, S, L, by simp (disch := omega) only [mset_ne, mset_eq, mrow_ne, mrow_eq, upd_eq, upd_ne]; exact q1, by simp (disch := omega) only [mset_ne, mset_eq, mrow_ne, mrow_eq, upd_eq, upd_ne]; exact q2, q3, q4⟩
  rcases b3 with ⟨rfl, rfl⟩ | ⟨rfl, rfl⟩ | ⟨rfl, rfl⟩ | ⟨rfl, rfl⟩ | ⟨rfl, rfl⟩
  · have hah := t_ahead (M := M1) (a := A) lx ly lf ex ey ef
    have bx := dx_b f lf
    have by' := dy_b f lf
    rw [if_neg (show ¬ (150 : Int32) = 154 by decide), if_pos rfl, if_pos (show (3 : Int32) ≤ 3 by decide), hah, bind_s]
    unfold j_X11_goesAlone_35 f_X11_place
    by_cases c : 0 ≤ (x : Int) + dxI f ∧ (x : Int) + dxI f < 12 ∧ 0 ≤ (y : Int) + dyI f ∧ (y : Int) + dyI f < 12
    · rw [if_pos c]
      obtain ⟨x', hx'⟩ : ∃ x' : Nat, (x : Int) + dxI f = x' := ⟨((x : Int) + dxI f).toNat, by omega⟩
      obtain ⟨y', hy'⟩ : ∃ y' : Nat, (y : Int) + dyI f = y' := ⟨((y : Int) + dyI f).toNat, by omega⟩
      rw [hx', hy']
      have hx12 : x' < 12 := by omega
      have hy12 : y' < 12 := by omega
      obtain ⟨p, hp⟩ : ∃ p : Nat, p = 12 * y' + x' := ⟨_, rfl⟩
      have hpJ : J (12 * (y' : Int) + (x' : Int)) = J p := congrArg J (by omega)
      have hp144 : p < 144 := by omega
      have hcell : M1 3 p = N1 259 p := by rw [b5 3 (by omega), fN p (by omega)]; exact hc p hp144
      have hp12 : (p : Int) % 12 = x' := by omega
      have hp12' : (p : Int) / 12 = y' := by omega
      by_cases cs : N1 259 p = J 1
      · simp (disch := omega) only [↓nm_s, ↓grd_s, ↓reduceIte, J_lit, J_nI, J_add, J_sub, J_mul, J_neg, Int.cast_ofNat_Int, J_lt_t, J_lt_f, J_le_t, J_le_f, J_eq_t, J_eq_f, within_t, within_f, isIn_t, isIn_f, inRow_t, inRow_f, isCell_t, isCell_f, inb_t, ix_Jn, ix_J, Int.reduceToNat, Int.toNat_natCast, mset_ne, mset_eq, mrow_ne, mrow_eq, upd_eq, upd_ne, bind_s, bnd2_s, not_true_eq_false, not_false_eq_true, Nat.reduceAdd, th0, ts0, ta0, th1, ts1, ta1, th2, ts2, ta2, th3, ts3, ta3, th4, ts4, ta4, th5, ts5, ta5, th6, ts6, ta6, th7, ts7, ta7, th8, ts8, ta8, th9, ts9, ta9, th10, ts10, ta10, th11, ts11, ta11, ex2, ey2, ef2, t_gx, t_gy, hx', hy', hpJ, hcell, cs]
        exact ⟨_, _, rfl, rfl, b4', b5, fN2, fN⟩
      · unfold f_X9_stand
        simp (disch := omega) only [↓nm_s, ↓grd_s, ↓reduceIte, J_lit, J_nI, J_add, J_sub, J_mul, J_neg, Int.cast_ofNat_Int, J_lt_t, J_lt_f, J_le_t, J_le_f, J_eq_t, J_eq_f, within_t, within_f, isIn_t, isIn_f, inRow_t, inRow_f, isCell_t, isCell_f, inb_t, ix_Jn, ix_J, Int.reduceToNat, Int.toNat_natCast, mset_ne, mset_eq, mrow_ne, mrow_eq, upd_eq, upd_ne, bind_s, bnd2_s, not_true_eq_false, not_false_eq_true, Nat.reduceAdd, th0, ts0, ta0, th1, ts1, ta1, th2, ts2, ta2, th3, ts3, ta3, th4, ts4, ta4, th5, ts5, ta5, th6, ts6, ta6, th7, ts7, ta7, th8, ts8, ta8, th9, ts9, ta9, th10, ts10, ta10, th11, ts11, ta11, ex2, ey2, ef2, t_gx, t_gy, hx', hy', hpJ, hcell, cs, J_rem, J_div, hp12, hp12']
        refine ⟨_, _, rfl, rfl, ?_, fun j hj => by simp (disch := omega) only [mset_ne, mset_eq, mrow_ne, mrow_eq, upd_eq, upd_ne]; exact b5 j hj, fun j hj => by simp (disch := omega) only [mset_ne, mset_eq, mrow_ne, mrow_eq, upd_eq, upd_ne]; exact fN2 j hj, fun i hi => by simp (disch := omega) only [mset_ne, mset_eq, mrow_ne, mrow_eq, upd_eq, upd_ne]; exact fN i hi⟩
        have := WkR_xy (w := w) hw hx12 hy12 b4'
        simp only [mset_eq]
        exact this
    · rw [if_neg c]
      simp (disch := omega) only [↓nm_s, ↓grd_s, ↓reduceIte, J_lit, J_nI, J_add, J_sub, J_mul, J_neg, Int.cast_ofNat_Int, J_lt_t, J_lt_f, J_le_t, J_le_f, J_eq_t, J_eq_f, within_t, within_f, isIn_t, isIn_f, inRow_t, inRow_f, isCell_t, isCell_f, inb_t, ix_Jn, ix_J, Int.reduceToNat, Int.toNat_natCast, mset_ne, mset_eq, mrow_ne, mrow_eq, upd_eq, upd_ne, bind_s, bnd2_s, not_true_eq_false, not_false_eq_true, Nat.reduceAdd, th0, ts0, ta0, th1, ts1, ta1, th2, ts2, ta2, th3, ts3, ta3, th4, ts4, ta4, th5, ts5, ta5, th6, ts6, ta6, th7, ts7, ta7, th8, ts8, ta8, th9, ts9, ta9, th10, ts10, ta10, th11, ts11, ta11, ex2, ey2, ef2, t_gx, t_gy]
      refine ⟨_, _, rfl, rfl, ?_, fun j hj => by simp (disch := omega) only [mset_ne, mset_eq, mrow_ne, mrow_eq, upd_eq, upd_ne]; exact b5 j hj, fun j hj => by simp (disch := omega) only [mset_ne, mset_eq, mrow_ne, mrow_eq, upd_eq, upd_ne]; exact fN2 j hj, fun i hi => by simp (disch := omega) only [mset_ne, mset_eq, mrow_ne, mrow_eq, upd_eq, upd_ne]; exact fN i hi⟩
      refine ⟨?_, ?_, ?_, ?_, ?_, ?_, fun hin => ?_⟩
      · simp (disch := omega) only [mset_ne, mset_eq, mrow_ne, mrow_eq, upd_eq, upd_ne]; exact w0
      · simp (disch := omega) only [mset_ne, mset_eq, mrow_ne, mrow_eq, upd_eq, upd_ne]
      · left
        simp (disch := omega) only [mset_ne, mset_eq, mrow_ne, mrow_eq, upd_eq, upd_ne]
        rfl
      · simp (disch := omega) only [mset_ne, mset_eq, mrow_ne, mrow_eq, upd_eq, upd_ne]; exact w10
      · simp (disch := omega) only [mset_ne, mset_eq, mrow_ne, mrow_eq, upd_eq, upd_ne]; exact w11
      · simp (disch := omega) only [mset_ne, mset_eq, mrow_ne, mrow_eq, upd_eq, upd_ne]; exact w12
      · exfalso
        revert hin
        simp (disch := omega) only [mset_ne, mset_eq, mrow_ne, mrow_eq, upd_eq, upd_ne]
        decide
  · exact turn 0 (by omega) rfl rfl
  · exact turn 1 (by omega) rfl rfl
  · exact turn 2 (by omega) rfl rfl
  · unfold j_X11_goesAlone_35
    rw [if_pos rfl, if_pos (show (3 : Int32) ≤ 4 by decide), if_neg (show ¬ (4 : Int32) = 3 by decide)]
    exact ⟨_, _, rfl, rfl, b4', b5, fN2, fN⟩
