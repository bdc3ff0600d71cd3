/-! ===== a law: the head of a condition's loop ===== -/
theorem p_head {rS : Nat → Int32 → zM → Option (Int32 × zM)} {tp : Nat → Nat} {n NN : Nat} {P E : Nat → Nat} {p s wn : Nat} (hp8 : p ≤ 8) (hS : SG rS tp n NN P E p) (hwn : wn ≤ 3 * p) : ∀ (m a o k j q cz cn : Nat) (M N : zM), NN - j = m → a ≤ 1 → o ≤ 1 → LwS M N tp n NN P E j q cz cn (s + o + a) → k < j → N 257 12 = J p → N 257 19 = J (wn + o + a : Nat) → (wn = 0 ∨ N 264 (wn - 1) = J 1) → (o = 1 → N 264 wn = J 4) → (a = 1 → N 264 (wn + o) = J 3) →
    (∃ M' N', CH rS p a o k M = some (J 1, M') ∧ FB N = FC (J 0) N' ∧ HdOk p wn a o s M N M' N' tp n NN P E j cz cn) ∨
    (∃ M' N', CH rS p a o k M = some (J 0, M') ∧ FB N = some N' ∧ Fc M N M' N') := by
  intro m
  induction m using Nat.strongRecOn with
  | _ m ih =>
  intro a o k j q cz cn M N hm ha ho h hk h12 h19 hb1 hb4 hb3
  have hT := h.1
  have hn := TS_n hT
  have hat := LwS_at h
  have hb1' : ∀ N3 : zM, (∀ i, i < wn → N3 264 i = N 264 i) → (wn = 0 ∨ N3 264 (wn - 1) = J 1) := by
    intro N3 hN
    by_cases c0 : wn = 0
    · exact Or.inl c0
    · rw [hN _ (by omega)]
      exact hb1
  obtain ⟨kk, k1, k2, k3, k4⟩ := i_kd hT
  have ht2 : wn + o + a = 0 ∨ ¬ N 264 (wn + o + a - 1) = J 2 := by
    by_cases a1 : a = 1
    · right
      rw [show wn + o + a - 1 = wn + o by omega, hb3 a1]; decide
    · by_cases o1 : o = 1
      · right
        rw [show wn + o + a - 1 = wn by omega, hb4 o1]; decide
      · rcases hb1 with e | e
        · left; omega
        · right
          rw [show wn + o + a - 1 = wn - 1 by omega, e]; decide
  have ht3 : wn + o = 0 ∨ ¬ mset N 257 9 (J (P j)) 264 (wn + o - 1) = J (3 : Nat) := by
    by_cases o1 : o = 1
    · right
      simp (disch := omega) only [mset_ne, mset_eq, mrow_ne, mrow_eq, upd_eq, upd_ne]
      rw [show wn + o - 1 = wn by omega, hb4 o1]; decide
    · rcases hb1 with e | e
      · left; omega
      · right
        simp (disch := omega) only [mset_ne, mset_eq, mrow_ne, mrow_eq, upd_eq, upd_ne]
        rw [show wn + o - 1 = wn - 1 by omega, e]; decide
  obtain ⟨M1, N1, e1, e2, e3, e4, e5, e6, e7, e8, e9⟩ := clo_c (c := 3) (b := a) (s := s + o) (wn := wn + o) (p := p) (Or.inl rfl) ha hat (by omega) (by simp (disch := omega) only [mset_ne, mset_eq, mrow_ne, mrow_eq, upd_eq, upd_ne]; exact h19) (fun a1 => by simp (disch := omega) only [mset_ne, mset_eq, mrow_ne, mrow_eq, upd_eq, upd_ne]; exact hb3 a1) ht3 (by simp (disch := omega) only [mset_ne, mset_eq, mrow_ne, mrow_eq, upd_eq, upd_ne]; exact h12) (by omega)
  have e1' : (if a = 1 then f_X3_emit 55 (J 10133) M else some M) = some M1 := e1
  have e2' : f_X11_closes (J 3) (mset N 257 9 (J (P j))) = some N1 := e2
  have e4' : Em M N M1 N1 cz cn (cloL 3 a) := Em_9 e4
  have e7' : N1 264 = N 264 := by rw [e7]; simp (disch := omega) only [mset_ne, mset_eq, mrow_ne, mrow_eq, upd_eq, upd_ne]
  obtain ⟨c3l, c3e⟩ := cloL_l (c := 3) (b := a) (Or.inl rfl) ha
  have k80 : M1 80 j = M 80 j := by rw [e8.1 80 (by omega) (by omega)]
  have f9 : FrN N N1 := FrN_t (FrN_9 _ _) e9
  have ch : CH rS p a o k M = CLp rS p (J o) (J 1) (J k) M1 := by
    unfold CH
    rw [e1']
    rfl
  rw [ch]
  by_cases c133 : kk = 133
  · have h133 : M 80 j = J 133 := by rw [k1, c133]; rfl
    have hj : j < NN := by omega
    have go := go_and hT h133 (w := wn + o + a) (w1 := wn + o) (by omega) h19 ht2 e2' (TS_bk hT e3.1) (by omega) e5
    have fb : FB N = FO (puN N1 (J 3) (wn + o) (E j)) := by
      have pu := puS e3 hj (J 3) (wn + o)
      unfold FB
      rw [go]
      simp only [bnd2_s]
      rw [if_neg (by decide), fc_1]
      exact fa_go pu.1.2.2.2.2.2.2.2
    rw [fb, clp_and rS (J o) e3.1 (by rw [k80]; exact h133) (by omega) hj]
    have pu := puS e3 hj (J 3) (wn + o)
    rcases hS _ _ _ _ _ (wn + o + 1) _ _ pu (by unfold puN; simp (disch := omega) only [mset_ne, mset_eq, mrow_ne, mrow_eq, upd_eq, upd_ne]) (by omega) (by unfold puN; simp (disch := omega) only [mset_ne, mset_eq, mrow_ne, mrow_eq, upd_eq, upd_ne]; exact e6) with ⟨M3, N3, r1, r2, j3, q3, L, l1, l2, l3, l4, l5, ⟨l6, l6b, l6c⟩, l7, l8⟩ | ⟨M3, N3, r1, r2, r3⟩
    · have hn3 := TS_n l2.1
      have l2' : LwS M3 N3 tp n NN P E j3 q3 (cz + (encL (cloL 3 a ++ L)).length) (cn + (cloL 3 a ++ L).length) (s + o + 1) := LwS_app (by rw [c3l, c3e]; exact l2)
      have l2c := LwS_c l2
      have N319 : N3 257 19 = J (wn + o + 1 : Nat) := by rw [l6b]; unfold puN; simp (disch := omega) only [mset_ne, mset_eq, mrow_ne, mrow_eq, upd_eq, upd_ne]
      have N312 : N3 257 12 = J p := by rw [l6]; unfold puN; simp (disch := omega) only [mset_ne, mset_eq, mrow_ne, mrow_eq, upd_eq, upd_ne]; exact e6
      have N364 : ∀ i, i < wn + o → N3 264 i = N 264 i := by
        intro i hi
        rw [l6c i (by omega)]
        unfold puN
        simp (disch := omega) only [mset_ne, mset_eq, mrow_ne, mrow_eq, upd_eq, upd_ne]
        rw [e7']
      have N33 : N3 264 (wn + o) = J 3 := by
        rw [l6c _ (by omega)]
        unfold puN
        simp (disch := omega) only [mset_ne, mset_eq, mrow_ne, mrow_eq, upd_eq, upd_ne]
      have emA : Em M N M3 N3 cz cn (cloL 3 a ++ L) := Em_t (by omega) e4' (by
        rw [c3l, c3e]
        exact Em_fl l3 (fun j _ _ => by simp (disch := omega) only [mset_ne, mset_eq, mrow_ne, mrow_eq, upd_eq, upd_ne]) (by unfold puN; simp (disch := omega) only [mset_ne, mset_eq, mrow_ne, mrow_eq, upd_eq, upd_ne]))
      have tyA : ∀ st : List Bool, st.length < 42 + 2 * p → tyL (cloL 3 a ++ L) (rep (1 + o + a) st) = some (rep (1 + o + 1) st) := by
        intro st hst
        rw [tyL_app, show 1 + o + a = o + 1 + a by omega, cloL_ty (Or.inl rfl) ha, show 1 + o + 1 = o + 1 + 1 by omega, ← rep_s (o + 1)]
        exact l5 _ (by rw [rep_l]; omega)
      have r2' : bnd2 (rS 55 (J p) (mset M1 78 7 (J (j + 1 : Nat)))) (fun u M1 => (f_X3_emit 55 (J 10133) M1).bind fun M2 => CLp rS p (J o) u (J (k + 1 : Nat)) M2) = CH rS p 1 o (k + 1) M3 := by
        rw [r1]
        simp only [bnd2_s]
        rfl
      rw [r2, r2']
      have hrec := ih (NN - j3) (by omega) 1 o (k + 1) j3 q3 _ _ M3 N3 rfl (by omega) ho l2' (by omega) N312 N319 (hb1' N3 (fun i hi => N364 i (by omega))) (fun o1 => by rw [N364 _ (by omega)]; exact hb4 o1) (fun _ => N33)
      have fC : FrC M M3 := FrC_t e8 (FrC_t (FrC_7 _ _) l7)
      have fN : FrN N N3 := FrN_t f9 (FrN_t (puF _ _ _ _) l8)
      rcases hrec with ⟨M', N', g1, g2, g3⟩ | ⟨M', N', g1, g2, g3⟩
      · left
        exact ⟨M', N', g1, g2, hd_cons (by omega) emA (ok_app (cloL_ok (Or.inl rfl)) l4) tyA (by rw [N312, h12]) (fun i hi => N364 i (by omega)) fC fN g3⟩
      · right
        exact ⟨M', N', g1, g2, Fc_t fC fN g3⟩
    · right
      obtain ⟨⟨c', hc1, hc2⟩⟩ : ∃ x : (∃ c' : Nat, c' ≤ 400 ∧ M3 55 5 = J c'), True := ⟨r3.2.1, trivial⟩
      obtain ⟨M4, m1, m2, m3, m4⟩ := emit_any hc2 hc1 (J 10133)
      refine ⟨M4, N3, ?_, r2, FL_78 m4 r3.1, m2, FrC_t e8 (FrC_t (FrC_7 _ _) (FrC_t r3.2.2.1 m3)), FrN_t f9 (FrN_t (puF _ _ _ _) r3.2.2.2)⟩
      rw [r1]
      simp only [bnd2_s, m1, bind_s]
      exact clp_0 _ _ _ _ _
  have n133 : ¬ M 80 j = J 133 := by
    rw [k1, J_eq (by omega) (by omega) (by omega) (by omega)]
    omega
  have ht4 : wn = 0 ∨ ¬ N1 264 (wn - 1) = J (4 : Nat) := by
    rcases hb1 with e | e
    · exact Or.inl e
    · right
      rw [e7', e]; decide
  obtain ⟨M2, N2, d1, d2, d3, d4, d5, d6, d7, d8, d9⟩ := clo_c (c := 4) (b := o) (s := s) (wn := wn) (p := p) (Or.inr rfl) ho e3 (by omega) e5 (fun o1 => by rw [e7']; exact hb4 o1) ht4 e6 (by omega)
  have d1' : (if o = 1 then f_X3_emit 55 (J 10132) M1 else some M1) = some M2 := d1
  have d2' : f_X11_closes (J 4) N1 = some N2 := d2
  obtain ⟨c4l, c4e⟩ := cloL_l (c := 4) (b := o) (Or.inr rfl) ho
  have e3c := LwS_c e3
  have d3c := LwS_c d3
  have emB : Em M N M2 N2 cz cn (cloL 3 a ++ cloL 4 o) := Em_t (by omega) e4' (by rw [c3l, c3e]; exact d4)
  have d7' : N2 264 = N 264 := by rw [d7, e7']
  have k80b : M2 80 j = M 80 j := by rw [d8.1 80 (by omega) (by omega), k80]
  have fC2 : FrC M M2 := FrC_t e8 d8
  have fN2 : FrN N N2 := FrN_t f9 d9
  have tyB : ∀ st : List Bool, tyL (cloL 3 a ++ cloL 4 o) (rep (1 + o + a) st) = some (rep 1 st) := by
    intro st
    rw [tyL_app, show 1 + o + a = o + 1 + a by omega, cloL_ty (Or.inl rfl) ha, show o + 1 = 0 + 1 + o by omega]
    exact cloL_ty (Or.inr rfl) ho 0 st
  have d3' : LwS M2 N2 tp n NN P E j (P j) (cz + (encL (cloL 3 a ++ cloL 4 o)).length) (cn + (cloL 3 a ++ cloL 4 o).length) s := LwS_app (by rw [c3l, c3e, c4l, c4e]; exact d3)
  by_cases c132 : kk = 132
  · have h132 : M 80 j = J 132 := by rw [k1, c132]; rfl
    have hj : j < NN := by omega
    have go := go_or hT h132 (w := wn + o + a) (w1 := wn) (by omega) h19 ht2 e2' d2' (TS_bk hT d3.1) (by omega) d5
    have pu := puS d3 hj (J 4) wn
    have fb : FB N = FO (puN N2 (J 4) wn (E j)) := by
      unfold FB
      rw [go]
      simp only [bnd2_s]
      rw [if_neg (by decide), fc_1]
      exact fa_go pu.1.2.2.2.2.2.2.2
    have cl : CLp rS p (J o) (J 1) (J k) M1 = bnd2 (rS 55 (J p) (mset M2 78 7 (J (j + 1 : Nat)))) fun u M3 => CLp rS p (J 1) u (J (k + 1 : Nat)) M3 := by
      rw [clp_or rS ho e3.1 (by rw [k80]; exact h132) (by omega), d1']
      simp only [bind_s]
      rw [i_next d3.1 hj]
      simp only [bind_s]
    rw [fb, cl]
    rcases hS _ _ _ _ _ (wn + 1) _ _ pu (by unfold puN; simp (disch := omega) only [mset_ne, mset_eq, mrow_ne, mrow_eq, upd_eq, upd_ne]) (by omega) (by unfold puN; simp (disch := omega) only [mset_ne, mset_eq, mrow_ne, mrow_eq, upd_eq, upd_ne]; exact d6) with ⟨M3, N3, r1, r2, j3, q3, L, l1, l2, l3, l4, l5, ⟨l6, l6b, l6c⟩, l7, l8⟩ | ⟨M3, N3, r1, r2, r3⟩
    · have hn3 := TS_n l2.1
      have l2c := LwS_c l2
      have ecl : (encL (cloL 3 a ++ cloL 4 o)).length = a + o := by rw [encL_app, List.length_append, c3e, c4e]
      have ccl : (cloL 3 a ++ cloL 4 o).length = a + o := by rw [List.length_append, c3l, c4l]
      have l2' : LwS M3 N3 tp n NN P E j3 q3 (cz + (encL ((cloL 3 a ++ cloL 4 o) ++ L)).length) (cn + ((cloL 3 a ++ cloL 4 o) ++ L).length) (s + 1 + 0) := LwS_app (by rw [ecl, ccl, ← Nat.add_assoc, ← Nat.add_assoc]; exact l2)
      have N319 : N3 257 19 = J (wn + 1 + 0 : Nat) := by rw [l6b]; unfold puN; simp (disch := omega) only [mset_ne, mset_eq, mrow_ne, mrow_eq, upd_eq, upd_ne]
      have N312 : N3 257 12 = J p := by rw [l6]; unfold puN; simp (disch := omega) only [mset_ne, mset_eq, mrow_ne, mrow_eq, upd_eq, upd_ne]; exact d6
      have N364 : ∀ i, i < wn → N3 264 i = N 264 i := by
        intro i hi
        rw [l6c i (by omega)]
        unfold puN
        simp (disch := omega) only [mset_ne, mset_eq, mrow_ne, mrow_eq, upd_eq, upd_ne]
        rw [d7']
      have N34 : N3 264 wn = J 4 := by
        rw [l6c _ (by omega)]
        unfold puN
        simp (disch := omega) only [mset_ne, mset_eq, mrow_ne, mrow_eq, upd_eq, upd_ne]
      have emA : Em M N M3 N3 cz cn ((cloL 3 a ++ cloL 4 o) ++ L) := Em_t (by omega) emB (by
        rw [ecl, ccl, ← Nat.add_assoc, ← Nat.add_assoc]
        exact Em_fl l3 (fun j _ _ => by simp (disch := omega) only [mset_ne, mset_eq, mrow_ne, mrow_eq, upd_eq, upd_ne]) (by unfold puN; simp (disch := omega) only [mset_ne, mset_eq, mrow_ne, mrow_eq, upd_eq, upd_ne]))
      have tyA : ∀ st : List Bool, st.length < 42 + 2 * p → tyL ((cloL 3 a ++ cloL 4 o) ++ L) (rep (1 + o + a) st) = some (rep (1 + 1 + 0) st) := by
        intro st hst
        rw [tyL_app, tyB]
        show tyL L (rep 1 st) = _
        rw [show (1 + 1 + 0) = 1 + 1 by rfl, ← rep_s 1]
        exact l5 _ (by rw [rep_l]; omega)
      have r2' : bnd2 (rS 55 (J p) (mset M2 78 7 (J (j + 1 : Nat)))) (fun u M3 => CLp rS p (J 1) u (J (k + 1 : Nat)) M3) = CH rS p 0 1 (k + 1) M3 := by
        rw [r1]
        simp only [bnd2_s]
        rfl
      rw [r2, r2']
      have hrec := ih (NN - j3) (by omega) 0 1 (k + 1) j3 q3 _ _ M3 N3 rfl (by omega) (by omega) l2' (by omega) N312 N319 (hb1' N3 (fun i hi => N364 i (by omega))) (fun _ => N34) (fun e => absurd e (by decide))
      have fC : FrC M M3 := FrC_t fC2 (FrC_t (FrC_7 _ _) l7)
      have fN : FrN N N3 := FrN_t fN2 (FrN_t (puF _ _ _ _) l8)
      rcases hrec with ⟨M', N', g1, g2, g3⟩ | ⟨M', N', g1, g2, g3⟩
      · left
        exact ⟨M', N', g1, g2, hd_cons (by omega) emA (ok_app (ok_app (cloL_ok (Or.inl rfl)) (cloL_ok (Or.inr rfl))) l4) tyA (by rw [N312, h12]) (fun i hi => N364 i hi) fC fN g3⟩
      · right
        exact ⟨M', N', g1, g2, Fc_t fC fN g3⟩
    · right
      refine ⟨M3, N3, ?_, r2, r3.1, r3.2.1, FrC_t fC2 (FrC_t (FrC_7 _ _) r3.2.2.1), FrN_t fN2 (FrN_t (puF _ _ _ _) r3.2.2.2)⟩
      rw [r1]
      simp only [bnd2_s]
      exact clp_0 _ _ _ _ _
  · have n132 : ¬ M 80 j = J 132 := by
      rw [k1, J_eq (by omega) (by omega) (by omega) (by omega)]
      omega
    have go := go_else hT n133 n132 (w := wn + o + a) (by omega) h19 ht2 e2' d2'
    left
    refine ⟨M2, N2, ?_, ?_, j, P j, cloL 3 a ++ cloL 4 o, Nat.le_refl _, d3', emB, ok_app (cloL_ok (Or.inl rfl)) (cloL_ok (Or.inr rfl)), fun st _ => ?_, ⟨by rw [d6, h12], d5, fun i _ => by rw [d7']⟩, fC2, fN2⟩
    · rw [clp_end rS ho e3.1 (by rw [k80]; exact n133) (by rw [k80]; exact n132) (by omega), d1']
      simp only [bind_s]
    · unfold FB
      rw [go]
      simp only [bnd2_s]
      rw [if_pos (by trivial)]
    · rw [tyB]
      rfl
