/-! ===== a law: a sum, two sums compared ===== -/
theorem p_sum {M N : zM} {tp : Nat → Nat} {n NN : Nat} {P E : Nat → Nat} {j q cz cn s : Nat} (h : LwS M N tp n NN P E j q cz cn s) :
    (∃ M' N', f_X3_readSum 55 M = some (J 1, M') ∧ f_X11_readSum N = some N' ∧ Sc false 61 M N M' N' tp n NN P E j cz cn s) ∨
    (∃ M' N', f_X3_readSum 55 M = some (J 0, M') ∧ f_X11_readSum N = some N' ∧ Fc M N M' N') := by
  have ec : f_X3_readSum 55 M = bnd2 (f_X3_readUnit 55 (J 0) M) fun u5 M5 => (CL (wvL 0) u5 (J 0) M5).bind (fun q => Sum.elim (fun r => j_X3_readSum_140 55 r) some q) := rfl
  have er : f_X11_readSum N = (f_X11_readUnit N).bind (RH 0) := by
    unfold f_X11_readSum f_X11_readPart j_X11_readPart_87 j_X11_readSum_67 RH RP RS
    cases f_X11_readUnit N with
    | none => rfl
    | some y =>
      simp only [bind_s]
      cases loopW (fun s => b_X11_readPart_4 s) y with
      | none => rfl
      | some z =>
        simp only [bind_s]
        rw [if_pos (by trivial)]
        simp only [bind_s]
        cases loopW (fun s => b_X11_readSum_4 s) z with
        | none => rfl
        | some t => rfl
  rw [ec, er]
  rcases l_unit h with ⟨M1, N1, u1, u2, j1, q1, L, l1, l2, l3, l4, l5, l6, l7, l8⟩ | ⟨M1, N1, u1, u2, u3⟩
  · have l2' : LwS M1 N1 tp n NN P E j1 q1 (cz + (encL L).length) (cn + L.length) (s + (if 0 = 0 then 0 else 1)) := l2
    rcases p_sumL (NN - j1) 0 0 j1 q1 _ _ M1 N1 rfl (Or.inl rfl) l2' (by omega) with ⟨M', N', r1, r2, r3⟩ | ⟨M', N', r1, r2, r3⟩
    · left
      obtain ⟨j', q', A, a1, a2, a3, a4, a5, a6, a7, a8⟩ := r3
      have a2c := LwS_c a2
      refine ⟨M', N', ?_, ?_, j', q', L ++ A, by omega, LwS_app a2, Em_t (by omega) l3 a3, ok_app l4 a4, fun st hst => ?_, Kp_t l6 a6, FrC_t l7 a7, FrN_t l8 a8⟩
      · rw [u1]
        simp only [bnd2_s]
        have r1' : CL (wvL 0) (J 1) (J 0) M1 = some (.inr (J 1, M')) := r1
        rw [r1']
        rfl
      · rw [u2]
        simp only [bind_s, r2]
      · rw [tyL_app, l5 st (by omega)]
        exact a5 st hst
    · right
      refine ⟨M', N', ?_, ?_, Fc_t l7 l8 r3⟩
      · rw [u1]
        simp only [bnd2_s]
        have r1' : CL (wvL 0) (J 1) (J 0) M1 = some (.inl M') := r1
        rw [r1']
        rfl
      · rw [u2]
        simp only [bind_s, r2]
  · right
    obtain ⟨p, hp, hp2⟩ := Fc_bad u3
    refine ⟨M1, N1, ?_, ?_, u3⟩
    · rw [u1]
      simp only [bnd2_s, cl_0]
      rfl
    · rw [u2]
      simp only [bind_s, rh_bad hp hp2]
theorem readSum_bad {N : zM} {p : Nat} (hp : p < 2147483648) (h : N 257 10 = J p) : f_X11_readSum N = some N := by
  have e0 : f_X11_readUnit N = some N := by
    unfold f_X11_readUnit
    rw [if_pos (show f_X11_fine N = (0 : Int32) from fine_f hp h)]
  have e1 := rp_bad hp h
  have e2 := rs_bad hp h
  unfold RP at e1
  unfold RS at e2
  unfold f_X11_readSum f_X11_readPart j_X11_readPart_87 j_X11_readSum_67
  simp only [e0, bind_s, e1, e2]
/-- the class's two sums -/
noncomputable def CTwo (M : zM) : Option (Int32 × zM) := bnd2 (f_X3_readSum 55 M) fun u91 M91 =>
  if u91 = J 0 then (some (J 0, M91))
  else ((f_X5_kind M91).bind fun u100 =>
  if u100 = J 60 ∨ u100 = J 61 ∨ u100 = J 62 then ((f_X5_next M91).bind fun M133 =>
  bnd2 (f_X3_readSum 55 M133) fun u138 M138 =>
  if u138 = J 0 then (some (J 0, M138))
  else ((f_X3_emit 55 (J 10000 + u100) M138).bind fun M153 =>
  some (J 1, M153)))
  else (f_X5_fail (J 1) M91))
theorem l_two {M N : zM} {tp : Nat → Nat} {n NN : Nat} {P E : Nat → Nat} {j q cz cn s : Nat} (h : LwS M N tp n NN P E j q cz cn s) :
    (∃ M' N', CTwo M = some (J 1, M') ∧ f_X11_readTwo N = some N' ∧ Sc true 60 M N M' N' tp n NN P E j cz cn s) ∨
    (∃ M' N', CTwo M = some (J 0, M') ∧ f_X11_readTwo N = some N' ∧ Fc M N M' N') := by
  unfold CTwo
  have n10 : ¬ J 1 = J 0 := by decide
  have bad19 : ∀ (v : Int32) {N1 : zM} {p : Nat}, p < 2147483648 → N1 257 10 = J p → j_X11_readTwo_54 v N1 = some N1 := by
    intro v N1 p hp hp2
    unfold j_X11_readTwo_54 j_X11_readTwo_71 j_X11_readTwo_100
    rw [if_pos (show f_X11_fine N1 = (0 : Int32) from fine_f hp hp2), readSum_bad hp hp2]
    simp only [bind_s, n_codes hp hp2]
    split
    · rfl
    · split <;> rfl
  rcases p_sum h with ⟨M1, N1, u1, u2, j1, q1, L, l1, l2, l3, l4, l5, l6, l7, l8⟩ | ⟨M1, N1, u1, u2, u3⟩
  · have hT := l2.1
    have hn := TS_n hT
    have hkd := i_kind hT
    obtain ⟨kk, k1, k2, k3, k4⟩ := i_kd hT
    have hh := i_here hT
    have hc := i_hc hT
    have f0 : ¬ f_X11_fine N1 = J 0 := by rw [fine_t hT.2.2.2.2.2.2.2]; decide
    have hat := TS_at hT
    have f0at : ¬ f_X11_fine (mset N1 257 9 (J (P j1))) = J 0 := by rw [fine_t hat.2.2.2.2.2.2.2]; decide
    have e9 : mset N1 257 9 (J (P j1)) 257 9 = J (P j1) := by simp (disch := omega) only [mset_ne, mset_eq, mrow_ne, mrow_eq, upd_eq, upd_ne]
    by_cases cs : kk = 60 ∨ kk = 61 ∨ kk = 62
    · obtain ⟨g1, g2, g3⟩ := sg_go hT (c := kk) (by unfold isSg; omega) k1
      have nx := i_next hT g1
      have hx := LwS_next l2 g1
      have er : f_X11_readTwo N = j_X11_readTwo_71 (J kk) (mset N1 257 9 (J (E j1))) := by
        unfold f_X11_readTwo
        rw [u2]
        simp only [bind_s]
        rw [if_neg (show ¬ f_X11_fine N1 = (0 : Int32) from f0), hh]
        simp only [bnd2_s]
        unfold j_X11_readTwo_19
        rw [if_neg (show ¬ f_X11_fine (mset N1 257 9 (J (P j1))) = (0 : Int32) from f0at), g2]
        have e54 : j_X11_readTwo_54 (J kk) (mset N1 257 9 (J (P j1))) = j_X11_readTwo_71 (J kk) (mset N1 257 9 (J (E j1))) := by
          unfold j_X11_readTwo_54
          rw [if_neg (show ¬ f_X11_fine (mset N1 257 9 (J (P j1))) = (0 : Int32) from f0at), e9, ← g3]
          rfl
        rcases cs with e | e | e <;> subst e
        · rw [if_pos (by rfl), e54]
        · rw [if_neg (by decide), if_pos (by rfl), e54]
        · rw [if_neg (by decide), if_neg (by decide), if_pos (by rfl), e54]
      have ck : (J (kk : Int) = J 60 ∨ J (kk : Int) = J 61 ∨ J (kk : Int) = J 62) := by
        rcases cs with e | e | e <;> subst e
        · exact Or.inl rfl
        · exact Or.inr (Or.inl rfl)
        · exact Or.inr (Or.inr rfl)
      obtain ⟨a, ha, ea, e71⟩ : ∃ a : Nat, (a = 6 ∨ a = 7 ∨ a = 8) ∧ encC (a, J 0) = [J 10000 + J kk] ∧ ∀ N : zM, j_X11_readTwo_71 (J kk) N = (f_X11_readSum N).bind fun N2 => (f_X11_codes (J a) (J 0) N2).bind some := by
        rcases cs with e | e | e <;> subst e
        · exact ⟨6, by omega, rfl, fun N => rfl⟩
        · exact ⟨7, by omega, rfl, fun N => rfl⟩
        · exact ⟨8, by omega, rfl, fun N => rfl⟩
      rw [er, e71]
      rcases p_sum hx with ⟨M2, N2, w1, w2, j2, q2, L2, y1, y2, y3, y4, y5, y6, y7, y8⟩ | ⟨M2, N2, w1, w2, w3⟩
      · obtain ⟨M3, N3, e1, e2, e3, e4, e5, e6, e7⟩ := em_1 y2 a (J 0) (J 10000 + J kk) ea
        have e3c := LwS_c e3
        have y2c := LwS_c y2
        have el : (encL [(a, J 0)]).length = 1 := by simp only [encL, ea, List.append_nil, List.length_singleton]
        left
        refine ⟨M3, N3, ?_, ?_, j2, q2, (L ++ L2) ++ [(a, J 0)], by omega, ?_, Em_t ?_ (Em_t (by omega) l3 (Em_79 y3)) ?_, ok_app (ok_app l4 y4) ?_, fun st hst => ?_, Kp_t l6 (Kp_t (Kp_9 _ _) (Kp_t y6 e5)), FrC_t l7 (FrC_t (FrC_7 _ _) (FrC_t y7 e6)), FrN_t l8 (FrN_t (FrN_9 _ _) (FrN_t y8 e7))⟩
        · rw [u1]
          simp only [bnd2_s]
          rw [if_neg n10, hkd, k1]
          simp only [bind_s]
          rw [if_pos ck, nx]
          simp only [bind_s]
          rw [w1]
          simp only [bnd2_s]
          rw [if_neg n10, e1]
          rfl
        · rw [w2]
          simp only [bind_s, e2]
        · refine LwS_app ?_
          rw [el, List.length_singleton, encL_app, List.length_append, List.length_append, ← Nat.add_assoc, ← Nat.add_assoc]
          exact e3
        · simp only [List.length_append, List.length_singleton]
          omega
        · rw [encL_app, List.length_append, List.length_append, ← Nat.add_assoc, ← Nat.add_assoc]
          exact e4
        · intro q hq
          rw [List.mem_singleton] at hq
          subst hq
          exact ⟨by show a ≤ 11; omega, fun e => by simp at e; omega, fun e => by simp at e; omega, fun e => by simp at e; omega⟩
        · rw [tyL_app, tyL_app, l5 st (by omega)]
          show ((tyL L2 (false :: st)).bind _) = _
          rw [y5 (false :: st) (by simp only [List.length_cons]; omega)]
          rcases ha with e | e | e <;> subst e <;> rfl
      · right
        obtain ⟨p, hp, hp2⟩ := Fc_bad w3
        refine ⟨M2, N2, ?_, ?_, Fc_t (FrC_t l7 (FrC_7 _ _)) (FrN_t l8 (FrN_9 _ _)) w3⟩
        · rw [u1]
          simp only [bnd2_s]
          rw [if_neg n10, hkd, k1]
          simp only [bind_s]
          rw [if_pos ck, nx]
          simp only [bind_s]
          rw [w1]
          rfl
        · rw [w2]
          simp only [bind_s, n_codes hp hp2]
    · right
      have nck : ¬ (J (kk : Int) = J 60 ∨ J (kk : Int) = J 61 ∨ J (kk : Int) = J 62) := by
        rw [J_eq (by omega) (by omega) (by omega) (by omega), J_eq (by omega) (by omega) (by omega) (by omega), J_eq (by omega) (by omega) (by omega) (by omega)]
        omega
      have hw1 : f_X11_wrong (J 1) (J (P j1)) (mset N1 257 9 (J (P j1))) = some (rF (mset N1 257 9 (J (P j1))) 1 (P j1)) := r_wrong hat.2.2.2.2.2.2.2 1 (P j1)
      have nf : rF (mset N1 257 9 (J (P j1))) 1 (P j1) 257 10 = J (P j1) := rF_10 _ _ _
      have hpl : P j1 < 2147483648 := by omega
      have hf : f_X5_fail (J 1) M1 = some (J 0, cF M1 1 (P j1)) := i_fail hT (J 1)
      have hne : ∀ c : Nat, isSg c → kk ≠ c → ¬ J (hch tp n (P j1) : Int) = J (c : Int) := by
        intro c hs hk e
        have hc1 := hc.1
        have hc256 : c < 256 := by unfold isSg at hs; omega
        rw [J_eq (by omega) (by omega) (by omega) (by omega)] at e
        have := (hc.2.1 c hs).1 (by omega)
        rw [k1, J_eq (by omega) (by omega) (by omega) (by omega)] at this
        omega
      have l2c := LwS_c l2
      refine ⟨cF M1 1 (P j1), rF (mset N1 257 9 (J (P j1))) 1 (P j1), ?_, ?_, FL_of (by omega), ⟨cz + (encL L).length, l2c.2.1, by unfold cF; simp (disch := omega) only [mset_ne, mset_eq, mrow_ne, mrow_eq, upd_eq, upd_ne]; exact l2.2.1⟩, FrC_t l7 (FrC_c _ _ _), FrN_t l8 (FrN_t (FrN_9 _ _) (FrN_r2 _ _ _))⟩
      · rw [u1]
        simp only [bnd2_s]
        rw [if_neg n10, hkd, k1]
        simp only [bind_s]
        rw [if_neg nck, hf]
      · unfold f_X11_readTwo
        rw [u2]
        simp only [bind_s]
        rw [if_neg (show ¬ f_X11_fine N1 = (0 : Int32) from f0), hh]
        simp only [bnd2_s]
        unfold j_X11_readTwo_19
        have hw1' : f_X11_wrong (1 : Int32) (mset N1 257 9 (J (P j1)) 257 9) (mset N1 257 9 (J (P j1))) = some (rF (mset N1 257 9 (J (P j1))) 1 (P j1)) := by rw [e9]; exact hw1
        rw [if_neg (show ¬ f_X11_fine (mset N1 257 9 (J (P j1))) = (0 : Int32) from f0at), if_neg (show ¬ J (hch tp n (P j1) : Int) = (60 : Int32) from hne 60 (by unfold isSg; omega) (by omega)), if_neg (show ¬ J (hch tp n (P j1) : Int) = (61 : Int32) from hne 61 (by unfold isSg; omega) (by omega)), if_neg (show ¬ J (hch tp n (P j1) : Int) = (62 : Int32) from hne 62 (by unfold isSg; omega) (by omega)), hw1']
        simp only [bind_s]
        exact bad19 _ hpl nf
  · right
    obtain ⟨p, hp, hp2⟩ := Fc_bad u3
    have ff := fine_f hp hp2
    refine ⟨M1, N1, ?_, ?_, u3⟩
    · rw [u1]
      rfl
    · unfold f_X11_readTwo j_X11_readTwo_19
      rw [u2]
      simp only [bind_s]
      rw [if_pos (show f_X11_fine N1 = (0 : Int32) from ff), if_pos (show f_X11_fine N1 = (0 : Int32) from ff)]
      exact bad19 _ hp hp2
