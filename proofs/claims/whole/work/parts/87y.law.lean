/-! ===== a law: the sums of both go on alike ===== -/
theorem LwS_app {M N : zM} {tp : Nat → Nat} {n NN : Nat} {P E : Nat → Nat} {j q cz cn s : Nat} {A B : List (Nat × Int32)} (h : LwS M N tp n NN P E j q (cz + (encL A).length + (encL B).length) (cn + A.length + B.length) s) : LwS M N tp n NN P E j q (cz + (encL (A ++ B)).length) (cn + (A ++ B).length) s := by
  rw [encL_app, List.length_append, List.length_append, ← Nat.add_assoc, ← Nat.add_assoc]
  exact h
theorem LwS_c {M N : zM} {tp : Nat → Nat} {n NN : Nat} {P E : Nat → Nat} {j q cz cn s : Nat} (h : LwS M N tp n NN P E j q cz cn s) : cn ≤ 400 ∧ cz ≤ 400 ∧ j ≤ 400 := by
  have := TS_n h.1
  have := h.2.2.2
  omega
theorem ok_app {A B : List (Nat × Int32)} (h : ∀ q ∈ A, okQ q) (h' : ∀ q ∈ B, okQ q) : ∀ q ∈ A ++ B, okQ q := fun q hq => (List.mem_append.mp hq).elim (h q) (h' q)
/-- the number to divide by -/
theorem l_div {M N : zM} {tp : Nat → Nat} {n NN : Nat} {P E : Nat → Nat} {j q cz cn s : Nat} (h : LwS M N tp n NN P E j q cz cn (s + 1)) :
    (∃ M1 M' N1 N' u, f_X3_readUnit 55 (J 1) M = some (J 1, M1) ∧ f_X3_emit 55 (J 10047) M1 = some M' ∧ f_X11_number (J 1) (J 9999) N = some (u, N1) ∧ f_X11_codes (J 5) u N1 = some N' ∧ ∃ (j' q' : Nat), j < j' ∧ LwS M' N' tp n NN P E j' q' (cz + 2) (cn + 1) s ∧ Em M N M' N' cz cn [(5, u)] ∧ okQ (5, u) ∧ Kp N N' ∧ FrC M M' ∧ FrN N N') ∨
    (∃ M1 M' N1 N' u, f_X3_readUnit 55 (J 1) M = some (J 0, M1) ∧ f_X3_emit 55 (J 10047) M1 = some M' ∧ f_X11_number (J 1) (J 9999) N = some (u, N1) ∧ f_X11_codes (J 5) u N1 = some N' ∧ Fc M N M' N') := by
  have hT := h.1
  have hn := TS_n hT
  have hcz : cz ≤ 400 := by have := h.2.2.2.1; omega
  have hkd := i_kind hT
  unfold f_X3_readUnit j_X3_readUnit_38 j_X3_readUnit_48
  rcases i_num hT (lo := 1) (hi := 9999) (by omega) (by omega) (by omega) (by omega) with ⟨x, v1, v2, v3, v4, v5, v6⟩ | ⟨k, e, hk, v5, v6⟩
  · have ne : ¬ J (x : Int) = J (-1) := by rw [J_eq (by omega) (by omega) (by omega) (by omega)]; omega
    obtain ⟨M1, M', N', m1, m2, m3, m4, m5, m6, m7, m8⟩ := em_5 (LwS_next h v3) (J x)
    left
    refine ⟨M1, M', _, N', J x, ?_, m2, v6, m3, j + 1, E j, by omega, m4, Em_79 m5, ⟨by show 5 ≤ 11; omega, fun e => by simp at e, fun e => by simp at e, fun _ => ⟨⟨x, by omega, rfl⟩, ?_⟩⟩, Kp_t (Kp_9 _ _) m6, FrC_t (FrC_7 _ _) m7, FrN_t (FrN_9 _ _) m8⟩
    · simp (disch := omega) only [↓reduceIte, J_lit, J_neg, Int.cast_ofNat_Int, J_lt_t, J_lt_f, J_le_t, J_le_f, J_eq_t, J_eq_f, within_t, within_f, isIn_t, isIn_f, inRow_t, inRow_f, isCell_t, isCell_f, inb_t, hkd, bind_s, v5, bnd2_s, m1, ne]
    · show ¬ J (x : Int) = J 0
      rw [J_eq (by omega) (by omega) (by omega) (by omega)]; omega
  · have nf : rF (mset N 257 9 (J e)) k (P j) 257 10 = J (P j) := rF_10 _ _ _
    have hpl : P j < 2147483648 := by omega
    have hM5 : cF M k (P j) 55 5 = J cz := by unfold cF; simp (disch := omega) only [mset_ne, mset_eq, mrow_ne, mrow_eq, upd_eq, upd_ne]; exact h.2.1
    obtain ⟨M1, m1, ⟨c1, m2, m2'⟩, m3, m4⟩ := emit_any hM5 hcz (J (-1))
    obtain ⟨M', r1, r2, r3, r4⟩ := emit_any m2' m2 (J 10047)
    right
    refine ⟨M1, M', _, rF (mset N 257 9 (J e)) k (P j), J 0, ?_, r1, v6, n_codes hpl nf _ _, FL_78 (r4.trans m4) (FL_of (by omega)), r2, FrC_t (FrC_c _ _ _) (FrC_t m3 r3), FrN_t (FrN_9 _ _) (FrN_r2 _ _ _)⟩
    simp (disch := omega) only [↓reduceIte, J_lit, J_neg, Int.cast_ofNat_Int, J_lt_t, J_lt_f, J_le_t, J_le_f, J_eq_t, J_eq_f, within_t, within_f, isIn_t, isIn_f, inRow_t, inRow_f, isCell_t, isCell_f, inb_t, hkd, bind_s, v5, bnd2_s, m1]
theorem Fc_bad {M N M' N' : zM} (h : Fc M N M' N') : ∃ p : Nat, p < 2147483648 ∧ N' 257 10 = J p := by
  obtain ⟨⟨kf, pf, p1, p2, p3, p4, p5⟩, _⟩ := h
  exact ⟨pf, by omega, p5⟩
def wst (w : Nat) (st : List Bool) : List Bool := if w = 0 then false :: st else false :: false :: st
def SmOk (w s : Nat) (M N M' N' : zM) (tp : Nat → Nat) (n NN : Nat) (P E : Nat → Nat) (j cz cn : Nat) : Prop :=
  ∃ (j' q' : Nat) (L : List (Nat × Int32)), j ≤ j' ∧ LwS M' N' tp n NN P E j' q' (cz + (encL L).length) (cn + L.length) s ∧ Em M N M' N' cz cn L ∧ (∀ q ∈ L, okQ q) ∧ (∀ st : List Bool, st.length < 61 → tyL L (wst w st) = some (false :: st)) ∧ Kp N N' ∧ FrC M M' ∧ FrN N N'
/-- a code more at the front -/
theorem Sm_cons {w w' s : Nat} {M N M1 N1 M' N' : zM} {tp : Nat → Nat} {n NN : Nat} {P E : Nat → Nat} {j j1 cz cn : Nat} {A : List (Nat × Int32)} (hj : j ≤ j1) (hA : Em M N M1 N1 cz cn A) (okA : ∀ q ∈ A, okQ q) (tyA : ∀ st : List Bool, st.length < 61 → tyL A (wst w st) = some (wst w' st)) (k1 : Kp N N1) (f1 : FrC M M1) (f2 : FrN N N1)
    (h : SmOk w' s M1 N1 M' N' tp n NN P E j1 (cz + (encL A).length) (cn + A.length)) : SmOk w s M N M' N' tp n NN P E j cz cn := by
  obtain ⟨j', q', L, l1, l2, l3, l4, l5, l6, l7, l8⟩ := h
  have hc := LwS_c l2
  refine ⟨j', q', A ++ L, by omega, LwS_app l2, Em_t (by omega) hA l3, ok_app okA l4, fun st hst => ?_, Kp_t k1 l6, FrC_t f1 l7, FrN_t f2 l8⟩
  rw [tyL_app, tyA st hst]
  exact l5 st hst
theorem p_sumL {tp : Nat → Nat} {n NN : Nat} {P E : Nat → Nat} {s : Nat} : ∀ (m w k j q cz cn : Nat) (M N : zM), NN - j = m → (w = 0 ∨ w = 2 ∨ w = 3) → LwS M N tp n NN P E j q cz cn (s + (if w = 0 then 0 else 1)) → k < j →
    (∃ M' N', CL (wvL w) (J 1) (J k) M = some (.inr (J 1, M')) ∧ RH w N = some N' ∧ SmOk w s M N M' N' tp n NN P E j cz cn) ∨
    (∃ M' N', CL (wvL w) (J 1) (J k) M = some (.inl M') ∧ RH w N = some N' ∧ Fc M N M' N') := by
  intro m
  induction m using Nat.strongRecOn with
  | _ m ih =>
  intro w k j q cz cn M N hm hw h hk
  have hT := h.1
  have hn := TS_n hT
  obtain ⟨kk, k1, k2, k3, k4⟩ := i_kd hT
  by_cases c42 : kk = 42
  · -- times
    have h42 : M 80 j = J 42 := by rw [k1, c42]; rfl
    obtain ⟨g1, g2, g3⟩ := sg_go hT (c := 42) (by unfold isSg; omega) h42
    rw [cl_mul (wvL w) hT h42 (by omega) g1]
    have er : RH w N = (f_X11_readUnit (mset N 257 9 (J (E j)))).bind fun N1 => (f_X11_codes (J 4) (J 0) N1).bind (RH w) := by
      unfold RH
      rw [rp_mul hT h42]
      cases f_X11_readUnit (mset N 257 9 (J (E j))) with
      | none => rfl
      | some y =>
        simp only [bind_s]
        cases f_X11_codes (J 4) (J 0) y with
        | none => rfl
        | some z => rfl
    rw [er]
    have hx := LwS_next h g1
    rcases l_unit hx with ⟨M1, N1, u1, u2, j1, q1, L, l1, l2, l3, l4, l5, l6, l7, l8⟩ | ⟨M1, N1, u1, u2, u3⟩
    · obtain ⟨M2, N2, e1, e2, e3, e4, e5, e6, e7⟩ := em_1 l2 4 (J 0) (J 10042) rfl
      have e2' : f_X11_codes (J 4) (J 0) N1 = some N2 := e2
      have hn2 := TS_n e3.1
      have l2c := LwS_c l2
      have e3c := LwS_c e3
      have e3' : LwS M2 N2 tp n NN P E j1 q1 (cz + (encL (L ++ [(4, J 0)])).length) (cn + (L ++ [(4, J 0)]).length) (s + (if w = 0 then 0 else 1)) := LwS_app e3
      have emA : Em M N M2 N2 cz cn (L ++ [(4, J 0)]) := Em_t (by simp only [List.length_singleton]; omega) (Em_79 l3) e4
      have okA : ∀ q ∈ L ++ [((4 : Nat), J 0)], okQ q := ok_app l4 (fun q hq => by
        rw [List.mem_singleton] at hq
        subst hq
        exact ⟨by show 4 ≤ 11; omega, fun e => by simp at e, fun e => by simp at e, fun e => by simp at e⟩)
      have tyA : ∀ st : List Bool, st.length < 61 → tyL (L ++ [((4 : Nat), J 0)]) (wst w st) = some (wst w st) := by
        intro st hst
        rw [tyL_app]
        unfold wst
        by_cases c : w = 0
        · rw [if_pos c, l5 (false :: st) (by simp only [List.length_cons]; omega)]
          rfl
        · rw [if_neg c, l5 (false :: false :: st) (by simp only [List.length_cons]; omega)]
          rfl
      have hrec := ih (NN - j1) (by omega) w (k + 1) j1 q1 _ _ M2 N2 rfl hw e3' (by omega)
      rcases hrec with ⟨M', N', r1, r2, r3⟩ | ⟨M', N', r1, r2, r3⟩
      · left
        refine ⟨M', N', ?_, ?_, Sm_cons (by omega) emA okA tyA (Kp_t (Kp_9 _ _) (Kp_t l6 e5)) (FrC_t (FrC_7 _ _) (FrC_t l7 e6)) (FrN_t (FrN_9 _ _) (FrN_t l8 e7)) r3⟩
        · rw [u1]
          simp only [bnd2_s, e1, bind_s, r1]
        · rw [u2]
          simp only [bind_s, e2', r2]
      · right
        refine ⟨M', N', ?_, ?_, Fc_t (FrC_t (FrC_7 _ _) (FrC_t l7 e6)) (FrN_t (FrN_9 _ _) (FrN_t l8 e7)) r3⟩
        · rw [u1]
          simp only [bnd2_s, e1, bind_s, r1]
        · rw [u2]
          simp only [bind_s, e2', r2]
    · right
      obtain ⟨p, hp, hp2⟩ := Fc_bad u3
      obtain ⟨f1, ⟨c1, f2, f2'⟩, f3, f4⟩ := u3
      obtain ⟨M2, r1, r2, r3, r4⟩ := emit_any f2' f2 (J 10042)
      refine ⟨M2, N1, ?_, ?_, FL_78 r4 f1, r2, FrC_t (FrC_7 _ _) (FrC_t f3 r3), FrN_t (FrN_9 _ _) f4⟩
      · rw [u1]
        simp only [bnd2_s, r1, bind_s, cl_0]
      · rw [u2]
        simp only [bind_s, n_codes hp hp2, rh_bad hp hp2]
  · by_cases c47 : kk = 47
    · -- by
      have h47 : M 80 j = J 47 := by rw [k1, c47]; rfl
      obtain ⟨g1, g2, g3⟩ := sg_go hT (c := 47) (by unfold isSg; omega) h47
      rw [cl_div (wvL w) hT h47 (by omega) g1]
      have er : RH w N = (bnd2 (f_X11_number (J 1) (J 9999) (mset N 257 9 (J (E j)))) fun u N1 => (f_X11_codes (J 5) u N1).bind (RH w)) := by
        unfold RH
        rw [rp_div hT h47]
        cases f_X11_number (J 1) (J 9999) (mset N 257 9 (J (E j))) with
        | none => rfl
        | some y =>
          obtain ⟨a, b⟩ := y
          simp only [bnd2_s]
          cases f_X11_codes (J 5) a b with
          | none => rfl
          | some z => rfl
      rw [er]
      have hx := LwS_next h g1
      rcases l_div hx with ⟨M1, M2, N1, N2, u, u1, u2, u3, u4, j1, q1, l1, l2, l3, l4, l6, l7, l8⟩ | ⟨M1, M2, N1, N2, u, u1, u2, u3, u4, u5⟩
      · have hn2 := TS_n l2.1
        have l2' : LwS M2 N2 tp n NN P E j1 q1 (cz + (encL [(5, u)]).length) (cn + [((5 : Nat), u)].length) (s + (if w = 0 then 0 else 1)) := l2
        have okA : ∀ q ∈ [((5 : Nat), u)], okQ q := fun q hq => by
          rw [List.mem_singleton] at hq
          subst hq
          exact l4
        have tyA : ∀ st : List Bool, st.length < 61 → tyL [((5 : Nat), u)] (wst w st) = some (wst w st) := by
          intro st hst
          unfold wst
          by_cases c : w = 0
          · rw [if_pos c]
            simp only [tyL, tyC]
            rw [if_pos (by omega)]
            rfl
          · rw [if_neg c]
            simp only [tyL, tyC]
            rw [if_pos (by simp only [List.length_cons]; omega)]
            rfl
        have hrec := ih (NN - j1) (by omega) w (k + 1) j1 q1 _ _ M2 N2 rfl hw l2' (by omega)
        rcases hrec with ⟨M', N', r1, r2, r3⟩ | ⟨M', N', r1, r2, r3⟩
        · left
          refine ⟨M', N', ?_, ?_, Sm_cons (by omega) (Em_79 l3) okA tyA (Kp_t (Kp_9 _ _) l6) (FrC_t (FrC_7 _ _) l7) (FrN_t (FrN_9 _ _) l8) r3⟩
          · rw [u1]
            simp only [bnd2_s, u2, bind_s, r1]
          · rw [u3]
            simp only [bnd2_s, bind_s, u4, r2]
        · right
          refine ⟨M', N', ?_, ?_, Fc_t (FrC_t (FrC_7 _ _) l7) (FrN_t (FrN_9 _ _) l8) r3⟩
          · rw [u1]
            simp only [bnd2_s, u2, bind_s, r1]
          · rw [u3]
            simp only [bnd2_s, bind_s, u4, r2]
      · right
        obtain ⟨p, hp, hp2⟩ := Fc_bad u5
        refine ⟨M2, N2, ?_, ?_, Fc_t (FrC_7 _ _) (FrN_9 _ _) u5⟩
        · rw [u1]
          simp only [bnd2_s, u2, bind_s, cl_0]
        · rw [u3]
          simp only [bnd2_s, bind_s, u4, rh_bad hp hp2]
    · -- neither: the sign that waited, then plus, minus, or the end
      have n42 : ¬ M 80 j = J 42 := by rw [k1, J_eq (by omega) (by omega) (by omega) (by omega)]; omega
      have n47 : ¬ M 80 j = J 47 := by rw [k1, J_eq (by omega) (by omega) (by omega) (by omega)]; omega
      rw [cl_else hw hT k1 k2 c42 c47 (by omega)]
      have hat := LwS_at h
      -- what waited is written
      obtain ⟨M1, N1, A, x1, x2, x3, x4, x5, x6, x7, x8, x9⟩ : ∃ (M1 N1 : zM) (A : List (Nat × Int32)), (if w = 0 then some M else f_X3_emit 55 (J 10000 + wvL w) M) = some M1 ∧ (if w = 0 then some (mset N 257 9 (J (P j))) else f_X11_codes (J w) (J 0) (mset N 257 9 (J (P j)))) = some N1 ∧ LwS M1 N1 tp n NN P E j (P j) (cz + (encL A).length) (cn + A.length) s ∧ Em M N M1 N1 cz cn A ∧ (∀ q ∈ A, okQ q) ∧ (∀ st : List Bool, st.length < 61 → tyL A (wst w st) = some (wst 0 st)) ∧ Kp N N1 ∧ FrC M M1 ∧ FrN N N1 := by
        by_cases cw : w = 0
        · rw [if_pos cw, if_pos cw]
          rw [if_pos cw] at hat
          refine ⟨M, _, [], rfl, rfl, hat, Em_9 (Em_nil _ _ _ _), fun q hq => by simp at hq, fun st _ => by rw [cw]; rfl, Kp_9 _ _, FrC_r _, FrN_9 _ _⟩
        · rw [if_neg cw, if_neg cw]
          rw [if_neg cw] at hat
          have ev : encC (w, J 0) = [J 10000 + wvL w] := by
            rcases hw with e | e | e
            · omega
            · subst e; show [J 10043] = _; rfl
            · subst e; show [J 10045] = _; rfl
          obtain ⟨M1, N1, e1, e2, e3, e4, e5, e6, e7⟩ := em_1 hat w (J 0) (J 10000 + wvL w) ev
          have el : (encL [(w, J 0)]).length = 1 := by simp only [encL, ev, List.append_nil, List.length_singleton]
          refine ⟨M1, N1, [(w, J 0)], e1, e2, by rw [el]; exact e3, Em_9 e4, fun q hq => ?_, fun st _ => ?_, Kp_t (Kp_9 _ _) e5, e6, FrN_t (FrN_9 _ _) e7⟩
          · rw [List.mem_singleton] at hq
            subst hq
            rcases hw with e | e | e
            · omega
            · subst e; exact ⟨by show 2 ≤ 11; omega, fun e => by simp at e, fun e => by simp at e, fun e => by simp at e⟩
            · subst e; exact ⟨by show 3 ≤ 11; omega, fun e => by simp at e, fun e => by simp at e, fun e => by simp at e⟩
          · rcases hw with e | e | e
            · omega
            · subst e; rfl
            · subst e; rfl
      have er : RH w N = RS N1 := by
        unfold RH
        rw [rp_end hT n42 n47]
        simp only [bind_s]
        rw [x2]
        rfl
      rw [er, x1]
      simp only [bind_s]
      have k1' : M1 80 j = J kk := by rw [x8.1 80 (by decide) (by decide)]; exact k1
      unfold CT
      by_cases cs : kk = 43 ∨ kk = 45
      · rw [if_pos cs]
        obtain ⟨g1, g2, g3⟩ := sg_go x3.1 (c := kk) (by unfold isSg; omega) k1'
        rw [i_next x3.1 g1, rs_go cs x3.1 k1']
        simp only [bind_s]
        have hx := LwS_next x3 g1
        obtain ⟨w', hw', ew', evw⟩ : ∃ w' : Nat, (w' = 2 ∨ w' = 3) ∧ (if kk = 43 then 2 else 3) = w' ∧ wvL w' = J kk := by
          rcases cs with e | e
          · subst e; exact ⟨2, Or.inl rfl, rfl, rfl⟩
          · subst e; exact ⟨3, Or.inr rfl, rfl, rfl⟩
        rw [ew', ← evw]
        rcases l_unit hx with ⟨M2, N2, u1, u2, j1, q1, L, l1, l2, l3, l4, l5, l6, l7, l8⟩ | ⟨M2, N2, u1, u2, u3⟩
        · have hn2 := TS_n l2.1
          have l2c := LwS_c l2
          have l2' : LwS M2 N2 tp n NN P E j1 q1 (cz + (encL (A ++ L)).length) (cn + (A ++ L).length) (s + (if w' = 0 then 0 else 1)) := by
            rw [if_neg (by omega)]
            exact LwS_app l2
          have emA : Em M N M2 N2 cz cn (A ++ L) := Em_t (by omega) x4 (Em_79 l3)
          have tyA : ∀ st : List Bool, st.length < 61 → tyL (A ++ L) (wst w st) = some (wst w' st) := by
            intro st hst
            rw [tyL_app, x6 st hst]
            have : wst w' st = false :: false :: st := by unfold wst; rw [if_neg (by omega)]
            rw [this]
            exact l5 (false :: st) (by simp only [List.length_cons]; omega)
          have hrec := ih (NN - j1) (by omega) w' (k + 1) j1 q1 _ _ M2 N2 rfl (by omega) l2' (by omega)
          rcases hrec with ⟨M', N', r1, r2, r3⟩ | ⟨M', N', r1, r2, r3⟩
          · left
            refine ⟨M', N', ?_, ?_, Sm_cons (by omega) emA (ok_app x5 l4) tyA (Kp_t x7 (Kp_t (Kp_9 _ _) l6)) (FrC_t x8 (FrC_t (FrC_7 _ _) l7)) (FrN_t x9 (FrN_t (FrN_9 _ _) l8)) r3⟩
            · rw [u1]
              simp only [bnd2_s, r1]
            · rw [u2]
              simp only [bind_s, r2]
          · right
            refine ⟨M', N', ?_, ?_, Fc_t (FrC_t x8 (FrC_t (FrC_7 _ _) l7)) (FrN_t x9 (FrN_t (FrN_9 _ _) l8)) r3⟩
            · rw [u1]
              simp only [bnd2_s, r1]
            · rw [u2]
              simp only [bind_s, r2]
        · right
          obtain ⟨p, hp, hp2⟩ := Fc_bad u3
          refine ⟨M2, N2, ?_, ?_, Fc_t (FrC_t x8 (FrC_7 _ _)) (FrN_t x9 (FrN_9 _ _)) u3⟩
          · rw [u1]
            simp only [bnd2_s, cl_0]
          · rw [u2]
            simp only [bind_s, rh_bad hp hp2]
      · rw [if_neg cs]
        have n43 : ¬ M1 80 j = J 43 := by rw [k1', J_eq (by omega) (by omega) (by omega) (by omega)]; omega
        have n45 : ¬ M1 80 j = J 45 := by rw [k1', J_eq (by omega) (by omega) (by omega) (by omega)]; omega
        left
        refine ⟨M1, _, rfl, rs_end x3.1 n43 n45, j, P j, A, Nat.le_refl _, LwS_at x3, Em_fr x4 (fun _ _ _ => rfl) (by simp (disch := omega) only [mset_ne, mset_eq, mrow_ne, mrow_eq, upd_eq, upd_ne]), x5, x6, Kp_t x7 (Kp_9 _ _), x8, FrN_t x9 (FrN_9 _ _)⟩
