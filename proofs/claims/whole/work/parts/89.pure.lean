/-! ===== the law's loop ===== -/
theorem IC_zt {M M1 : zM} (h : IC M M) : IC M (zB (zin true) M M1) := IC_fr (fun _ _ => rfl) (fun j h1 h2 => zB_f (by unfold zin; simp; omega)) h
theorem IC_zf {M M1 N1 : zM} (h : IC M1 N1) : IC (zB (zin false) (zB (zin true) M M1) N1) (zB (zin false) (zB (zin true) M M1) N1) := by
  refine IC_fr (fun j hj => ?_) (fun j h1 h2 => ?_) h
  · rw [zB_f (by unfold zin; simp; omega), zB_t (by unfold zin; simp; omega)]
  · rw [zB_t (by unfold zin; simp; omega)]
theorem IC_zf1 {M N1 : zM} (h : IC M N1) : IC (zB (zin false) M N1) (zB (zin false) M N1) := by
  refine IC_fr (fun j hj => ?_) (fun j h1 h2 => ?_) h
  · rw [zB_f (by unfold zin; simp; omega)]
  · rw [zB_t (by unfold zin; simp; omega)]
theorem bndZ_s {α : Type} (z : Bool) (M : zM) (v : Int32) (A : zM) (k : Int32 → zM → Option α) : bndZ z M (some (v, A)) k = k v (zB (zin z) M A) := rfl
theorem e1309 (L : Nat) (xs : Nat → Int32) (v : Int32) (M : zM) : j_L_law_1309_18 L xs v M = some (.inl (v + 6, M)) := rfl
theorem law2 {F G : zM → Option (Int32 × zM)} (h : Cl2 F G) {M : zM} (hI : IC M M) {L : Nat} {xs : Nat → Int32} {v : Int32} : Wp (bndZ true M (F M) fun u M1 => bndZ false M1 (G M1) fun u' M2 => if u = u' then j_L_law_1309_18 L xs v M2 else some (.inr (.inr (0 : Int32)))) (fun o => ∃ M', o = .inl (v + 6, M') ∧ IC M' M') := by
  obtain ⟨u, M1, _, e1, _, _⟩ := h M M hI
  obtain ⟨u', M1', N1, e1', e2, h3⟩ := h M (zB (zin true) M M1) (IC_zt hI)
  rw [e1] at e1'
  injection e1' with e1'
  injection e1' with e3 e4
  subst e3 e4
  rw [e1, bndZ_s, e2, bndZ_s, if_pos rfl, e1309]
  exact wp_some ⟨_, rfl, IC_zf h3⟩
theorem law1 {F : zM → Option Int32} {G : zM → Option (Int32 × zM)} (h : Cl1 F G) {M : zM} (hI : IC M M) {L : Nat} {xs : Nat → Int32} {v : Int32} : Wp ((F M).bind fun u => bndZ false M (G M) fun u' M2 => if u = u' then j_L_law_1309_18 L xs v M2 else some (.inr (.inr (0 : Int32)))) (fun o => ∃ M', o = .inl (v + 6, M') ∧ IC M' M') := by
  obtain ⟨u, N1, e1, e2, h3⟩ := h M M hI
  rw [e1, bind_s, e2, bndZ_s, if_pos rfl, e1309]
  exact wp_some ⟨_, rfl, IC_zf1 h3⟩
theorem law0 {F G : zM → Option Int32} (h : Cl0 F G) {M : zM} (hI : IC M M) {L : Nat} {xs : Nat → Int32} {v : Int32} : Wp ((F M).bind fun u => (G M).bind fun u' => if u = u' then j_L_law_1309_18 L xs v M else some (.inr (.inr (0 : Int32)))) (fun o => ∃ M', o = .inl (v + 6, M') ∧ IC M' M') := by
  obtain ⟨u, e1, e2⟩ := h M M hI
  rw [e1, bind_s, e2, bind_s, if_pos rfl, e1309]
  exact wp_some ⟨_, rfl, hI⟩
theorem law_body {L : Nat} {xs : Nat → Int32} {M : zM} {v : Int32} (hI : IC M M) (h0 : ¬ (nI L - 6) < v) (g0 : inb v L) (g1 : inb (v + 1) L) (g2 : inb (v + 2) L) (g3 : inb (v + 3) L) (g4 : inb (v + 4) L) (g5 : inb (v + 5) L) : Wp (b_L_law_18 L xs v M) (fun o => ∃ M', o = .inl (v + 6, M') ∧ IC M' M') := by
  have t0 : ∀ (α : Type) (x : Option α), grd (inb v L) x = x := fun _ _ => grd_t g0
  have t1 : ∀ (α : Type) (x : Option α), grd (inb (v + 1) L) x = x := fun _ _ => grd_t g1
  have t2 : ∀ (α : Type) (x : Option α), grd (inb (v + 2) L) x = x := fun _ _ => grd_t g2
  have t3 : ∀ (α : Type) (x : Option α), grd (inb (v + 3) L) x = x := fun _ _ => grd_t g3
  have t4 : ∀ (α : Type) (x : Option α), grd (inb (v + 4) L) x = x := fun _ _ => grd_t g4
  have t5 : ∀ (α : Type) (x : Option α), grd (inb (v + 5) L) x = x := fun _ _ => grd_t g5
  unfold b_L_law_18
  rw [if_neg h0, t0]
  simp only [t1, t2, t3, t4, t5]
  by_cases c0 : (xs (ix v)) &&& (63 : Int32) = (0 : Int32)
  · rw [if_pos c0]
    exact law2 (c_state _) hI
  rw [if_neg c0]
  by_cases c1 : (xs (ix v)) &&& (63 : Int32) = (1 : Int32)
  · rw [if_pos c1]
    exact law2 (c_walker _) hI
  rw [if_neg c1]
  by_cases c2 : (xs (ix v)) &&& (63 : Int32) = (2 : Int32)
  · rw [if_pos c2]
    exact law2 (c_comes _ _ _) hI
  rw [if_neg c2]
  by_cases c3 : (xs (ix v)) &&& (63 : Int32) = (3 : Int32)
  · rw [if_pos c3]
    exact law2 (c_turn _ _) hI
  rw [if_neg c3]
  by_cases c4 : (xs (ix v)) &&& (63 : Int32) = (4 : Int32)
  · rw [if_pos c4]
    exact law2 (c_lay _ _ _) hI
  rw [if_neg c4]
  by_cases c5 : (xs (ix v)) &&& (63 : Int32) = (5 : Int32)
  · rw [if_pos c5]
    exact law2 (c_minutes _) hI
  rw [if_neg c5]
  by_cases c6 : (xs (ix v)) &&& (63 : Int32) = (6 : Int32)
  · rw [if_pos c6]
    exact law2 (c_feed _ _ _ _ _) hI
  rw [if_neg c6]
  by_cases c7 : (xs (ix v)) &&& (63 : Int32) = (7 : Int32)
  · rw [if_pos c7]
    exact law2 (c_end _) hI
  rw [if_neg c7]
  by_cases c8 : (xs (ix v)) &&& (63 : Int32) = (8 : Int32)
  · rw [if_pos c8]
    exact law2 (c_text _) hI
  rw [if_neg c8]
  by_cases c9 : (xs (ix v)) &&& (63 : Int32) = (9 : Int32)
  · rw [if_pos c9]
    rw [if_pos (c_fault _ hI), e1309]
    exact wp_some ⟨_, rfl, hI⟩
  rw [if_neg c9]
  by_cases c10 : (xs (ix v)) &&& (63 : Int32) = (10 : Int32)
  · rw [if_pos c10]
    exact law2 (c_of _ _) hI
  rw [if_neg c10]
  by_cases c11 : (xs (ix v)) &&& (63 : Int32) = (11 : Int32)
  · rw [if_pos c11]
    exact law1 (c_cell _ _ _) hI
  rw [if_neg c11]
  by_cases c12 : (xs (ix v)) &&& (63 : Int32) = (12 : Int32)
  · rw [if_pos c12]
    exact law0 (c_book _ _) hI
  rw [if_neg c12]
  by_cases c13 : (xs (ix v)) &&& (63 : Int32) = (13 : Int32)
  · rw [if_pos c13]
    exact law2 (c_goes _ _) hI
  rw [if_neg c13]
  by_cases c14 : (xs (ix v)) &&& (63 : Int32) = (14 : Int32)
  · rw [if_pos c14]
    exact law2 (c_over _) hI
  rw [if_neg c14]
  by_cases c15 : (xs (ix v)) &&& (63 : Int32) = (15 : Int32)
  · rw [if_pos c15]
    exact law2 (c_far _ _ _ _) hI
  rw [if_neg c15]
  by_cases c16 : (xs (ix v)) &&& (63 : Int32) = (16 : Int32)
  · rw [if_pos c16]
    exact law2 (c_with _ _ _ _) hI
  rw [if_neg c16]
  by_cases c17 : (xs (ix v)) &&& (63 : Int32) = (17 : Int32)
  · rw [if_pos c17]
    exact law0 (c_seen _ _) hI
  rw [if_neg c17]
  by_cases c18 : (xs (ix v)) &&& (63 : Int32) = (18 : Int32)
  · rw [if_pos c18]
    exact law2 (c_known _ _) hI
  rw [if_neg c18]
  by_cases c19 : (xs (ix v)) &&& (63 : Int32) = (19 : Int32)
  · rw [if_pos c19]
    exact law0 (c_one _) hI
  rw [if_neg c19]
  by_cases c20 : (xs (ix v)) &&& (63 : Int32) = (20 : Int32)
  · rw [if_pos c20]
    exact law2 (c_move _) hI
  rw [if_neg c20]
  by_cases c21 : (xs (ix v)) &&& (63 : Int32) = (21 : Int32)
  · rw [if_pos c21]
    exact law2 (c_round _) hI
  rw [if_neg c21]
  by_cases c22 : (xs (ix v)) &&& (63 : Int32) = (22 : Int32)
  · rw [if_pos c22]
    exact law0 (c_folded _ _ _) hI
  rw [if_neg c22]
  by_cases c23 : (xs (ix v)) &&& (63 : Int32) = (23 : Int32)
  · rw [if_pos c23]
    exact law2 (c_duel _ _ _) hI
  rw [if_neg c23]
  by_cases c24 : (xs (ix v)) &&& (63 : Int32) = (24 : Int32)
  · rw [if_pos c24]
    exact law2 (c_ant _ _) hI
  rw [if_neg c24]
  by_cases c25 : (xs (ix v)) &&& (63 : Int32) = (25 : Int32)
  · rw [if_pos c25]
    exact law2 (c_hooks _ _) hI
  rw [if_neg c25]
  by_cases c26 : (xs (ix v)) &&& (63 : Int32) = (26 : Int32)
  · rw [if_pos c26]
    exact law2 (c_apart _) hI
  rw [if_neg c26]
  by_cases c27 : (xs (ix v)) &&& (63 : Int32) = (27 : Int32)
  · rw [if_pos c27]
    exact law2 (c_gap _ _) hI
  rw [if_neg c27]
  by_cases c28 : (xs (ix v)) &&& (63 : Int32) = (28 : Int32)
  · rw [if_pos c28]
    exact law2 c_hedge hI
  rw [if_neg c28]
  by_cases c29 : (xs (ix v)) &&& (63 : Int32) = (29 : Int32)
  · rw [if_pos c29]
    exact law2 (c_meets _ _) hI
  rw [if_neg c29]
  by_cases c30 : (xs (ix v)) &&& (63 : Int32) = (30 : Int32)
  · rw [if_pos c30]
    exact law2 (c_pigeons _) hI
  rw [if_neg c30]
  by_cases c31 : (xs (ix v)) &&& (63 : Int32) = (31 : Int32)
  · rw [if_pos c31]
    exact law2 (c_game _ _ _) hI
  rw [if_neg c31]
  by_cases c32 : (xs (ix v)) &&& (63 : Int32) = (32 : Int32)
  · rw [if_pos c32]
    exact law2 c_undo hI
  rw [if_neg c32]
  by_cases c33 : (xs (ix v)) &&& (63 : Int32) = (33 : Int32)
  · rw [if_pos c33]
    have im : ∀ s : Int32, (s = (if xs (ix (v + 1)) = 0 then (0 : Int32) else 1)) → Wp (j_L_law_1261_18 L xs v s M) (fun o => ∃ M', o = .inl (v + 6, M') ∧ IC M' M') := by
      intro s hs
      unfold j_L_law_1261_18 j_L_law_1278_18
      simp only [t1]
      have := law2 (c_image s) hI (L := L) (xs := xs) (v := v)
      by_cases cc : xs (ix (v + 1)) = 0
      · rw [if_pos cc] at hs
        subst hs
        simp only [cc, if_true]
        exact this
      · rw [if_neg cc] at hs
        subst hs
        simp only [cc, if_false]
        exact this
    by_cases cc : xs (ix (v + 1)) = 0
    · rw [if_pos cc]
      exact im 0 (by rw [if_pos cc])
    · rw [if_neg cc]
      exact im 1 (by rw [if_neg cc])
  rw [if_neg c33]
  by_cases c34 : (xs (ix v)) &&& (63 : Int32) = (34 : Int32)
  · rw [if_pos c34]
    exact law1 (c_look _) hI
  rw [if_neg c34]
  rw [e1309]
  exact wp_some ⟨_, rfl, hI⟩
theorem IC_start : IC Mst Mst := by
  have z : ∀ k i, k ≠ 78 → k ≠ 257 → Mst k i = 0 := fun k i h1 h2 => by unfold Mst; simp (disch := omega) only [mset_ne, mset_eq, mrow_ne, mrow_eq, upd_eq, upd_ne]
  have z78 : ∀ i, i ≠ 2 → Mst 78 i = 0 := fun i h => by unfold Mst; simp (disch := omega) only [mset_ne, mset_eq, mrow_ne, mrow_eq, upd_eq, upd_ne]
  have z257 : ∀ i, i ≠ 14 → Mst 257 i = 0 := fun i h => by unfold Mst; simp (disch := omega) only [mset_ne, mset_eq, mrow_ne, mrow_eq, upd_eq, upd_ne]
  refine ⟨0, 0, 0, 0, 0, fun _ => 0, by omega, ?_, ?_, fun i hi => by omega, ?_, ?_, ?_, ?_, ?_, ?_⟩
  · refine ⟨⟨by omega, by omega, by omega⟩, ⟨z _ _ (by omega) (by omega), z _ _ (by omega) (by omega), z _ _ (by omega) (by omega), ?_, ?_⟩, ⟨z _ _ (by omega) (by omega), z _ _ (by omega) (by omega), z _ _ (by omega) (by omega)⟩, ?_, fun w hw => by omega, fun w _ _ i _ => z _ _ (by omega) (by omega), fun v w hv => by omega⟩
    · rw [z _ _ (by omega) (by omega), z _ _ (by omega) (by omega)]
    · rw [z _ _ (by omega) (by omega), z _ _ (by omega) (by omega)]
    · intro i hi
      rw [z _ _ (by omega) (by omega), z _ _ (by omega) (by omega)]
      exact ⟨rfl, 0, by omega, rfl⟩
  · refine ⟨fun k hk => by rw [z _ _ (by omega) (by omega), z _ _ (by omega) (by omega)], ⟨0, fun _ => 0, by omega, z _ _ (by omega) (by omega), z _ _ (by omega) (by omega), rfl, fun k hk => by omega⟩, fun w hw => ⟨0, by omega, z _ _ (by omega) (by omega), z _ _ (by omega) (by omega), fun i hi => by omega⟩, ⟨0, by omega, z _ _ (by omega) (by omega), fun i hi => by omega⟩⟩
  · refine ⟨fun r hr => ⟨0, by omega, z _ _ (by omega) (by omega), z _ _ (by omega) (by omega), fun i hi => by omega⟩, ⟨0, by omega, z _ _ (by omega) (by omega), z _ _ (by omega) (by omega), fun i hi => by omega⟩, ⟨0, by omega, z _ _ (by omega) (by omega), z _ _ (by omega) (by omega), fun i hi => by omega⟩⟩
  · refine ⟨0, by omega, z78 0 (by omega), z257 7 (by omega), fun i hi => by omega, ?_, ?_⟩
    · rw [z78 1 (by omega), z257 13 (by omega)]
    · unfold Mst
      simp (disch := omega) only [mset_ne, mset_eq, mrow_ne, mrow_eq, upd_eq, upd_ne]
  · exact Un_0 (by omega) (z _ _ (by omega) (by omega)) (z _ _ (by omega) (by omega)) (z257 4 (by omega))
  · refine ⟨by rw [z _ _ (by omega) (by omega), z257 5 (by omega)], Or.inl (z _ _ (by omega) (by omega))⟩
  · exact Or.inl (z _ _ (by omega) (by omega))
  · exact z _ _ (by omega) (by omega)
theorem law_pure (L : Nat) (xs : Nat → Int32) (hL : L ≤ 3072) : f_law L xs Mst = some 1 := by
  have key : Wp (loopW (fun s => b_L_law_18 L xs s.1 s.2) (J 0, Mst)) (fun q => ∃ M, q = .inl M) := by
    refine loop_up (fun j s => s.1 = J (6 * j : Nat) ∧ IC s.2 s.2) (L / 6) ⟨rfl, IC_start⟩ ?_ ?_
    · rintro j ⟨v, M⟩ hj ⟨e1, e2⟩
      simp only at e1 e2
      subst e1
      have hb : ∀ q : Nat, q < 6 → inb (J (6 * j : Nat) + J q) L := by
        intro q hq
        rw [J_add]
        exact inb_J (by omega) (by omega) (by omega)
      have h0 : ¬ (nI L - 6) < J (6 * j : Nat) := by
        rw [J_nI, show (6 : Int32) = J 6 from rfl, J_sub, J_lt (by omega) (by omega) (by omega) (by omega)]
        omega
      refine wp_mono (law_body e2 h0 (inb_J (by omega) (by omega) (by omega)) (hb 1 (by omega)) (hb 2 (by omega)) (hb 3 (by omega)) (hb 4 (by omega)) (hb 5 (by omega))) ?_
      rintro o ⟨M', rfl, h⟩
      refine ⟨?_, h⟩
      show J (6 * j : Nat) + J 6 = _
      rw [J_add]
      exact congrArg J (by omega)
    · rintro ⟨v, M⟩ ⟨e1, e2⟩
      simp only at e1 e2
      subst e1
      unfold b_L_law_18
      rw [if_pos (show (nI L - 6) < J (6 * (L / 6) : Nat) by rw [J_nI, show (6 : Int32) = J 6 from rfl, J_sub, J_lt (by omega) (by omega) (by omega) (by omega)]; omega)]
      exact wp_some ⟨M, rfl⟩
  obtain ⟨q, e, M, rfl⟩ := key
  unfold f_law
  rw [show (0 : Int32) = J 0 from rfl, e]
  rfl
