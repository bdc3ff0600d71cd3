/-! ===== what codes come to ===== -/
theorem run_st {x d c d' c' : Int32} {M M' : zM} (h : b_X3_run_6 41 84 x d c M = some (.inl (d', c', M'))) : loopW (fun s => b_X3_run_6 41 84 x s.1 s.2.1 s.2.2) (d, c, M) = loopW (fun s => b_X3_run_6 41 84 x s.1 s.2.1 s.2.2) (d', c', M') := loop_st (B := fun s : Int32 × Int32 × zM => b_X3_run_6 41 84 x s.1 s.2.1 s.2.2) (s := (d, c, M)) (s' := (d', c', M')) h
theorem run_en {x d c : Int32} {M M' : zM} (h : b_X3_run_6 41 84 x d c M = some (.inr M')) : loopW (fun s => b_X3_run_6 41 84 x s.1 s.2.1 s.2.2) (d, c, M) = some M' := loop_en (B := fun s : Int32 × Int32 × zM => b_X3_run_6 41 84 x s.1 s.2.1 s.2.2) (s := (d, c, M)) h
theorem com_st {x d c d' c' : Int32} {M M' : zM} (h : b_X11_comesTo_5 x d c M = some (.inl (d', c', M'))) : loopW (fun s => b_X11_comesTo_5 x s.1 s.2.1 s.2.2) (d, c, M) = loopW (fun s => b_X11_comesTo_5 x s.1 s.2.1 s.2.2) (d', c', M') := loop_st (B := fun s : Int32 × Int32 × zM => b_X11_comesTo_5 x s.1 s.2.1 s.2.2) (s := (d, c, M)) (s' := (d', c', M')) h
theorem com_en {x d c : Int32} {M M' : zM} (h : b_X11_comesTo_5 x d c M = some (.inr M')) : loopW (fun s => b_X11_comesTo_5 x s.1 s.2.1 s.2.2) (d, c, M) = some M' := loop_en (B := fun s : Int32 × Int32 × zM => b_X11_comesTo_5 x s.1 s.2.1 s.2.2) (s := (d, c, M)) h
theorem s_codes {cE fE : Nat} (hcE : cE ≤ 400) (hfE : fE ≤ 450) : ∀ (L : List (Nat × Int32)) (bs bs' : List Bool) (M N : zM) (c fr : Nat), tyL L bs = some bs' → (∀ q ∈ L, okQ q) → RdC (M 45) c (encL L) → RdR (N 259) fr L → StkR (M 46) (N 266) bs → bs.length < 64 → (∀ i, i < 10 → M 84 i = N 265 i) → c + (encL L).length = cE → fr + L.length = fE →
    W2 (loopW (fun s => b_X3_run_6 41 84 (J cE) s.1 s.2.1 s.2.2) (J bs.length, J c, M)) (loopW (fun s => b_X11_comesTo_5 (J fE) s.1 s.2.1 s.2.2) (J bs.length, J fr, N)) (fun M' N' => StkR (M' 46) (N' 266) bs' ∧ (∀ j, j ≠ 46 → M' j = M j) ∧ (∀ j, j ≠ 266 → N' j = N j)) := by
  intro L
  induction L with
  | nil =>
    intro bs bs' M N c fr ht _ _ _ hs hl hf e1 e2
    simp only [tyL, Option.some.injEq] at ht
    subst ht
    simp only [encL, List.length_nil, Nat.add_zero] at e1 e2
    subst e1 e2
    have h1 : b_X3_run_6 41 84 (J c) (J bs.length) (J c) M = some (.inr M) := by
      unfold b_X3_run_6
      simp (disch := omega) only [↓nm_eq, ↓grd_if, ↓reduceIte, J_lit, J_nI, J_add, J_sub, J_mul, J_neg, Int.cast_ofNat_Int, J_lt_t, J_lt_f, J_le_t, J_le_f, J_eq_t, J_eq_f, within_t, within_f, isIn_t, isIn_f, inRow_t, inRow_f, isCell_t, isCell_f, inb_t, ix_Jn, ix_J, Int.reduceToNat, Int.toNat_natCast, mset_ne, mset_eq, mrow_ne, mrow_eq, upd_eq, upd_ne, bind_some, bnd2_some, not_true_eq_false, not_false_eq_true, Nat.reduceAdd]
    have h2 : b_X11_comesTo_5 (J fr) (J bs.length) (J fr) N = some (.inr N) := by
      unfold b_X11_comesTo_5
      simp (disch := omega) only [↓nm_eq, ↓grd_if, ↓reduceIte, J_lit, J_nI, J_add, J_sub, J_mul, J_neg, Int.cast_ofNat_Int, J_lt_t, J_lt_f, J_le_t, J_le_f, J_eq_t, J_eq_f, within_t, within_f, isIn_t, isIn_f, inRow_t, inRow_f, isCell_t, isCell_f, inb_t, ix_Jn, ix_J, Int.reduceToNat, Int.toNat_natCast, mset_ne, mset_eq, mrow_ne, mrow_eq, upd_eq, upd_ne, bind_some, bnd2_some, not_true_eq_false, not_false_eq_true, Nat.reduceAdd]
    rw [run_en h1, com_en h2]
    exact w2_some ⟨hs, fun _ _ => rfl, fun _ _ => rfl⟩
  | cons q L ih =>
    intro bs bs' M N c fr ht hok hc hr hs hl hf e1 e2
    obtain ⟨w, v⟩ := q
    simp only [tyL] at ht
    cases ht1 : tyC (w, v) bs with
    | none => rw [ht1] at ht; cases ht
    | some b1 =>
      rw [ht1] at ht
      have ht2 : tyL L b1 = some bs' := ht
      have hokq := hok (w, v) (by simp)
      have hokL : ∀ q ∈ L, okQ q := fun q hq => hok q (by simp [hq])
      obtain ⟨hw, h0, h1, h5⟩ := hokq
      simp only at hw h0 h1 h5
      obtain ⟨hr1, hr2⟩ := RdR_hd hr
      have hrt := RdR_tl hr
      simp only at hr1 hr2
      simp only [List.length_cons] at e2
      -- one step of both, then the rest
      have go1 : ∀ (e : Nat) (b1 : List Bool) (x : Int32) (c1 : Nat), tyL L b1 = some bs' → b1.length = e + 1 → e + 1 < 64 → RdC (M 45) c1 (encL L) → StkR (upd (M 46) e x) (upd (N 266) e x) b1 → c1 + (encL L).length = cE →
          W2 (loopW (fun s => b_X3_run_6 41 84 (J cE) s.1 s.2.1 s.2.2) (J (e + 1 : Nat), J c1, mset M 46 e x)) (loopW (fun s => b_X11_comesTo_5 (J fE) s.1 s.2.1 s.2.2) (J (e + 1 : Nat), J (fr + 1 : Nat), mset N 266 e x)) (fun M' N' => StkR (M' 46) (N' 266) bs' ∧ (∀ j, j ≠ 46 → M' j = M j) ∧ (∀ j, j ≠ 266 → N' j = N j)) := by
        intro e b1 x c1 g1 g2 g3 g4 g5 g6
        have := ih b1 bs' (mset M 46 e x) (mset N 266 e x) c1 (fr + 1) g1 hokL (by rw [mset_ne (by decide)]; exact g4) (by rw [mset_ne (by decide)]; exact hrt) (by rw [mset_eq, mset_eq]; exact g5) (by omega) (fun i hi => by rw [mset_ne (by decide), mset_ne (by decide)]; exact hf i hi) g6 (by omega)
        rw [g2] at this
        refine w2_mono this ?_
        rintro M' N' ⟨r1, r2, r3⟩
        exact ⟨r1, fun j hj => by rw [r2 j hj, mset_ne hj], fun j hj => by rw [r3 j hj, mset_ne hj]⟩
      have two : ∀ (b2 : Bool) (r : List Bool) (t1 t2 : Bool), bs = t1 :: t2 :: r → b1 = b2 :: r → isBin w → encC (w, v) = [J (binC w)] → (10 ≤ w → t1 = true ∧ t2 = true) → (b2 = true → 6 ≤ w) →
          W2 (loopW (fun s => b_X3_run_6 41 84 (J cE) s.1 s.2.1 s.2.2) (J bs.length, J c, M)) (loopW (fun s => b_X11_comesTo_5 (J fE) s.1 s.2.1 s.2.2) (J bs.length, J fr, N)) (fun M' N' => StkR (M' 46) (N' 266) bs' ∧ (∀ j, j ≠ 46 → M' j = M j) ∧ (∀ j, j ≠ 266 → N' j = N j)) := by
        intro b2 r t1 t2 g1 g2 g3 g4 g5 g6
        subst g1 g2
        simp only [encL, g4, List.cons_append, List.nil_append] at hc e1
        simp only [List.length_cons] at e1 hl
        obtain ⟨⟨s1, s2, s3⟩, s4, s5⟩ := hs
        simp only [List.length_cons] at s4 s5
        have hb : 10 ≤ w → (M 46 r.length = 0 ∨ M 46 r.length = 1) ∧ (M 46 (r.length + 1) = 0 ∨ M 46 (r.length + 1) = 1) := fun h => ⟨s3 (g5 h).2, s5 (g5 h).1⟩
        have eb := t_both g3 (M 46 r.length) (M 46 (r.length + 1)) hb
        rw [s2, s4] at eb
        obtain ⟨k1, k2⟩ := s_bin (M := M) (N := N) (cE := cE) (fE := fE) (e := r.length) (c := c) (fr := fr) (v := v) (by omega) (by omega) hcE (by omega) hfE g3 (RdC_hd hc) hr1 s2 s4 eb
        simp only [List.length_cons]
        rw [run_st k1, com_st k2]
        refine go1 r.length (b2 :: r) _ (c + 1) ht2 rfl (by omega) (RdC_tl hc) ⟨StkR_upd (Nat.le_refl _) (Nat.le_refl _) s1, ?_, ?_⟩ (by omega)
        · rw [upd_eq, upd_eq]
        · intro hb2
          rw [upd_eq]
          have h6 := g6 hb2
          unfold isBin at g3
          rcases g3 with e | e | e | e | e | e | e | e <;> subst e
          · omega
          · omega
          · omega
          · simp only [bin2]
            split
            · exact Or.inr rfl
            · exact Or.inl rfl
          · simp only [bin2]
            split
            · exact Or.inr rfl
            · exact Or.inl rfl
          · simp only [bin2]
            split
            · exact Or.inr rfl
            · exact Or.inl rfl
          · obtain ⟨z1, z2⟩ := hb (by omega)
            simp only [bin2]
            rcases z1 with z1 | z1 <;> rcases z2 with z2 | z2 <;> rw [z1, z2] <;> decide
          · obtain ⟨z1, z2⟩ := hb (by omega)
            simp only [bin2]
            rcases z1 with z1 | z1 <;> rcases z2 with z2 | z2 <;> rw [z1, z2] <;> decide
      rcases (show w = 0 ∨ w = 1 ∨ w = 2 ∨ w = 3 ∨ w = 4 ∨ w = 5 ∨ w = 6 ∨ w = 7 ∨ w = 8 ∨ w = 9 ∨ w = 10 ∨ w = 11 by omega) with e | e | e | e | e | e | e | e | e | e | e | e <;> subst e
      · simp only [tyC] at ht1
        by_cases hlen : bs.length < 63
        · rw [if_pos hlen] at ht1
          injection ht1 with ht1
          subst ht1
          obtain ⟨x, hx, rfl⟩ := h0 rfl
          simp only [encL, encC, List.cons_append, List.nil_append, List.length_cons] at hc e1
          obtain ⟨y, k1, k2⟩ := s_push (M := M) (N := N) (cE := cE) (fE := fE) (d := bs.length) (c := c) (fr := fr) (q := (0, J x)) hlen (by omega) hcE (by omega) hfE (RdC_hd hc) (Or.inl ⟨x, hx, rfl, rfl⟩) hr1 hr2 hf
          rw [run_st k1, com_st k2]
          exact go1 bs.length (false :: bs) y (c + 1) ht2 rfl (by omega) (RdC_tl hc) ⟨StkR_upd (Nat.le_refl _) (Nat.le_refl _) hs, by rw [upd_eq, upd_eq], fun h => by cases h⟩ (by omega)
        · rw [if_neg hlen] at ht1
          cases ht1
      · simp only [tyC] at ht1
        by_cases hlen : bs.length < 63
        · rw [if_pos hlen] at ht1
          injection ht1 with ht1
          subst ht1
          obtain ⟨x, hx, rfl⟩ := h1 rfl
          simp only [encL, encC, List.cons_append, List.nil_append, List.length_cons, J_add] at hc e1
          obtain ⟨y, k1, k2⟩ := s_push (M := M) (N := N) (cE := cE) (fE := fE) (d := bs.length) (c := c) (fr := fr) (q := (1, J x)) hlen (by omega) hcE (by omega) hfE (RdC_hd hc) (Or.inr ⟨x, hx, rfl, rfl⟩) hr1 hr2 hf
          rw [run_st k1, com_st k2]
          exact go1 bs.length (false :: bs) y (c + 1) ht2 rfl (by omega) (RdC_tl hc) ⟨StkR_upd (Nat.le_refl _) (Nat.le_refl _) hs, by rw [upd_eq, upd_eq], fun h => by cases h⟩ (by omega)
        · rw [if_neg hlen] at ht1
          cases ht1
      · match bs, ht1 with
        | false :: false :: r, ht1 =>
          simp only [tyC, Option.some.injEq] at ht1
          exact two false r false false rfl ht1.symm (by unfold isBin; omega) rfl (fun h => by omega) (fun h => by cases h)
      · match bs, ht1 with
        | false :: false :: r, ht1 =>
          simp only [tyC, Option.some.injEq] at ht1
          exact two false r false false rfl ht1.symm (by unfold isBin; omega) rfl (fun h => by omega) (fun h => by cases h)
      · match bs, ht1 with
        | false :: false :: r, ht1 =>
          simp only [tyC, Option.some.injEq] at ht1
          exact two false r false false rfl ht1.symm (by unfold isBin; omega) rfl (fun h => by omega) (fun h => by cases h)
      · match bs, ht1, hs, hl with
        | false :: r, ht1, hs, hl =>
          simp only [tyC] at ht1
          by_cases hlen : r.length < 62
          · rw [if_pos hlen] at ht1
            injection ht1 with ht1
            subst ht1
            obtain ⟨⟨x, hx, rfl⟩, hx0⟩ := h5 rfl
            have hx0' : x ≠ 0 := fun h => by subst h; exact hx0 rfl
            simp only [encL, encC, List.cons_append, List.nil_append, List.length_cons] at hc e1
            obtain ⟨s1, s2, s3⟩ := hs
            obtain ⟨k1, k2, k3⟩ := s_by (M := M) (N := N) (cE := cE) (fE := fE) (e := r.length) (c := c) (fr := fr) (x := x) (by omega) (by omega) hcE (by omega) hfE hx hx0' (RdC_hd hc) (RdC_hd (RdC_tl hc)) hr1 hr2 s2
            simp only [List.length_cons]
            rw [run_st k1, run_st k2, com_st k3]
            have := ih (false :: r) bs' (mset (mset M 46 (r.length + 1) (J x)) 46 r.length (M 46 r.length / J x)) (mset N 266 r.length (M 46 r.length / J x)) (c + 2) (fr + 1) ht2 hokL (by rw [mset_ne (by decide), mset_ne (by decide)]; exact RdC_tl (RdC_tl hc)) (by rw [mset_ne (by decide)]; exact hrt) ?_ (by simp only [List.length_cons]; omega) (fun i hi => by rw [mset_ne (by decide), mset_ne (by decide), mset_ne (by decide)]; exact hf i hi) (by omega) (by omega)
            · simp only [List.length_cons] at this
              refine w2_mono this ?_
              rintro M' N' ⟨r1, r2, r3⟩
              exact ⟨r1, fun j hj => by rw [r2 j hj, mset_ne hj, mset_ne hj], fun j hj => by rw [r3 j hj, mset_ne hj]⟩
            · rw [mset_eq, mset_eq, mset_eq]
              refine ⟨StkR_upd (Nat.le_refl _) (Nat.le_refl _) ?_, ?_, fun h => by cases h⟩
              · have := StkR_upd (f := M 46) (g := N 266) (j := r.length + 1) (j' := r.length) (v := J x) (v' := N 266 r.length) (r := r) (by omega) (Nat.le_refl _) s1
                have e : upd (N 266) r.length (N 266 r.length) = N 266 := by
                  funext i
                  by_cases h : i = r.length
                  · subst h; rw [upd_eq]
                  · rw [upd_ne h]
                rw [e] at this
                exact this
              · rw [upd_eq, upd_eq]
          · rw [if_neg hlen] at ht1
            cases ht1
      · match bs, ht1 with
        | false :: false :: r, ht1 =>
          simp only [tyC, Option.some.injEq] at ht1
          exact two true r false false rfl ht1.symm (by unfold isBin; omega) rfl (fun h => by omega) (fun _ => by omega)
      · match bs, ht1 with
        | false :: false :: r, ht1 =>
          simp only [tyC, Option.some.injEq] at ht1
          exact two true r false false rfl ht1.symm (by unfold isBin; omega) rfl (fun h => by omega) (fun _ => by omega)
      · match bs, ht1 with
        | false :: false :: r, ht1 =>
          simp only [tyC, Option.some.injEq] at ht1
          exact two true r false false rfl ht1.symm (by unfold isBin; omega) rfl (fun h => by omega) (fun _ => by omega)
      · match bs, ht1, hs, hl with
        | true :: r, ht1, hs, hl =>
          simp only [tyC, Option.some.injEq] at ht1
          subst ht1
          simp only [encL, encC, List.cons_append, List.nil_append, List.length_cons] at hc e1
          simp only [List.length_cons] at hl
          obtain ⟨s1, s2, s3⟩ := hs
          obtain ⟨k1, k2⟩ := s_not (M := M) (N := N) (cE := cE) (fE := fE) (e := r.length) (c := c) (fr := fr) (by omega) (by omega) hcE (by omega) hfE (RdC_hd hc) hr1 s2
          simp only [List.length_cons]
          rw [run_st k1, com_st k2]
          refine go1 r.length (true :: r) _ (c + 1) ht2 rfl (by omega) (RdC_tl hc) ⟨StkR_upd (Nat.le_refl _) (Nat.le_refl _) s1, by rw [upd_eq, upd_eq], fun _ => ?_⟩ (by omega)
          rw [upd_eq]
          rcases s3 rfl with z | z <;> rw [z] <;> decide
      · match bs, ht1 with
        | true :: true :: r, ht1 =>
          simp only [tyC, Option.some.injEq] at ht1
          exact two true r true true rfl ht1.symm (by unfold isBin; omega) rfl (fun _ => ⟨rfl, rfl⟩) (fun _ => by omega)
      · match bs, ht1 with
        | true :: true :: r, ht1 =>
          simp only [tyC, Option.some.injEq] at ht1
          exact two true r true true rfl ht1.symm (by unfold isBin; omega) rfl (fun _ => ⟨rfl, rfl⟩) (fun _ => by omega)
