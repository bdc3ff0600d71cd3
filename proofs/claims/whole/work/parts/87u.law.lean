/-! ===== a law: codes, units ===== -/
/-- the state of both while a law is read: cz codes of the class, cn of the reference; s tokens are to spare -/
def LwS (M N : zM) (tp : Nat → Nat) (n NN : Nat) (P E : Nat → Nat) (j q cz cn s : Nat) : Prop := TS M N tp n NN P E j q ∧ M 55 5 = J cz ∧ N 257 17 = J cn ∧ cz + s ≤ j ∧ cn ≤ cz
/-- L was written on both sides -/
def Em (M N M' N' : zM) (cz cn : Nat) (L : List (Nat × Int32)) : Prop :=
  (∀ i, i < cz → M' 59 i = M 59 i) ∧ RdC (M' 59) cz (encL L) ∧ (∀ i, i < 1025 + 2 * cn ∨ 1925 ≤ i → N' 263 i = N 263 i) ∧ RdR (N' 263) cn L ∧ (M' 55 0 = M 55 0 ∧ M' 56 = M 56 ∧ M' 57 = M 57 ∧ M' 58 = M 58)
def Kp (N N' : zM) : Prop := N' 257 12 = N 257 12 ∧ N' 257 19 = N 257 19 ∧ N' 264 = N 264
theorem Kp_r (N : zM) : Kp N N := ⟨rfl, rfl, rfl⟩
theorem Kp_t {N N' N'' : zM} (h : Kp N N') (h' : Kp N' N'') : Kp N N'' := ⟨h'.1.trans h.1, h'.2.1.trans h.2.1, h'.2.2.trans h.2.2⟩
theorem encL_app (L L' : List (Nat × Int32)) : encL (L ++ L') = encL L ++ encL L' := by
  induction L with
  | nil => rfl
  | cons a l ih => simp only [List.cons_append, encL, ih, List.append_assoc]
theorem tyL_app (L L' : List (Nat × Int32)) (s : List Bool) : tyL (L ++ L') s = (tyL L s).bind (tyL L') := by
  induction L generalizing s with
  | nil => rfl
  | cons a l ih =>
    simp only [List.cons_append, tyL]
    cases tyC a s with
    | none => rfl
    | some t => exact ih t
theorem Em_nil (M N : zM) (cz cn : Nat) : Em M N M N cz cn [] := ⟨fun _ _ => rfl, fun i v h => by simp [encL] at h, fun _ _ => rfl, fun i q h => by simp at h, rfl, rfl, rfl, rfl⟩
theorem Em_t {M N M1 N1 M2 N2 : zM} {cz cn : Nat} {L L' : List (Nat × Int32)} (hb : cn + L.length + L'.length ≤ 450) (h : Em M N M1 N1 cz cn L) (h' : Em M1 N1 M2 N2 (cz + (encL L).length) (cn + L.length) L') : Em M N M2 N2 cz cn (L ++ L') := by
  obtain ⟨a1, a2, a3, a4, a5, a6, a7, a8⟩ := h
  obtain ⟨b1, b2, b3, b4, b5, b6, b7, b8⟩ := h'
  refine ⟨fun i hi => by rw [b1 i (by omega)]; exact a1 i hi, fun i v hv => ?_, fun i hi => by rw [b3 i (by omega)]; exact a3 i hi, fun i q hq => ?_, by rw [b5, a5], by rw [b6, a6], by rw [b7, a7], by rw [b8, a8]⟩
  · rw [encL_app] at hv
    by_cases c : i < (encL L).length
    · rw [List.getElem?_append_left c] at hv
      rw [b1 _ (by omega)]
      exact a2 i v hv
    · rw [List.getElem?_append_right (by omega)] at hv
      have := b2 _ v hv
      rw [show cz + (encL L).length + (i - (encL L).length) = cz + i by omega] at this
      exact this
  · by_cases c : i < L.length
    · rw [List.getElem?_append_left c] at hq
      rw [b3 _ (by omega), b3 _ (by omega)]
      exact a4 i q hq
    · rw [List.getElem?_append_right (by omega)] at hq
      have := b4 _ q hq
      rw [show cn + L.length + (i - L.length) = cn + i by omega] at this
      exact this
/-- frames of other fields -/
theorem Em_fr {M N M1 N1 M2 N2 : zM} {cz cn : Nat} {L : List (Nat × Int32)} (h : Em M N M1 N1 cz cn L) (h1 : ∀ j, 55 ≤ j → j < 60 → M2 j = M1 j) (h2 : N2 263 = N1 263) : Em M N M2 N2 cz cn L := by
  unfold Em at *
  rw [h1 59 (by omega) (by omega), h1 55 (by omega) (by omega), h1 56 (by omega) (by omega), h1 57 (by omega) (by omega), h1 58 (by omega) (by omega), h2]
  exact h
theorem Em_fl {M N M0 N0 M1 N1 : zM} {cz cn : Nat} {L : List (Nat × Int32)} (h : Em M N M1 N1 cz cn L) (h1 : ∀ j, 55 ≤ j → j < 60 → M0 j = M j) (h2 : N0 263 = N 263) : Em M0 N0 M1 N1 cz cn L := by
  unfold Em at *
  rw [h1 59 (by omega) (by omega), h1 55 (by omega) (by omega), h1 56 (by omega) (by omega), h1 57 (by omega) (by omega), h1 58 (by omega) (by omega), h2]
  exact h
theorem i_emit {M : zM} {cz : Nat} (h : M 55 5 = J cz) (hc : cz < 400) (v : Int32) : f_X3_emit 55 v M = some (mset (mset M 59 cz v) 55 5 (J (cz + 1 : Nat))) := by
  unfold f_X3_emit
  simp (disch := omega) only [↓nm_s, ↓grd_s, ↓reduceIte, J_lit, Int.cast_ofNat_Int, J_lt_t, J_lt_f, J_le_t, J_le_f, J_eq_t, J_eq_f, within_t, within_f, isIn_t, isIn_f, inRow_t, inRow_f, isCell_t, isCell_f, inb_t, ix_Jn, ix_J, Int.reduceToNat, Int.toNat_natCast, Nat.reduceAdd, h, mset_ne, mset_eq, mrow_ne, mrow_eq, upd_eq, upd_ne]
  rw [J_s]
theorem emit_any {M : zM} {c : Nat} (h : M 55 5 = J c) (hc : c ≤ 400) (v : Int32) : ∃ M', f_X3_emit 55 v M = some M' ∧ (∃ c' : Nat, c' ≤ 400 ∧ M' 55 5 = J c') ∧ FrC M M' ∧ M' 78 = M 78 := by
  by_cases c4 : c < 400
  · exact ⟨_, i_emit h c4 v, ⟨c + 1, by omega, by simp (disch := omega) only [mset_ne, mset_eq, mrow_ne, mrow_eq, upd_eq, upd_ne]⟩, FrC_t (FrC_d _ (by omega) (by omega) _ _) (FrC_d _ (by omega) (by omega) _ _), by simp (disch := omega) only [mset_ne, mset_eq, mrow_ne, mrow_eq, upd_eq, upd_ne]⟩
  · refine ⟨M, ?_, ⟨c, hc, h⟩, FrC_r _, rfl⟩
    unfold f_X3_emit
    simp (disch := omega) only [↓reduceIte, J_lit, Int.cast_ofNat_Int, J_lt_t, J_lt_f, J_le_t, J_le_f, J_eq_t, J_eq_f, within_t, within_f, isIn_t, isIn_f, inRow_t, inRow_f, isCell_t, isCell_f, inb_t, h]
theorem i_codes {N : zM} {cn : Nat} (h10 : N 257 10 = J (-1)) (h : N 257 17 = J cn) (hc : cn < 450) (a b : Int32) : f_X11_codes a b N = some (mset (mset (mset N 263 (1025 + 2 * cn) a) 263 (1026 + 2 * cn) b) 257 17 (J (cn + 1 : Nat))) := by
  have f0 : ¬ f_X11_fine N = J 0 := by rw [fine_t h10]; decide
  have e1 : J 1025 + J 2 * J (cn : Int) = J ((1025 + 2 * cn : Nat) : Int) := by rw [J_mul, J_add]; exact congrArg J (by omega)
  have e2 : J ((1025 + 2 * cn : Nat) : Int) + J 1 = J ((1026 + 2 * cn : Nat) : Int) := by rw [J_add]; exact congrArg J (by omega)
  unfold f_X11_codes
  simp (disch := omega) only [↓nm_s, ↓grd_s, ↓reduceIte, J_lit, Int.cast_ofNat_Int, f0, h, e1, e2, J_lt_t, J_lt_f, J_le_t, J_le_f, J_eq_t, J_eq_f, within_t, within_f, isIn_t, isIn_f, inRow_t, inRow_f, isCell_t, isCell_f, inb_t, ix_Jn, ix_J, Int.reduceToNat, Int.toNat_natCast, mset_ne, mset_eq, mrow_ne, mrow_eq, upd_eq, upd_ne]
  rw [J_s]
/-- one code on both sides -/
theorem em_1 {M N : zM} {tp : Nat → Nat} {n NN : Nat} {P E : Nat → Nat} {j q cz cn s : Nat} (h : LwS M N tp n NN P E j q cz cn (s + 1)) (a : Nat) (b v : Int32) (he : encC (a, b) = [v]) :
    ∃ M' N', f_X3_emit 55 v M = some M' ∧ f_X11_codes (J a) b N = some N' ∧ LwS M' N' tp n NN P E j q (cz + 1) (cn + 1) s ∧ Em M N M' N' cz cn [(a, b)] ∧ Kp N N' ∧ FrC M M' ∧ FrN N N' := by
  obtain ⟨h1, h2, h3, h4, h5⟩ := h
  have hn := TS_n h1
  refine ⟨_, _, i_emit h2 (by omega) v, i_codes h1.2.2.2.2.2.2.2 h3 (by omega) (J a) b, ⟨TS_fr h1 (by simp (disch := omega) only [mset_ne, mset_eq, mrow_ne, mrow_eq, upd_eq, upd_ne]) (by simp (disch := omega) only [mset_ne, mset_eq, mrow_ne, mrow_eq, upd_eq, upd_ne]) (by simp (disch := omega) only [mset_ne, mset_eq, mrow_ne, mrow_eq, upd_eq, upd_ne]) (by simp (disch := omega) only [mset_ne, mset_eq, mrow_ne, mrow_eq, upd_eq, upd_ne]) (by simp (disch := omega) only [mset_ne, mset_eq, mrow_ne, mrow_eq, upd_eq, upd_ne]) (by simp (disch := omega) only [mset_ne, mset_eq, mrow_ne, mrow_eq, upd_eq, upd_ne]) (by simp (disch := omega) only [mset_ne, mset_eq, mrow_ne, mrow_eq, upd_eq, upd_ne]) (by simp (disch := omega) only [mset_ne, mset_eq, mrow_ne, mrow_eq, upd_eq, upd_ne]), by simp (disch := omega) only [mset_ne, mset_eq, mrow_ne, mrow_eq, upd_eq, upd_ne], by simp (disch := omega) only [mset_ne, mset_eq, mrow_ne, mrow_eq, upd_eq, upd_ne], by omega, by omega⟩, ⟨fun i hi => by simp (disch := omega) only [mset_ne, mset_eq, mrow_ne, mrow_eq, upd_eq, upd_ne], fun i w hw => ?_, fun i hi => ?_, fun i w hw => ?_, by simp (disch := omega) only [mset_ne, mset_eq, mrow_ne, mrow_eq, upd_eq, upd_ne], by simp (disch := omega) only [mset_ne, mset_eq, mrow_ne, mrow_eq, upd_eq, upd_ne], by simp (disch := omega) only [mset_ne, mset_eq, mrow_ne, mrow_eq, upd_eq, upd_ne], by simp (disch := omega) only [mset_ne, mset_eq, mrow_ne, mrow_eq, upd_eq, upd_ne]⟩, ⟨by simp (disch := omega) only [mset_ne, mset_eq, mrow_ne, mrow_eq, upd_eq, upd_ne], by simp (disch := omega) only [mset_ne, mset_eq, mrow_ne, mrow_eq, upd_eq, upd_ne], by simp (disch := omega) only [mset_ne, mset_eq, mrow_ne, mrow_eq, upd_eq, upd_ne]⟩, FrC_t (FrC_d _ (by omega) (by omega) _ _) (FrC_d _ (by omega) (by omega) _ _), ⟨fun j c1 c2 c3 => by simp (disch := omega) only [mset_ne, mset_eq, mrow_ne, mrow_eq, upd_eq, upd_ne], fun i c1 c2 c3 c4 c5 c6 => by simp (disch := omega) only [mset_ne, mset_eq, mrow_ne, mrow_eq, upd_eq, upd_ne]⟩⟩
  · have e : encL [(a, b)] = [v] := by simp only [encL, he, List.append_nil]
    rw [e] at hw
    cases i with
    | zero =>
      simp at hw
      subst hw
      simp (disch := omega) only [Nat.add_zero, mset_ne, mset_eq, mrow_ne, mrow_eq, upd_eq, upd_ne]
    | succ i => simp at hw
  · have n1 : i ≠ 1025 + 2 * cn := by omega
    have n2 : i ≠ 1026 + 2 * cn := by omega
    simp (disch := omega) only [mset_ne, mset_eq, mrow_ne, mrow_eq, upd_eq, upd_ne]
  · cases i with
    | zero =>
      simp at hw
      subst hw
      exact ⟨by simp (disch := omega) only [Nat.add_zero, mset_ne, mset_eq, mrow_ne, mrow_eq, upd_eq, upd_ne], by simp (disch := omega) only [Nat.add_zero, mset_ne, mset_eq, mrow_ne, mrow_eq, upd_eq, upd_ne]⟩
    | succ i => simp at hw
/-- what was read, and well -/
def Sc (b : Bool) (m : Nat) (M N M' N' : zM) (tp : Nat → Nat) (n NN : Nat) (P E : Nat → Nat) (j cz cn s : Nat) : Prop :=
  ∃ (j' q' : Nat) (L : List (Nat × Int32)), j < j' ∧ LwS M' N' tp n NN P E j' q' (cz + (encL L).length) (cn + L.length) s ∧ Em M N M' N' cz cn L ∧ (∀ q ∈ L, okQ q) ∧ (∀ st : List Bool, st.length < m → tyL L st = some (b :: st)) ∧ Kp N N' ∧ FrC M M' ∧ FrN N N'
def Fc (M N M' N' : zM) : Prop := FL M' N' ∧ (∃ c' : Nat, c' ≤ 400 ∧ M' 55 5 = J c') ∧ FrC M M' ∧ FrN N N'
theorem Fc_t {M N M1 N1 M' N' : zM} (h1 : FrC M M1) (h2 : FrN N N1) (h : Fc M1 N1 M' N') : Fc M N M' N' := ⟨h.1, h.2.1, FrC_t h1 h.2.2.1, FrN_t h2 h.2.2.2⟩
theorem FL_78 {M M' N : zM} (h : M' 78 = M 78) (hf : FL M N) : FL M' N := by
  unfold FL at *
  rw [h]
  exact hf
theorem nodig {M N : zM} {tp : Nat → Nat} {n NN : Nat} {P E : Nat → Nat} {j q : Nat} (h : TS M N tp n NN P E j q) {i : Nat} (hi : i < 29) (hk : M 80 j = J (128 + i : Nat)) : ¬ isDig (hch tp n (P j)) := by
  obtain ⟨e, h1, h2⟩ := i_let h
  obtain ⟨h3, h4⟩ := (h2 i hi).2 hk
  have hn := (TS_n h).2.2.2.2.2 h3
  have hl := h1.2.2.1 (P j) (Nat.le_refl _) (by omega)
  unfold hch
  rw [if_pos (by omega)]
  unfold isLet at hl; unfold isDig; simp only at hl; omega
theorem dig_iff {M N : zM} {tp : Nat → Nat} {n NN : Nat} {P E : Nat → Nat} {j q : Nat} (h : TS M N tp n NN P E j q) (hk : M 80 j = J 2) : isDig (hch tp n (P j)) := by
  obtain ⟨e, h1, h2⟩ := i_dig h
  rcases h2 with ⟨t1, t2, t3, t4, t5, t6⟩ | ⟨t1, t2⟩
  · have hn := (TS_n h).2.2.2.2.2 t1
    have := h1.2.2.1 (P j) (Nat.le_refl _) (by omega)
    unfold hch
    rw [if_pos (by omega)]
    exact this
  · exact absurd hk t2
