/-! ===== a law: sums ===== -/
/-- a number to divide by: two codes of the class, one of the reference -/
theorem em_5 {M N : zM} {tp : Nat → Nat} {n NN : Nat} {P E : Nat → Nat} {j q cz cn s : Nat} (h : LwS M N tp n NN P E j q cz cn (s + 2)) (v : Int32) :
    ∃ M1 M' N', f_X3_emit 55 v M = some M1 ∧ f_X3_emit 55 (J 10047) M1 = some M' ∧ f_X11_codes (J 5) v N = some N' ∧ LwS M' N' tp n NN P E j q (cz + 2) (cn + 1) s ∧ Em M N M' N' cz cn [(5, v)] ∧ Kp N N' ∧ FrC M M' ∧ FrN N N' := by
  obtain ⟨h1, h2, h3, h4, h5⟩ := h
  have hn := TS_n h1
  have e1 := i_emit h2 (by omega) v
  have e2 := i_emit (M := mset (mset M 59 cz v) 55 5 (J (cz + 1 : Nat))) (cz := cz + 1) (by simp (disch := omega) only [mset_ne, mset_eq, mrow_ne, mrow_eq, upd_eq, upd_ne]) (by omega) (J 10047)
  refine ⟨_, _, _, e1, e2, i_codes h1.2.2.2.2.2.2.2 h3 (by omega) (J 5) v, ⟨TS_fr h1 (by simp (disch := omega) only [mset_ne, mset_eq, mrow_ne, mrow_eq, upd_eq, upd_ne]) (by simp (disch := omega) only [mset_ne, mset_eq, mrow_ne, mrow_eq, upd_eq, upd_ne]) (by simp (disch := omega) only [mset_ne, mset_eq, mrow_ne, mrow_eq, upd_eq, upd_ne]) (by simp (disch := omega) only [mset_ne, mset_eq, mrow_ne, mrow_eq, upd_eq, upd_ne]) (by simp (disch := omega) only [mset_ne, mset_eq, mrow_ne, mrow_eq, upd_eq, upd_ne]) (by simp (disch := omega) only [mset_ne, mset_eq, mrow_ne, mrow_eq, upd_eq, upd_ne]) (by simp (disch := omega) only [mset_ne, mset_eq, mrow_ne, mrow_eq, upd_eq, upd_ne]) (by simp (disch := omega) only [mset_ne, mset_eq, mrow_ne, mrow_eq, upd_eq, upd_ne]), by simp (disch := omega) only [mset_ne, mset_eq, mrow_ne, mrow_eq, upd_eq, upd_ne], by simp (disch := omega) only [mset_ne, mset_eq, mrow_ne, mrow_eq, upd_eq, upd_ne], by omega, by omega⟩, ⟨fun i hi => by simp (disch := omega) only [mset_ne, mset_eq, mrow_ne, mrow_eq, upd_eq, upd_ne], fun i w hw => ?_, fun i hi => ?_, fun i w hw => ?_, by simp (disch := omega) only [mset_ne, mset_eq, mrow_ne, mrow_eq, upd_eq, upd_ne], by simp (disch := omega) only [mset_ne, mset_eq, mrow_ne, mrow_eq, upd_eq, upd_ne], by simp (disch := omega) only [mset_ne, mset_eq, mrow_ne, mrow_eq, upd_eq, upd_ne], by simp (disch := omega) only [mset_ne, mset_eq, mrow_ne, mrow_eq, upd_eq, upd_ne]⟩, ⟨by simp (disch := omega) only [mset_ne, mset_eq, mrow_ne, mrow_eq, upd_eq, upd_ne], by simp (disch := omega) only [mset_ne, mset_eq, mrow_ne, mrow_eq, upd_eq, upd_ne], by simp (disch := omega) only [mset_ne, mset_eq, mrow_ne, mrow_eq, upd_eq, upd_ne]⟩, ⟨fun j c1 c2 => by simp (disch := omega) only [mset_ne, mset_eq, mrow_ne, mrow_eq, upd_eq, upd_ne], fun i c1 c2 c3 => by simp (disch := omega) only [mset_ne, mset_eq, mrow_ne, mrow_eq, upd_eq, upd_ne]⟩, ⟨fun j c1 c2 c3 => by simp (disch := omega) only [mset_ne, mset_eq, mrow_ne, mrow_eq, upd_eq, upd_ne], fun i c1 c2 c3 c4 c5 c6 => by simp (disch := omega) only [mset_ne, mset_eq, mrow_ne, mrow_eq, upd_eq, upd_ne]⟩⟩
  · have e : encL [(5, v)] = [v, J 10047] := rfl
    rw [e] at hw
    match i, hw with
    | 0, hw =>
      simp at hw
      subst hw
      simp (disch := omega) only [Nat.add_zero, mset_ne, mset_eq, mrow_ne, mrow_eq, upd_eq, upd_ne]
    | 1, hw =>
      simp at hw
      subst hw
      simp (disch := omega) only [mset_ne, mset_eq, mrow_ne, mrow_eq, upd_eq, upd_ne]
    | i + 2, hw => simp at hw
  · have n1 : i ≠ 1025 + 2 * cn := by omega
    have n2 : i ≠ 1026 + 2 * cn := by omega
    simp (disch := omega) only [mset_ne, mset_eq, mrow_ne, mrow_eq, upd_eq, upd_ne]
  · cases i with
    | zero =>
      simp at hw
      subst hw
      exact ⟨by simp (disch := omega) only [Nat.add_zero, mset_ne, mset_eq, mrow_ne, mrow_eq, upd_eq, upd_ne]; rfl, by simp (disch := omega) only [Nat.add_zero, mset_ne, mset_eq, mrow_ne, mrow_eq, upd_eq, upd_ne]⟩
    | succ i => simp at hw
noncomputable def RP (N : zM) : Option zM := loopW (fun s => b_X11_readPart_4 s) N
noncomputable def RS (N : zM) : Option zM := loopW (fun s => b_X11_readSum_4 s) N
noncomputable def RH (w : Nat) (N : zM) : Option zM := (RP N).bind fun N1 => (if w = 0 then some N1 else f_X11_codes (J w) (J 0) N1).bind RS
theorem rp_bad {N : zM} {p : Nat} (hp : p < 2147483648) (h : N 257 10 = J p) : RP N = some N := by
  unfold RP
  rw [loopW_eq]
  unfold b_X11_readPart_4
  rw [if_pos (show f_X11_fine N = (0 : Int32) from fine_f hp h)]
theorem rs_bad {N : zM} {p : Nat} (hp : p < 2147483648) (h : N 257 10 = J p) : RS N = some N := by
  unfold RS
  rw [loopW_eq]
  unfold b_X11_readSum_4
  rw [if_pos (show f_X11_fine N = (0 : Int32) from fine_f hp h)]
theorem rh_bad {N : zM} {p : Nat} (hp : p < 2147483648) (h : N 257 10 = J p) (w : Nat) : RH w N = some N := by
  unfold RH
  rw [rp_bad hp h]
  simp only [bind_s]
  by_cases c : w = 0
  · rw [if_pos c]; exact rs_bad hp h
  · rw [if_neg c, n_codes hp h]; exact rs_bad hp h
/-- the sign under the reader -/
theorem rp_end {M N : zM} {tp : Nat → Nat} {n NN : Nat} {P E : Nat → Nat} {j q : Nat} (h : TS M N tp n NN P E j q) (h1 : ¬ M 80 j = J 42) (h2 : ¬ M 80 j = J 47) : RP N = some (mset N 257 9 (J (P j))) := by
  have hc := i_hc h
  have a1 : ¬ hch tp n (P j) = 42 := fun e => h1 ((hc.2.1 42 (by unfold isSg; omega)).1 e)
  have a2 : ¬ hch tp n (P j) = 47 := fun e => h2 ((hc.2.1 47 (by unfold isSg; omega)).1 e)
  have hh := i_here h
  have hh2 := i_here (TS_at h)
  rw [mset_2] at hh2
  have f0 : ¬ f_X11_fine N = J 0 := by rw [fine_t h.2.2.2.2.2.2.2]; decide
  unfold RP
  rw [loopW_eq]
  unfold b_X11_readPart_4
  simp (disch := omega) only [↓reduceIte, J_lit, Int.cast_ofNat_Int, J_lt_t, J_lt_f, J_le_t, J_le_f, J_eq_t, J_eq_f, within_t, within_f, isIn_t, isIn_f, inRow_t, inRow_f, isCell_t, isCell_f, inb_t, f0, hh, hh2, bnd2_s]
theorem rs_end {M N : zM} {tp : Nat → Nat} {n NN : Nat} {P E : Nat → Nat} {j q : Nat} (h : TS M N tp n NN P E j q) (h1 : ¬ M 80 j = J 43) (h2 : ¬ M 80 j = J 45) : RS N = some (mset N 257 9 (J (P j))) := by
  have hc := i_hc h
  have a1 : ¬ hch tp n (P j) = 43 := fun e => h1 ((hc.2.1 43 (by unfold isSg; omega)).1 e)
  have a2 : ¬ hch tp n (P j) = 45 := fun e => h2 ((hc.2.1 45 (by unfold isSg; omega)).1 e)
  have hh := i_here h
  have hh2 := i_here (TS_at h)
  rw [mset_2] at hh2
  have f0 : ¬ f_X11_fine N = J 0 := by rw [fine_t h.2.2.2.2.2.2.2]; decide
  unfold RS
  rw [loopW_eq]
  unfold b_X11_readSum_4
  simp (disch := omega) only [↓reduceIte, J_lit, Int.cast_ofNat_Int, J_lt_t, J_lt_f, J_le_t, J_le_f, J_eq_t, J_eq_f, within_t, within_f, isIn_t, isIn_f, inRow_t, inRow_f, isCell_t, isCell_f, inb_t, f0, hh, hh2, bnd2_s]
theorem sg_go {M N : zM} {tp : Nat → Nat} {n NN : Nat} {P E : Nat → Nat} {j q c : Nat} (h : TS M N tp n NN P E j q) (hs : isSg c) (hk : M 80 j = J c) : j < NN ∧ J (hch tp n (P j) : Int) = J c ∧ mset (mset N 257 9 (J (P j))) 257 9 (J (P j) + J 1) = mset N 257 9 (J (E j)) := by
  have hc := i_hc h
  have e := (hc.2.1 c hs).2 hk
  obtain ⟨e1, e2⟩ := hc.2.2.1 (by rw [e]; exact hs)
  refine ⟨e1, by rw [e], ?_⟩
  rw [mset_2, J_s, e2]
theorem rp_mul {M N : zM} {tp : Nat → Nat} {n NN : Nat} {P E : Nat → Nat} {j q : Nat} (h : TS M N tp n NN P E j q) (h1 : M 80 j = J 42) : RP N = (f_X11_readUnit (mset N 257 9 (J (E j)))).bind fun N1 => (f_X11_codes (J 4) (J 0) N1).bind RP := by
  obtain ⟨g1, g2, g3⟩ := sg_go h (c := 42) (by unfold isSg; omega) h1
  have hh := i_here h
  have hh2 := i_here (TS_at h)
  rw [mset_2] at hh2
  have f0 : ¬ f_X11_fine N = J 0 := by rw [fine_t h.2.2.2.2.2.2.2]; decide
  have e9 : mset N 257 9 (J (P j)) 257 9 = J (P j) := by simp (disch := omega) only [mset_ne, mset_eq, mrow_ne, mrow_eq, upd_eq, upd_ne]
  rw [show RP N = loopW (fun s => b_X11_readPart_4 s) N from rfl, loopW_eq]
  unfold b_X11_readPart_4 j_X11_readPart_29_4 j_X11_readPart_43_4 j_X11_readPart_84_4
  have g2' : J (hch tp n (P j) : Int) = J 42 := g2
  simp (disch := omega) only [↓nm_s, ↓reduceIte, J_lit, Int.cast_ofNat_Int, J_lt_t, J_lt_f, J_le_t, J_le_f, J_eq_t, J_eq_f, within_t, within_f, isIn_t, isIn_f, inRow_t, inRow_f, isCell_t, isCell_f, inb_t, f0, hh, hh2, bnd2_s, g2', e9, g3]
  cases f_X11_readUnit (mset N 257 9 (J (E j))) with
  | none => rfl
  | some y =>
    simp only [bind_s]
    cases f_X11_codes (J 4) (J 0) y with
    | none => rfl
    | some z => rfl
theorem rp_div {M N : zM} {tp : Nat → Nat} {n NN : Nat} {P E : Nat → Nat} {j q : Nat} (h : TS M N tp n NN P E j q) (h1 : M 80 j = J 47) : RP N = (bnd2 (f_X11_number (J 1) (J 9999) (mset N 257 9 (J (E j)))) fun u N1 => (f_X11_codes (J 5) u N1).bind RP) := by
  obtain ⟨g1, g2, g3⟩ := sg_go h (c := 47) (by unfold isSg; omega) h1
  have hh := i_here h
  have hh2 := i_here (TS_at h)
  rw [mset_2] at hh2
  have f0 : ¬ f_X11_fine N = J 0 := by rw [fine_t h.2.2.2.2.2.2.2]; decide
  have e9 : mset N 257 9 (J (P j)) 257 9 = J (P j) := by simp (disch := omega) only [mset_ne, mset_eq, mrow_ne, mrow_eq, upd_eq, upd_ne]
  rw [show RP N = loopW (fun s => b_X11_readPart_4 s) N from rfl, loopW_eq]
  unfold b_X11_readPart_4 j_X11_readPart_29_4 j_X11_readPart_43_4 j_X11_readPart_84_4
  have g2' : J (hch tp n (P j) : Int) = J 47 := g2
  simp (disch := omega) only [↓nm_s, ↓reduceIte, J_lit, Int.cast_ofNat_Int, J_lt_t, J_lt_f, J_le_t, J_le_f, J_eq_t, J_eq_f, within_t, within_f, isIn_t, isIn_f, inRow_t, inRow_f, isCell_t, isCell_f, inb_t, f0, hh, hh2, bnd2_s, g2', e9, g3]
  cases f_X11_number (J 1) (J 9999) (mset N 257 9 (J (E j))) with
  | none => rfl
  | some y =>
    obtain ⟨a, b⟩ := y
    simp only [bnd2_s]
    cases f_X11_codes (J 5) a b with
    | none => rfl
    | some z => rfl
theorem rs_go {M N : zM} {tp : Nat → Nat} {n NN : Nat} {P E : Nat → Nat} {j q c : Nat} (hc : c = 43 ∨ c = 45) (h : TS M N tp n NN P E j q) (h1 : M 80 j = J c) : RS N = (f_X11_readUnit (mset N 257 9 (J (E j)))).bind (RH (if c = 43 then 2 else 3)) := by
  obtain ⟨g1, g2, g3⟩ := sg_go h (c := c) (by unfold isSg; omega) h1
  have hh := i_here h
  have hh2 := i_here (TS_at h)
  rw [mset_2] at hh2
  have f0 : ¬ f_X11_fine N = J 0 := by rw [fine_t h.2.2.2.2.2.2.2]; decide
  have e9 : mset N 257 9 (J (P j)) 257 9 = J (P j) := by simp (disch := omega) only [mset_ne, mset_eq, mrow_ne, mrow_eq, upd_eq, upd_ne]
  rw [show RS N = loopW (fun s => b_X11_readSum_4 s) N from rfl, loopW_eq]
  unfold b_X11_readSum_4 j_X11_readSum_29_4 j_X11_readSum_43_4 f_X11_readPart j_X11_readPart_87
  rcases hc with e | e <;> subst e
  all_goals
    first
    | have g2' : J (hch tp n (P j) : Int) = J 43 := g2
      simp (disch := omega) only [↓nm_s, ↓reduceIte, J_lit, Int.cast_ofNat_Int, J_lt_t, J_lt_f, J_le_t, J_le_f, J_eq_t, J_eq_f, within_t, within_f, isIn_t, isIn_f, inRow_t, inRow_f, isCell_t, isCell_f, inb_t, f0, hh, hh2, bnd2_s, g2', e9, g3]
    | have g2' : J (hch tp n (P j) : Int) = J 45 := g2
      simp (disch := omega) only [↓nm_s, ↓reduceIte, J_lit, Int.cast_ofNat_Int, J_lt_t, J_lt_f, J_le_t, J_le_f, J_eq_t, J_eq_f, within_t, within_f, isIn_t, isIn_f, inRow_t, inRow_f, isCell_t, isCell_f, inb_t, f0, hh, hh2, bnd2_s, g2', e9, g3]
    cases f_X11_readUnit (mset N 257 9 (J (E j))) with
    | none => rfl
    | some y =>
      simp only [bind_s]
      unfold RH RP
      cases loopW (fun s => b_X11_readPart_4 s) y with
      | none => rfl
      | some z =>
        simp only [bind_s]
        first
        | rw [if_neg (show ¬ (2 : Nat) = 0 by omega)]
          show _ = (f_X11_codes (J 2) (J 0) z).bind RS
          cases f_X11_codes (J 2) (J 0) z with
          | none => rfl
          | some t => rfl
        | rw [if_neg (show ¬ (45 : Nat) = 43 by omega), if_neg (show ¬ (3 : Nat) = 0 by omega)]
          show _ = (f_X11_codes (J 3) (J 0) z).bind RS
          cases f_X11_codes (J 3) (J 0) z with
          | none => rfl
          | some t => rfl
