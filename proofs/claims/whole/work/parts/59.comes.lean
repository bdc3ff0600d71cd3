/-! ===== to come in ===== -/
noncomputable def entC (M : zM) (w X Y s : Nat) : zM := mset (mset (mset (mset (mset (mset (mset (mset (mset M (4 + w) 1 (J 1)) (4 + w) 2 (J X)) (4 + w) 3 (J Y)) (4 + w) 4 (J s)) (4 + w) 7 (J s)) (4 + w) 5 (J 0)) (4 + w) 6 (J 0)) (4 + w) 8 (J 0)) (4 + w) 9 (J 0)
noncomputable def entR (N : zM) (w X Y s : Nat) : zM := mset (mset (mset (mset (mset (mset (mset (mset N 259 (145 + 12 * w) (J 1)) 259 (146 + 12 * w) (J X)) 259 (147 + 12 * w) (J Y)) 259 (148 + 12 * w) (J s)) 259 (151 + 12 * w) (J s)) 259 (149 + 12 * w) (J 0)) 259 (150 + 12 * w) (J 0)) 259 (152 + 12 * w) (J 0)
theorem s_enter {M N : zM} {n m k w X Y s : Nat} (h : Dy M N n m m k) (hw : w < n) (hX : X < 12) (hY : Y < 12) (hs : s < 4) (hfr : ∀ v, v < n → M (4 + v) 1 = 1 → atR (M (4 + v)) ≠ J (12 * (Y : Int) + (X : Int))) : Sy w M N (entC M w X Y s) (entR N w X Y s) n m m k k := by
  have h1 := h.1
  have hn := h1.1.1
  have hwk : WkR (M (4 + w)) (N 259) w m := h1.2.2.2.2.1 w hw
  obtain ⟨w0, w1, wb, w10, w11, w12, _⟩ := hwk
  unfold entC entR
  refine Sy_wk h hw (fun j hj => by simp (disch := omega) only [mset_ne, mset_eq, mrow_ne, mrow_eq, upd_eq, upd_ne]) (fun j hj => by simp (disch := omega) only [mset_ne, mset_eq, mrow_ne, mrow_eq, upd_eq, upd_ne]) (fun i hi => by simp (disch := omega) only [mset_ne, mset_eq, mrow_ne, mrow_eq, upd_eq, upd_ne]) (by simp (disch := omega) only [mset_ne, mset_eq, mrow_ne, mrow_eq, upd_eq, upd_ne]) ?_ (fun v hv hne i1 i2 => ?_)
  rotate_left
  · have e : atR ((mset (mset (mset (mset (mset (mset (mset (mset (mset M (4 + w) 1 (J 1)) (4 + w) 2 (J X)) (4 + w) 3 (J Y)) (4 + w) 4 (J s)) (4 + w) 7 (J s)) (4 + w) 5 (J 0)) (4 + w) 6 (J 0)) (4 + w) 8 (J 0)) (4 + w) 9 (J 0)) (4 + w)) = J (12 * (Y : Int) + (X : Int)) := by
      unfold atR
      simp (disch := omega) only [mset_ne, mset_eq, mrow_ne, mrow_eq, upd_eq, upd_ne, J_lit, J_nI, J_add, J_sub, J_mul, J_neg, Int.cast_ofNat_Int, ix_Jn, ix_J, Int.reduceToNat, Int.toNat_natCast, Nat.reduceAdd, Nat.reduceMul]
    rw [e]
    exact hfr v hv i2
  have hro : ∀ i, 1925 ≤ i → i < 2325 → (mset (mset (mset (mset (mset (mset (mset (mset N 259 (145 + 12 * w) (J 1)) 259 (146 + 12 * w) (J X)) 259 (147 + 12 * w) (J Y)) 259 (148 + 12 * w) (J s)) 259 (151 + 12 * w) (J s)) 259 (149 + 12 * w) (J 0)) 259 (150 + 12 * w) (J 0)) 259 (152 + 12 * w) (J 0)) 259 i = N 259 i := fun i _ _ => by simp (disch := omega) only [mset_ne, mset_eq, mrow_ne, mrow_eq, upd_eq, upd_ne]
  refine ⟨?_, ?_, ?_, ?_, ?_, ?_, fun _ => ⟨?_, ?_, ?_, ?_, ?_, ?_, ⟨X, hX, ?_⟩, ⟨Y, hY, ?_⟩, ⟨s, hs, ?_⟩, ⟨s, hs, ?_⟩, ?_⟩⟩
  · simp (disch := omega) only [mset_ne, mset_eq, mrow_ne, mrow_eq, upd_eq, upd_ne]; exact w0
  · simp (disch := omega) only [mset_ne, mset_eq, mrow_ne, mrow_eq, upd_eq, upd_ne]
  · right
    simp (disch := omega) only [mset_ne, mset_eq, mrow_ne, mrow_eq, upd_eq, upd_ne]
    rfl
  · simp (disch := omega) only [mset_ne, mset_eq, mrow_ne, mrow_eq, upd_eq, upd_ne]; exact w10
  · simp (disch := omega) only [mset_ne, mset_eq, mrow_ne, mrow_eq, upd_eq, upd_ne]; exact w11
  · simp (disch := omega) only [mset_ne, mset_eq, mrow_ne, mrow_eq, upd_eq, upd_ne]; exact w12
  · simp (disch := omega) only [mset_ne, mset_eq, mrow_ne, mrow_eq, upd_eq, upd_ne]
  · simp (disch := omega) only [mset_ne, mset_eq, mrow_ne, mrow_eq, upd_eq, upd_ne]
  · simp (disch := omega) only [mset_ne, mset_eq, mrow_ne, mrow_eq, upd_eq, upd_ne]
  · simp (disch := omega) only [mset_ne, mset_eq, mrow_ne, mrow_eq, upd_eq, upd_ne]
  · simp (disch := omega) only [mset_ne, mset_eq, mrow_ne, mrow_eq, upd_eq, upd_ne]
  · simp (disch := omega) only [mset_ne, mset_eq, mrow_ne, mrow_eq, upd_eq, upd_ne]
  · simp (disch := omega) only [mset_ne, mset_eq, mrow_ne, mrow_eq, upd_eq, upd_ne]
  · simp (disch := omega) only [mset_ne, mset_eq, mrow_ne, mrow_eq, upd_eq, upd_ne]
  · simp (disch := omega) only [mset_ne, mset_eq, mrow_ne, mrow_eq, upd_eq, upd_ne]
  · simp (disch := omega) only [mset_ne, mset_eq, mrow_ne, mrow_eq, upd_eq, upd_ne]
  · obtain ⟨L, y1, y2, y3, y4⟩ := h.2.1.2.2.1 w (by omega)
    refine ⟨0, 0, 0, L, by simp (disch := omega) only [mset_ne, mset_eq, mrow_ne, mrow_eq, upd_eq, upd_ne]; rfl, by simp (disch := omega) only [mset_ne, mset_eq, mrow_ne, mrow_eq, upd_eq, upd_ne]; rfl, by simp (disch := omega) only [mset_ne, mset_eq, mrow_ne, mrow_eq, upd_eq, upd_ne]; rfl, by omega, by rw [hro _ (by omega) (by omega)]; exact y3, y1, ?_⟩
    by_cases c : L = 0
    · right
      subst c
      exact ⟨rfl, Nat.le_refl _⟩
    · left
      obtain ⟨_, _, A, q1, q2, q3⟩ := y4 0 (by omega)
      refine ⟨by omega, ?_, rfl⟩
      rw [amt_ro hro (by omega) (by omega), amt_J q3 q2]
      omega
theorem t_enterR {N : zM} {w X Y s : Nat} (hw : w < 16) : ∀ F : zM → Option (Int32 × zM), ((f_X11_sets (J w) (J 1) (J 1) N).bind fun M106 => (f_X11_sets (J w) (J 2) (J X) M106).bind fun M114 => (f_X11_sets (J w) (J 3) (J Y) M114).bind fun M122 => (f_X11_sets (J w) (J 4) (J s) M122).bind fun M129 => (f_X11_sets (J w) (J 7) (J s) M129).bind fun M137 => (loopW (fun s => b_X11_comes_143 (J w) s.1 s.2) (J 5, M137)).bind F) = F (entR N w X Y s) := by
  intro F
  have b5 : ∀ A : zM, b_X11_comes_143 (J w) (J 5) A = some (.inl (J 6, mset A 259 (149 + 12 * w) (J 0))) := by
    intro A
    unfold b_X11_comes_143 j_X11_comes_165_143
    simp (disch := omega) only [↓nm_s, ↓grd_s, ↓reduceIte, J_lit, J_nI, J_add, J_sub, J_mul, J_neg, Int.cast_ofNat_Int, J_lt_t, J_lt_f, J_le_t, J_le_f, J_eq_t, J_eq_f, within_t, within_f, isIn_t, isIn_f, inRow_t, inRow_f, isCell_t, isCell_f, inb_t, ix_Jn, ix_J, Int.reduceToNat, Int.toNat_natCast, mset_ne, mset_eq, mrow_ne, mrow_eq, upd_eq, upd_ne, bind_s, bnd2_s, not_true_eq_false, not_false_eq_true, Nat.reduceAdd, th0, ts0, ta0, th1, ts1, ta1, th2, ts2, ta2, th3, ts3, ta3, th4, ts4, ta4, th5, ts5, ta5, th6, ts6, ta6, th7, ts7, ta7, th8, ts8, ta8, th9, ts9, ta9, th10, ts10, ta10, th11, ts11, ta11]
    rfl
  have b6 : ∀ A : zM, b_X11_comes_143 (J w) (J 6) A = some (.inl (J 7, mset A 259 (150 + 12 * w) (J 0))) := by
    intro A
    unfold b_X11_comes_143 j_X11_comes_165_143
    simp (disch := omega) only [↓nm_s, ↓grd_s, ↓reduceIte, J_lit, J_nI, J_add, J_sub, J_mul, J_neg, Int.cast_ofNat_Int, J_lt_t, J_lt_f, J_le_t, J_le_f, J_eq_t, J_eq_f, within_t, within_f, isIn_t, isIn_f, inRow_t, inRow_f, isCell_t, isCell_f, inb_t, ix_Jn, ix_J, Int.reduceToNat, Int.toNat_natCast, mset_ne, mset_eq, mrow_ne, mrow_eq, upd_eq, upd_ne, bind_s, bnd2_s, not_true_eq_false, not_false_eq_true, Nat.reduceAdd, th0, ts0, ta0, th1, ts1, ta1, th2, ts2, ta2, th3, ts3, ta3, th4, ts4, ta4, th5, ts5, ta5, th6, ts6, ta6, th7, ts7, ta7, th8, ts8, ta8, th9, ts9, ta9, th10, ts10, ta10, th11, ts11, ta11]
    rfl
  have b7 : ∀ A : zM, b_X11_comes_143 (J w) (J 7) A = some (.inl (J 8, A)) := by
    intro A
    unfold b_X11_comes_143 j_X11_comes_165_143
    simp (disch := omega) only [↓nm_s, ↓grd_s, ↓reduceIte, J_lit, J_nI, J_add, J_sub, J_mul, J_neg, Int.cast_ofNat_Int, J_lt_t, J_lt_f, J_le_t, J_le_f, J_eq_t, J_eq_f, within_t, within_f, isIn_t, isIn_f, inRow_t, inRow_f, isCell_t, isCell_f, inb_t, ix_Jn, ix_J, Int.reduceToNat, Int.toNat_natCast, mset_ne, mset_eq, mrow_ne, mrow_eq, upd_eq, upd_ne, bind_s, bnd2_s, not_true_eq_false, not_false_eq_true, Nat.reduceAdd]
    rfl
  have b8 : ∀ A : zM, b_X11_comes_143 (J w) (J 8) A = some (.inl (J 9, mset A 259 (152 + 12 * w) (J 0))) := by
    intro A
    unfold b_X11_comes_143 j_X11_comes_165_143
    simp (disch := omega) only [↓nm_s, ↓grd_s, ↓reduceIte, J_lit, J_nI, J_add, J_sub, J_mul, J_neg, Int.cast_ofNat_Int, J_lt_t, J_lt_f, J_le_t, J_le_f, J_eq_t, J_eq_f, within_t, within_f, isIn_t, isIn_f, inRow_t, inRow_f, isCell_t, isCell_f, inb_t, ix_Jn, ix_J, Int.reduceToNat, Int.toNat_natCast, mset_ne, mset_eq, mrow_ne, mrow_eq, upd_eq, upd_ne, bind_s, bnd2_s, not_true_eq_false, not_false_eq_true, Nat.reduceAdd, th0, ts0, ta0, th1, ts1, ta1, th2, ts2, ta2, th3, ts3, ta3, th4, ts4, ta4, th5, ts5, ta5, th6, ts6, ta6, th7, ts7, ta7, th8, ts8, ta8, th9, ts9, ta9, th10, ts10, ta10, th11, ts11, ta11]
    rfl
  have b9 : ∀ A : zM, b_X11_comes_143 (J w) (J 9) A = some (.inr A) := by
    intro A
    unfold b_X11_comes_143
    simp (disch := omega) only [↓nm_s, ↓grd_s, ↓reduceIte, J_lit, J_nI, J_add, J_sub, J_mul, J_neg, Int.cast_ofNat_Int, J_lt_t, J_lt_f, J_le_t, J_le_f, J_eq_t, J_eq_f, within_t, within_f, isIn_t, isIn_f, inRow_t, inRow_f, isCell_t, isCell_f, inb_t, ix_Jn, ix_J, Int.reduceToNat, Int.toNat_natCast, mset_ne, mset_eq, mrow_ne, mrow_eq, upd_eq, upd_ne, bind_s, bnd2_s, not_true_eq_false, not_false_eq_true, Nat.reduceAdd]
  rw [ts1 _ _ (by omega), bind_s, ts2 _ _ (by omega), bind_s, ts3 _ _ (by omega), bind_s, ts4 _ _ (by omega), bind_s, ts7 _ _ (by omega), bind_s]
  rw [loop_st (B := fun s : Int32 × zM => b_X11_comes_143 (J w) s.1 s.2) (s := (J 5, _)) (b5 _), loop_st (B := fun s : Int32 × zM => b_X11_comes_143 (J w) s.1 s.2) (s := (J 6, _)) (b6 _), loop_st (B := fun s : Int32 × zM => b_X11_comes_143 (J w) s.1 s.2) (s := (J 7, _)) (b7 _), loop_st (B := fun s : Int32 × zM => b_X11_comes_143 (J w) s.1 s.2) (s := (J 8, _)) (b8 _), loop_en (B := fun s : Int32 × zM => b_X11_comes_143 (J w) s.1 s.2) (s := (J 9, _)) (b9 _), bind_s]
  rfl
theorem c_comes (p q r : Int32) : Cl2 (f_X10_comes p q r) (f_X11_comes p q r) := by
  intro M N hI
  obtain ⟨z, rfl, l1, l2⟩ := J_ex p
  obtain ⟨s, rfl, l3, l4⟩ := J_ex q
  obtain ⟨v, rfl, l5, l6⟩ := J_ex r
  have hI2 := hI
  obtain ⟨n, m, k, u, o, ks, a1, a2, a3, a4, a5, a6, a7, a8, a9, a10⟩ := hI2
  have hn := a2.1.1
  have e2 := a2.2.1.1
  have g2 := a2.2.2.1.1
  unfold f_X10_comes f_X11_comes
  by_cases c1 : 0 ≤ z ∧ z < n
  · obtain ⟨w, rfl⟩ : ∃ w : Nat, z = w := ⟨z.toNat, by omega⟩
    have hwk : WkR (M (4 + w)) (N 258) w m := a2.2.2.2.2.1 w (by omega)
    rw [has_t hn e2 (by omega) (by omega), isW_t hn g2 (by omega) (by omega)]
    have h145 : mset (tkR N) 257 6 (J 0) 259 (145 + 12 * w) = M (4 + w) 1 := by rw [tk_s N (J 0) _ (by omega), hwk.2.1]
    by_cases c2 : 0 ≤ s ∧ s ≤ 3
    · by_cases c3 : 0 ≤ v ∧ v < 12
      · obtain ⟨S, rfl⟩ : ∃ S : Nat, s = S := ⟨s.toNat, by omega⟩
        obtain ⟨V, rfl⟩ : ∃ V : Nat, v = V := ⟨v.toNat, by omega⟩
        -- where he comes in
        have hent : ∃ X Y : Nat, X < 12 ∧ Y < 12 ∧ f_X10_entry (J S) (J V) = J (12 * Y + X : Nat) ∧ ∀ A : zM, (if J S = (1 : Int32) then (j_X11_comes_53 (J w) (J S) (J V) (0 : Int32) A) else (if J S = (3 : Int32) then (j_X11_comes_53 (J w) (J S) (J V) (11 : Int32) A) else (j_X11_comes_53 (J w) (J S) (J V) (J V) A))) = j_X11_comes_74 (J w) (J S) (J X) (J Y) A := by
          unfold f_X10_entry j_X11_comes_53
          rcases (show S = 0 ∨ S = 1 ∨ S = 2 ∨ S = 3 by omega) with e | e | e | e <;> subst e
          · exact ⟨V, 0, by omega, by omega, by simp (disch := omega) only [↓nm_s, ↓grd_s, ↓reduceIte, J_lit, J_nI, J_add, J_sub, J_mul, J_neg, Int.cast_ofNat_Int, J_lt_t, J_lt_f, J_le_t, J_le_f, J_eq_t, J_eq_f, within_t, within_f, isIn_t, isIn_f, inRow_t, inRow_f, isCell_t, isCell_f, inb_t, ix_Jn, ix_J, Int.reduceToNat, Int.toNat_natCast, mset_ne, mset_eq, mrow_ne, mrow_eq, upd_eq, upd_ne, bind_s, bnd2_s, not_true_eq_false, not_false_eq_true, Nat.reduceAdd], fun A => by simp (disch := omega) only [↓nm_s, ↓grd_s, ↓reduceIte, J_lit, J_nI, J_add, J_sub, J_mul, J_neg, Int.cast_ofNat_Int, J_lt_t, J_lt_f, J_le_t, J_le_f, J_eq_t, J_eq_f, within_t, within_f, isIn_t, isIn_f, inRow_t, inRow_f, isCell_t, isCell_f, inb_t, ix_Jn, ix_J, Int.reduceToNat, Int.toNat_natCast, mset_ne, mset_eq, mrow_ne, mrow_eq, upd_eq, upd_ne, bind_s, bnd2_s, not_true_eq_false, not_false_eq_true, Nat.reduceAdd]⟩
          · exact ⟨0, V, by omega, by omega, by simp (disch := omega) only [↓nm_s, ↓grd_s, ↓reduceIte, J_lit, J_nI, J_add, J_sub, J_mul, J_neg, Int.cast_ofNat_Int, J_lt_t, J_lt_f, J_le_t, J_le_f, J_eq_t, J_eq_f, within_t, within_f, isIn_t, isIn_f, inRow_t, inRow_f, isCell_t, isCell_f, inb_t, ix_Jn, ix_J, Int.reduceToNat, Int.toNat_natCast, mset_ne, mset_eq, mrow_ne, mrow_eq, upd_eq, upd_ne, bind_s, bnd2_s, not_true_eq_false, not_false_eq_true, Nat.reduceAdd], fun A => by simp (disch := omega) only [↓nm_s, ↓grd_s, ↓reduceIte, J_lit, J_nI, J_add, J_sub, J_mul, J_neg, Int.cast_ofNat_Int, J_lt_t, J_lt_f, J_le_t, J_le_f, J_eq_t, J_eq_f, within_t, within_f, isIn_t, isIn_f, inRow_t, inRow_f, isCell_t, isCell_f, inb_t, ix_Jn, ix_J, Int.reduceToNat, Int.toNat_natCast, mset_ne, mset_eq, mrow_ne, mrow_eq, upd_eq, upd_ne, bind_s, bnd2_s, not_true_eq_false, not_false_eq_true, Nat.reduceAdd]⟩
          · exact ⟨V, 11, by omega, by omega, by simp (disch := omega) only [↓nm_s, ↓grd_s, ↓reduceIte, J_lit, J_nI, J_add, J_sub, J_mul, J_neg, Int.cast_ofNat_Int, J_lt_t, J_lt_f, J_le_t, J_le_f, J_eq_t, J_eq_f, within_t, within_f, isIn_t, isIn_f, inRow_t, inRow_f, isCell_t, isCell_f, inb_t, ix_Jn, ix_J, Int.reduceToNat, Int.toNat_natCast, mset_ne, mset_eq, mrow_ne, mrow_eq, upd_eq, upd_ne, bind_s, bnd2_s, not_true_eq_false, not_false_eq_true, Nat.reduceAdd], fun A => by simp (disch := omega) only [↓nm_s, ↓grd_s, ↓reduceIte, J_lit, J_nI, J_add, J_sub, J_mul, J_neg, Int.cast_ofNat_Int, J_lt_t, J_lt_f, J_le_t, J_le_f, J_eq_t, J_eq_f, within_t, within_f, isIn_t, isIn_f, inRow_t, inRow_f, isCell_t, isCell_f, inb_t, ix_Jn, ix_J, Int.reduceToNat, Int.toNat_natCast, mset_ne, mset_eq, mrow_ne, mrow_eq, upd_eq, upd_ne, bind_s, bnd2_s, not_true_eq_false, not_false_eq_true, Nat.reduceAdd]⟩
          · exact ⟨11, V, by omega, by omega, by simp (disch := omega) only [↓nm_s, ↓grd_s, ↓reduceIte, J_lit, J_nI, J_add, J_sub, J_mul, J_neg, Int.cast_ofNat_Int, J_lt_t, J_lt_f, J_le_t, J_le_f, J_eq_t, J_eq_f, within_t, within_f, isIn_t, isIn_f, inRow_t, inRow_f, isCell_t, isCell_f, inb_t, ix_Jn, ix_J, Int.reduceToNat, Int.toNat_natCast, mset_ne, mset_eq, mrow_ne, mrow_eq, upd_eq, upd_ne, bind_s, bnd2_s, not_true_eq_false, not_false_eq_true, Nat.reduceAdd], fun A => by simp (disch := omega) only [↓nm_s, ↓grd_s, ↓reduceIte, J_lit, J_nI, J_add, J_sub, J_mul, J_neg, Int.cast_ofNat_Int, J_lt_t, J_lt_f, J_le_t, J_le_f, J_eq_t, J_eq_f, within_t, within_f, isIn_t, isIn_f, inRow_t, inRow_f, isCell_t, isCell_f, inb_t, ix_Jn, ix_J, Int.reduceToNat, Int.toNat_natCast, mset_ne, mset_eq, mrow_ne, mrow_eq, upd_eq, upd_ne, bind_s, bnd2_s, not_true_eq_false, not_false_eq_true, Nat.reduceAdd]⟩
        obtain ⟨X, Y, hX, hY, hC, hR⟩ := hent
        obtain ⟨c, hc⟩ : ∃ c : Nat, c = 12 * Y + X := ⟨_, rfl⟩
        rw [← hc] at hC
        have hc144 : c < 144 := by omega
        have hcJ : J 12 * J Y + J X = J c := by rw [J_mul, J_add]; exact congrArg J (by omega)
        have hcell : M 3 c = N 258 c := (a2.2.2.2.1 c hc144).1
        have hcN : mset (tkR N) 257 6 (J 0) 259 c = N 258 c := tk_s N (J 0) c (by omega)
        obtain ⟨a, w1, w2, w3⟩ := s_whoAt (Sq_tk (J 0) a2) (J c)
        have hR' := hR (mset (tkR N) 257 6 (J 0))
        rcases hwk.2.2.1 with hin | hin
        · have hin' : M (4 + w) 1 = J 0 := hin
          by_cases c4 : N 258 c = J 1
          · have hfree : f_X11_isFree (J c) (mset (tkR N) 257 6 (J 0)) = some (J 0) := by
              unfold f_X11_isFree
              simp (disch := omega) only [↓nm_s, ↓grd_s, ↓reduceIte, J_lit, J_nI, J_add, J_sub, J_mul, J_neg, Int.cast_ofNat_Int, J_lt_t, J_lt_f, J_le_t, J_le_f, J_eq_t, J_eq_f, within_t, within_f, isIn_t, isIn_f, inRow_t, inRow_f, isCell_t, isCell_f, inb_t, ix_Jn, ix_J, Int.reduceToNat, Int.toNat_natCast, mset_ne, mset_eq, mrow_ne, mrow_eq, upd_eq, upd_ne, bind_s, bnd2_s, not_true_eq_false, not_false_eq_true, Nat.reduceAdd, hcN, c4]
            have h74 : j_X11_comes_74 (J w) (J S) (J X) (J Y) (mset (tkR N) 257 6 (J 0)) = some (J 0, mset (tkR N) 257 6 (J 0)) := by
              unfold j_X11_comes_74 f_X11_place
              simp (disch := omega) only [↓nm_s, ↓grd_s, ↓reduceIte, J_lit, Int.cast_ofNat_Int, J_lt_t, J_lt_f, J_le_t, J_le_f, J_eq_t, J_eq_f, within_t, within_f, isIn_t, isIn_f, inRow_t, inRow_f, isCell_t, isCell_f, inb_t, bind_s, th0, ts0, ta0, th1, ts1, ta1, th2, ts2, ta2, th3, ts3, ta3, th4, ts4, ta4, th5, ts5, ta5, th6, ts6, ta6, th7, ts7, ta7, th8, ts8, ta8, th9, ts9, ta9, th10, ts10, ta10, th11, ts11, ta11, h145, hin', hcJ, hfree]
            rw [h74] at hR'
            simp (disch := omega) only [↓nm_s, ↓grd_s, ↓reduceIte, J_lit, J_nI, J_add, J_sub, J_mul, J_neg, Int.cast_ofNat_Int, J_lt_t, J_lt_f, J_le_t, J_le_f, J_eq_t, J_eq_f, within_t, within_f, isIn_t, isIn_f, inRow_t, inRow_f, isCell_t, isCell_f, inb_t, ix_Jn, ix_J, Int.reduceToNat, Int.toNat_natCast, mset_ne, mset_eq, mrow_ne, mrow_eq, upd_eq, upd_ne, bind_s, bnd2_s, not_true_eq_false, not_false_eq_true, Nat.reduceAdd, hin', hC, hcell, c4, t_begins] at hR' ⊢
            rw [hR']
            exact ⟨_, _, _, rfl, rfl, IC_tk (J 0) hI⟩
          · by_cases c5 : a = J (-1)
            · subst c5
              have hfree : f_X11_isFree (J c) (mset (tkR N) 257 6 (J 0)) = some (J 1) := by
                unfold f_X11_isFree
                simp (disch := omega) only [↓nm_s, ↓grd_s, ↓reduceIte, J_lit, J_nI, J_add, J_sub, J_mul, J_neg, Int.cast_ofNat_Int, J_lt_t, J_lt_f, J_le_t, J_le_f, J_eq_t, J_eq_f, within_t, within_f, isIn_t, isIn_f, inRow_t, inRow_f, isCell_t, isCell_f, inb_t, ix_Jn, ix_J, Int.reduceToNat, Int.toNat_natCast, mset_ne, mset_eq, mrow_ne, mrow_eq, upd_eq, upd_ne, bind_s, bnd2_s, not_true_eq_false, not_false_eq_true, Nat.reduceAdd, hcN, c4, w2]
              obtain ⟨M1, q0, q1, q2, q3⟩ := IC_hand a1 a2 a3 a4 a5 a6 a7 a8 a9 a10
              have S1 := s_enter (w := w) (X := X) (Y := Y) (s := S) q2 (by omega) hX hY (by omega) (fun v hv i => by rw [q1 (4 + v) (by omega) (by omega)] at i ⊢; rw [show J (12 * (Y : Int) + (X : Int)) = J c from congrArg J (by omega)]; exact w3 rfl v hv i)
              obtain ⟨M2, N2, k', r1, r2, r3, _⟩ := s_write (w := w) S1.1 (J 0) (J w) (J c)
              have S12 := Sy_tr S1 r3
              obtain ⟨N3, r4, r5⟩ := q3 M2 N2 k' S12.1 S12.2.1 (fun j hj => S12.2.2.1 j (by unfold clF; omega)) S12.2.2.2.1 S12.2.2.2.2.1 S12.2.2.2.2.2.1 (fun i hi => S12.2.2.2.2.2.2.1 i (by unfold rfF; omega))
              have hst : f_X11_standsAt (J w) (entR (mset (tkR N) 257 6 (J 0)) w X Y S) = some (J c) := by
                rw [t_standsAt _ (by omega)]
                unfold entR
                simp (disch := omega) only [mset_ne, mset_eq, mrow_ne, mrow_eq, upd_eq, upd_ne]
                rw [hcJ]
              have h74 : j_X11_comes_74 (J w) (J S) (J X) (J Y) (mset (tkR N) 257 6 (J 0)) = some (J 1, N3) := by
                unfold j_X11_comes_74 f_X11_place
                simp (disch := omega) only [↓nm_s, ↓grd_s, ↓reduceIte, J_lit, Int.cast_ofNat_Int, J_lt_t, J_lt_f, J_le_t, J_le_f, J_eq_t, J_eq_f, within_t, within_f, isIn_t, isIn_f, inRow_t, inRow_f, isCell_t, isCell_f, inb_t, th1, bind_s, h145, hin', hcJ, hfree]
                rw [t_enterR (by omega)]
                unfold j_X11_comes_171
                rw [hst, bind_s, show (0 : Int32) = J 0 from rfl, r2, bind_s, r4, bind_s]
                rfl
              have hen : f_X9_enter (4 + w) (J S) (J c) M1 = some (entC M1 w X Y S) := by
                unfold f_X9_enter f_X9_beginWay entC
                have m1 : (c : Int) % 12 = X := by omega
                have m2 : (c : Int) / 12 = Y := by omega
                simp (disch := omega) only [↓nm_s, J_lit, Int.cast_ofNat_Int, J_rem, J_div, m1, m2, bind_s]
              rw [h74] at hR'
              simp (disch := omega) only [↓nm_s, ↓grd_s, ↓reduceIte, J_lit, J_nI, J_add, J_sub, J_mul, J_neg, Int.cast_ofNat_Int, J_lt_t, J_lt_f, J_le_t, J_le_f, J_eq_t, J_eq_f, within_t, within_f, isIn_t, isIn_f, inRow_t, inRow_f, isCell_t, isCell_f, inb_t, ix_Jn, ix_J, Int.reduceToNat, Int.toNat_natCast, mset_ne, mset_eq, mrow_ne, mrow_eq, upd_eq, upd_ne, bind_s, bnd2_s, not_true_eq_false, not_false_eq_true, Nat.reduceAdd, hin', hC, hcell, c4, t_begins, w1, q0, hen, r1] at hR' ⊢
              rw [hR']
              exact ⟨_, _, _, rfl, rfl, r5⟩
            · have hfree : f_X11_isFree (J c) (mset (tkR N) 257 6 (J 0)) = some (J 0) := by
                unfold f_X11_isFree
                simp (disch := omega) only [↓nm_s, ↓grd_s, ↓reduceIte, J_lit, J_nI, J_add, J_sub, J_mul, J_neg, Int.cast_ofNat_Int, J_lt_t, J_lt_f, J_le_t, J_le_f, J_eq_t, J_eq_f, within_t, within_f, isIn_t, isIn_f, inRow_t, inRow_f, isCell_t, isCell_f, inb_t, ix_Jn, ix_J, Int.reduceToNat, Int.toNat_natCast, mset_ne, mset_eq, mrow_ne, mrow_eq, upd_eq, upd_ne, bind_s, bnd2_s, not_true_eq_false, not_false_eq_true, Nat.reduceAdd, hcN, c4, w2, c5]
              have h74 : j_X11_comes_74 (J w) (J S) (J X) (J Y) (mset (tkR N) 257 6 (J 0)) = some (J 0, mset (tkR N) 257 6 (J 0)) := by
                unfold j_X11_comes_74 f_X11_place
                simp (disch := omega) only [↓nm_s, ↓grd_s, ↓reduceIte, J_lit, Int.cast_ofNat_Int, J_lt_t, J_lt_f, J_le_t, J_le_f, J_eq_t, J_eq_f, within_t, within_f, isIn_t, isIn_f, inRow_t, inRow_f, isCell_t, isCell_f, inb_t, bind_s, th0, ts0, ta0, th1, ts1, ta1, th2, ts2, ta2, th3, ts3, ta3, th4, ts4, ta4, th5, ts5, ta5, th6, ts6, ta6, th7, ts7, ta7, th8, ts8, ta8, th9, ts9, ta9, th10, ts10, ta10, th11, ts11, ta11, h145, hin', hcJ, hfree]
              rw [h74] at hR'
              simp (disch := omega) only [↓nm_s, ↓grd_s, ↓reduceIte, J_lit, J_nI, J_add, J_sub, J_mul, J_neg, Int.cast_ofNat_Int, J_lt_t, J_lt_f, J_le_t, J_le_f, J_eq_t, J_eq_f, within_t, within_f, isIn_t, isIn_f, inRow_t, inRow_f, isCell_t, isCell_f, inb_t, ix_Jn, ix_J, Int.reduceToNat, Int.toNat_natCast, mset_ne, mset_eq, mrow_ne, mrow_eq, upd_eq, upd_ne, bind_s, bnd2_s, not_true_eq_false, not_false_eq_true, Nat.reduceAdd, hin', hC, hcell, c4, t_begins, w1, c5] at hR' ⊢
              rw [hR']
              exact ⟨_, _, _, rfl, rfl, IC_tk (J 0) hI⟩
        · have hin' : M (4 + w) 1 = J 1 := hin
          have h74 : j_X11_comes_74 (J w) (J S) (J X) (J Y) (mset (tkR N) 257 6 (J 0)) = some (J 0, mset (tkR N) 257 6 (J 0)) := by
            unfold j_X11_comes_74
            simp (disch := omega) only [↓nm_s, ↓grd_s, ↓reduceIte, J_lit, Int.cast_ofNat_Int, J_lt_t, J_lt_f, J_le_t, J_le_f, J_eq_t, J_eq_f, within_t, within_f, isIn_t, isIn_f, inRow_t, inRow_f, isCell_t, isCell_f, inb_t, bind_s, th0, ts0, ta0, th1, ts1, ta1, th2, ts2, ta2, th3, ts3, ta3, th4, ts4, ta4, th5, ts5, ta5, th6, ts6, ta6, th7, ts7, ta7, th8, ts8, ta8, th9, ts9, ta9, th10, ts10, ta10, th11, ts11, ta11, h145, hin']
          rw [h74] at hR'
          simp (disch := omega) only [↓nm_s, ↓grd_s, ↓reduceIte, J_lit, J_nI, J_add, J_sub, J_mul, J_neg, Int.cast_ofNat_Int, J_lt_t, J_lt_f, J_le_t, J_le_f, J_eq_t, J_eq_f, within_t, within_f, isIn_t, isIn_f, inRow_t, inRow_f, isCell_t, isCell_f, inb_t, ix_Jn, ix_J, Int.reduceToNat, Int.toNat_natCast, mset_ne, mset_eq, mrow_ne, mrow_eq, upd_eq, upd_ne, bind_s, bnd2_s, not_true_eq_false, not_false_eq_true, Nat.reduceAdd, hin', t_begins] at hR' ⊢
          rw [hR']
          exact ⟨_, _, _, rfl, rfl, IC_tk (J 0) hI⟩
      · rcases hwk.2.2.1 with hin | hin
        · have hin' : M (4 + w) 1 = J 0 := hin
          simp (disch := omega) only [↓nm_s, ↓grd_s, ↓reduceIte, J_lit, J_nI, J_add, J_sub, J_mul, J_neg, Int.cast_ofNat_Int, J_lt_t, J_lt_f, J_le_t, J_le_f, J_eq_t, J_eq_f, within_t, within_f, isIn_t, isIn_f, inRow_t, inRow_f, isCell_t, isCell_f, inb_t, ix_Jn, ix_J, Int.reduceToNat, Int.toNat_natCast, mset_ne, mset_eq, mrow_ne, mrow_eq, upd_eq, upd_ne, bind_s, bnd2_s, not_true_eq_false, not_false_eq_true, Nat.reduceAdd, hin']
          exact ⟨_, _, _, rfl, rfl, hI⟩
        · have hin' : M (4 + w) 1 = J 1 := hin
          simp (disch := omega) only [↓nm_s, ↓grd_s, ↓reduceIte, J_lit, J_nI, J_add, J_sub, J_mul, J_neg, Int.cast_ofNat_Int, J_lt_t, J_lt_f, J_le_t, J_le_f, J_eq_t, J_eq_f, within_t, within_f, isIn_t, isIn_f, inRow_t, inRow_f, isCell_t, isCell_f, inb_t, ix_Jn, ix_J, Int.reduceToNat, Int.toNat_natCast, mset_ne, mset_eq, mrow_ne, mrow_eq, upd_eq, upd_ne, bind_s, bnd2_s, not_true_eq_false, not_false_eq_true, Nat.reduceAdd, hin']
          exact ⟨_, _, _, rfl, rfl, hI⟩
    · rcases hwk.2.2.1 with hin | hin
      · have hin' : M (4 + w) 1 = J 0 := hin
        by_cases c4 : s < 0
        · simp (disch := omega) only [↓nm_s, ↓grd_s, ↓reduceIte, J_lit, J_nI, J_add, J_sub, J_mul, J_neg, Int.cast_ofNat_Int, J_lt_t, J_lt_f, J_le_t, J_le_f, J_eq_t, J_eq_f, within_t, within_f, isIn_t, isIn_f, inRow_t, inRow_f, isCell_t, isCell_f, inb_t, ix_Jn, ix_J, Int.reduceToNat, Int.toNat_natCast, mset_ne, mset_eq, mrow_ne, mrow_eq, upd_eq, upd_ne, bind_s, bnd2_s, not_true_eq_false, not_false_eq_true, Nat.reduceAdd, hin']
          exact ⟨_, _, _, rfl, rfl, hI⟩
        · simp (disch := omega) only [↓nm_s, ↓grd_s, ↓reduceIte, J_lit, J_nI, J_add, J_sub, J_mul, J_neg, Int.cast_ofNat_Int, J_lt_t, J_lt_f, J_le_t, J_le_f, J_eq_t, J_eq_f, within_t, within_f, isIn_t, isIn_f, inRow_t, inRow_f, isCell_t, isCell_f, inb_t, ix_Jn, ix_J, Int.reduceToNat, Int.toNat_natCast, mset_ne, mset_eq, mrow_ne, mrow_eq, upd_eq, upd_ne, bind_s, bnd2_s, not_true_eq_false, not_false_eq_true, Nat.reduceAdd, hin']
          exact ⟨_, _, _, rfl, rfl, hI⟩
      · have hin' : M (4 + w) 1 = J 1 := hin
        simp (disch := omega) only [↓nm_s, ↓grd_s, ↓reduceIte, J_lit, J_nI, J_add, J_sub, J_mul, J_neg, Int.cast_ofNat_Int, J_lt_t, J_lt_f, J_le_t, J_le_f, J_eq_t, J_eq_f, within_t, within_f, isIn_t, isIn_f, inRow_t, inRow_f, isCell_t, isCell_f, inb_t, ix_Jn, ix_J, Int.reduceToNat, Int.toNat_natCast, mset_ne, mset_eq, mrow_ne, mrow_eq, upd_eq, upd_ne, bind_s, bnd2_s, not_true_eq_false, not_false_eq_true, Nat.reduceAdd, hin']
        exact ⟨_, _, _, rfl, rfl, hI⟩
  · rw [has_f hn e2 l1 l2 c1, isW_f hn g2 l1 l2 c1]
    simp (disch := omega) only [↓nm_s, ↓grd_s, ↓reduceIte, J_lit, J_nI, J_add, J_sub, J_mul, J_neg, Int.cast_ofNat_Int, J_lt_t, J_lt_f, J_le_t, J_le_f, J_eq_t, J_eq_f, within_t, within_f, isIn_t, isIn_f, inRow_t, inRow_f, isCell_t, isCell_f, inb_t, ix_Jn, ix_J, Int.reduceToNat, Int.toNat_natCast, mset_ne, mset_eq, mrow_ne, mrow_eq, upd_eq, upd_ne, bind_s, bnd2_s, not_true_eq_false, not_false_eq_true, Nat.reduceAdd]
    exact ⟨_, _, _, rfl, rfl, hI⟩
