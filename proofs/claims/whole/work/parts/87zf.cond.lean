/-! ===== a law: an and or an or that waited is written ===== -/
theorem clo_y34 {N : zM} {c wn p : Nat} (hc : c = 3 ∨ c = 4) (hw : wn < 420) (h : N 257 19 = J (wn + 1 : Nat)) (ht : N 264 wn = J c) (hp : N 257 12 = J p) (hp2 : p ≤ 100) : f_X11_closes (J c) N = (f_X11_codes (J (c + 7 : Nat)) (J 0) (mset (mset N 257 19 (J wn)) 257 12 (J p))).bind (f_X11_closes (J c)) := by
  have e1 : J ((wn + 1 : Nat) : Int) - J 1 = J (wn : Int) := by rw [J_sub]; exact congrArg J (by omega)
  have ep0 : J (p : Int) - J 0 = J (p : Int) := by rw [J_sub]; exact congrArg J (by omega)
  have step : b_X11_closes_0 (J c) N = (f_X11_codes (J (c + 7 : Nat)) (J 0) (mset (mset N 257 19 (J wn)) 257 12 (J p))).bind fun M => some (.inl M) := by
    have hp' : mset N 257 19 (J wn) 257 12 = J p := by simp (disch := omega) only [mset_ne, mset_eq, mrow_ne, mrow_eq, upd_eq, upd_ne]; exact hp
    unfold b_X11_closes_0 j_X11_closes_47_0 j_X11_closes_74_0
    rcases hc with e | e <;> subst e
    · have ht' : N 264 wn = J 3 := ht
      simp (disch := omega) only [↓nm_s, ↓grd_s, ↓reduceIte, J_lit, Int.cast_ofNat_Int, h, e1, ep0, J_lt_t, J_lt_f, J_le_t, J_le_f, J_eq_t, J_eq_f, within_t, within_f, isIn_t, isIn_f, inRow_t, inRow_f, isCell_t, isCell_f, inb_t, ix_Jn, ix_J, Int.reduceToNat, Int.toNat_natCast, ht', hp']
      rfl
    · have ht' : N 264 wn = J 4 := ht
      simp (disch := omega) only [↓nm_s, ↓grd_s, ↓reduceIte, J_lit, Int.cast_ofNat_Int, h, e1, ep0, J_lt_t, J_lt_f, J_le_t, J_le_f, J_eq_t, J_eq_f, within_t, within_f, isIn_t, isIn_f, inRow_t, inRow_f, isCell_t, isCell_f, inb_t, ix_Jn, ix_J, Int.reduceToNat, Int.toNat_natCast, ht', hp']
      rfl
  have ex : ∀ N, f_X11_closes (J c) N = loopW (fun s => b_X11_closes_0 (J c) s) N := by
    intro N
    unfold f_X11_closes j_X11_closes_81
    cases loopW (fun s => b_X11_closes_0 (J c) s) N with
    | none => rfl
    | some y => rfl
  rw [ex N, loopW_eq, step]
  cases f_X11_codes (J (c + 7 : Nat)) (J 0) (mset (mset N 257 19 (J wn)) 257 12 (J p)) with
  | none => rfl
  | some y =>
    simp only [bind_s]
    rw [ex y]
/-- b of the kind c (3 and, 4 or) waits over wn others -/
theorem clo_c {M N : zM} {tp : Nat → Nat} {n NN : Nat} {P E : Nat → Nat} {j q cz cn s c wn p b : Nat} (hc : c = 3 ∨ c = 4) (hb : b ≤ 1) (h : LwS M N tp n NN P E j q cz cn (s + b)) (hw : wn < 419) (h19 : N 257 19 = J (wn + b : Nat)) (ht : b = 1 → N 264 wn = J c) (hu : wn = 0 ∨ ¬ N 264 (wn - 1) = J c) (hp : N 257 12 = J p) (hp2 : p ≤ 100) :
    ∃ M' N', (if b = 1 then f_X3_emit 55 (if c = 3 then J 10133 else J 10132) M else some M) = some M' ∧ f_X11_closes (J c) N = some N' ∧ LwS M' N' tp n NN P E j q (cz + b) (cn + b) s ∧ Em M N M' N' cz cn (if b = 1 then [(c + 7, J 0)] else []) ∧ N' 257 19 = J wn ∧ N' 257 12 = J p ∧ N' 264 = N 264 ∧ FrC M M' ∧ FrN N N' := by
  by_cases b1 : b = 1
  · subst b1
    rw [if_pos rfl, if_pos rfl]
    have e12 : LwS M (mset (mset N 257 19 (J wn)) 257 12 (J p)) tp n NN P E j q cz cn (s + 1) := ⟨TS_fr h.1 rfl rfl rfl rfl (by simp (disch := omega) only [mset_ne, mset_eq, mrow_ne, mrow_eq, upd_eq, upd_ne]) (by simp (disch := omega) only [mset_ne, mset_eq, mrow_ne, mrow_eq, upd_eq, upd_ne]) (by simp (disch := omega) only [mset_ne, mset_eq, mrow_ne, mrow_eq, upd_eq, upd_ne]) (by simp (disch := omega) only [mset_ne, mset_eq, mrow_ne, mrow_eq, upd_eq, upd_ne]), h.2.1, by simp (disch := omega) only [mset_ne, mset_eq, mrow_ne, mrow_eq, upd_eq, upd_ne]; exact h.2.2.1, h.2.2.2.1, h.2.2.2.2⟩
    have ev : encC (c + 7, J 0) = [if c = 3 then J 10133 else J 10132] := by
      rcases hc with e | e <;> subst e <;> rfl
    obtain ⟨M1, N1, m1, m2, m3, m4, m5, m6, m7⟩ := em_1 e12 (c + 7) (J 0) (if c = 3 then J 10133 else J 10132) ev
    have k19 : N1 257 19 = J wn := by rw [m5.2.1]; simp (disch := omega) only [mset_ne, mset_eq, mrow_ne, mrow_eq, upd_eq, upd_ne]
    have k12 : N1 257 12 = J p := by rw [m5.1]; simp (disch := omega) only [mset_ne, mset_eq, mrow_ne, mrow_eq, upd_eq, upd_ne]
    have k64 : N1 264 = N 264 := by rw [m5.2.2]; simp (disch := omega) only [mset_ne, mset_eq, mrow_ne, mrow_eq, upd_eq, upd_ne]
    have hno : f_X11_closes (J c) N1 = some N1 := clo_no (by omega) (by omega) k19 (by rw [k64]; exact hu)
    have hn := TS_n h.1
    refine ⟨M1, N1, m1, ?_, m3, Em_fl m4 (fun j _ _ => rfl) (by simp (disch := omega) only [mset_ne, mset_eq, mrow_ne, mrow_eq, upd_eq, upd_ne]), k19, k12, k64, m6, FrN_t ⟨fun j h1 h2 h3 => by simp (disch := omega) only [mset_ne, mset_eq, mrow_ne, mrow_eq, upd_eq, upd_ne], fun i h1 h2 h3 h4 h5 h6 => by simp (disch := omega) only [mset_ne, mset_eq, mrow_ne, mrow_eq, upd_eq, upd_ne]⟩ m7⟩
    rw [clo_y34 hc (by omega) h19 (ht rfl) hp hp2, m2]
    exact hno
  · have b0 : b = 0 := by omega
    subst b0
    rw [if_neg (by omega), if_neg (by omega)]
    exact ⟨M, N, rfl, clo_no (by omega) (by omega) h19 hu, h, Em_nil _ _ _ _, h19, hp, rfl, FrC_r _, FrN_r _⟩
