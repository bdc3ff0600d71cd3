/-! ===== a law: the reference's stack of what waits ===== -/
theorem clo_no {N : zM} {c wn : Nat} (hc : c < 10) (hw : wn ≤ 420) (h : N 257 19 = J wn) (ht : wn = 0 ∨ ¬ N 264 (wn - 1) = J c) : f_X11_closes (J c) N = some N := by
  unfold f_X11_closes j_X11_closes_81
  have e : loopW (fun s => b_X11_closes_0 (J c) s) N = some N := by
    rw [loopW_eq]
    unfold b_X11_closes_0
    by_cases c0 : wn = 0
    · subst c0
      simp (disch := omega) only [↓reduceIte, J_lit, Int.cast_ofNat_Int, J_lt_t, J_lt_f, J_le_t, J_le_f, J_eq_t, J_eq_f, within_t, within_f, isIn_t, isIn_f, inRow_t, inRow_f, isCell_t, isCell_f, inb_t, h]
    · have e1 : J (wn : Int) - J 1 = J ((wn - 1 : Nat) : Int) := by rw [J_sub]; exact congrArg J (by omega)
      have ht' := ht.resolve_left c0
      simp (disch := omega) only [↓nm_s, ↓grd_s, ↓reduceIte, J_lit, Int.cast_ofNat_Int, h, e1, J_lt_t, J_lt_f, J_le_t, J_le_f, J_eq_t, J_eq_f, within_t, within_f, isIn_t, isIn_f, inRow_t, inRow_f, isCell_t, isCell_f, inb_t, ix_Jn, ix_J, Int.reduceToNat, Int.toNat_natCast, ht']
  rw [e]
  rfl
theorem clo_yes {N : zM} {c wn p : Nat} (hc : c = 2 ∨ c = 3 ∨ c = 4) (hw : wn < 420) (h : N 257 19 = J (wn + 1 : Nat)) (ht : N 264 wn = J c) (hp : N 257 12 = J p) (hp1 : 1 ≤ p) (hp2 : p ≤ 100) : f_X11_closes (J c) N = (f_X11_codes (J (c + 7 : Nat)) (J 0) (mset (mset N 257 19 (J wn)) 257 12 (J (if c = 2 then p - 1 else p : Nat)))).bind (f_X11_closes (J c)) := by
  have e1 : J ((wn + 1 : Nat) : Int) - J 1 = J (wn : Int) := by rw [J_sub]; exact congrArg J (by omega)
  have ep1 : J (p : Int) - J 1 = J ((p - 1 : Nat) : Int) := by rw [J_sub]; exact congrArg J (by omega)
  have ep0 : J (p : Int) - J 0 = J (p : Int) := by rw [J_sub]; exact congrArg J (by omega)
  have step : b_X11_closes_0 (J c) N = (f_X11_codes (J (c + 7 : Nat)) (J 0) (mset (mset N 257 19 (J wn)) 257 12 (J (if c = 2 then p - 1 else p : Nat)))).bind fun M => some (.inl M) := by
    have hp' : mset N 257 19 (J wn) 257 12 = J p := by simp (disch := omega) only [mset_ne, mset_eq, mrow_ne, mrow_eq, upd_eq, upd_ne]; exact hp
    unfold b_X11_closes_0 j_X11_closes_47_0 j_X11_closes_74_0
    rcases hc with e | e | e <;> subst e
    · have ht' : N 264 wn = J 2 := ht
      simp (disch := omega) only [↓nm_s, ↓grd_s, ↓reduceIte, J_lit, Int.cast_ofNat_Int, h, e1, ep1, ep0, J_lt_t, J_lt_f, J_le_t, J_le_f, J_eq_t, J_eq_f, within_t, within_f, isIn_t, isIn_f, inRow_t, inRow_f, isCell_t, isCell_f, inb_t, ix_Jn, ix_J, Int.reduceToNat, Int.toNat_natCast, ht', hp']
      rfl
    · have ht' : N 264 wn = J 3 := ht
      simp (disch := omega) only [↓nm_s, ↓grd_s, ↓reduceIte, J_lit, Int.cast_ofNat_Int, h, e1, ep1, ep0, J_lt_t, J_lt_f, J_le_t, J_le_f, J_eq_t, J_eq_f, within_t, within_f, isIn_t, isIn_f, inRow_t, inRow_f, isCell_t, isCell_f, inb_t, ix_Jn, ix_J, Int.reduceToNat, Int.toNat_natCast, ht', hp']
      rfl
    · have ht' : N 264 wn = J 4 := ht
      simp (disch := omega) only [↓nm_s, ↓grd_s, ↓reduceIte, J_lit, Int.cast_ofNat_Int, h, e1, ep1, ep0, J_lt_t, J_lt_f, J_le_t, J_le_f, J_eq_t, J_eq_f, within_t, within_f, isIn_t, isIn_f, inRow_t, inRow_f, isCell_t, isCell_f, inb_t, ix_Jn, ix_J, Int.reduceToNat, Int.toNat_natCast, ht', hp']
      rfl
  have ex : ∀ N, f_X11_closes (J c) N = loopW (fun s => b_X11_closes_0 (J c) s) N := by
    intro N
    unfold f_X11_closes j_X11_closes_81
    cases loopW (fun s => b_X11_closes_0 (J c) s) N with
    | none => rfl
    | some y => rfl
  rw [ex N, loopW_eq, step]
  cases f_X11_codes (J (c + 7 : Nat)) (J 0) (mset (mset N 257 19 (J wn)) 257 12 (J (if c = 2 then p - 1 else p : Nat))) with
  | none => rfl
  | some y =>
    simp only [bind_s]
    rw [ex y]
/-- an opening: written down while fewer than eight stand open -/
theorem i_opens {N : zM} {c wn p : Nat} (hw : wn < 420) (h : N 257 19 = J wn) (hp : N 257 12 = J p) (hp2 : p < 8) : f_X11_opensOne (J c) N = some (mset (mset (mset N 257 12 (J (p + 1 : Nat))) 264 wn (J c)) 257 19 (J (wn + 1 : Nat))) := by
  unfold f_X11_opensOne j_X11_opensOne_18
  simp (disch := omega) only [↓nm_s, ↓grd_s, ↓reduceIte, J_lit, Int.cast_ofNat_Int, hp, h, J_lt_t, J_lt_f, J_le_t, J_le_f, J_eq_t, J_eq_f, within_t, within_f, isIn_t, isIn_f, inRow_t, inRow_f, isCell_t, isCell_f, inb_t, ix_Jn, ix_J, Int.reduceToNat, Int.toNat_natCast, mset_ne, mset_eq, mrow_ne, mrow_eq, upd_eq, upd_ne]
  rw [J_s, J_s]
