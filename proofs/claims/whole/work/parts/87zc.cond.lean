/-! ===== a law: the reference closes ===== -/
theorem fc_close {N : zM} {wn : Nat} (hw : wn < 420) (h10 : N 257 10 = J (-1)) (h : N 257 19 = J (wn + 1 : Nat)) : FC (J 0) N = (f_X11_sign (J 41) N).bind fun N1 => if f_X11_fine (mset (mset N1 257 19 (N1 257 19 - J 1)) 257 12 (N1 257 12 - J 1)) = J 0 then FC (J 0) (mset (mset N1 257 19 (N1 257 19 - J 1)) 257 12 (N1 257 12 - J 1)) else FB (mset (mset N1 257 19 (N1 257 19 - J 1)) 257 12 (N1 257 12 - J 1)) := by
  have f0 : ¬ f_X11_fine N = (0 : Int32) := by rw [fine_t h10]; decide
  have n0 : ¬ N 257 19 ≤ (0 : Int32) := by
    rw [h, show (0 : Int32) = J 0 from rfl, J_le (by omega) (by omega) (by omega) (by omega)]
    omega
  have step : b_X11_readEither_46_7 (J 0) N = (f_X11_sign (J 41) N).bind fun N1 => if f_X11_fine (mset (mset N1 257 19 (N1 257 19 - J 1)) 257 12 (N1 257 12 - J 1)) = J 0 then some (.inl (J 0, mset (mset N1 257 19 (N1 257 19 - J 1)) 257 12 (N1 257 12 - J 1))) else (bnd2 (f_X11_goesOnWith (mset (mset N1 257 19 (N1 257 19 - J 1)) 257 12 (N1 257 12 - J 1))) fun u N3 => if u = J 0 then some (.inl (J 0, N3)) else some (.inl (J 1, N3))) := by
    unfold b_X11_readEither_46_7
    rw [if_pos (by rfl), if_neg f0, if_neg n0]
    have e41 : f_X11_sign (41 : Int32) N = f_X11_sign (J 41) N := rfl
    rw [e41]
    cases f_X11_sign (J 41) N with
    | none => rfl
    | some N1 =>
      simp (disch := omega) only [bind_s, ↓nm_s, mset_ne, mset_eq, mrow_ne, mrow_eq, upd_eq, upd_ne]
      rfl
  have hF : ∀ (s : Int32) (N2 : zM), FC s N2 = (loopW (fun s => b_X11_readEither_46_7 s.1 s.2) (s, N2)).bind fun r => loopW (fun s => b_X11_readEither_7 s.1 s.2) (r.1, r.2) := fun _ _ => rfl
  rw [hF (J 0) N, loopW_eq]
  simp only
  rw [step]
  cases f_X11_sign (J 41) N with
  | none => rfl
  | some N1 =>
    simp only [bind_s]
    by_cases c : f_X11_fine (mset (mset N1 257 19 (N1 257 19 - J 1)) 257 12 (N1 257 12 - J 1)) = J 0
    · rw [if_pos c, if_pos c]
      rfl
    · rw [if_neg c, if_neg c]
      unfold FB
      cases f_X11_goesOnWith (mset (mset N1 257 19 (N1 257 19 - J 1)) 257 12 (N1 257 12 - J 1)) with
      | none => rfl
      | some z =>
        obtain ⟨u, N3⟩ := z
        simp only [bnd2_s]
        by_cases c2 : u = J 0
        · rw [if_pos c2, if_pos c2]
          rfl
        · rw [if_neg c2, if_neg c2]
          rfl
/-- a not on top: its code is written, then all goes on -/
theorem fb_not {N : zM} {wn p : Nat} (hw : wn < 420) (h : N 257 19 = J (wn + 1 : Nat)) (ht : N 264 wn = J 2) (hp : N 257 12 = J p) (hp1 : 1 ≤ p) (hp2 : p ≤ 100) : FB N = (f_X11_codes (J 9) (J 0) (mset (mset N 257 19 (J wn)) 257 12 (J (p - 1 : Nat)))).bind FB := by
  have e := clo_yes (c := 2) (Or.inl rfl) hw h ht hp hp1 hp2
  have e' : f_X11_closes (J 2) N = (f_X11_codes (J 9) (J 0) (mset (mset N 257 19 (J wn)) 257 12 (J (p - 1 : Nat)))).bind (f_X11_closes (J 2)) := e
  have g : ∀ N : zM, ∃ R : zM → Option (Int32 × zM), ∀ N : zM, f_X11_goesOnWith N = (f_X11_closes (J 2) N).bind R := fun _ => ⟨_, fun _ => rfl⟩
  obtain ⟨R, hR⟩ := g N
  unfold FB
  rw [hR N, e']
  cases f_X11_codes (J 9) (J 0) (mset (mset N 257 19 (J wn)) 257 12 (J (p - 1 : Nat))) with
  | none => rfl
  | some y =>
    simp only [bind_s]
    rw [hR y]
