/-! ===== the ant: the loop of both ===== -/
def AnP (M N : zM) (k : Nat) (s : Int32 × Int32 × Int32 × Int32 × Int32 × Int32 × zM) (t : Int32 × Int32 × Int32 × Int32 × Int32 × Int32 × zM) : Prop :=
  ∃ (sn mo : Int) (A B : zM), -(k : Int) ≤ sn ∧ sn ≤ k ∧ 0 ≤ mo ∧ mo ≤ k ∧ s = (J ((anI k).1 - 40), J ((anI k).2.1 - 40), J (anI k).2.2.1, J sn, J mo, J k, A) ∧ t = (J ((anI k).1 - 40), J ((anI k).2.1 - 40), J (anI k).2.2.1, J sn, J mo, J k, B) ∧ AnB A B (anI k).2.2.2 ∧ (∀ j, j ≠ 96 → A j = M j) ∧ ∀ j, j ≠ 276 → B j = N j
theorem p_ant1 {M N : zM} {n : Nat} {p2 : Int32} (hn : n ≤ 2000) {k : Nat} (hk : k < n) {s t} (h : AnP M N k s t) :
    W2 (b_X4_antLeaves_25 (J n) p2 s.1 s.2.1 s.2.2.1 s.2.2.2.1 s.2.2.2.2.1 s.2.2.2.2.2.1 s.2.2.2.2.2.2) (b_X11_ant_63 (J n) p2 t.1 t.2.1 t.2.2.1 t.2.2.2.1 t.2.2.2.2.1 t.2.2.2.2.2.1 t.2.2.2.2.2.2) (SumR (AnP M N (k + 1)) (fun _ _ => False)) := by
  obtain ⟨sn, mo, A, B, b1, b2, b3, b4, rfl, rfl, hB, fA, fB⟩ := h
  obtain ⟨r1, r2, r3, r4, r5⟩ := an_in (show k < 2000 by omega)
  have hs : anI (k + 1) = an1 (anI k) := rfl
  unfold an1 at hs
  generalize hq : anI k = q at *
  obtain ⟨x, y, f, m⟩ := q
  simp only at r1 r2 r3 r4 r5 hs hB ⊢
  have hfd := t_field (x := (x : Int) - 40) (y := (y : Int) - 40) (by omega) (by omega) (by omega) (by omega)
  rw [if_pos (by omega), show 81 * ((y : Int) - 40 + 40) + ((x : Int) - 40) + 40 = ((81 * y + x : Nat) : Int) by omega] at hfd
  have i2 : (128 * (((y : Int) - 40) % 128) + ((x : Int) - 40) % 128) = ((128 * ((y + 88) % 128) + (x + 88) % 128 : Nat) : Int) := by omega
  obtain ⟨q1, q2⟩ := hB x y (by omega) (by omega)
  have l2 : 128 * ((y + 88) % 128) + (x + 88) % 128 < 16384 := by omega
  generalize hp2 : 128 * ((y + 88) % 128) + (x + 88) % 128 = pp at *
  obtain ⟨tu1, tu2⟩ := t_turn3 f (by omega)
  have e3 : ∀ c : Int, (f : Int) + c = c + f := fun c => by omega
  unfold b_X4_antLeaves_25 b_X11_ant_63 j_X4_antLeaves_63_25 j_X4_antLeaves_81_25 j_X4_antLeaves_94_25 j_X4_antLeaves_118_25 j_X11_ant_101_63 j_X11_ant_115_63 j_X11_ant_148_63 j_X11_ant_165_63 f_J9_max_7cf53
  have fin : ∀ (f' : Nat) (b : Int32) (sn' mo' : Int), f' < 4 → anI (k + 1) = (x + anX f' - 1, y + anY f' - 1, f', m ^^^ 2 ^ (81 * y + x)) → AnB (mset A 96 (81 * y + x) b) (mset B 276 pp b) (m ^^^ 2 ^ (81 * y + x)) → -((k + 1 : Nat) : Int) ≤ sn' → sn' ≤ (k + 1 : Nat) → 0 ≤ mo' → mo' ≤ (k + 1 : Nat) →
      AnP M N (k + 1) (J ((x : Int) - 40 + dxI f'), J ((y : Int) - 40 + dyI f'), J f', J sn', J mo', J ((k : Int) + 1), mset A 96 (81 * y + x) b) (J ((x : Int) - 40 + dxI f'), J ((y : Int) - 40 + dyI f'), J f', J sn', J mo', J ((k : Int) + 1), mset B 276 pp b) := by
    intro f' b sn' mo' hf' hs' hb' g1 g2 g3 g4
    obtain ⟨ax, ay⟩ := an_x f' hf'
    have bx := dx_b f' hf'
    have by' := dy_b f' hf'
    refine ⟨sn', mo', mset A 96 (81 * y + x) b, mset B 276 pp b, g1, g2, g3, g4, ?_, ?_, ?_, fun j hj => by simp (disch := omega) only [mset_ne, mset_eq, mrow_ne, mrow_eq, upd_eq, upd_ne]; exact fA j hj, fun j hj => by simp (disch := omega) only [mset_ne, mset_eq, mrow_ne, mrow_eq, upd_eq, upd_ne]; exact fB j hj⟩
    · rw [hs']
      simp only
      exact pr2 (by exact congrArg J (by omega)) (pr2 (by exact congrArg J (by omega)) (pr2 rfl (pr2 rfl (pr2 rfl (pr2 (by exact congrArg J (by omega)) rfl)))))
    · rw [hs']
      simp only
      exact pr2 (by exact congrArg J (by omega)) (pr2 (by exact congrArg J (by omega)) (pr2 rfl (pr2 rfl (pr2 rfl (pr2 (by exact congrArg J (by omega)) rfl)))))
    · rw [hs']
      exact hb'
  cases hb : m.testBit (81 * y + x) with
  | true =>
    have v1 : bvI m (81 * y + x) = 1 := by unfold bvI; rw [hb]; rfl
    rw [v1] at q1 q2
    rw [hb] at hs
    have hf' : anF f true < 4 := Nat.mod_lt _ (by decide)
    have hf3 : ((f : Int) + 3) % 4 = (anF f true : Nat) := by unfold anF; simp only [cond_true]; omega
    have z0 := t_zsx _ hf'
    have z1 := t_zsy _ hf'
    have z2 := t_gx _ hf'
    have z3 := t_gy _ hf'
    have hb' := AnB_s (x := x) (y := y) hB (by omega) (by omega) (a := J 0) (b := J 0) (by rw [v1]; rfl) (by rw [v1]; rfl)
    rw [hp2] at hb'
    have fin' := fin _ (J 0) (sn + -1) (if mo < sn + -1 then sn + -1 else mo) hf' hs hb' (by omega) (by omega) (by split <;> omega) (by split <;> omega)
    generalize hfg : anF f true = f' at *
    by_cases cm : mo < sn + -1
    · rw [if_pos cm] at fin'
      simp (disch := omega) only [↓nm_s, ↓grd_s, ↓reduceIte, J_lit, J_neg, J_add, J_sub, J_mul, Int.cast_ofNat_Int, J_lt_t, J_lt_f, J_le_t, J_le_f, J_eq_t, J_eq_f, within_t, within_f, isIn_t, isIn_f, inRow_t, inRow_f, isCell_t, isCell_f, inb_t, ix_Jn, ix_J, Int.reduceToNat, Int.toNat_natCast, hfd, q1, q2, J_and127, J_and3, i2, tu1, hf3, z0, z1, z2, z3, Int.reduceSub]
      exact w2_some fin'
    · rw [if_neg cm] at fin'
      simp (disch := omega) only [↓nm_s, ↓grd_s, ↓reduceIte, J_lit, J_neg, J_add, J_sub, J_mul, Int.cast_ofNat_Int, J_lt_t, J_lt_f, J_le_t, J_le_f, J_eq_t, J_eq_f, within_t, within_f, isIn_t, isIn_f, inRow_t, inRow_f, isCell_t, isCell_f, inb_t, ix_Jn, ix_J, Int.reduceToNat, Int.toNat_natCast, hfd, q1, q2, J_and127, J_and3, i2, tu1, hf3, z0, z1, z2, z3, Int.reduceSub]
      exact w2_some fin'
  | false =>
    have v1 : bvI m (81 * y + x) = 0 := by unfold bvI; rw [hb]; rfl
    rw [v1] at q1 q2
    rw [hb] at hs
    have hf' : anF f false < 4 := Nat.mod_lt _ (by decide)
    have hf3 : ((f : Int) + 1) % 4 = (anF f false : Nat) := by unfold anF; simp only [cond_false]; omega
    have z0 := t_zsx _ hf'
    have z1 := t_zsy _ hf'
    have z2 := t_gx _ hf'
    have z3 := t_gy _ hf'
    have hb' := AnB_s (x := x) (y := y) hB (by omega) (by omega) (a := J 1) (b := J 1) (by rw [v1]; rfl) (by rw [v1]; rfl)
    rw [hp2] at hb'
    have fin' := fin _ (J 1) (sn + 1) (if mo < sn + 1 then sn + 1 else mo) hf' hs hb' (by omega) (by omega) (by split <;> omega) (by split <;> omega)
    generalize hfg : anF f false = f' at *
    by_cases cm : mo < sn + 1
    · rw [if_pos cm] at fin'
      simp (disch := omega) only [↓nm_s, ↓grd_s, ↓reduceIte, J_lit, J_neg, J_add, J_sub, J_mul, Int.cast_ofNat_Int, J_lt_t, J_lt_f, J_le_t, J_le_f, J_eq_t, J_eq_f, within_t, within_f, isIn_t, isIn_f, inRow_t, inRow_f, isCell_t, isCell_f, inb_t, ix_Jn, ix_J, Int.reduceToNat, Int.toNat_natCast, hfd, q1, q2, J_and127, J_and3, i2, tu2, hf3, z0, z1, z2, z3, Int.reduceSub]
      exact w2_some fin'
    · rw [if_neg cm] at fin'
      simp (disch := omega) only [↓nm_s, ↓grd_s, ↓reduceIte, J_lit, J_neg, J_add, J_sub, J_mul, Int.cast_ofNat_Int, J_lt_t, J_lt_f, J_le_t, J_le_f, J_eq_t, J_eq_f, within_t, within_f, isIn_t, isIn_f, inRow_t, inRow_f, isCell_t, isCell_f, inb_t, ix_Jn, ix_J, Int.reduceToNat, Int.toNat_natCast, hfd, q1, q2, J_and127, J_and3, i2, tu2, hf3, z0, z1, z2, z3, Int.reduceSub]
      exact w2_some fin'
theorem LN96 : LN 96 = 6561 := by decide +kernel
theorem p_antfill (N : zM) (a b : Int32) : Wp (loopW (fun s => b_X11_ant_26 a b s.1 s.2) (J 0, N)) (fun N' => (∀ x, x < 16384 → N' 276 x = J 0) ∧ ∀ j, j ≠ 276 → N' j = N j) := by
  refine loop_up (fun k s => s.1 = J k ∧ (∀ x, x < k → s.2 276 x = J 0) ∧ ∀ j, j ≠ 276 → s.2 j = N j) 16384 ⟨rfl, fun x h => by omega, fun _ _ => rfl⟩ ?_ ?_
  · rintro k ⟨s1, B⟩ hk ⟨e1, e2, e3⟩
    simp only at e1 e2 e3
    subst e1
    unfold b_X11_ant_26
    simp (disch := omega) only [↓nm_s, ↓grd_s, ↓reduceIte, J_lit, Int.cast_ofNat_Int, J_lt_t, J_lt_f, J_le_t, J_le_f, J_eq_t, J_eq_f, within_t, within_f, isIn_t, isIn_f, inRow_t, inRow_f, isCell_t, isCell_f, inb_t, ix_Jn, ix_J, Int.reduceToNat, Int.toNat_natCast]
    refine wp_some ⟨J_s _, fun x hx => ?_, fun j hj => by simp (disch := omega) only [mset_ne, mset_eq, mrow_ne, mrow_eq, upd_eq, upd_ne]; exact e3 j hj⟩
    by_cases e : x = k
    · subst e; simp (disch := omega) only [mset_ne, mset_eq, mrow_ne, mrow_eq, upd_eq, upd_ne]
    · simp (disch := omega) only [mset_ne, mset_eq, mrow_ne, mrow_eq, upd_eq, upd_ne]
      exact e2 x (by omega)
  · rintro ⟨s1, B⟩ ⟨e1, e2, e3⟩
    simp only at e1 e2 e3
    subst e1
    unfold b_X11_ant_26
    simp (disch := omega) only [↓reduceIte, J_lit, Int.cast_ofNat_Int, J_lt_t, J_lt_f, J_le_t, J_le_f, J_eq_t, J_eq_f, within_t, within_f, isIn_t, isIn_f, inRow_t, inRow_f, isCell_t, isCell_f, inb_t]
    exact wp_some ⟨e2, e3⟩
theorem c_ant (p0 p1 : Int32) : Cl2 (f_X10_ant p0 p1) (f_X11_ant p0 p1) := by
  intro M N hI
  obtain ⟨zn, rfl, l1, l2⟩ := J_ex p0
  obtain ⟨z, rfl, l3, l4⟩ := J_ex p1
  unfold f_X10_ant f_X11_ant
  by_cases c0 : 0 ≤ zn ∧ zn ≤ 2000
  · by_cases c1 : 0 ≤ z ∧ z ≤ 3
    · obtain ⟨n, rfl⟩ : ∃ n : Nat, zn = n := ⟨zn.toNat, by omega⟩
      have fM := t_fill (a := 96) (J 0) M (by rw [LN96]; decide)
      rw [LN96] at fM
      obtain ⟨N1, f0, f1, f2⟩ := p_antfill N (J n) (J z)
      have key : W2 (loopW (fun s => b_X4_antLeaves_25 (J n) (J z) s.1 s.2.1 s.2.2.1 s.2.2.2.1 s.2.2.2.2.1 s.2.2.2.2.2.1 s.2.2.2.2.2.2) (J 0, J 0, J 0, J 0, J 0, J 0, mrow M 96 (fun i => if i < 6561 then J 0 else M 96 i))) (loopW (fun s => b_X11_ant_63 (J n) (J z) s.1 s.2.1 s.2.2.1 s.2.2.2.1 s.2.2.2.2.1 s.2.2.2.2.2.1 s.2.2.2.2.2.2) (J 0, J 0, J 0, J 0, J 0, J 0, N1)) (fun q r => ∃ (x y s m : Int32) (A B : zM), q = .inl (x, y, s, m, A) ∧ r = (x, y, s, m, B) ∧ (∀ j, j ≠ 96 → A j = M j) ∧ ∀ j, j ≠ 276 → B j = N j) := by
        refine loopR (AnP M N) n ?_ ?_ ?_
        · refine ⟨0, 0, _, _, by omega, by omega, by omega, by omega, rfl, rfl, ?_, fun j hj => mrow_ne hj, f2⟩
          intro u v hu hv
          have e : bvI (anI 0).2.2.2 (81 * v + u) = 0 := by
            show bvI 0 (81 * v + u) = 0
            unfold bvI
            rw [Nat.zero_testBit]
            rfl
          rw [e, mrow_eq, f1 _ (by omega)]
          simp only
          rw [if_pos (by omega)]
          constructor <;> trivial
        · intro k s t hk hp
          refine w2_mono (p_ant1 (by omega) hk hp) ?_
          intro o p h
          cases o with
          | inl s' => cases p with
            | inl t' => exact h
            | inr _ => exact h.elim
          | inr _ => cases p with
            | inl _ => exact h.elim
            | inr _ => exact h.elim
        · rintro s t ⟨sn, mo, A, B, b1, b2, b3, b4, rfl, rfl, hB, fA, fB⟩
          unfold b_X4_antLeaves_25 b_X11_ant_63
          simp (disch := omega) only [↓reduceIte, J_lt_t, J_lt_f, J_le_t, J_le_f, J_eq_t, J_eq_f, within_t, within_f, isIn_t, isIn_f, inRow_t, inRow_f, isCell_t, isCell_f, inb_t]
          exact w2_some ⟨_, _, _, _, A, B, rfl, rfl, fA, fB⟩
      obtain ⟨q, r, k1, k2, x, y, s, m, A, B, rfl, rfl, k3, k4⟩ := key
      have hIC : IC A B := IC_scN (fun j _ _ _ _ => k4 j (by omega)) (fun i _ => by rw [k4 257 (by decide)]) (IC_scM (fun j _ h => k3 j (by unfold scC at h; omega)) (fun i _ => by rw [k3 70 (by decide)]) (fun i _ => by rw [k3 78 (by decide)]) (by rw [k3 83 (by decide)]) (by rw [k3 95 (by decide)]) hI)
      unfold f_X4_antLeaves j_X11_ant_46
      rcases (show z = 0 ∨ z = 1 ∨ z = 2 ∨ z = 3 by omega) with e | e | e | e <;> subst e
      all_goals
        simp (disch := omega) only [↓nm_s, ↓reduceIte, J_lit, J_neg, Int.cast_ofNat_Int, J_lt_t, J_lt_f, J_le_t, J_le_f, J_eq_t, J_eq_f, within_t, within_f, isIn_t, isIn_f, inRow_t, inRow_f, isCell_t, isCell_f, inb_t, bind_s, bnd2_s, fM, f0, k1, k2, Sum.elim_inl]
        unfold j_X4_antLeaves_149 j_X11_ant_191
        simp (disch := omega) only [↓nm_s, ↓reduceIte, J_lit, J_neg, Int.cast_ofNat_Int, J_lt_t, J_lt_f, J_le_t, J_le_f, J_eq_t, J_eq_f, within_t, within_f, isIn_t, isIn_f, inRow_t, inRow_f, isCell_t, isCell_f, inb_t, bind_s, bnd2_s]
        exact ⟨_, _, _, rfl, rfl, hIC⟩
    · by_cases c2 : z < 0
      · simp (disch := omega) only [↓nm_s, ↓reduceIte, J_lit, J_neg, Int.cast_ofNat_Int, J_lt_t, J_lt_f, J_le_t, J_le_f, J_eq_t, J_eq_f, within_t, within_f, isIn_t, isIn_f, inRow_t, inRow_f, isCell_t, isCell_f, inb_t]
        exact ⟨_, _, _, rfl, rfl, hI⟩
      · simp (disch := omega) only [↓nm_s, ↓reduceIte, J_lit, J_neg, Int.cast_ofNat_Int, J_lt_t, J_lt_f, J_le_t, J_le_f, J_eq_t, J_eq_f, within_t, within_f, isIn_t, isIn_f, inRow_t, inRow_f, isCell_t, isCell_f, inb_t]
        exact ⟨_, _, _, rfl, rfl, hI⟩
  · by_cases c2 : zn < 0
    · simp (disch := omega) only [↓nm_s, ↓reduceIte, J_lit, J_neg, Int.cast_ofNat_Int, J_lt_t, J_lt_f, J_le_t, J_le_f, J_eq_t, J_eq_f, within_t, within_f, isIn_t, isIn_f, inRow_t, inRow_f, isCell_t, isCell_f, inb_t]
      exact ⟨_, _, _, rfl, rfl, hI⟩
    · simp (disch := omega) only [↓nm_s, ↓reduceIte, J_lit, J_neg, Int.cast_ofNat_Int, J_lt_t, J_lt_f, J_le_t, J_le_f, J_eq_t, J_eq_f, within_t, within_f, isIn_t, isIn_f, inRow_t, inRow_f, isCell_t, isCell_f, inb_t]
      exact ⟨_, _, _, rfl, rfl, hI⟩
