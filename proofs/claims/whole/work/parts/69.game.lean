def Gd (f : Nat → Int32) (s : Nat) : Prop := ∀ x y, x + y < s → isV f x y
theorem mv_ok {f : Nat → Int32} {x y k : Nat} (hxy : x + y ≤ 60) (hg : Gd f (x + y)) (hk : k < 4) : (gmv x y k = none ∧ mvv f x y k = 5) ∨ ∃ q, gmv x y k = some q ∧ q < 3721 ∧ mvv f x y k < 5 ∧ f q = J (mvv f x y k) := by
  unfold mvv
  cases h : gmv x y k with
  | none => exact Or.inl ⟨rfl, rfl⟩
  | some q =>
    right
    obtain ⟨hq, x', y', e, hlt⟩ := gone_some hxy hk h
    obtain ⟨v, hv, e2, _⟩ := hg x' y' hlt
    rw [← e] at e2
    refine ⟨q, rfl, hq, ?_, ?_⟩
    · simp only [e2, J_toInt (show -2147483648 ≤ (v : Int) by omega) (show (v : Int) < 2147483648 by omega)]
      omega
    · simp only [e2, J_toInt (show -2147483648 ≤ (v : Int) by omega) (show (v : Int) < 2147483648 by omega)]
      congr 1
theorem mv_6 {f : Nat → Int32} {x y k : Nat} (hxy : x + y ≤ 60) (hg : Gd f (x + y)) (hk : k < 4) : mvv f x y k < 6 := by
  rcases mv_ok hxy hg hk with ⟨_, e⟩ | ⟨q, _, _, h, _⟩ <;> omega
theorem hit_mv {f : Nat → Int32} {x y u : Nat} (hxy : x + y ≤ 60) (hg : Gd f (x + y)) (hu : u < 5) : hit f x y u ↔ ∃ k, k < 4 ∧ mvv f x y k = u := by
  constructor
  · rintro ⟨k, hk, q, h1, h2⟩
    refine ⟨k, hk, ?_⟩
    rcases mv_ok hxy hg hk with ⟨a, _⟩ | ⟨q', a, _, b, c⟩
    · rw [h1] at a; cases a
    · rw [h1] at a
      injection a with a
      subst a
      rw [h2] at c
      have := (J_eq (by omega) (by omega) (by omega) (by omega)).mp c
      omega
  · rintro ⟨k, hk, h⟩
    rcases mv_ok hxy hg hk with ⟨_, b⟩ | ⟨q', a, _, _, c⟩
    · omega
    · exact ⟨k, hk, q', a, by rw [c, h]⟩
def orK (f : Nat → Int32) (x y : Nat) : Nat → Nat
  | 0 => 0
  | k + 1 => orK f x y k ||| bitg (mvv f x y k)
theorem orK_4 (f : Nat → Int32) (x y : Nat) : orK f x y 4 = org (mvv f x y 0) (mvv f x y 1) (mvv f x y 2) (mvv f x y 3) := by
  simp only [orK, org, Nat.zero_or]
theorem ne_cell {x y x' y' : Nat} (h1 : x + y ≤ 60) (h2 : x' + y' ≤ 60) (h : x' ≠ x ∨ y' ≠ y) : 61 * y' + x' ≠ 61 * y + x := by omega
theorem upd_isV {f : Nat → Int32} {x y x2 y2 : Nat} {w : Int32} (hxy : x + y ≤ 60) (hs : x2 + y2 ≤ x + y) (hne : x2 ≠ x ∨ y2 ≠ y) : isV f x2 y2 → isV (upd f (61 * y + x) w) x2 y2 := by
  rintro ⟨v, h1, h2, h3, h4⟩
  have hh : ∀ u, hit (upd f (61 * y + x) w) x2 y2 u ↔ hit f x2 y2 u := by
    intro u
    constructor
    · rintro ⟨k, hk, q, a, b⟩
      obtain ⟨_, x', y', e, hlt⟩ := gone_some (by omega) hk a
      refine ⟨k, hk, q, a, ?_⟩
      rw [upd_ne (by rw [e]; exact ne_cell hxy (by omega) (by omega))] at b
      exact b
    · rintro ⟨k, hk, q, a, b⟩
      obtain ⟨_, x', y', e, hlt⟩ := gone_some (by omega) hk a
      refine ⟨k, hk, q, a, ?_⟩
      rw [upd_ne (by rw [e]; exact ne_cell hxy (by omega) (by omega))]
      exact b
  refine ⟨v, h1, ?_, fun a => h3 ((hh v).mp a), fun u hu => (hh u).mpr (h4 u hu)⟩
  rw [upd_ne (ne_cell hxy (by omega) hne)]
  exact h2
theorem new_isV {f : Nat → Int32} {x y : Nat} (hxy : x + y ≤ 60) (hg : Gd f (x + y)) : isV (upd f (61 * y + x) (J (lmg (orK f x y 4)))) x y := by
  obtain ⟨q1, q2, ⟨q3, q4, q5, q6⟩, q7⟩ := gm_one (mv_6 hxy hg (k := 0) (by omega)) (mv_6 hxy hg (k := 1) (by omega)) (mv_6 hxy hg (k := 2) (by omega)) (mv_6 hxy hg (k := 3) (by omega))
  rw [← orK_4] at q1 q2 q3 q4 q5 q6 q7
  have h4 := lmg_4 (orK f x y 4)
  have hh : ∀ u, hit (upd f (61 * y + x) (J (lmg (orK f x y 4)))) x y u ↔ hit f x y u := by
    intro u
    constructor
    · rintro ⟨k, hk, q, a, b⟩
      obtain ⟨_, x', y', e, hlt⟩ := gone_some hxy hk a
      refine ⟨k, hk, q, a, ?_⟩
      rw [upd_ne (by rw [e]; exact ne_cell hxy (by omega) (by omega))] at b
      exact b
    · rintro ⟨k, hk, q, a, b⟩
      obtain ⟨_, x', y', e, hlt⟩ := gone_some hxy hk a
      refine ⟨k, hk, q, a, ?_⟩
      rw [upd_ne (by rw [e]; exact ne_cell hxy (by omega) (by omega))]
      exact b
  refine ⟨lmg (orK f x y 4), h4, by rw [upd_eq], fun a => ?_, fun u hu => ?_⟩
  · obtain ⟨k, hk, e⟩ := (hit_mv hxy hg (by omega)).mp ((hh _).mp a)
    rcases (show k = 0 ∨ k = 1 ∨ k = 2 ∨ k = 3 by omega) with e' | e' | e' | e' <;> subst e'
    · exact q3 e.symm
    · exact q4 e.symm
    · exact q5 e.symm
    · exact q6 e.symm
  · refine (hh u).mpr ((hit_mv hxy hg (by omega)).mpr ?_)
    rcases (q7 u hu).1 with e | e | e | e
    · exact ⟨0, by omega, e.symm⟩
    · exact ⟨1, by omega, e.symm⟩
    · exact ⟨2, by omega, e.symm⟩
    · exact ⟨3, by omega, e.symm⟩
theorem shl5 : ∀ k : Nat, k < 5 → (1 : Int32) <<< (J k &&& 31) = J ((2 ^ k : Nat) : Int) := by decide +kernel
theorem p_reachC {M : zM} {x y : Nat} (hxy : x + y ≤ 60) (hg : Gd (M 99) (x + y)) (a : Int32) : loopW (fun s => b_X4_valueAll_32_2_17 a (J x) (J y) s.1 s.2 M) (J 0, J 0) = some (J (orK (M 99) x y 4)) := by
  have key : Wp (loopW (fun s => b_X4_valueAll_32_2_17 a (J x) (J y) s.1 s.2 M) (J 0, J 0)) (fun v => v = J (orK (M 99) x y 4)) := by
    refine loop_up (fun k s => s = (J (orK (M 99) x y k), J k)) 4 rfl ?_ ?_
    · rintro k s hk rfl
      unfold b_X4_valueAll_32_2_17 j_X4_valueAll_68_2_17_32
      have g := (t_gone hxy hk M).1
      rcases mv_ok hxy hg hk with ⟨e1, e2⟩ | ⟨q, e1, e2, e3, e4⟩
      · rw [e1] at g
        simp only at g
        have eo : J (orK (M 99) x y k) ||| J 0 = J (orK (M 99) x y (k + 1)) := by
          rw [show J 0 = J ((0 : Nat) : Int) from rfl, J_orn, orK, e2]
          rfl
        simp (disch := omega) only [↓nm_s, ↓grd_s, ↓reduceIte, J_lit, J_neg, J_add, Int.cast_ofNat_Int, J_lt_t, J_lt_f, J_le_t, J_le_f, J_eq_t, J_eq_f, within_t, within_f, isIn_t, isIn_f, inRow_t, inRow_f, isCell_t, isCell_f, inb_t, bind_s, g, eo]
        exact wp_some rfl
      · rw [e1] at g
        simp only at g
        have es : J 1 <<< (J (mvv (M 99) x y k) &&& J 31) = J ((2 ^ mvv (M 99) x y k : Nat) : Int) := shl5 _ e3
        have eo : J (orK (M 99) x y k) ||| J ((2 ^ mvv (M 99) x y k : Nat) : Int) = J (orK (M 99) x y (k + 1)) := by
          rw [J_orn, orK]
          unfold bitg
          rw [if_pos e3]
        simp (disch := omega) only [↓nm_s, ↓grd_s, ↓reduceIte, J_lit, J_neg, J_add, Int.cast_ofNat_Int, J_lt_t, J_lt_f, J_le_t, J_le_f, J_eq_t, J_eq_f, within_t, within_f, isIn_t, isIn_f, inRow_t, inRow_f, isCell_t, isCell_f, inb_t, ix_Jn, ix_J, Int.reduceToNat, Int.toNat_natCast, bind_s, g, e4, es, eo]
        exact wp_some rfl
    · rintro s rfl
      unfold b_X4_valueAll_32_2_17
      simp (disch := omega) only [↓reduceIte, J_lit, Int.cast_ofNat_Int, J_lt_t, J_lt_f, J_le_t, J_le_f, J_eq_t, J_eq_f, within_t, within_f, isIn_t, isIn_f, inRow_t, inRow_f, isCell_t, isCell_f, inb_t]
      exact wp_some rfl
  obtain ⟨v, e, rfl⟩ := key
  exact e
theorem p_reachR {N : zM} {x y : Nat} (hxy : x + y ≤ 60) (hg : Gd (N 281) (x + y)) (a : Int32) : loopW (fun s => b_X11_layValues_20_2_9 a (J (x + y : Nat)) (J y) s.1 s.2 N) (J 0, J 0) = some (J (orK (N 281) x y 4)) := by
  have key : Wp (loopW (fun s => b_X11_layValues_20_2_9 a (J (x + y : Nat)) (J y) s.1 s.2 N) (J 0, J 0)) (fun v => v = J (orK (N 281) x y 4)) := by
    refine loop_up (fun k s => s = (J (orK (N 281) x y k), J k)) 4 rfl ?_ ?_
    · rintro k s hk rfl
      unfold b_X11_layValues_20_2_9 j_X11_layValues_58_2_9_20
      have g := (t_gone hxy hk N).2
      have ex : J ((x + y : Nat) : Int) - J y = J x := by rw [J_sub]; exact congrArg J (by omega)
      rcases mv_ok hxy hg hk with ⟨e1, e2⟩ | ⟨q, e1, e2, e3, e4⟩
      · rw [e1] at g
        simp only at g
        have eo : J (orK (N 281) x y k) ||| J 0 = J (orK (N 281) x y (k + 1)) := by
          rw [show J 0 = J ((0 : Nat) : Int) from rfl, J_orn, orK, e2]
          rfl
        simp (disch := omega) only [↓nm_s, ↓grd_s, ↓reduceIte, J_lit, J_neg, J_add, Int.cast_ofNat_Int, J_lt_t, J_lt_f, J_le_t, J_le_f, J_eq_t, J_eq_f, within_t, within_f, isIn_t, isIn_f, inRow_t, inRow_f, isCell_t, isCell_f, inb_t, bind_s, ex, g, eo]
        exact wp_some rfl
      · rw [e1] at g
        simp only at g
        have es : J 1 <<< (J (mvv (N 281) x y k) &&& J 31) = J ((2 ^ mvv (N 281) x y k : Nat) : Int) := shl5 _ e3
        have eo : J (orK (N 281) x y k) ||| J ((2 ^ mvv (N 281) x y k : Nat) : Int) = J (orK (N 281) x y (k + 1)) := by
          rw [J_orn, orK]
          unfold bitg
          rw [if_pos e3]
        simp (disch := omega) only [↓nm_s, ↓grd_s, ↓reduceIte, J_lit, J_neg, J_add, Int.cast_ofNat_Int, J_lt_t, J_lt_f, J_le_t, J_le_f, J_eq_t, J_eq_f, within_t, within_f, isIn_t, isIn_f, inRow_t, inRow_f, isCell_t, isCell_f, inb_t, ix_Jn, ix_J, Int.reduceToNat, Int.toNat_natCast, bind_s, ex, g, e4, es, eo]
        exact wp_some rfl
    · rintro s rfl
      unfold b_X11_layValues_20_2_9
      simp (disch := omega) only [↓reduceIte, J_lit, Int.cast_ofNat_Int, J_lt_t, J_lt_f, J_le_t, J_le_f, J_eq_t, J_eq_f, within_t, within_f, isIn_t, isIn_f, inRow_t, inRow_f, isCell_t, isCell_f, inb_t]
      exact wp_some rfl
  obtain ⟨v, e, rfl⟩ := key
  exact e
