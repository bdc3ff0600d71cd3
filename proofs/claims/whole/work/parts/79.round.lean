/-! ===== round: both sides ===== -/
theorem p_first {A : zM} {S i : Nat} {key : Nat → Int} (hS : S ≤ 24) (hi : i ≤ S) (hk : ∀ i, i ≤ S → A 77 i = J (key i) ∧ -2000 ≤ key i ∧ key i ≤ 2000) : Wp (f_X6_firstTime 70 (J i) A) (fun v => Bo v (∀ j, j < i → key j ≠ key i)) := by
  have key' : Wp (loopW (fun s => b_X6_firstTime_2 70 (J i) s A) (J 0)) (fun q => (q = .inl () ∧ ∀ j, j < i → key j ≠ key i) ∨ (q = .inr (J 0) ∧ ¬ ∀ j, j < i → key j ≠ key i)) := by
    refine loop_up (fun j s => s = J j ∧ ∀ t, t < j → key t ≠ key i) i ⟨rfl, fun t h => by omega⟩ ?_ ?_
    · rintro j s hj ⟨rfl, e⟩
      obtain ⟨q1, q2, q3⟩ := hk i hi
      obtain ⟨q4, q5, q6⟩ := hk j (by omega)
      unfold b_X6_firstTime_2
      by_cases c : key j = key i
      · simp (disch := omega) only [↓grd_s, ↓reduceIte, J_lit, Int.cast_ofNat_Int, J_lt_t, J_lt_f, J_le_t, J_le_f, J_eq_t, J_eq_f, within_t, within_f, isIn_t, isIn_f, inRow_t, inRow_f, isCell_t, isCell_f, inb_t, ix_Jn, ix_J, Int.reduceToNat, Int.toNat_natCast, Nat.reduceAdd, q1, q4]
        exact wp_some (Or.inr ⟨rfl, fun h => h j hj c⟩)
      · simp (disch := omega) only [↓grd_s, ↓reduceIte, J_lit, Int.cast_ofNat_Int, J_lt_t, J_lt_f, J_le_t, J_le_f, J_eq_t, J_eq_f, within_t, within_f, isIn_t, isIn_f, inRow_t, inRow_f, isCell_t, isCell_f, inb_t, ix_Jn, ix_J, Int.reduceToNat, Int.toNat_natCast, Nat.reduceAdd, q1, q4]
        refine wp_some ⟨J_s _, fun t ht => ?_⟩
        by_cases d : t = j
        · subst d; exact c
        · exact e t (by omega)
    · rintro s ⟨rfl, e⟩
      unfold b_X6_firstTime_2
      simp (disch := omega) only [↓reduceIte, J_lt_t, J_lt_f, J_le_t, J_le_f, J_eq_t, J_eq_f, within_t, within_f, isIn_t, isIn_f, inRow_t, inRow_f, isCell_t, isCell_f, inb_t]
      exact wp_some (Or.inl ⟨rfl, e⟩)
  unfold f_X6_firstTime j_X6_firstTime_30
  refine wp_bind (wp_mono key' ?_)
  rintro q (⟨rfl, h⟩ | ⟨rfl, h⟩)
  · exact wp_some (Or.inl ⟨rfl, h⟩)
  · exact wp_some (Or.inr ⟨rfl, h⟩)
theorem p_back {A : zM} {S i : Nat} {key : Nat → Int} (hS : S ≤ 24) (hi : i ≤ S) (hk : ∀ i, i ≤ S → A 77 i = J (key i) ∧ -2000 ≤ key i ∧ key i ≤ 2000) : Wp (f_X6_comesBack 70 (J i) (J S) A) (fun v => Bo v (∃ j, i < j ∧ j < S + 1 ∧ key j = key i)) := by
  have key' : Wp (loopW (fun s => b_X6_comesBack_4 70 (J i) (J S) s A) (J (i + 1 : Nat))) (fun q => (q = .inl () ∧ ¬ ∃ j, i < j ∧ j < S + 1 ∧ key j = key i) ∨ (q = .inr (J 1) ∧ ∃ j, i < j ∧ j < S + 1 ∧ key j = key i)) := by
    refine loop_fr (fun j s => s = J j ∧ ¬ ∃ t, i < t ∧ t < j ∧ key t = key i) (i + 1) (S + 1) (by omega) ⟨rfl, fun ⟨t, h1, h2, _⟩ => by omega⟩ ?_ ?_
    · rintro j s hj1 hj ⟨rfl, e⟩
      obtain ⟨q1, q2, q3⟩ := hk i hi
      obtain ⟨q4, q5, q6⟩ := hk j (by omega)
      unfold b_X6_comesBack_4
      by_cases c : key j = key i
      · simp (disch := omega) only [↓grd_s, ↓reduceIte, J_lit, Int.cast_ofNat_Int, J_lt_t, J_lt_f, J_le_t, J_le_f, J_eq_t, J_eq_f, within_t, within_f, isIn_t, isIn_f, inRow_t, inRow_f, isCell_t, isCell_f, inb_t, ix_Jn, ix_J, Int.reduceToNat, Int.toNat_natCast, Nat.reduceAdd, q1, q4]
        exact wp_some (Or.inr ⟨rfl, j, by omega, by omega, c⟩)
      · simp (disch := omega) only [↓grd_s, ↓reduceIte, J_lit, Int.cast_ofNat_Int, J_lt_t, J_lt_f, J_le_t, J_le_f, J_eq_t, J_eq_f, within_t, within_f, isIn_t, isIn_f, inRow_t, inRow_f, isCell_t, isCell_f, inb_t, ix_Jn, ix_J, Int.reduceToNat, Int.toNat_natCast, Nat.reduceAdd, q1, q4]
        refine wp_some ⟨J_s _, ?_⟩
        rintro ⟨t, h1, h2, h3⟩
        by_cases d : t = j
        · subst d; exact c h3
        · exact e ⟨t, h1, by omega, h3⟩
    · rintro s ⟨rfl, e⟩
      unfold b_X6_comesBack_4
      simp (disch := omega) only [↓reduceIte, J_lt_t, J_lt_f, J_le_t, J_le_f, J_eq_t, J_eq_f, within_t, within_f, isIn_t, isIn_f, inRow_t, inRow_f, isCell_t, isCell_f, inb_t]
      exact wp_some (Or.inl ⟨rfl, e⟩)
  unfold f_X6_comesBack j_X6_comesBack_32
  simp only [↓nm_s]
  rw [show J (i : Int) + (1 : Int32) = J (i + 1 : Nat) from by rw [show (1 : Int32) = J 1 from rfl, J_add]; rfl]
  refine wp_bind (wp_mono key' ?_)
  rintro q (⟨rfl, h⟩ | ⟨rfl, h⟩)
  · exact wp_some (Or.inr ⟨rfl, h⟩)
  · exact wp_some (Or.inl ⟨rfl, h⟩)
theorem p_agC {A : zM} {S : Nat} {key : Nat → Int} (hS : S ≤ 24) (hk : ∀ i, i ≤ S → A 77 i = J (key i) ∧ -2000 ≤ key i ∧ key i ≤ 2000) : loopW (fun s => b_X6_again_9 70 (J S) s.1 s.2 A) (J 0, J 0) = some (J (cnt (Fi key (S + 1)) (S + 1))) := by
  have key' : Wp (loopW (fun s => b_X6_again_9 70 (J S) s.1 s.2 A) (J 0, J 0)) (fun v => v = J (cnt (Fi key (S + 1)) (S + 1))) := by
    refine loop_up (fun k s => s = (J (cnt (Fi key (S + 1)) k), J k)) (S + 1) rfl ?_ ?_
    · rintro k s hk' rfl
      unfold b_X6_again_9 j_X6_again_34_9
      simp (disch := omega) only [↓reduceIte, J_lt_t, J_lt_f, J_le_t, J_le_f, J_eq_t, J_eq_f, within_t, within_f, isIn_t, isIn_f, inRow_t, inRow_f, isCell_t, isCell_f, inb_t]
      refine wp_bind (wp_mono (p_first (i := k) hS (by omega) hk) ?_)
      rintro v (⟨rfl, h⟩ | ⟨rfl, h⟩)
      · simp (disch := omega) only [↓reduceIte, J_lit, Int.cast_ofNat_Int, J_lt_t, J_lt_f, J_le_t, J_le_f, J_eq_t, J_eq_f, within_t, within_f, isIn_t, isIn_f, inRow_t, inRow_f, isCell_t, isCell_f, inb_t]
        refine wp_bind (wp_mono (p_back (i := k) hS (by omega) hk) ?_)
        rintro v (⟨rfl, h'⟩ | ⟨rfl, h'⟩)
        · simp (disch := omega) only [↓reduceIte, J_lit, Int.cast_ofNat_Int, J_lt_t, J_lt_f, J_le_t, J_le_f, J_eq_t, J_eq_f, within_t, within_f, isIn_t, isIn_f, inRow_t, inRow_f, isCell_t, isCell_f, inb_t]
          refine wp_some (pr2 ?_ (J_s _))
          rw [cnt_t (P := Fi key (S + 1)) ⟨h, h'⟩, J_add]
          rfl
        · simp (disch := omega) only [↓reduceIte, J_lit, Int.cast_ofNat_Int, J_lt_t, J_lt_f, J_le_t, J_le_f, J_eq_t, J_eq_f, within_t, within_f, isIn_t, isIn_f, inRow_t, inRow_f, isCell_t, isCell_f, inb_t]
          refine wp_some (pr2 ?_ (J_s _))
          rw [cnt_f (P := Fi key (S + 1)) (fun d => h' d.2)]
      · simp (disch := omega) only [↓reduceIte, J_lit, Int.cast_ofNat_Int, J_lt_t, J_lt_f, J_le_t, J_le_f, J_eq_t, J_eq_f, within_t, within_f, isIn_t, isIn_f, inRow_t, inRow_f, isCell_t, isCell_f, inb_t]
        refine wp_some (pr2 ?_ (J_s _))
        rw [cnt_f (P := Fi key (S + 1)) (fun d => h d.1)]
    · rintro s rfl
      unfold b_X6_again_9
      simp (disch := omega) only [↓reduceIte, J_lt_t, J_lt_f, J_le_t, J_le_f, J_eq_t, J_eq_f, within_t, within_f, isIn_t, isIn_f, inRow_t, inRow_f, isCell_t, isCell_f, inb_t]
      exact wp_some rfl
  obtain ⟨v, e, rfl⟩ := key'
  exact e
theorem p_agN {B : zM} {S : Nat} {px py key : Nat → Int} (hS : S ≤ 24) (h28 : B 257 28 = J (S + 1 : Nat)) (hp : ∀ i, i ≤ S → B 271 i = J (px i) ∧ B 272 i = J (py i) ∧ -24 ≤ px i ∧ px i ≤ 24 ∧ -24 ≤ py i ∧ py i ≤ 24) (hk : ∀ i, key i = 49 * py i + px i) : f_X11_again B = some (J (cnt (fun i => cnt (fun k => key k = key i) i = 1) (S + 1))) := by
  have inn : ∀ (v : Int32) (i : Nat), i ≤ S → loopW (fun s => b_X11_again_17_4 v (J i) s.1 s.2 B) (J 0, J 0) = some (J (cnt (fun k => key k = key i) i)) := by
    intro v i hi
    have key' : Wp (loopW (fun s => b_X11_again_17_4 v (J i) s.1 s.2 B) (J 0, J 0)) (fun u => u = J (cnt (fun k => key k = key i) i)) := by
      refine loop_up (fun k s => s = (J (cnt (fun k => key k = key i) k), J k)) i rfl ?_ ?_
      · rintro k s hk' rfl
        obtain ⟨q1, q2, q3, q4, q5, q6⟩ := hp i hi
        obtain ⟨r1, r2, r3, r4, r5, r6⟩ := hp k (by omega)
        unfold b_X11_again_17_4 j_X11_again_60_4_17 j_X11_again_61_4_17
        by_cases c1 : px k = px i
        · by_cases c2 : py k = py i
          · simp (disch := omega) only [↓nm_s, ↓grd_s, ↓reduceIte, J_lit, Int.cast_ofNat_Int, J_lt_t, J_lt_f, J_le_t, J_le_f, J_eq_t, J_eq_f, within_t, within_f, isIn_t, isIn_f, inRow_t, inRow_f, isCell_t, isCell_f, inb_t, ix_Jn, ix_J, Int.reduceToNat, Int.toNat_natCast, q1, q2, r1, r2]
            refine wp_some (pr2 ?_ (J_s _))
            rw [cnt_t (P := fun k => key k = key i) (n := k) (by rw [hk, hk, c1, c2]), J_add]
            rfl
          · simp (disch := omega) only [↓nm_s, ↓grd_s, ↓reduceIte, J_lit, Int.cast_ofNat_Int, J_lt_t, J_lt_f, J_le_t, J_le_f, J_eq_t, J_eq_f, within_t, within_f, isIn_t, isIn_f, inRow_t, inRow_f, isCell_t, isCell_f, inb_t, ix_Jn, ix_J, Int.reduceToNat, Int.toNat_natCast, q1, q2, r1, r2]
            refine wp_some (pr2 ?_ (J_s _))
            rw [cnt_f (P := fun k => key k = key i) (n := k) (by rw [hk, hk]; omega), J_add, Int.add_zero]
        · simp (disch := omega) only [↓nm_s, ↓grd_s, ↓reduceIte, J_lit, Int.cast_ofNat_Int, J_lt_t, J_lt_f, J_le_t, J_le_f, J_eq_t, J_eq_f, within_t, within_f, isIn_t, isIn_f, inRow_t, inRow_f, isCell_t, isCell_f, inb_t, ix_Jn, ix_J, Int.reduceToNat, Int.toNat_natCast, q1, q2, r1, r2]
          refine wp_some (pr2 ?_ (J_s _))
          rw [cnt_f (P := fun k => key k = key i) (n := k) (by rw [hk, hk]; omega), J_add, Int.add_zero]
      · rintro s rfl
        unfold b_X11_again_17_4
        simp (disch := omega) only [↓reduceIte, J_lt_t, J_lt_f, J_le_t, J_le_f, J_eq_t, J_eq_f, within_t, within_f, isIn_t, isIn_f, inRow_t, inRow_f, isCell_t, isCell_f, inb_t]
        exact wp_some rfl
    obtain ⟨u, e, rfl⟩ := key'
    exact e
  have key' : Wp (loopW (fun s => b_X11_again_4 s.1 s.2 B) (J 0, J 0)) (fun v => v = J (cnt (fun i => cnt (fun k => key k = key i) i = 1) (S + 1))) := by
    refine loop_up (fun k s => s = (J (cnt (fun i => cnt (fun k => key k = key i) i = 1) k), J k)) (S + 1) rfl ?_ ?_
    · rintro k s hk' rfl
      have e := inn (J (cnt (fun i => cnt (fun k => key k = key i) i = 1) k)) k (by omega)
      have hc := cnt_le (fun j => key j = key k) k
      unfold b_X11_again_4 j_X11_again_69_4 j_X11_again_80_4
      by_cases c : cnt (fun j => key j = key k) k = 1
      · simp (disch := omega) only [↓nm_s, ↓reduceIte, J_lit, Int.cast_ofNat_Int, J_lt_t, J_lt_f, J_le_t, J_le_f, J_eq_t, J_eq_f, within_t, within_f, isIn_t, isIn_f, inRow_t, inRow_f, isCell_t, isCell_f, inb_t, h28, e, bind_s]
        refine wp_some (pr2 ?_ (J_s _))
        rw [cnt_t (P := fun i => cnt (fun k => key k = key i) i = 1) (n := k) c, J_add]
        rfl
      · simp (disch := omega) only [↓nm_s, ↓reduceIte, J_lit, Int.cast_ofNat_Int, J_lt_t, J_lt_f, J_le_t, J_le_f, J_eq_t, J_eq_f, within_t, within_f, isIn_t, isIn_f, inRow_t, inRow_f, isCell_t, isCell_f, inb_t, h28, e, bind_s]
        refine wp_some (pr2 ?_ (J_s _))
        rw [cnt_f (P := fun i => cnt (fun k => key k = key i) i = 1) (n := k) c, J_add, Int.add_zero]
    · rintro s rfl
      unfold b_X11_again_4
      simp (disch := omega) only [↓reduceIte, J_lt_t, J_lt_f, J_le_t, J_le_f, J_eq_t, J_eq_f, within_t, within_f, isIn_t, isIn_f, inRow_t, inRow_f, isCell_t, isCell_f, inb_t, h28]
      exact wp_some rfl
  obtain ⟨v, e, rfl⟩ := key'
  unfold f_X11_again j_X11_again_88
  rw [show ((0 : Int32), (0 : Int32)) = (J 0, J 0) from rfl, e]
  rfl
theorem p_wound {M : zM} {n : Nat} {mv : Nat → Nat} (hn : n ≤ 24) (hM : M 70 3 = J n) (hm : ∀ i, i < n → M 73 i = J (mv i) ∧ mv i < 3) : f_X6_wound 70 M = some (J (wsm mv n)) := by
  have key' : Wp (loopW (fun s => b_X6_wound_4 70 s.1 s.2 M) (J 0, J 0)) (fun v => v = J (wsm mv n)) := by
    refine loop_up (fun k s => s = (J (wsm mv k), J k)) n rfl ?_ ?_
    · rintro k s hk rfl
      obtain ⟨q1, q2⟩ := hm k hk
      unfold b_X6_wound_4 j_X6_wound_34_4
      by_cases c : mv k = 2
      · rw [c] at q1
        simp (disch := omega) only [↓nm_s, ↓grd_s, ↓reduceIte, J_lit, J_neg, Int.cast_ofNat_Int, J_lt_t, J_lt_f, J_le_t, J_le_f, J_eq_t, J_eq_f, within_t, within_f, isIn_t, isIn_f, inRow_t, inRow_f, isCell_t, isCell_f, inb_t, ix_Jn, ix_J, Int.reduceToNat, Int.toNat_natCast, Nat.reduceAdd, hM, q1]
        refine wp_some (pr2 ?_ (J_s _))
        rw [J_add]
        simp only [wsm, c, if_true]
      · simp (disch := omega) only [↓nm_s, ↓grd_s, ↓reduceIte, J_lit, J_neg, Int.cast_ofNat_Int, J_lt_t, J_lt_f, J_le_t, J_le_f, J_eq_t, J_eq_f, within_t, within_f, isIn_t, isIn_f, inRow_t, inRow_f, isCell_t, isCell_f, inb_t, ix_Jn, ix_J, Int.reduceToNat, Int.toNat_natCast, Nat.reduceAdd, hM, q1]
        refine wp_some (pr2 ?_ (J_s _))
        rw [J_add]
        simp only [wsm, c, if_false]
    · rintro s rfl
      unfold b_X6_wound_4
      simp (disch := omega) only [↓reduceIte, J_lt_t, J_lt_f, J_le_t, J_le_f, J_eq_t, J_eq_f, within_t, within_f, isIn_t, isIn_f, inRow_t, inRow_f, isCell_t, isCell_f, inb_t, hM]
      exact wp_some rfl
  obtain ⟨v, e, rfl⟩ := key'
  unfold f_X6_wound j_X6_wound_42
  rw [show ((0 : Int32), (0 : Int32)) = (J 0, J 0) from rfl, e]
  rfl
theorem c_round (p0 : Int32) : Cl2 (f_X10_round p0) (f_X11_round p0) := by
  intro M N hI
  obtain ⟨z, rfl, l1, l2⟩ := J_ex p0
  by_cases c0 : 0 ≤ z ∧ z ≤ 3
  · obtain ⟨n, mv, hn, hM, hN, hm⟩ : ∃ (n : Nat) (mv : Nat → Nat), n ≤ 24 ∧ M 70 3 = J n ∧ N 258 2383 = J n ∧ ∀ i, i < n → M 73 i = J (mv i) ∧ N 258 (2384 + i) = J (mv i) ∧ mv i < 3 := by
      obtain ⟨n, m, k, u, o, ks, a1, a2, a3, a4, a5, a6, a7, a8, a9, a10⟩ := hI
      obtain ⟨n', d1, d2, d3, d4⟩ := a5.2.1
      refine ⟨n', fun g => (M 73 g).toInt.toNat, d1, d2, d3, fun i hi => ?_⟩
      obtain ⟨e1, x, hx, ex⟩ := d4 i hi
      have ex' : M 73 i = J x := ex
      have t1 : (M 73 i).toInt.toNat = x := by rw [ex', J_toInt (by omega) (by omega)]; omega
      simp only [t1]
      exact ⟨ex', e1.symm.trans ex', hx⟩
    have hA : RoC M (mset (mset (mset (mset M 70 9 (J 0)) 70 10 (J 0)) 70 11 (J 0)) 77 0 (J 0)) 0 0 (fun _ => 0) (fun _ => 0) := by
      refine ⟨by simp (disch := omega) only [mset_ne, mset_eq, mrow_ne, mrow_eq, upd_eq, upd_ne], by simp (disch := omega) only [mset_ne, mset_eq, mrow_ne, mrow_eq, upd_eq, upd_ne], by simp (disch := omega) only [mset_ne, mset_eq, mrow_ne, mrow_eq, upd_eq, upd_ne], fun i hi => ?_, fun j h1 h2 => by simp (disch := omega) only [mset_ne, mset_eq, mrow_ne, mrow_eq, upd_eq, upd_ne], fun c hc => by simp (disch := omega) only [mset_ne, mset_eq, mrow_ne, mrow_eq, upd_eq, upd_ne]⟩
      have : i = 0 := by omega
      subst this
      simp (disch := omega) only [mset_ne, mset_eq, mrow_ne, mrow_eq, upd_eq, upd_ne]
      rfl
    have hB : RoN N (mset (mset (mset (mset (mset N 257 28 (J 1)) 271 0 (J 0)) 272 0 (J 0)) 257 29 (J 0)) 257 30 (J 0)) 0 0 0 (fun _ => 0) (fun _ => 0) := by
      refine ⟨by simp (disch := omega) only [mset_ne, mset_eq, mrow_ne, mrow_eq, upd_eq, upd_ne]; rfl, by simp (disch := omega) only [mset_ne, mset_eq, mrow_ne, mrow_eq, upd_eq, upd_ne], by simp (disch := omega) only [mset_ne, mset_eq, mrow_ne, mrow_eq, upd_eq, upd_ne], fun i hi => ?_, fun j h1 h2 h3 => by simp (disch := omega) only [mset_ne, mset_eq, mrow_ne, mrow_eq, upd_eq, upd_ne], fun c hc => by simp (disch := omega) only [mset_ne, mset_eq, mrow_ne, mrow_eq, upd_eq, upd_ne]⟩
      have : i = 0 := by omega
      subst this
      simp (disch := omega) only [mset_ne, mset_eq, mrow_ne, mrow_eq, upd_eq, upd_ne]
      exact ⟨trivial, trivial⟩
    obtain ⟨⟨s1, A⟩, B, k1, k2, S, w, a, px, py, e1, ew, ⟨b1, b2, b3, b4, b5, b6⟩, ⟨c1, c2, c3, c4, c5, c6⟩, ⟨d1, d2, d3, d4, d5, d6⟩⟩ := p_rd hn hM hN hm hA hB
    simp only at e1 c1 c2 c3 c4 c5 c6
    subst e1
    have hw : f_X6_walk 70 M = some (J S, A) := by
      unfold f_X6_walk j_X6_walk_153
      simp (disch := omega) only [↓nm_s, J_lit, Int.cast_ofNat_Int, Nat.reduceAdd, ix_Jn, ix_J, Int.reduceToNat, Int.toNat_natCast]
      rw [k1]
      rfl
    have hg : f_X11_goesRound N = some B := by
      unfold f_X11_goesRound j_X11_goesRound_217
      simp (disch := omega) only [↓nm_s, J_lit, Int.cast_ofNat_Int, Nat.reduceAdd, ix_Jn, ix_J, Int.reduceToNat, Int.toNat_natCast]
      rw [k2]
      rfl
    have hIC : IC A B := IC_scN (fun j _ _ _ h => d5 j h (by omega) (by omega)) (fun i hi => d6 i (by omega)) (IC_scM (fun j _ h => c5 j (by unfold scC at h; omega) (by unfold scC at h; omega)) (fun i hi => c6 i hi) (fun i _ => by rw [c5 78 (by decide) (by decide)]) (by rw [c5 83 (by decide) (by decide)]) (by rw [c5 95 (by decide) (by decide)]) hI)
    have hIC0 : IC M B := IC_scN (fun j _ _ _ h => d5 j h (by omega) (by omega)) (fun i hi => d6 i (by omega)) hI
    obtain ⟨x1, x2, y1, y2⟩ := b4 S (Nat.le_refl _)
    obtain ⟨g1, g2⟩ := d4 S (Nat.le_refl _)
    have ax := t_abs (a := px S) (by omega) (by omega)
    have ay := t_abs (a := py S) (by omega) (by omega)
    have aa := t_abs (a := a) (by omega) (by omega)
    have is1 : ((S + 1 : Nat) : Int) - 1 = (S : Int) := by omega
    unfold f_X10_round f_X11_round
    rcases (show z = 0 ∨ z = 1 ∨ z = 2 ∨ z = 3 by omega) with e | e | e | e <;> subst e
    · have hwo := p_wound hn hM (fun i hi => ⟨(hm i hi).1, (hm i hi).2.2⟩)
      simp (disch := omega) only [↓nm_s, ↓grd_s, ↓reduceIte, J_lit, J_neg, J_sub, Int.cast_ofNat_Int, J_lt_t, J_lt_f, J_le_t, J_le_f, J_eq_t, J_eq_f, within_t, within_f, isIn_t, isIn_f, inRow_t, inRow_f, isCell_t, isCell_f, inb_t, ix_Jn, ix_J, Int.reduceToNat, Int.toNat_natCast, bind_s, bnd2_s, hwo, hg, d1, d2, g1, g2, is1, ← ew]
      exact ⟨_, _, _, rfl, rfl, hIC0⟩
    · unfold f_X6_home
      simp (disch := omega) only [↓nm_s, ↓grd_s, ↓reduceIte, J_lit, J_neg, J_sub, Int.cast_ofNat_Int, J_lt_t, J_lt_f, J_le_t, J_le_f, J_eq_t, J_eq_f, within_t, within_f, isIn_t, isIn_f, inRow_t, inRow_f, isCell_t, isCell_f, inb_t, ix_Jn, ix_J, Int.reduceToNat, Int.toNat_natCast, bind_s, bnd2_s, hw, hg, d1, g1, g2, is1, c1, c2, ax.1, ax.2, ay.1, ay.2]
      exact ⟨_, _, _, rfl, rfl, hIC⟩
    · have hag := p_agC (A := A) (S := S) (key := fun i => 49 * py i + px i) (by omega) (fun i hi => ⟨c4 i hi, by have := b4 i hi; omega, by have := b4 i hi; omega⟩)
      have hag2 := p_agN (B := B) (S := S) (px := px) (py := py) (key := fun i => 49 * py i + px i) (by omega) d1 (fun i hi => ⟨(d4 i hi).1, (d4 i hi).2, by have := b4 i hi; omega, by have := b4 i hi; omega, by have := b4 i hi; omega, by have := b4 i hi; omega⟩) (fun _ => rfl)
      rw [cnt_again] at hag
      unfold f_X6_again j_X6_again_40
      simp (disch := omega) only [↓nm_s, ↓grd_s, ↓reduceIte, J_lit, J_neg, J_sub, Int.cast_ofNat_Int, J_lt_t, J_lt_f, J_le_t, J_le_f, J_eq_t, J_eq_f, within_t, within_f, isIn_t, isIn_f, inRow_t, inRow_f, isCell_t, isCell_f, inb_t, ix_Jn, ix_J, Int.reduceToNat, Int.toNat_natCast, bind_s, bnd2_s, hw, hg, d1, g1, g2, is1, hag, hag2]
      exact ⟨_, _, _, rfl, rfl, hIC⟩
    · unfold f_X6_about
      by_cases q1 : px S = 0
      · by_cases q2 : py S = 0
        · rw [q1] at g1 c1
          rw [q2] at g2 c2
          have az := t_abs (a := 0) (by omega) (by omega)
          simp (disch := omega) only [↓nm_s, ↓grd_s, ↓reduceIte, J_lit, J_neg, J_sub, J_add, Int.cast_ofNat_Int, J_lt_t, J_lt_f, J_le_t, J_le_f, J_eq_t, J_eq_f, within_t, within_f, isIn_t, isIn_f, inRow_t, inRow_f, isCell_t, isCell_f, inb_t, ix_Jn, ix_J, Int.reduceToNat, Int.toNat_natCast, bind_s, bnd2_s, hw, hg, d1, d3, g1, g2, is1, c1, c2, c3, az.1, az.2, aa.1, aa.2, Int.le_refl]
          exact ⟨_, _, _, rfl, rfl, hIC⟩
        · have hne : ∀ u v : Int, 0 ≤ u → 0 < v → u < 100 → v < 100 → ¬ J u + J v = J 0 := by
            intro u v h1 h2 h3 h4
            rw [J_add, J_eq (by omega) (by omega) (by omega) (by omega)]
            omega
          have hn2 := hne (if 0 ≤ px S then px S else -px S) (if 0 ≤ py S then py S else -py S) (by split <;> omega) (by split <;> omega) (by split <;> omega) (by split <;> omega)
          simp (disch := omega) only [↓nm_s, ↓grd_s, ↓reduceIte, J_lit, J_neg, J_sub, Int.cast_ofNat_Int, J_lt_t, J_lt_f, J_le_t, J_le_f, J_eq_t, J_eq_f, within_t, within_f, isIn_t, isIn_f, inRow_t, inRow_f, isCell_t, isCell_f, inb_t, ix_Jn, ix_J, Int.reduceToNat, Int.toNat_natCast, bind_s, bnd2_s, hw, hg, d1, g1, g2, is1, c1, c2, ax.1, ax.2, ay.1, ay.2, hn2]
          exact ⟨_, _, _, rfl, rfl, hIC⟩
      · have hne : ∀ u v : Int, 0 < u → 0 ≤ v → u < 100 → v < 100 → ¬ J u + J v = J 0 := by
          intro u v h1 h2 h3 h4
          rw [J_add, J_eq (by omega) (by omega) (by omega) (by omega)]
          omega
        have hn2 := hne (if 0 ≤ px S then px S else -px S) (if 0 ≤ py S then py S else -py S) (by split <;> omega) (by split <;> omega) (by split <;> omega) (by split <;> omega)
        simp (disch := omega) only [↓nm_s, ↓grd_s, ↓reduceIte, J_lit, J_neg, J_sub, Int.cast_ofNat_Int, J_lt_t, J_lt_f, J_le_t, J_le_f, J_eq_t, J_eq_f, within_t, within_f, isIn_t, isIn_f, inRow_t, inRow_f, isCell_t, isCell_f, inb_t, ix_Jn, ix_J, Int.reduceToNat, Int.toNat_natCast, bind_s, bnd2_s, hw, hg, d1, g1, g2, is1, c1, c2, ax.1, ax.2, ay.1, ay.2, hn2]
        exact ⟨_, _, _, rfl, rfl, hIC⟩
  · unfold f_X10_round f_X11_round
    simp (disch := omega) only [↓nm_s, ↓reduceIte, J_lit, J_neg, Int.cast_ofNat_Int, J_lt_t, J_lt_f, J_le_t, J_le_f, J_eq_t, J_eq_f, within_t, within_f, isIn_t, isIn_f, inRow_t, inRow_f, isCell_t, isCell_f, inb_t]
    exact ⟨_, _, _, rfl, rfl, hI⟩
