/-! the same rows, not by their form alone: an 'if' that isn't decided must not be opened in the kernel -/
theorem bnd2_s {α : Type} (v : Int32) (M : zM) (k : Int32 → zM → Option α) : bnd2 (some (v, M)) k = k v M := by
  have h : ∀ x, x = some (v, M) → bnd2 x k = k v M := by
    intro x hx
    subst hx
    rfl
  exact h _ rfl
theorem bind_s {α β : Type} (a : α) (f : α → Option β) : (some a).bind f = f a := by
  have h : ∀ x, x = some a → x.bind f = f a := by
    intro x hx
    subst hx
    rfl
  exact h _ rfl
theorem nm_s {α β : Type} (e : α) (k : α → β) : nm e k = k e := by
  have h : ∀ x, x = e → nm x k = k e := by
    intro x hx
    subst hx
    rfl
  exact h _ rfl
theorem grd_s {α : Type} (c : Prop) [Decidable c] (x : Option α) : grd c x = if c then x else none := by
  have h : ∀ y, y = x → grd c y = if c then x else none := by
    intro y hy
    subst hy
    rfl
  exact h _ rfl
/-! ===== it falls so or not; the next word; a turn ===== -/
def drw (v : Int32) : Int32 := (1664525 : Int32) * v + (1013904223 : Int32)
def drm (v : Int32) : Int32 := irem (iush v (8 : Int32)) (1000 : Int32)
theorem t_draw (M : zM) : f_X7_drawOf1000 1 M = some (drm (drw (M 1 5)), mset M 1 5 (drw (M 1 5))) := by
  unfold f_X7_drawOf1000
  simp only [nm_eq, mset_eq, upd_eq]
  rfl
theorem ix938 : ix (938 : Int32) = 938 := by decide +kernel
theorem t_draws (N : zM) : f_X11_draws (J 1000) N = some (drm (drw (N 259 938)), mset N 259 938 (drw (N 259 938))) := by
  unfold f_X11_draws
  simp only [nm_eq, mset_eq, upd_eq, ix938]
  rw [grd_t (show ¬ J 1000 = 0 by decide)]
  rfl
theorem s_falls {w : Nat} {M N : zM} {n m b k : Nat} (h : Dy M N n m b k) (ht : M 83 0 = N 257 6) (htb : M 83 0 = 0 ∨ M 83 0 = 1) (c : Int32) :
    ∃ u M' N', f_X1_falls c M = some (u, M') ∧ f_X11_falls c N = some (u, N') ∧ Sy w M N M' N' n m b k k ∧ (u = J 0 ∨ u = J 1) ∧ (∀ j, j ≠ 1 → M' j = M j) ∧ (∀ j, j ≠ 259 → N' j = N j) ∧ (∀ i, i ≠ 938 → N' 259 i = N 259 i) := by
  obtain ⟨z, rfl, l1, l2⟩ := J_ex c
  have e5 := h.1.2.1.2.2.2.2
  have id : Sy w M N M N n m b k k := Sy_sc h (fun _ _ _ => rfl) (fun _ _ _ => rfl)
  unfold f_X1_falls f_X11_falls
  rcases htb with t | t
  · have t' : M 83 0 = J 0 := t
    have t2 : N 257 6 = J 0 := by rw [← ht]; exact t'
    by_cases c1 : z ≤ 0
    · simp (disch := omega) only [↓nm_eq, ↓grd_if, ↓reduceIte, J_lit, J_nI, J_add, J_sub, J_mul, J_neg, Int.cast_ofNat_Int, J_lt_t, J_lt_f, J_le_t, J_le_f, J_eq_t, J_eq_f, within_t, within_f, isIn_t, isIn_f, inRow_t, inRow_f, isCell_t, isCell_f, inb_t, ix_Jn, ix_J, Int.reduceToNat, Int.toNat_natCast, mset_ne, mset_eq, mrow_ne, mrow_eq, upd_eq, upd_ne, bind_some, bnd2_some, not_true_eq_false, not_false_eq_true, Nat.reduceAdd, t', t2]
      exact ⟨_, _, _, rfl, rfl, id, Or.inl rfl, fun _ _ => rfl, fun _ _ => rfl, fun _ _ => rfl⟩
    · simp (disch := omega) only [↓nm_s, ↓grd_s, ↓reduceIte, J_lit, J_nI, J_add, J_sub, J_mul, J_neg, Int.cast_ofNat_Int, J_lt_t, J_lt_f, J_le_t, J_le_f, J_eq_t, J_eq_f, within_t, within_f, isIn_t, isIn_f, inRow_t, inRow_f, isCell_t, isCell_f, inb_t, ix_Jn, ix_J, Int.reduceToNat, Int.toNat_natCast, mset_ne, mset_eq, mrow_ne, mrow_eq, upd_eq, upd_ne, bind_s, bnd2_s, not_true_eq_false, not_false_eq_true, Nat.reduceAdd, t', t2, t_draw, t_draws]
      rw [e5]
      have hsy := Sy_hd (w := w) (c := 5) (r := 938) (drw (N 259 938)) h (Or.inr ⟨rfl, rfl⟩)
      generalize drw (N 259 938) = g at hsy ⊢
      generalize drm g = g2
      by_cases c2 : J z ≤ g2
      · simp only [c2, ↓reduceIte]
        exact ⟨_, _, _, rfl, rfl, hsy, Or.inl rfl, fun j hj => mset_ne hj, fun j hj => mset_ne hj, fun i hi => by simp (disch := omega) only [mset_ne, mset_eq, mrow_ne, mrow_eq, upd_eq, upd_ne]⟩
      · simp only [c2, ↓reduceIte]
        exact ⟨_, _, _, rfl, rfl, hsy, Or.inr rfl, fun j hj => mset_ne hj, fun j hj => mset_ne hj, fun i hi => by simp (disch := omega) only [mset_ne, mset_eq, mrow_ne, mrow_eq, upd_eq, upd_ne]⟩
  · have t' : M 83 0 = J 1 := t
    have t2 : N 257 6 = J 1 := by rw [← ht]; exact t'
    by_cases c1 : z < 500
    · by_cases c2 : z ≤ 0
      · simp (disch := omega) only [↓nm_eq, ↓grd_if, ↓reduceIte, J_lit, J_nI, J_add, J_sub, J_mul, J_neg, Int.cast_ofNat_Int, J_lt_t, J_lt_f, J_le_t, J_le_f, J_eq_t, J_eq_f, within_t, within_f, isIn_t, isIn_f, inRow_t, inRow_f, isCell_t, isCell_f, inb_t, ix_Jn, ix_J, Int.reduceToNat, Int.toNat_natCast, mset_ne, mset_eq, mrow_ne, mrow_eq, upd_eq, upd_ne, bind_some, bnd2_some, not_true_eq_false, not_false_eq_true, Nat.reduceAdd, t', t2]
        exact ⟨_, _, _, rfl, rfl, id, Or.inl rfl, fun _ _ => rfl, fun _ _ => rfl, fun _ _ => rfl⟩
      · simp (disch := omega) only [↓nm_eq, ↓grd_if, ↓reduceIte, J_lit, J_nI, J_add, J_sub, J_mul, J_neg, Int.cast_ofNat_Int, J_lt_t, J_lt_f, J_le_t, J_le_f, J_eq_t, J_eq_f, within_t, within_f, isIn_t, isIn_f, inRow_t, inRow_f, isCell_t, isCell_f, inb_t, ix_Jn, ix_J, Int.reduceToNat, Int.toNat_natCast, mset_ne, mset_eq, mrow_ne, mrow_eq, upd_eq, upd_ne, bind_some, bnd2_some, not_true_eq_false, not_false_eq_true, Nat.reduceAdd, t', t2]
        exact ⟨_, _, _, rfl, rfl, id, Or.inl rfl, fun _ _ => rfl, fun _ _ => rfl, fun _ _ => rfl⟩
    · simp (disch := omega) only [↓nm_eq, ↓grd_if, ↓reduceIte, J_lit, J_nI, J_add, J_sub, J_mul, J_neg, Int.cast_ofNat_Int, J_lt_t, J_lt_f, J_le_t, J_le_f, J_eq_t, J_eq_f, within_t, within_f, isIn_t, isIn_f, inRow_t, inRow_f, isCell_t, isCell_f, inb_t, ix_Jn, ix_J, Int.reduceToNat, Int.toNat_natCast, mset_ne, mset_eq, mrow_ne, mrow_eq, upd_eq, upd_ne, bind_some, bnd2_some, not_true_eq_false, not_false_eq_true, Nat.reduceAdd, t', t2]
      exact ⟨_, _, _, rfl, rfl, id, Or.inr rfl, fun _ _ => rfl, fun _ _ => rfl, fun _ _ => rfl⟩
theorem smA_mono {ρ : Nat → Int32} {w i j : Nat} (h : i ≤ j) : smA ρ w i ≤ smA ρ w j := by
  induction j with
  | zero => rw [show i = 0 by omega]; exact Nat.le_refl _
  | succ j ih =>
    by_cases e : i = j + 1
    · rw [e]; exact Nat.le_refl _
    · rw [smA]
      have := ih (by omega)
      omega
/-- the reference's next word -/
theorem t_nextR {N : zM} {w S L st dn : Nat} (hw : w < 16) (hL : L ≤ 12) (hS : S ≤ 20000) (e1 : N 259 (152 + 12 * w) = J S) (e2 : N 259 (1925 + 25 * w) = J L) (hA : ∀ i, i < L → N 259 (1927 + 25 * w + 2 * i) = J (amt (N 259) w i)) (hA2 : ∀ i, i < L → amt (N 259) w i ≤ 11) (hc : st < L ∧ dn < amt (N 259) w st ∧ S = smA (N 259) w st + dn ∨ st = L ∧ smA (N 259) w L ≤ S) :
    f_X11_nextWord (J w) N = some (if st < L then N 259 (1926 + 25 * w + 2 * st) else J 3) := by
  have hstL : st ≤ L := by omega
  have hge : ∀ i, i ≤ st → smA (N 259) w i ≤ S := by
    intro i hi
    have := smA_mono (ρ := N 259) (w := w) hi
    rcases hc with ⟨_, _, a⟩ | ⟨a, a2⟩
    · omega
    · subst a; omega
  have key : Wp (loopW (fun s => b_X11_nextWord_20 (J (1925 + 25 * (w : Int))) s.1 s.2 N) (J S, J 0)) (fun q => q = if st < L then .inr (N 259 (1926 + 25 * w + 2 * st)) else .inl ()) := by
    refine loop_up (fun k s => s = (J (S - smA (N 259) w k : Nat), J k)) st rfl ?_ ?_
    · rintro k s hk rfl
      unfold b_X11_nextWord_20
      have i0 : (1925 + 25 * (w : Int)).toNat = 1925 + 25 * w := by omega
      have i2 : (1925 + 25 * (w : Int) + 2 + 2 * (k : Int)).toNat = 1927 + 25 * w + 2 * k := by omega
      have h1 := hge (k + 1) (by omega)
      rw [smA] at h1
      have h2 := hA2 k (by omega)
      simp (disch := omega) only [↓nm_eq, ↓grd_if, ↓reduceIte, J_lit, J_nI, J_add, J_sub, J_mul, J_neg, Int.cast_ofNat_Int, J_lt_t, J_lt_f, J_le_t, J_le_f, J_eq_t, J_eq_f, within_t, within_f, isIn_t, isIn_f, inRow_t, inRow_f, isCell_t, isCell_f, inb_t, ix_Jn, ix_J, Int.reduceToNat, Int.toNat_natCast, mset_ne, mset_eq, mrow_ne, mrow_eq, upd_eq, upd_ne, bind_some, bnd2_some, not_true_eq_false, not_false_eq_true, Nat.reduceAdd, i0, i2, e2, hA k (by omega)]
      refine wp_some ?_
      refine pr2 ?_ rfl
      rw [smA]
      exact congrArg J (by omega)
    · rintro s rfl
      unfold b_X11_nextWord_20
      have i0 : (1925 + 25 * (w : Int)).toNat = 1925 + 25 * w := by omega
      rcases hc with ⟨a1, a2, a3⟩ | ⟨a1, a2⟩
      · have i2 : (1925 + 25 * (w : Int) + 2 + 2 * (st : Int)).toNat = 1927 + 25 * w + 2 * st := by omega
        have i1 : (1925 + 25 * (w : Int) + 1 + 2 * (st : Int)).toNat = 1926 + 25 * w + 2 * st := by omega
        have h2 := hA2 st a1
        simp (disch := omega) only [↓nm_eq, ↓grd_if, ↓reduceIte, J_lit, J_nI, J_add, J_sub, J_mul, J_neg, Int.cast_ofNat_Int, J_lt_t, J_lt_f, J_le_t, J_le_f, J_eq_t, J_eq_f, within_t, within_f, isIn_t, isIn_f, inRow_t, inRow_f, isCell_t, isCell_f, inb_t, ix_Jn, ix_J, Int.reduceToNat, Int.toNat_natCast, mset_ne, mset_eq, mrow_ne, mrow_eq, upd_eq, upd_ne, bind_some, bnd2_some, not_true_eq_false, not_false_eq_true, Nat.reduceAdd, i0, i1, i2, e2, hA st a1]
        refine wp_some ?_
        simp only [Sum.elim_inr, a1, if_true]
      · subst a1
        simp (disch := omega) only [↓nm_eq, ↓grd_if, ↓reduceIte, J_lit, J_nI, J_add, J_sub, J_mul, J_neg, Int.cast_ofNat_Int, J_lt_t, J_lt_f, J_le_t, J_le_f, J_eq_t, J_eq_f, within_t, within_f, isIn_t, isIn_f, inRow_t, inRow_f, isCell_t, isCell_f, inb_t, ix_Jn, ix_J, Int.reduceToNat, Int.toNat_natCast, mset_ne, mset_eq, mrow_ne, mrow_eq, upd_eq, upd_ne, bind_some, bnd2_some, not_true_eq_false, not_false_eq_true, Nat.reduceAdd, i0, e2]
        refine wp_some ?_
        simp only [Sum.elim_inr, Nat.lt_irrefl, if_false]
  obtain ⟨q, e, rfl⟩ := key
  unfold f_X11_nextWord
  simp (disch := omega) only [↓nm_eq, ↓grd_if, ↓reduceIte, J_lit, J_nI, J_add, J_sub, J_mul, J_neg, Int.cast_ofNat_Int, J_lt_t, J_lt_f, J_le_t, J_le_f, J_eq_t, J_eq_f, within_t, within_f, isIn_t, isIn_f, inRow_t, inRow_f, isCell_t, isCell_f, inb_t, ix_Jn, ix_J, Int.reduceToNat, Int.toNat_natCast, mset_ne, mset_eq, mrow_ne, mrow_eq, upd_eq, upd_ne, bind_some, bnd2_some, not_true_eq_false, not_false_eq_true, Nat.reduceAdd, th0, ts0, ta0, th1, ts1, ta1, th2, ts2, ta2, th3, ts3, ta3, th4, ts4, ta4, th5, ts5, ta5, th6, ts6, ta6, th7, ts7, ta7, th8, ts8, ta8, th9, ts9, ta9, th10, ts10, ta10, th11, ts11, ta11, e1]
  rw [e]
  by_cases c : st < L
  · simp only [c, if_true]
    rfl
  · simp only [c, if_false]
    rfl
theorem amt_J {ρ : Nat → Int32} {w i A : Nat} (h : ρ (1927 + 25 * w + 2 * i) = J A) (hA : A ≤ 11) : amt ρ w i = A := by
  unfold amt
  rw [h, J_toInt (by omega) (by omega)]
  omega
theorem s_next {w : Nat} {M N : zM} {n m b k : Nat} (h : Dy M N n m b k) (hw : w < n) (hin : M (4 + w) 1 = 1) (hs : WkR (M (4 + w)) (N 259) w m) (hb : m + 1 ≤ b) :
    ∃ u v M', f_X8_nextWord 40 (J w) (4 + w) M = some (u, M') ∧ f_X11_nextWord (J w) N = some v ∧ WdR u v ∧ Sy w M N M' (mset N 259 (152 + 12 * w) (N 259 (152 + 12 * w) + J 1)) n m b k k ∧ (∀ j, j ≠ 4 + w → M' j = M j) ∧ (∀ i, i ≠ 8 → i ≠ 9 → M' (4 + w) i = M (4 + w) i) := by
  have h1 := h.1
  have hn := h1.1.1
  have hm := h1.1.2.1
  obtain ⟨w0, w1, wb, w10, w11, w12, win⟩ := hs
  obtain ⟨h2, h3, h4, h5, h6, h7, lx, ly, lf, ls, st, dn, S, L, s8, s9, sS, sm, sL, sL2, sc⟩ := win hin
  obtain ⟨L', y1, y2, y3, y4⟩ := h.2.1.2.2.1 w (by omega)
  have eL : L' = L := by
    rw [sL] at y3
    have := (J_eq (by omega) (by omega) (by omega) (by omega)).mp y3
    omega
  subst eL
  have hA : ∀ i, i < L' → ∃ A : Nat, 1 ≤ A ∧ A ≤ 11 ∧ N 259 (1927 + 25 * w + 2 * i) = J A ∧ amt (N 259) w i = A := by
    intro i hi
    obtain ⟨_, _, A, q1, q2, q3⟩ := y4 i hi
    exact ⟨A, q1, q2, q3, amt_J q3 q2⟩
  have hR := t_nextR (N := N) (w := w) (S := S) (L := L') (st := st) (dn := dn) (by omega) sL2 (by omega) sS sL (fun i hi => by obtain ⟨A, _, _, q3, q4⟩ := hA i hi; rw [q3, q4]) (fun i hi => by obtain ⟨A, _, q2, _, q4⟩ := hA i hi; rw [q4]; exact q2) sc
  -- what is left of the walker
  have wk : ∀ M' : zM, ∀ st' dn' : Nat, M' (4 + w) 8 = J st' → M' (4 + w) 9 = J dn' → (∀ j, j ≠ 4 + w → M' j = M j) → (∀ i, i ≠ 8 → i ≠ 9 → M' (4 + w) i = M (4 + w) i) → (st' < L' ∧ dn' < amt (N 259) w st' ∧ S + 1 = smA (N 259) w st' + dn' ∨ st' = L' ∧ smA (N 259) w L' ≤ S + 1) → Sy w M N M' (mset N 259 (152 + 12 * w) (N 259 (152 + 12 * w) + J 1)) n m b k k := by
    intro M' st' dn' q1 q2 q3 q4 q5
    refine Sy_wk h hw q3 (fun j hj => mset_ne hj) (fun i hi => by simp (disch := omega) only [mset_ne, mset_eq, mrow_ne, mrow_eq, upd_eq, upd_ne]) (by simp (disch := omega) only [mset_ne, mset_eq, mrow_ne, mrow_eq, upd_eq, upd_ne]) ?_ (Ds_same h1 hw (q4 1 (by omega) (by omega)) (q4 2 (by omega) (by omega)) (q4 3 (by omega) (by omega)))
    have hro : ∀ i, 1925 ≤ i → i < 2325 → mset N 259 (152 + 12 * w) (N 259 (152 + 12 * w) + J 1) 259 i = N 259 i := fun i _ _ => by simp (disch := omega) only [mset_ne, mset_eq, mrow_ne, mrow_eq, upd_eq, upd_ne]
    refine ⟨?_, ?_, ?_, ?_, ?_, ?_, fun _ => ⟨?_, ?_, ?_, ?_, ?_, ?_, ?_, ?_, ?_, ?_, st', dn', S + 1, L', q1, q2, ?_, by omega, ?_, sL2, ?_⟩⟩
    · rw [q4 0 (by omega) (by omega)]; simp (disch := omega) only [mset_ne, mset_eq, mrow_ne, mrow_eq, upd_eq, upd_ne]; exact w0
    · rw [q4 1 (by omega) (by omega)]; simp (disch := omega) only [mset_ne, mset_eq, mrow_ne, mrow_eq, upd_eq, upd_ne]; exact w1
    · rw [q4 1 (by omega) (by omega)]; exact wb
    · rw [q4 10 (by omega) (by omega)]; simp (disch := omega) only [mset_ne, mset_eq, mrow_ne, mrow_eq, upd_eq, upd_ne]; exact w10
    · rw [q4 11 (by omega) (by omega)]; simp (disch := omega) only [mset_ne, mset_eq, mrow_ne, mrow_eq, upd_eq, upd_ne]; exact w11
    · rw [q4 12 (by omega) (by omega)]; simp (disch := omega) only [mset_ne, mset_eq, mrow_ne, mrow_eq, upd_eq, upd_ne]; exact w12
    · rw [q4 2 (by omega) (by omega)]; simp (disch := omega) only [mset_ne, mset_eq, mrow_ne, mrow_eq, upd_eq, upd_ne]; exact h2
    · rw [q4 3 (by omega) (by omega)]; simp (disch := omega) only [mset_ne, mset_eq, mrow_ne, mrow_eq, upd_eq, upd_ne]; exact h3
    · rw [q4 4 (by omega) (by omega)]; simp (disch := omega) only [mset_ne, mset_eq, mrow_ne, mrow_eq, upd_eq, upd_ne]; exact h4
    · rw [q4 5 (by omega) (by omega)]; simp (disch := omega) only [mset_ne, mset_eq, mrow_ne, mrow_eq, upd_eq, upd_ne]; exact h5
    · rw [q4 6 (by omega) (by omega)]; simp (disch := omega) only [mset_ne, mset_eq, mrow_ne, mrow_eq, upd_eq, upd_ne]; exact h6
    · rw [q4 7 (by omega) (by omega)]; simp (disch := omega) only [mset_ne, mset_eq, mrow_ne, mrow_eq, upd_eq, upd_ne]; exact h7
    · rw [q4 2 (by omega) (by omega)]; exact lx
    · rw [q4 3 (by omega) (by omega)]; exact ly
    · rw [q4 4 (by omega) (by omega)]; exact lf
    · rw [q4 7 (by omega) (by omega)]; exact ls
    · simp (disch := omega) only [mset_ne, mset_eq, mrow_ne, mrow_eq, upd_eq, upd_ne]
      rw [sS, J_add]
      exact congrArg J (by omega)
    · simp (disch := omega) only [mset_ne, mset_eq, mrow_ne, mrow_eq, upd_eq, upd_ne]
      exact sL
    · rw [smA_ro hro (by omega) sL2]
      rcases q5 with ⟨a1, a2, a3⟩ | a
      · left
        rw [amt_ro hro (by omega) (by omega), smA_ro hro (by omega) (by omega)]
        exact ⟨a1, a2, a3⟩
      · right
        exact a
  have e49 : M 49 w = J L' := y2
  rcases sc with ⟨a1, a2, a3⟩ | ⟨a1, a2⟩
  · obtain ⟨A, q1, q2, q3, q4⟩ := hA st a1
    obtain ⟨d1, d2, _⟩ := y4 st a1
    have d2' : M 51 (12 * w + st) = J A := by rw [← q3]; exact d2
    have iw : (12 * (w : Int) + (st : Int)).toNat = 12 * w + st := by omega
    rw [if_pos a1] at hR
    by_cases c : dn + 1 < A
    · refine ⟨M 50 (12 * w + st), _, mset M (4 + w) 9 (J (dn + 1 : Nat)), ?_, hR, d1, ?_, fun j hj => mset_ne hj, fun i _ hi => by simp (disch := omega) only [mset_ne, mset_eq, mrow_ne, mrow_eq, upd_eq, upd_ne]⟩
      · unfold f_X8_nextWord j_X8_nextWord_65
        simp (disch := omega) only [↓nm_eq, ↓grd_if, ↓reduceIte, J_lit, J_nI, J_add, J_sub, J_mul, J_neg, Int.cast_ofNat_Int, J_lt_t, J_lt_f, J_le_t, J_le_f, J_eq_t, J_eq_f, within_t, within_f, isIn_t, isIn_f, inRow_t, inRow_f, isCell_t, isCell_f, inb_t, ix_Jn, ix_J, Int.reduceToNat, Int.toNat_natCast, mset_ne, mset_eq, mrow_ne, mrow_eq, upd_eq, upd_ne, bind_some, bnd2_some, not_true_eq_false, not_false_eq_true, Nat.reduceAdd, s8, s9, e49, iw, d2']
        rfl
      · refine wk _ st (dn + 1) ?_ ?_ (fun j hj => mset_ne hj) (fun i _ hi => by simp (disch := omega) only [mset_ne, mset_eq, mrow_ne, mrow_eq, upd_eq, upd_ne]) (Or.inl ⟨a1, by omega, by omega⟩)
        · simp (disch := omega) only [mset_ne, mset_eq, mrow_ne, mrow_eq, upd_eq, upd_ne]
          exact s8
        · simp (disch := omega) only [mset_ne, mset_eq, mrow_ne, mrow_eq, upd_eq, upd_ne]
    · refine ⟨M 50 (12 * w + st), _, mset (mset (mset M (4 + w) 9 (J (dn + 1 : Nat))) (4 + w) 8 (J (st + 1 : Nat))) (4 + w) 9 (J 0), ?_, hR, d1, ?_, fun j hj => by simp (disch := omega) only [mset_ne, mset_eq, mrow_ne, mrow_eq, upd_eq, upd_ne], fun i hi hi2 => by simp (disch := omega) only [mset_ne, mset_eq, mrow_ne, mrow_eq, upd_eq, upd_ne]⟩
      · unfold f_X8_nextWord j_X8_nextWord_65
        simp (disch := omega) only [↓nm_eq, ↓grd_if, ↓reduceIte, J_lit, J_nI, J_add, J_sub, J_mul, J_neg, Int.cast_ofNat_Int, J_lt_t, J_lt_f, J_le_t, J_le_f, J_eq_t, J_eq_f, within_t, within_f, isIn_t, isIn_f, inRow_t, inRow_f, isCell_t, isCell_f, inb_t, ix_Jn, ix_J, Int.reduceToNat, Int.toNat_natCast, mset_ne, mset_eq, mrow_ne, mrow_eq, upd_eq, upd_ne, bind_some, bnd2_some, not_true_eq_false, not_false_eq_true, Nat.reduceAdd, s8, s9, e49, iw, d2']
        rfl
      · refine wk _ (st + 1) 0 ?_ ?_ (fun j hj => by simp (disch := omega) only [mset_ne, mset_eq, mrow_ne, mrow_eq, upd_eq, upd_ne]) (fun i hi hi2 => by simp (disch := omega) only [mset_ne, mset_eq, mrow_ne, mrow_eq, upd_eq, upd_ne]) ?_
        · simp (disch := omega) only [mset_ne, mset_eq, mrow_ne, mrow_eq, upd_eq, upd_ne]
        · simp (disch := omega) only [mset_ne, mset_eq, mrow_ne, mrow_eq, upd_eq, upd_ne]
          rfl
        · by_cases c2 : st + 1 < L'
          · left
            obtain ⟨A2, r1, r2, r3, r4⟩ := hA (st + 1) c2
            refine ⟨c2, by omega, ?_⟩
            rw [smA]
            omega
          · right
            have : L' = st + 1 := by omega
            subst this
            refine ⟨rfl, ?_⟩
            rw [smA]
            omega
  · subst a1
    rw [if_neg (Nat.lt_irrefl _)] at hR
    refine ⟨J 150, J 3, M, ?_, hR, Or.inl ⟨rfl, rfl⟩, ?_, fun _ _ => rfl, fun _ _ _ => rfl⟩
    · unfold f_X8_nextWord
      simp (disch := omega) only [↓nm_eq, ↓grd_if, ↓reduceIte, J_lit, J_nI, J_add, J_sub, J_mul, J_neg, Int.cast_ofNat_Int, J_lt_t, J_lt_f, J_le_t, J_le_f, J_eq_t, J_eq_f, within_t, within_f, isIn_t, isIn_f, inRow_t, inRow_f, isCell_t, isCell_f, inb_t, ix_Jn, ix_J, Int.reduceToNat, Int.toNat_natCast, mset_ne, mset_eq, mrow_ne, mrow_eq, upd_eq, upd_ne, bind_some, bnd2_some, not_true_eq_false, not_false_eq_true, Nat.reduceAdd, s8, e49]
    · exact wk M st dn s8 s9 (fun _ _ => rfl) (fun _ _ _ => rfl) (Or.inr ⟨rfl, by omega⟩)
