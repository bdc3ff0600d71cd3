/-! ===== pigeons: the reference's flocks ===== -/
def Fl (g : Nat → Int32) (B : zM) (l : Nat → Nat) : Prop := ∀ c, c < 144 → (g c = J 1 ∧ B 280 c = J (-1)) ∨ (¬ g c = J 1 ∧ B 280 c = J (l c) ∧ l c ≤ c ∧ ¬ g (l c) = J 1 ∧ ∃ n, Rch (onw g) 4 (l c) n c)
def smN (f : Nat → Nat) : Nat → Nat
  | 0 => 0
  | n + 1 => smN f n + f n
theorem smN_up {f : Nat → Nat} {j v : Nat} : ∀ n, j < n → v < f j → smN (upN f j v) n < smN f n := by
  intro n
  induction n with
  | zero => intro h; omega
  | succ n ih =>
    intro hj hv
    simp only [smN]
    by_cases e : j = n
    · subst e
      rw [upN_eq]
      have : ∀ m, m ≤ j → smN (upN f j v) m = smN f m := by
        intro m
        induction m with
        | zero => intro _; rfl
        | succ m ih2 =>
          intro hm
          simp only [smN]
          rw [ih2 (by omega), upN_ne (by omega)]
      rw [this j (Nat.le_refl _)]
      omega
    · rw [upN_ne (fun h => e h.symm)]
      have := ih (by omega) hv
      omega
def FlR (B0 : zM) (g : Nat → Int32) (l0 : Nat → Nat) (k : Nat) (s : Int32 × zM) : Prop :=
  (∀ j, j ≠ 280 → s.2 j = B0 j) ∧ ∃ l, Fl g s.2 l ∧ ((s.1 = J 0 ∧ l = l0 ∧ s.2 = B0 ∧ ∀ c f d, 4 * c + f < k → f < 4 → ¬ g c = J 1 → onw g c f = some d → l c ≤ l d) ∨ (s.1 = J 1 ∧ smN l 144 < smN l0 144))
theorem p_flsweep {B0 : zM} {l0 : Nat → Nat} (h : Fl (B0 258) B0 l0) :
    Wp (loopW (fun s => b_X11_layFlocks_46_38 s.1 s.2.1 s.2.2) (J 0, J 0, B0)) (fun q => FlR B0 (B0 258) l0 576 q) := by
  refine loop_up (fun k s => s.2.1 = J k ∧ FlR B0 (B0 258) l0 k (s.1, s.2.2)) 576 ⟨rfl, fun _ _ => rfl, l0, h, Or.inl ⟨rfl, rfl, rfl, fun c f d hk => by omega⟩⟩ ?_ ?_
  · rintro k ⟨s1, s2, B⟩ hk ⟨e1, e2, l, e3, e4⟩
    simp only at e1 e2 e3 e4
    subst e1
    obtain ⟨c, f, hf, rfl⟩ : ∃ c f : Nat, f < 4 ∧ k = 4 * c + f := ⟨k / 4, k % 4, by omega, by omega⟩
    have hc : c < 144 := by omega
    have i1 : J ((4 * c + f : Nat) : Int) / J 4 = J (c : Int) := by rw [J_div (by omega) (by omega) (by omega) (by omega)]; exact congrArg J (by omega)
    have i2 : irem (J ((4 * c + f : Nat) : Int)) (J 4) = J (f : Int) := by rw [J_rem (by omega) (by omega) (by omega) (by omega)]; exact congrArg J (by omega)
    have b258 : B 258 = B0 258 := e2 258 (by decide)
    -- nothing is changed
    have stay : (¬ B0 258 c = J 1 → ∀ d, onw (B0 258) c f = some d → l c ≤ l d) → FlR B0 (B0 258) l0 (4 * c + f + 1) (s1, B) := by
      intro hs
      refine ⟨e2, l, e3, ?_⟩
      rcases e4 with ⟨a1, a2, a3, a4⟩ | e4
      · refine Or.inl ⟨a1, a2, a3, fun c' f' d hk' hf' hg hd => ?_⟩
        by_cases e : 4 * c' + f' = 4 * c + f
        · have : c' = c := by omega
          have : f' = f := by omega
          subst c' f'
          exact hs hg d hd
        · exact a4 c' f' d (by omega) hf' hg hd
      · exact Or.inr e4
    unfold b_X11_layFlocks_46_38 j_X11_layFlocks_80_38_46 j_X11_layFlocks_122_38_46
    by_cases cs : B0 258 c = J 1
    · simp (disch := omega) only [↓nm_s, ↓grd_s, ↓reduceIte, J_lit, J_neg, Int.cast_ofNat_Int, J_lt_t, J_lt_f, J_le_t, J_le_f, J_eq_t, J_eq_f, within_t, within_f, isIn_t, isIn_f, inRow_t, inRow_f, isCell_t, isCell_f, inb_t, ix_Jn, ix_J, Int.reduceToNat, Int.toNat_natCast, i1, i2, b258, cs]
      exact wp_some ⟨J_s _, stay (fun h => absurd cs h)⟩
    · have ho := t_onBy (B := B) (f := f) hc hf
      rw [b258] at ho
      cases hon : onw (B0 258) c f with
      | none =>
        rw [hon] at ho
        simp only [onJ] at ho
        simp (disch := omega) only [↓nm_s, ↓grd_s, ↓reduceIte, J_lit, J_neg, Int.cast_ofNat_Int, J_lt_t, J_lt_f, J_le_t, J_le_f, J_eq_t, J_eq_f, within_t, within_f, isIn_t, isIn_f, inRow_t, inRow_f, isCell_t, isCell_f, inb_t, ix_Jn, ix_J, Int.reduceToNat, Int.toNat_natCast, i1, i2, b258, cs, ho, bind_s]
        exact wp_some ⟨J_s _, stay (fun _ d hd => by rw [hon] at hd; exact absurd hd (by simp))⟩
      | some d =>
        rw [hon] at ho
        simp only [onJ] at ho
        obtain ⟨d1, d2⟩ := onw_lt hc hf hon
        rcases e3 c hc with ⟨q, _⟩ | ⟨q1, q2, q3, q4, n1, q5⟩
        · exact absurd q cs
        rcases e3 d d1 with ⟨q, _⟩ | ⟨r1, r2, r3, r4, n2, r5⟩
        · exact absurd q d2
        by_cases cl : l d < l c
        · simp (disch := omega) only [↓nm_s, ↓grd_s, ↓reduceIte, J_lit, J_neg, Int.cast_ofNat_Int, J_lt_t, J_lt_f, J_le_t, J_le_f, J_eq_t, J_eq_f, within_t, within_f, isIn_t, isIn_f, inRow_t, inRow_f, isCell_t, isCell_f, inb_t, ix_Jn, ix_J, Int.reduceToNat, Int.toNat_natCast, i1, i2, b258, cs, ho, bind_s, q2, r2]
          have hsm := smN_up (f := l) (j := c) (v := l d) 144 hc cl
          refine wp_some ⟨J_s _, fun j hj => ?_, upN l c (l d), ?_, Or.inr ⟨rfl, ?_⟩⟩
          · simp (disch := omega) only [mset_ne, mset_eq, mrow_ne, mrow_eq, upd_eq, upd_ne]
            exact e2 j hj
          · intro c' hc'
            by_cases e : c' = c
            · subst e
              right
              rw [upN_eq]
              refine ⟨q1, by simp (disch := omega) only [mset_ne, mset_eq, mrow_ne, mrow_eq, upd_eq, upd_ne], by omega, r4, n2 + 1, Or.inr ⟨d, (f + 2) % 4, Nat.mod_lt _ (by decide), r5, onw_bk hc cs hf hon⟩⟩
            · rcases e3 c' hc' with ⟨u1, u2⟩ | ⟨u1, u2, u3⟩
              · left
                exact ⟨u1, by simp (disch := omega) only [mset_ne, mset_eq, mrow_ne, mrow_eq, upd_eq, upd_ne]; exact u2⟩
              · right
                rw [upN_ne e]
                exact ⟨u1, by simp (disch := omega) only [mset_ne, mset_eq, mrow_ne, mrow_eq, upd_eq, upd_ne]; exact u2, u3⟩
          · rcases e4 with ⟨a1, a2, a3, a4⟩ | e4
            · rw [← a2]; exact hsm
            · omega
        · simp (disch := omega) only [↓nm_s, ↓grd_s, ↓reduceIte, J_lit, J_neg, Int.cast_ofNat_Int, J_lt_t, J_lt_f, J_le_t, J_le_f, J_eq_t, J_eq_f, within_t, within_f, isIn_t, isIn_f, inRow_t, inRow_f, isCell_t, isCell_f, inb_t, ix_Jn, ix_J, Int.reduceToNat, Int.toNat_natCast, i1, i2, b258, cs, ho, bind_s, q2, r2]
          refine wp_some ⟨J_s _, stay (fun _ d' hd => ?_)⟩
          rw [hon] at hd
          have := Option.some.inj hd
          subst this
          omega
  · rintro ⟨s1, s2, B⟩ ⟨e1, e2⟩
    simp only at e1 e2
    subst e1
    unfold b_X11_layFlocks_46_38
    simp (disch := omega) only [↓reduceIte, J_lit, Int.cast_ofNat_Int, J_lt_t, J_lt_f, J_le_t, J_le_f, J_eq_t, J_eq_f, within_t, within_f, isIn_t, isIn_f, inRow_t, inRow_f, isCell_t, isCell_f, inb_t]
    exact wp_some e2
/-- handed on until nothing is less -/
theorem p_flocks (N : zM) : Wp (f_X11_layFlocks N) (fun B => (∀ j, j ≠ 280 → B j = N j) ∧ ∃ l, Fl (N 258) B l ∧ ∀ c f d, c < 144 → f < 4 → ¬ N 258 c = J 1 → onw (N 258) c f = some d → l c ≤ l d) := by
  have beg : Wp (loopW (fun s => b_X11_layFlocks_2 s.1 s.2) (J 0, N)) (fun B => (∀ j, j ≠ 280 → B j = N j) ∧ Fl (N 258) B (fun c => c)) := by
    refine loop_up (fun k s => s.1 = J k ∧ (∀ j, j ≠ 280 → s.2 j = N j) ∧ ∀ c, c < k → (N 258 c = J 1 ∧ s.2 280 c = J (-1)) ∨ (¬ N 258 c = J 1 ∧ s.2 280 c = J c)) 144 ⟨rfl, fun _ _ => rfl, fun c h => by omega⟩ ?_ ?_
    · rintro k ⟨s1, B⟩ hk ⟨e1, e2, e3⟩
      simp only at e1 e2 e3
      subst e1
      have b258 : B 258 = N 258 := e2 258 (by decide)
      unfold b_X11_layFlocks_2 j_X11_layFlocks_29_2
      by_cases cs : N 258 k = J 1
      · simp (disch := omega) only [↓nm_s, ↓grd_s, ↓reduceIte, J_lit, J_neg, Int.cast_ofNat_Int, J_lt_t, J_lt_f, J_le_t, J_le_f, J_eq_t, J_eq_f, within_t, within_f, isIn_t, isIn_f, inRow_t, inRow_f, isCell_t, isCell_f, inb_t, ix_Jn, ix_J, Int.reduceToNat, Int.toNat_natCast, b258, cs]
        refine wp_some ⟨J_s _, fun j hj => by simp (disch := omega) only [mset_ne, mset_eq, mrow_ne, mrow_eq, upd_eq, upd_ne]; exact e2 j hj, fun c hc => ?_⟩
        by_cases e : c = k
        · subst e
          exact Or.inl ⟨cs, by simp (disch := omega) only [mset_ne, mset_eq, mrow_ne, mrow_eq, upd_eq, upd_ne]⟩
        · rcases e3 c (by omega) with ⟨u1, u2⟩ | ⟨u1, u2⟩
          · exact Or.inl ⟨u1, by simp (disch := omega) only [mset_ne, mset_eq, mrow_ne, mrow_eq, upd_eq, upd_ne]; exact u2⟩
          · exact Or.inr ⟨u1, by simp (disch := omega) only [mset_ne, mset_eq, mrow_ne, mrow_eq, upd_eq, upd_ne]; exact u2⟩
      · simp (disch := omega) only [↓nm_s, ↓grd_s, ↓reduceIte, J_lit, J_neg, Int.cast_ofNat_Int, J_lt_t, J_lt_f, J_le_t, J_le_f, J_eq_t, J_eq_f, within_t, within_f, isIn_t, isIn_f, inRow_t, inRow_f, isCell_t, isCell_f, inb_t, ix_Jn, ix_J, Int.reduceToNat, Int.toNat_natCast, b258, cs]
        refine wp_some ⟨J_s _, fun j hj => by simp (disch := omega) only [mset_ne, mset_eq, mrow_ne, mrow_eq, upd_eq, upd_ne]; exact e2 j hj, fun c hc => ?_⟩
        by_cases e : c = k
        · subst e
          exact Or.inr ⟨cs, by simp (disch := omega) only [mset_ne, mset_eq, mrow_ne, mrow_eq, upd_eq, upd_ne]⟩
        · rcases e3 c (by omega) with ⟨u1, u2⟩ | ⟨u1, u2⟩
          · exact Or.inl ⟨u1, by simp (disch := omega) only [mset_ne, mset_eq, mrow_ne, mrow_eq, upd_eq, upd_ne]; exact u2⟩
          · exact Or.inr ⟨u1, by simp (disch := omega) only [mset_ne, mset_eq, mrow_ne, mrow_eq, upd_eq, upd_ne]; exact u2⟩
    · rintro ⟨s1, B⟩ ⟨e1, e2, e3⟩
      simp only at e1 e2 e3
      subst e1
      unfold b_X11_layFlocks_2
      simp (disch := omega) only [↓reduceIte, J_lit, Int.cast_ofNat_Int, J_lt_t, J_lt_f, J_le_t, J_le_f, J_eq_t, J_eq_f, within_t, within_f, isIn_t, isIn_f, inRow_t, inRow_f, isCell_t, isCell_f, inb_t]
      refine wp_some ⟨e2, fun c hc => ?_⟩
      rcases e3 c hc with u | ⟨u1, u2⟩
      · exact Or.inl u
      · exact Or.inr ⟨u1, u2, Nat.le_refl _, u1, 0, rfl⟩
  unfold f_X11_layFlocks j_X11_layFlocks_36 j_X11_layFlocks_131
  refine wp_bind (wp_mono beg ?_)
  rintro B1 ⟨b1, b2⟩
  refine wp_bind ?_
  refine wp_mono (P := fun B => (∀ j, j ≠ 280 → B j = N j) ∧ ∃ l, Fl (N 258) B l ∧ ∀ c f d, c < 144 → f < 4 → ¬ N 258 c = J 1 → onw (N 258) c f = some d → l c ≤ l d) ?_ (fun B hB => wp_some hB)
  have key : ∀ n (s : Int32 × zM) (l : Nat → Nat), smN l 144 ≤ n → (∀ j, j ≠ 280 → s.2 j = N j) → Fl (N 258) s.2 l → (s.1 = J 1 ∨ s.1 = J 0 ∧ ∀ c f d, c < 144 → f < 4 → ¬ N 258 c = J 1 → onw (N 258) c f = some d → l c ≤ l d) → Wp (loopW (fun s => b_X11_layFlocks_38 s.1 s.2) s) (fun B => (∀ j, j ≠ 280 → B j = N j) ∧ ∃ l, Fl (N 258) B l ∧ ∀ c f d, c < 144 → f < 4 → ¬ N 258 c = J 1 → onw (N 258) c f = some d → l c ≤ l d) := by
    have fin : ∀ (B : zM) (l : Nat → Nat), (∀ j, j ≠ 280 → B j = N j) → Fl (N 258) B l → (∀ c f d, c < 144 → f < 4 → ¬ N 258 c = J 1 → onw (N 258) c f = some d → l c ≤ l d) → Wp (loopW (fun s => b_X11_layFlocks_38 s.1 s.2) (J 0, B)) (fun B => (∀ j, j ≠ 280 → B j = N j) ∧ ∃ l, Fl (N 258) B l ∧ ∀ c f d, c < 144 → f < 4 → ¬ N 258 c = J 1 → onw (N 258) c f = some d → l c ≤ l d) := by
      intro B l h1 h2 h3
      refine wp_eq (a := B) ?_ ⟨h1, l, h2, h3⟩
      rw [loopW_eq]
      unfold b_X11_layFlocks_38
      simp (disch := omega) only [↓reduceIte, J_lit, Int.cast_ofNat_Int, J_lt_t, J_lt_f, J_le_t, J_le_f, J_eq_t, J_eq_f, within_t, within_f, isIn_t, isIn_f, inRow_t, inRow_f, isCell_t, isCell_f, inb_t]
    intro n
    induction n with
    | zero =>
      rintro ⟨s1, B⟩ l hn h1 h2 h3
      simp only at h1 h2 h3
      rcases h3 with rfl | ⟨rfl, h3⟩
      · obtain ⟨⟨q, B2⟩, g1, g2, l2, g3, g4⟩ := p_flsweep (B0 := B) (l0 := l) (by rw [h1 258 (by decide)]; exact h2)
        simp only at g2 g3 g4
        rw [h1 258 (by decide)] at g3 g4
        rcases g4 with ⟨rfl, rfl, rfl, a4⟩ | ⟨_, g4⟩
        · obtain ⟨B3, z1, z2⟩ := fin B2 l2 h1 g3 (fun c f d hc hf => a4 c f d (by omega) hf)
          refine ⟨B3, ?_, z2⟩
          rw [loopW_eq]
          unfold b_X11_layFlocks_38 j_X11_layFlocks_128_38
          simp (disch := omega) only [↓reduceIte, J_lit, Int.cast_ofNat_Int, J_lt_t, J_lt_f, J_le_t, J_le_f, J_eq_t, J_eq_f, within_t, within_f, isIn_t, isIn_f, inRow_t, inRow_f, isCell_t, isCell_f, inb_t, g1, bind_s]
          exact z1
        · omega
      · exact fin B l h1 h2 h3
    | succ n ih =>
      rintro ⟨s1, B⟩ l hn h1 h2 h3
      simp only at h1 h2 h3
      rcases h3 with rfl | ⟨rfl, h3⟩
      · obtain ⟨⟨q, B2⟩, g1, g2, l2, g3, g4⟩ := p_flsweep (B0 := B) (l0 := l) (by rw [h1 258 (by decide)]; exact h2)
        simp only at g2 g3 g4
        rw [h1 258 (by decide)] at g3 g4
        have : Wp (loopW (fun s => b_X11_layFlocks_38 s.1 s.2) (q, B2)) (fun B => (∀ j, j ≠ 280 → B j = N j) ∧ ∃ l, Fl (N 258) B l ∧ ∀ c f d, c < 144 → f < 4 → ¬ N 258 c = J 1 → onw (N 258) c f = some d → l c ≤ l d) := by
          rcases g4 with ⟨rfl, rfl, rfl, a4⟩ | ⟨rfl, g4⟩
          · exact fin B2 l2 h1 g3 (fun c f d hc hf => a4 c f d (by omega) hf)
          · exact ih (J 1, B2) l2 (by omega) (fun j hj => (g2 j hj).trans (h1 j hj)) g3 (Or.inl rfl)
        obtain ⟨B3, z1, z2⟩ := this
        refine ⟨B3, ?_, z2⟩
        rw [loopW_eq]
        unfold b_X11_layFlocks_38 j_X11_layFlocks_128_38
        simp (disch := omega) only [↓reduceIte, J_lit, Int.cast_ofNat_Int, J_lt_t, J_lt_f, J_le_t, J_le_f, J_eq_t, J_eq_f, within_t, within_f, isIn_t, isIn_f, inRow_t, inRow_f, isCell_t, isCell_f, inb_t, g1, bind_s]
        exact z1
      · exact fin B l h1 h2 h3
  exact key (smN (fun c => c) 144) (J 1, B1) _ (Nat.le_refl _) b1 b2 (Or.inl rfl)
