/-! ===== far with turns: the class ===== -/
theorem t_nei1 {A : zM} {f c : Nat} (hf : f < 4) (hc : c < 144) : f_X2_neighbour (J ((144 * f + c : Nat) : Int)) (J 1) A = some (J ((144 * ((f + 1) % 4) + c : Nat) : Int)) ∧ f_X2_neighbour (J ((144 * f + c : Nat) : Int)) (J 2) A = some (J ((144 * ((f + 3) % 4) + c : Nat) : Int)) := by
  have q1 : (144 * f + c) / 144 = f := by omega
  have q2 : (144 * f + c) % 144 = c := by omega
  have h1 := t_neigh (A := A) (u := 144 * f + c) (k := 1) (by omega) (by omega)
  have h2 := t_neigh (A := A) (u := 144 * f + c) (k := 2) (by omega) (by omega)
  unfold nxS at h1 h2
  simp only [onJ, q1, q2] at h1 h2
  exact ⟨h1, h2⟩
theorem LN89 : LN 89 = 576 := by decide +kernel
theorem p_turnOnce {A : zM} {T : Nat → Nat → Nat} {m : Nat} (hm : m ≤ 200) (hB : Bd m T) (hE : EnC A T) : Wp (f_X2_turnOnce A) (fun A' => EnC A' (tuN T) ∧ ∀ j, j ≠ 88 → j ≠ 89 → A' j = A j) := by
  unfold f_X2_turnOnce j_X2_turnOnce_46
  refine wp_bind ?_
  refine wp_mono (P := fun A' => (∀ f c, f < 4 → c < 144 → A' 89 (144 * f + c) = J (e6 (tuN T f c))) ∧ ∀ j, j ≠ 89 → A' j = A j) ?_ ?_
  · refine loop_up (fun k s => s.1 = J k ∧ (∀ f c, f < 4 → c < 144 → 144 * f + c < k → s.2 89 (144 * f + c) = J (e6 (tuN T f c))) ∧ ∀ j, j ≠ 89 → s.2 j = A j) 576 ⟨rfl, fun f c _ _ h => by omega, fun _ _ => rfl⟩ ?_ ?_
    · rintro k ⟨s1, A1⟩ hk ⟨e1, e2, e3⟩
      simp only at e1 e2 e3
      subst e1
      obtain ⟨f, c, hf, hc, rfl⟩ : ∃ f c : Nat, f < 4 ∧ c < 144 ∧ k = 144 * f + c := ⟨k / 144, k % 144, by omega, by omega, by omega⟩
      obtain ⟨n1, n2⟩ := t_nei1 (A := A1) hf hc
      have f1 : (f + 1) % 4 < 4 := Nat.mod_lt _ (by decide)
      have f3 : (f + 3) % 4 < 4 := Nat.mod_lt _ (by decide)
      have a1 := hE _ c f1 hc
      have a2 := hE _ c f3 hc
      have b1 := hB _ c f1 hc
      have b2 := hB _ c f3 hc
      have a88 : A1 88 = A 88 := e3 88 (by decide)
      have tu : tuN T f c = min (T ((f + 1) % 4) c) (T ((f + 3) % 4) c) := rfl
      generalize (f + 1) % 4 = g1 at *
      generalize (f + 3) % 4 = g3 at *
      obtain ⟨m1, m2, m3, m4, m5, m6⟩ := e6_m (a := T g1 c) (b := T g3 c) (by omega) (by omega)
      obtain ⟨_, _, m7, _⟩ := e6_m (a := T g3 c) (b := T g3 c) (by omega) (by omega)
      have hmin : f_J9_min_7cf53 (J (e6 (T g1 c))) (J (e6 (T g3 c))) = J (e6 (tuN T f c)) := by
        rw [t_min2 (by omega) (by omega) (by omega) (by omega), m2, tu]
      unfold b_X2_turnOnce_2
      simp (disch := omega) only [↓nm_s, ↓grd_s, ↓reduceIte, J_lit, Int.cast_ofNat_Int, J_lt_t, J_lt_f, J_le_t, J_le_f, J_eq_t, J_eq_f, within_t, within_f, isIn_t, isIn_f, inRow_t, inRow_f, isCell_t, isCell_f, inb_t, ix_Jn, ix_J, Int.reduceToNat, Int.toNat_natCast, n1, n2, bind_s, a88, a1, a2, hmin]
      refine wp_some ⟨J_s _, fun f' c' hf' hc' h => ?_, fun j hj => by simp (disch := omega) only [mset_ne, mset_eq, mrow_ne, mrow_eq, upd_eq, upd_ne]; exact e3 j hj⟩
      by_cases e : 144 * f' + c' = 144 * f + c
      · have : f' = f := by omega
        have : c' = c := by omega
        subst f' c'
        simp (disch := omega) only [mset_ne, mset_eq, mrow_ne, mrow_eq, upd_eq, upd_ne]
      · simp (disch := omega) only [mset_ne, mset_eq, mrow_ne, mrow_eq, upd_eq, upd_ne]
        exact e2 f' c' hf' hc' (by omega)
    · rintro ⟨s1, A1⟩ ⟨e1, e2, e3⟩
      simp only at e1 e2 e3
      subst e1
      unfold b_X2_turnOnce_2
      simp (disch := omega) only [↓reduceIte, J_lit, Int.cast_ofNat_Int, J_lt_t, J_lt_f, J_le_t, J_le_f, J_eq_t, J_eq_f, within_t, within_f, isIn_t, isIn_f, inRow_t, inRow_f, isCell_t, isCell_f, inb_t]
      exact wp_some ⟨fun f c hf hc => e2 f c hf hc (by omega), e3⟩
  · rintro A1 ⟨h1, h2⟩
    simp (disch := omega) only [↓nm_s, J_lit, Int.cast_ofNat_Int, ix_Jn, ix_J, Int.reduceToNat, Int.toNat_natCast]
    refine wp_some ⟨fun f c hf hc => ?_, fun j h3 h4 => by rw [mrow_ne h3]; exact h2 j h4⟩
    rw [mrow_eq, pk_cpy_in (by omega) (by omega)]
    rw [show 0 + (144 * f + c - 0) = 144 * f + c by omega]
    exact h1 f c hf hc
noncomputable def m4 (T : Nat → Nat → Nat) (to : Nat) : Nat → Nat
  | 0 => 1000
  | k + 1 => min (m4 T to k) (T k to)
theorem m4_b {T : Nat → Nat → Nat} {m to : Nat} (hB : Bd m T) (hto : to < 144) : ∀ k, k ≤ 4 → m4 T to k ≤ m ∨ m4 T to k = 1000 := by
  intro k
  induction k with
  | zero => intro _; exact Or.inr rfl
  | succ k ih =>
    intro hk
    simp only [m4]
    have := ih (by omega)
    have := hB k to (by omega) hto
    omega
def resF (v : Nat) : Int32 := if v = 1000 then J (-1) else J v
theorem p_fewest {M : zM} {g : Nat → Int32} {fr f to t : Nat} (hg : ∀ v, v < 144 → M 3 v = g v) (hfr : fr < 144) (hgf : ¬ g fr = J 1) (hf : f < 4) (hto : to < 144) (ht : t ≤ 6) :
    Wp (f_X2_fewestSteps (J fr) (J f) (J to) (J t) M) (fun q => q.1 = resF (m4 (Tn g fr f t) to 4) ∧ ∀ j, j ≠ 88 → j ≠ 89 → q.2 j = M j) := by
  have fM := t_fill (a := 88) (J 1000000) M (by rw [LN88]; decide)
  rw [LN88] at fM
  have es : J 144 * J (f : Int) + J (fr : Int) = J ((144 * f + fr : Nat) : Int) := by rw [J_mul, J_add]; rfl
  have h1 : Bd 0 (P0 fr f) := by
    intro f c _ _
    unfold P0
    split <;> omega
  have h2 : Sto g (P0 fr f) := by
    intro f c _ _ hc
    unfold P0
    rw [if_neg]
    rintro ⟨_, e⟩
    subst e
    exact hgf hc
  unfold f_X2_fewestSteps j_X2_fewestSteps_50 j_X2_fewestSteps_89
  simp (disch := omega) only [↓nm_s, ↓grd_s, ↓reduceIte, J_lit, J_neg, Int.cast_ofNat_Int, J_lt_t, J_lt_f, J_le_t, J_le_f, J_eq_t, J_eq_f, within_t, within_f, isIn_t, isIn_f, inRow_t, inRow_f, isCell_t, isCell_f, inb_t, ix_Jn, ix_J, Int.reduceToNat, Int.toNat_natCast, fM, bind_s, es]
  have hE0 : EnC (mset (mrow M 88 fun i => if i < 576 then J 1000000 else M 88 i) 88 (144 * f + fr) (J 0)) (P0 fr f) := by
    intro f' c hf' hc
    unfold P0
    by_cases e : f' = f ∧ c = fr
    · rw [if_pos e, e.1, e.2]
      simp (disch := omega) only [mset_ne, mset_eq, mrow_ne, mrow_eq, upd_eq, upd_ne]
      rfl
    · rw [if_neg e]
      have : ¬ 144 * f' + c = 144 * f + fr := by omega
      simp (disch := omega) only [mset_ne, mset_eq, mrow_ne, mrow_eq, upd_eq, upd_ne]
      exact if_pos (by omega)
  refine wp_bind (wp_mono (p_straight (g := g) (fun v hv => by simp (disch := omega) only [mset_ne, mset_eq, mrow_ne, mrow_eq, upd_eq, upd_ne]; exact hg v hv) (by omega) h1 h2 hE0) ?_)
  rintro A0 ⟨a1, a2⟩
  have a2' : ∀ j, j ≠ 88 → j ≠ 89 → A0 j = M j := fun j h3 h4 => by rw [a2 j h3]; simp (disch := omega) only [mset_ne, mset_eq, mrow_ne, mrow_eq, upd_eq, upd_ne]
  refine wp_bind ?_
  refine wp_mono (P := fun A => EnC A (Tn g fr f t) ∧ ∀ j, j ≠ 88 → j ≠ 89 → A j = M j) ?_ ?_
  · refine loop_up (fun i s => s.1 = J i ∧ EnC s.2 (Tn g fr f i) ∧ ∀ j, j ≠ 88 → j ≠ 89 → s.2 j = M j) t ⟨rfl, a1, a2'⟩ ?_ ?_
    · rintro i ⟨s1, A⟩ hi ⟨e1, e2, e3⟩
      simp only at e1 e2 e3
      subst e1
      obtain ⟨o1, o2⟩ := Tn_ok (g := g) (fr := fr) (f0 := f) hgf i (by omega)
      unfold b_X2_fewestSteps_29
      simp (disch := omega) only [↓reduceIte, J_lit, Int.cast_ofNat_Int, J_lt_t, J_lt_f, J_le_t, J_le_f, J_eq_t, J_eq_f, within_t, within_f, isIn_t, isIn_f, inRow_t, inRow_f, isCell_t, isCell_f, inb_t]
      refine wp_bind (wp_mono (p_turnOnce (by omega) o1 e2) ?_)
      rintro A1 ⟨b1, b2⟩
      refine wp_bind (wp_mono (p_straight (g := g) (fun v hv => by rw [b2 3 (by decide) (by decide), e3 3 (by decide) (by decide)]; exact hg v hv) (by omega) (tu_Bd o1) (tu_Sto o2) b1) ?_)
      rintro A2 ⟨c1, c2⟩
      exact wp_some ⟨J_s _, c1, fun j h3 h4 => (c2 j h3).trans ((b2 j h3 h4).trans (e3 j h3 h4))⟩
    · rintro ⟨s1, A⟩ ⟨e1, e2, e3⟩
      simp only at e1 e2 e3
      subst e1
      unfold b_X2_fewestSteps_29
      simp (disch := omega) only [↓reduceIte, J_lt_t, J_lt_f, J_le_t, J_le_f, J_eq_t, J_eq_f, within_t, within_f, isIn_t, isIn_f, inRow_t, inRow_f, isCell_t, isCell_f, inb_t]
      exact wp_some ⟨e2, e3⟩
  · rintro A ⟨b1, b2⟩
    obtain ⟨o1, o2⟩ := Tn_ok (g := g) (fr := fr) (f0 := f) hgf t ht
    have hb := m4_b o1 hto
    refine wp_bind ?_
    refine wp_mono (P := fun v => v = J (e6 (m4 (Tn g fr f t) to 4))) ?_ ?_
    · refine loop_up (fun k s => s = (J (e6 (m4 (Tn g fr f t) to k)), J k)) 4 rfl ?_ ?_
      · rintro k s hk rfl
        have ei : J 144 * J (k : Int) + J (to : Int) = J ((144 * k + to : Nat) : Int) := by rw [J_mul, J_add]; rfl
        have q := b1 k to hk hto
        have q2 := o1 k to hk hto
        have q3 := hb k (by omega)
        obtain ⟨m1, m2, m3, _⟩ := e6_m (a := m4 (Tn g fr f t) to k) (b := Tn g fr f t k to) (by omega) (by omega)
        obtain ⟨_, _, m7, _⟩ := e6_m (a := Tn g fr f t k to) (b := Tn g fr f t k to) (by omega) (by omega)
        have hmin : f_J9_min_7cf53 (J (e6 (m4 (Tn g fr f t) to k))) (J (e6 (Tn g fr f t k to))) = J (e6 (m4 (Tn g fr f t) to (k + 1))) := by
          rw [t_min2 (by omega) (by omega) (by omega) (by omega), m2]
          rfl
        unfold b_X2_fewestSteps_57
        simp (disch := omega) only [↓nm_s, ↓grd_s, ↓reduceIte, J_lit, Int.cast_ofNat_Int, J_lt_t, J_lt_f, J_le_t, J_le_f, J_eq_t, J_eq_f, within_t, within_f, isIn_t, isIn_f, inRow_t, inRow_f, isCell_t, isCell_f, inb_t, ix_Jn, ix_J, Int.reduceToNat, Int.toNat_natCast, ei, q, hmin]
        exact wp_some (pr2 rfl (J_s _))
      · rintro s rfl
        unfold b_X2_fewestSteps_57
        simp (disch := omega) only [↓reduceIte, J_lit, Int.cast_ofNat_Int, J_lt_t, J_lt_f, J_le_t, J_le_f, J_eq_t, J_eq_f, within_t, within_f, isIn_t, isIn_f, inRow_t, inRow_f, isCell_t, isCell_f, inb_t]
        exact wp_some rfl
    · rintro v rfl
      have q3 := hb 4 (by omega)
      unfold resF
      by_cases c : m4 (Tn g fr f t) to 4 = 1000
      · rw [if_pos c]
        have e : e6 (m4 (Tn g fr f t) to 4) = 1000000 := by rw [c]; rfl
        simp (disch := omega) only [↓reduceIte, Int.cast_ofNat_Int, J_lt_t, J_lt_f, J_le_t, J_le_f, J_eq_t, J_eq_f, within_t, within_f, isIn_t, isIn_f, inRow_t, inRow_f, isCell_t, isCell_f, inb_t, e]
        exact wp_some ⟨rfl, b2⟩
      · rw [if_neg c]
        have e : e6 (m4 (Tn g fr f t) to 4) = m4 (Tn g fr f t) to 4 := by unfold e6; rw [if_neg c]
        simp (disch := omega) only [↓reduceIte, J_lt_t, J_lt_f, J_le_t, J_le_f, J_eq_t, J_eq_f, within_t, within_f, isIn_t, isIn_f, inRow_t, inRow_f, isCell_t, isCell_f, inb_t, e]
        exact wp_some ⟨rfl, b2⟩
/-! ===== far with turns: the reference ===== -/
def EnN (B : zM) (t : Nat) (D : Nat → Nat → Nat) : Prop := ∀ f c, f < 4 → c < 144 → B 267 (576 * t + 4 * c + f) = J (e9 (D f c))
def Sqz (g : Nat → Int32) (P R : Nat → Nat → Nat) (m r k : Nat) : Prop := ∀ f c, f < 4 → c < 144 → Cl g P f c ≤ R f c ∧ R f c ≤ P f c ∧ (R f c ≤ m + dp f c ∨ R f c = 1000) ∧ (dp f c + 1 ≤ r ∨ (dp f c ≤ r ∧ 4 * c + f < k) → R f c = Cl g P f c)
theorem p_strsweep {B : zM} {g : Nat → Int32} {P R : Nat → Nat → Nat} {m t r : Nat} (a : Int32) (ht : t ≤ 6) (hg : B 258 = g) (hm : m ≤ 100) (hR : Sqz g P R m r 0) (hE : EnN B t R) :
    Wp (loopW (fun s => b_X11_straightOn_10_2 (J t) a s.1 s.2) (J 0, B)) (fun B' => (∃ R', Sqz g P R' m (r + 1) 0 ∧ EnN B' t R') ∧ (∀ i, ¬ (576 * t ≤ i ∧ i < 576 * t + 576) → B' 267 i = B 267 i) ∧ ∀ j, j ≠ 267 → B' j = B j) := by
  refine loop_up (fun k s => s.1 = J k ∧ (∃ R', Sqz g P R' m r k ∧ EnN s.2 t R') ∧ (∀ i, ¬ (576 * t ≤ i ∧ i < 576 * t + 576) → s.2 267 i = B 267 i) ∧ ∀ j, j ≠ 267 → s.2 j = B j) 576 ⟨rfl, ⟨R, hR, hE⟩, fun _ _ => rfl, fun _ _ => rfl⟩ ?_ ?_
  · rintro k ⟨s1, B1⟩ hk ⟨e1, ⟨R1, e2, e3⟩, e4, e5⟩
    simp only at e1 e3 e4 e5
    subst e1
    obtain ⟨c, f, hf, rfl⟩ : ∃ c f : Nat, f < 4 ∧ k = 4 * c + f := ⟨k / 4, k % 4, by omega, by omega⟩
    have hc : c < 144 := by omega
    have i1 : J ((4 * c + f : Nat) : Int) / J 4 = J (c : Int) := by rw [J_div (by omega) (by omega) (by omega) (by omega)]; exact congrArg J (by omega)
    have i2 : irem (J ((4 * c + f : Nat) : Int)) (J 4) = J (f : Int) := by rw [J_rem (by omega) (by omega) (by omega) (by omega)]; exact congrArg J (by omega)
    have b258 : B1 258 = g := (e5 258 (by decide)).trans hg
    -- nothing behind: it is so
    have stay : bk g f c = none → Sqz g P R1 m r (4 * c + f + 1) := by
      intro hb f' c' hf' hc'
      obtain ⟨q1, q2, q3, q4⟩ := e2 f' c' hf' hc'
      refine ⟨q1, q2, q3, fun h => ?_⟩
      by_cases e : 4 * c' + f' = 4 * c + f
      · have : f' = f := by omega
        have : c' = c := by omega
        subst f' c'
        rw [Cl_n hb] at q1 ⊢
        omega
      · exact q4 (by omega)
    unfold b_X11_straightOn_10_2 j_X11_straightOn_44_2_10 j_X11_straightOn_109_2_10
    by_cases cs : g c = J 1
    · have hb : bk g f c = none := by unfold bk; rw [if_pos cs]
      simp (disch := omega) only [↓nm_s, ↓grd_s, ↓reduceIte, J_lit, J_neg, Int.cast_ofNat_Int, J_lt_t, J_lt_f, J_le_t, J_le_f, J_eq_t, J_eq_f, within_t, within_f, isIn_t, isIn_f, inRow_t, inRow_f, isCell_t, isCell_f, inb_t, ix_Jn, ix_J, Int.reduceToNat, Int.toNat_natCast, i1, i2, b258, cs]
      exact wp_some ⟨J_s _, ⟨R1, stay hb, e3⟩, e4, e5⟩
    · have ho := t_onBk (B := B1) hc hf
      rw [b258] at ho
      have ebk : bk g f c = onw g c ((f + 2) % 4) := by unfold bk; rw [if_neg cs]
      cases hon : onw g c ((f + 2) % 4) with
      | none =>
        rw [hon] at ho
        simp only [onJ] at ho
        simp (disch := omega) only [↓nm_s, ↓grd_s, ↓reduceIte, J_lit, J_neg, Int.cast_ofNat_Int, J_lt_t, J_lt_f, J_le_t, J_le_f, J_eq_t, J_eq_f, within_t, within_f, isIn_t, isIn_f, inRow_t, inRow_f, isCell_t, isCell_f, inb_t, ix_Jn, ix_J, Int.reduceToNat, Int.toNat_natCast, i1, i2, b258, cs, ho, bind_s]
        exact wp_some ⟨J_s _, ⟨R1, stay (by rw [ebk, hon]), e3⟩, e4, e5⟩
      | some b =>
        have hb : bk g f c = some b := by rw [ebk, hon]
        obtain ⟨hb1, hb2, _, _, _⟩ := bk_dp hf hc hb
        have hne : ¬ J (b : Int) = J (-1) := by
          rw [J_eq (by omega) (by omega) (by omega) (by omega)]
          omega
        rw [hon] at ho
        simp only [onJ] at ho
        have j1 : J (t : Int) * J 576 + J 4 * J (b : Int) + J (f : Int) = J ((576 * t + 4 * b + f : Nat) : Int) := by rw [J_mul, J_mul, J_add, J_add]; exact congrArg J (by omega)
        have j2 : J (t : Int) * J 576 + J ((4 * c + f : Nat) : Int) = J ((576 * t + 4 * c + f : Nat) : Int) := by rw [J_mul, J_add]; exact congrArg J (by omega)
        have a1 := e3 f b hf hb1
        have a2 := e3 f c hf hc
        obtain ⟨q1, q2, q3, q4⟩ := e2 f c hf hc
        obtain ⟨r1, r2, r3, r4⟩ := e2 f b hf hb1
        have hdp := dp_le (f := f) hc
        obtain ⟨_, _, _, m4', m5, _⟩ := e6_m (a := R1 f c) (b := R1 f b) (by omega) (by omega)
        obtain ⟨_, _, _, m6, _⟩ := e6_m (a := R1 f b) (b := R1 f b) (by omega) (by omega)
        have hcl := Cl_s (P := P) hf hc hb
        -- the new one
        have new : Sqz g P (fun f' c' => if f' = f ∧ c' = c then min (R1 f c) (R1 f b + 1) else R1 f' c') m r (4 * c + f + 1) := by
          intro f' c' hf' hc'
          simp only
          by_cases e : f' = f ∧ c' = c
          · obtain ⟨ef, ec⟩ := e
            subst ef ec
            simp only [and_self, if_true]
            refine ⟨by omega, by omega, by omega, fun h => ?_⟩
            have hq : R1 f' b = Cl g P f' b := r4 (by omega)
            omega
          · rw [if_neg e]
            obtain ⟨q1, q2, q3, q4⟩ := e2 f' c' hf' hc'
            refine ⟨q1, q2, q3, fun h => q4 ?_⟩
            omega
        by_cases cl : e9 (R1 f c) ≤ e9 (R1 f b) + 1
        · simp (disch := omega) only [↓nm_s, ↓grd_s, ↓reduceIte, J_lit, J_neg, Int.cast_ofNat_Int, J_lt_t, J_lt_f, J_le_t, J_le_f, J_eq_t, J_eq_f, within_t, within_f, isIn_t, isIn_f, inRow_t, inRow_f, isCell_t, isCell_f, inb_t, ix_Jn, ix_J, Int.reduceToNat, Int.toNat_natCast, i1, i2, b258, cs, ho, bind_s, hne, j1, j2, a1, a2, J_add]
          refine wp_some ⟨rfl, ⟨_, new, fun f' c' hf' hc' => ?_⟩, e4, e5⟩
          simp only
          by_cases e : f' = f ∧ c' = c
          · rw [if_pos e, e.1, e.2, a2, ← m5]
            exact congrArg J (by omega)
          · rw [if_neg e]
            exact e3 f' c' hf' hc'
        · simp (disch := omega) only [↓nm_s, ↓grd_s, ↓reduceIte, J_lit, J_neg, Int.cast_ofNat_Int, J_lt_t, J_lt_f, J_le_t, J_le_f, J_eq_t, J_eq_f, within_t, within_f, isIn_t, isIn_f, inRow_t, inRow_f, isCell_t, isCell_f, inb_t, ix_Jn, ix_J, Int.reduceToNat, Int.toNat_natCast, i1, i2, b258, cs, ho, bind_s, hne, j1, j2, a1, a2, J_add]
          refine wp_some ⟨rfl, ⟨_, new, fun f' c' hf' hc' => ?_⟩, fun i hi => ?_, fun j hj => ?_⟩
          · simp only
            by_cases e : f' = f ∧ c' = c
            · rw [if_pos e, e.1, e.2, ← m5]
              simp (disch := omega) only [mset_ne, mset_eq, mrow_ne, mrow_eq, upd_eq, upd_ne]
              exact congrArg J (by omega)
            · rw [if_neg e]
              have : ¬ 576 * t + 4 * c' + f' = 576 * t + 4 * c + f := by omega
              simp (disch := omega) only [mset_ne, mset_eq, mrow_ne, mrow_eq, upd_eq, upd_ne]
              exact e3 f' c' hf' hc'
          · simp only
            simp (disch := omega) only [mset_ne, mset_eq, mrow_ne, mrow_eq, upd_eq, upd_ne]
            exact e4 i hi
          · simp only
            simp (disch := omega) only [mset_ne, mset_eq, mrow_ne, mrow_eq, upd_eq, upd_ne]
            exact e5 j hj
  · rintro ⟨s1, B1⟩ ⟨e1, ⟨R1, e2, e3⟩, e4, e5⟩
    simp only at e1 e3 e4 e5
    subst e1
    unfold b_X11_straightOn_10_2
    simp (disch := omega) only [↓reduceIte, J_lit, Int.cast_ofNat_Int, J_lt_t, J_lt_f, J_le_t, J_le_f, J_eq_t, J_eq_f, within_t, within_f, isIn_t, isIn_f, inRow_t, inRow_f, isCell_t, isCell_f, inb_t]
    refine wp_some ⟨⟨R1, fun f c hf hc => ?_, e3⟩, e4, e5⟩
    obtain ⟨q1, q2, q3, q4⟩ := e2 f c hf hc
    exact ⟨q1, q2, q3, fun h => q4 (by omega)⟩
theorem p_strOn {B : zM} {g : Nat → Int32} {P : Nat → Nat → Nat} {m t : Nat} (ht : t ≤ 6) (hg : B 258 = g) (hm : m ≤ 100) (hB : Bd m P) (hE : EnN B t P) :
    Wp (f_X11_straightOn (J t) B) (fun B' => EnN B' t (Cl g P) ∧ (∀ i, ¬ (576 * t ≤ i ∧ i < 576 * t + 576) → B' 267 i = B 267 i) ∧ ∀ j, j ≠ 267 → B' j = B j) := by
  have start : Sqz g P P m 1 0 := by
    intro f c hf hc
    have h1 := hB f c hf hc
    cases hb : bk g f c with
    | none =>
      rw [Cl_n hb]
      exact ⟨Nat.le_refl _, Nat.le_refl _, by omega, fun _ => rfl⟩
    | some b =>
      have := (bk_dp hf hc hb).2.1
      rw [Cl_s hf hc hb]
      exact ⟨by omega, Nat.le_refl _, by omega, fun h => by omega⟩
  unfold f_X11_straightOn j_X11_straightOn_121
  refine wp_bind ?_
  refine wp_mono (P := fun B' => EnN B' t (Cl g P) ∧ (∀ i, ¬ (576 * t ≤ i ∧ i < 576 * t + 576) → B' 267 i = B 267 i) ∧ ∀ j, j ≠ 267 → B' j = B j) ?_ (fun B' h => wp_some h)
  refine loop_fr (fun r s => s.1 = J r ∧ (∃ R, Sqz g P R m r 0 ∧ EnN s.2 t R) ∧ (∀ i, ¬ (576 * t ≤ i ∧ i < 576 * t + 576) → s.2 267 i = B 267 i) ∧ ∀ j, j ≠ 267 → s.2 j = B j) 1 12 (by omega) ⟨rfl, ⟨P, start, hE⟩, fun _ _ => rfl, fun _ _ => rfl⟩ ?_ ?_
  · rintro r ⟨s1, B1⟩ hr1 hr2 ⟨e1, ⟨R, e2, e3⟩, e4, e5⟩
    simp only at e1 e3 e4 e5
    subst e1
    unfold b_X11_straightOn_2 j_X11_straightOn_115_2
    simp (disch := omega) only [↓reduceIte, J_lit, Int.cast_ofNat_Int, J_lt_t, J_lt_f, J_le_t, J_le_f, J_eq_t, J_eq_f, within_t, within_f, isIn_t, isIn_f, inRow_t, inRow_f, isCell_t, isCell_f, inb_t]
    refine wp_bind (wp_mono (p_strsweep (J r) ht ((e5 258 (by decide)).trans hg) hm e2 e3) ?_)
    rintro B2 ⟨h1, h2, h3⟩
    exact wp_some ⟨J_s _, h1, fun i hi => (h2 i hi).trans (e4 i hi), fun j hj => (h3 j hj).trans (e5 j hj)⟩
  · rintro ⟨s1, B1⟩ ⟨e1, ⟨R, e2, e3⟩, e4, e5⟩
    simp only at e1 e3 e4 e5
    subst e1
    unfold b_X11_straightOn_2
    simp (disch := omega) only [↓reduceIte, J_lit, Int.cast_ofNat_Int, J_lt_t, J_lt_f, J_le_t, J_le_f, J_eq_t, J_eq_f, within_t, within_f, isIn_t, isIn_f, inRow_t, inRow_f, isCell_t, isCell_f, inb_t]
    refine wp_some ⟨fun f c hf hc => ?_, e4, e5⟩
    have := dp_le (f := f) hc
    rw [e3 f c hf hc, (e2 f c hf hc).2.2.2 (by omega)]
