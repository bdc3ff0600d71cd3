/-! ===== with: rows of steps and turns ===== -/
def pl (a b : Nat) : Nat := (a + b) % 1000000007
theorem pl_lt (a b : Nat) : pl a b < 1000000007 := Nat.mod_lt _ (by decide)
theorem t_pl {a b : Nat} (ha : a < 1000000007) (hb : b < 1000000007) : f_X11_plus (J a) (J b) = J (pl a b) ∧ f_X2_plus (J a) (J b) = J (pl a b) := by
  have h1 := t_plus (a := (a : Int)) (b := (b : Int)) (by omega) (by omega) (by omega) (by omega)
  have h2 := t_plus2 (a := (a : Int)) (b := (b : Int)) (by omega) (by omega) (by omega) (by omega)
  have e : ((a : Int) + b) % 1000000007 = (pl a b : Nat) := by unfold pl; omega
  rw [e] at h1 h2
  exact ⟨h1, h2⟩
def LfS (S : Nat → Nat → Nat → Nat) : Nat → Nat → Nat → Nat
  | 0, _, _ => 0
  | t + 1, f, c => pl (S t ((f + 1) % 4) c) (LfS S t ((f + 1) % 4) c)
def RfS (S : Nat → Nat → Nat → Nat) : Nat → Nat → Nat → Nat
  | 0, _, _ => 0
  | t + 1, f, c => pl (S t ((f + 3) % 4) c) (RfS S t ((f + 3) % 4) c)
theorem LfS_lt (S : Nat → Nat → Nat → Nat) (t f c : Nat) : LfS S t f c < 1000000007 := by
  cases t with
  | zero => simp only [LfS]; omega
  | succ t => exact pl_lt _ _
theorem RfS_lt (S : Nat → Nat → Nat → Nat) (t f c : Nat) : RfS S t f c < 1000000007 := by
  cases t with
  | zero => simp only [RfS]; omega
  | succ t => exact pl_lt _ _
def Tot (S : Nat → Nat → Nat → Nat) (t f c : Nat) : Nat := pl (S t f c) (pl (LfS S t f c) (RfS S t f c))
theorem Tot_2 (S : Nat → Nat → Nat → Nat) (t f c : Nat) : pl (pl (S t f c) (LfS S t f c)) (RfS S t f c) = Tot S t f c := by
  unfold Tot pl
  omega
def Zst (g : Nat → Int32) (S : Nat → Nat → Nat → Nat) : Prop := ∀ t f c, c < 144 → g c = J 1 → S t f c = 0
theorem Tot_Z {g : Nat → Int32} {S : Nat → Nat → Nat → Nat} (h : Zst g S) {t f c : Nat} (hc : c < 144) (hg : g c = J 1) : Tot S t f c = 0 := by
  have h1 : ∀ t f, LfS S t f c = 0 := by
    intro t
    induction t with
    | zero => intro f; rfl
    | succ t ih =>
      intro f
      simp only [LfS]
      rw [h t _ c hc hg, ih]
      rfl
  have h2 : ∀ t f, RfS S t f c = 0 := by
    intro t
    induction t with
    | zero => intro f; rfl
    | succ t ih =>
      intro f
      simp only [RfS]
      rw [h t _ c hc hg, ih]
      rfl
  unfold Tot
  rw [h t f c hc hg, h1, h2]
  rfl
noncomputable def SxS (g : Nat → Int32) (S : Nat → Nat → Nat → Nat) (t f c : Nat) : Nat := match bk g f c with
  | none => 0
  | some b => Tot S t f b
theorem SxS_lt (g : Nat → Int32) (S : Nat → Nat → Nat → Nat) (t f c : Nat) : SxS g S t f c < 1000000007 := by
  unfold SxS
  split
  · omega
  · exact pl_lt _ _
theorem SxS_Z (g : Nat → Int32) (S : Nat → Nat → Nat → Nat) : Zst g (SxS g S) := by
  intro t f c _ hg
  have hb : bk g f c = none := by unfold bk; rw [if_pos hg]
  unfold SxS
  rw [hb]
noncomputable def SnS (g : Nat → Int32) (fr f0 : Nat) : Nat → Nat → Nat → Nat → Nat
  | 0 => fun t f c => if t = 0 ∧ f = f0 ∧ c = fr then 1 else 0
  | n + 1 => SxS g (SnS g fr f0 n)
theorem SnS_ok {g : Nat → Int32} {fr f0 : Nat} (hg : ¬ g fr = J 1) : ∀ n, (∀ t f c, SnS g fr f0 n t f c < 1000000007) ∧ Zst g (SnS g fr f0 n) := by
  intro n
  cases n with
  | zero =>
    refine ⟨fun t f c => ?_, fun t f c hc hgc => ?_⟩
    · simp only [SnS]
      split <;> omega
    · simp only [SnS]
      rw [if_neg]
      rintro ⟨_, _, e⟩
      subst e
      exact hg hgc
  | succ n => exact ⟨SxS_lt _ _, SxS_Z _ _⟩
/-! ===== with: the class ===== -/
def E92 (A : zM) (T : Nat) (S : Nat → Nat → Nat → Nat) : Prop := ∀ t f c, t ≤ T → f < 4 → c < 144 → A 92 (576 * t + 144 * f + c) = J (S t f c)
def E91 (A : zM) (T : Nat) (S : Nat → Nat → Nat → Nat) : Prop := ∀ t f c, t ≤ T → f < 4 → c < 144 → A 91 (576 * t + 144 * f + c) = J (Tot S t f c)
def LRs (A : zM) (S : Nat → Nat → Nat → Nat) (c t f : Nat) : Prop := ∀ f', f' < 4 →
  (f ≤ f' → A 93 ((f' + t) % 4) = J (LfS S t f' c) ∧ A 94 ((f' + 3 * t) % 4) = J (RfS S t f' c)) ∧
  (f' < f → A 93 ((f' + t) % 4) = J (LfS S (t + 1) ((f' + 3) % 4) c) ∧ A 94 ((f' + 3 * t) % 4) = J (RfS S (t + 1) ((f' + 1) % 4) c))
theorem LRs_next {A : zM} {S : Nat → Nat → Nat → Nat} {c t : Nat} (h : LRs A S c t 4) : LRs A S c (t + 1) 0 := by
  intro f2 hf2
  refine ⟨fun _ => ⟨?_, ?_⟩, fun h => by omega⟩
  · have := (h ((f2 + 1) % 4) (Nat.mod_lt _ (by decide))).2 (Nat.mod_lt _ (by decide))
    have e1 : ((f2 + 1) % 4 + t) % 4 = (f2 + (t + 1)) % 4 := by omega
    have e2 : ((f2 + 1) % 4 + 3) % 4 = f2 := by omega
    rw [e1, e2] at this
    exact this.1
  · have := (h ((f2 + 3) % 4) (Nat.mod_lt _ (by decide))).2 (Nat.mod_lt _ (by decide))
    have e1 : ((f2 + 3) % 4 + 3 * t) % 4 = (f2 + 3 * (t + 1)) % 4 := by omega
    have e2 : ((f2 + 3) % 4 + 1) % 4 = f2 := by omega
    rw [e1, e2] at this
    exact this.2
theorem LN93 : LN 93 = 4 := by decide +kernel
theorem LN94 : LN 94 = 4 := by decide +kernel
theorem LN92 : LN 92 = 4032 := by decide +kernel
theorem p_turnAt {A : zM} {S : Nat → Nat → Nat → Nat} {c T : Nat} (hc : c < 144) (hT : T ≤ 6) (hS : ∀ t f c, S t f c < 1000000007) (hE : E92 A T S) :
    Wp (f_X2_turnAt (J c) (J T) A) (fun A' => (∀ t f, t ≤ T → f < 4 → A' 91 (576 * t + 144 * f + c) = J (Tot S t f c)) ∧ (∀ i, i % 144 ≠ c → A' 91 i = A 91 i) ∧ ∀ j, j ≠ 91 → j ≠ 93 → j ≠ 94 → A' j = A j) := by
  have f1 := t_fill (a := 93) (J 0) A (by rw [LN93]; decide)
  rw [LN93] at f1
  have f2 := t_fill (a := 94) (J 0) (mrow A 93 (fun i => if i < 4 then J 0 else A 93 i)) (by rw [LN94]; decide)
  rw [LN94] at f2
  unfold f_X2_turnAt j_X2_turnAt_147
  simp (disch := omega) only [J_lit, Int.cast_ofNat_Int, f1, f2, bind_s]
  refine wp_bind ?_
  refine wp_mono (P := fun A' => (∀ t f, t ≤ T → f < 4 → A' 91 (576 * t + 144 * f + c) = J (Tot S t f c)) ∧ (∀ i, i % 144 ≠ c → A' 91 i = A 91 i) ∧ ∀ j, j ≠ 91 → j ≠ 93 → j ≠ 94 → A' j = A j) ?_ (fun A' h => wp_some h)
  refine loop_up (fun i s => s.1 = J i ∧ LRs s.2 S c (i / 4) (i % 4) ∧ (∀ t f, f < 4 → 4 * t + f < i → s.2 91 (576 * t + 144 * f + c) = J (Tot S t f c)) ∧ (∀ i, i % 144 ≠ c → s.2 91 i = A 91 i) ∧ ∀ j, j ≠ 91 → j ≠ 93 → j ≠ 94 → s.2 j = A j) (4 * (T + 1)) ⟨rfl, ?_, fun t f _ h => by omega, fun i _ => by simp (disch := omega) only [mset_ne, mset_eq, mrow_ne, mrow_eq, upd_eq, upd_ne], fun j h1 h2 h3 => by simp (disch := omega) only [mset_ne, mset_eq, mrow_ne, mrow_eq, upd_eq, upd_ne]⟩ ?_ ?_
  · intro f' hf'
    refine ⟨fun _ => ⟨?_, ?_⟩, fun h => by omega⟩
    · simp only
      rw [mrow_ne (by decide), mrow_eq]
      exact if_pos (Nat.mod_lt _ (by decide))
    · simp only
      rw [mrow_eq]
      exact if_pos (Nat.mod_lt _ (by decide))
  · rintro i ⟨s1, A1⟩ hi ⟨e1, e2, e3, e4, e5⟩
    simp only at e1 e2 e3 e4 e5
    subst e1
    obtain ⟨t, f, hf, rfl⟩ : ∃ t f : Nat, f < 4 ∧ i = 4 * t + f := ⟨i / 4, i % 4, by omega, by omega⟩
    rw [show (4 * t + f) / 4 = t by omega, show (4 * t + f) % 4 = f by omega] at e2
    have ht : t ≤ T := by omega
    have i1 : irem (J ((4 * t + f : Nat) : Int)) (J 4) = J (f : Int) := by rw [J_rem (by omega) (by omega) (by omega) (by omega)]; exact congrArg J (by omega)
    have i2 : J ((4 * t + f : Nat) : Int) / J 4 = J (t : Int) := by rw [J_div (by omega) (by omega) (by omega) (by omega)]; exact congrArg J (by omega)
    have i3 : (J (f : Int) + J (t : Int)) &&& J 3 = J (((f + t) % 4 : Nat) : Int) := by rw [J_add, J_and3]; exact congrArg J (by omega)
    have i4 : (J (f : Int) - J (t : Int)) &&& J 3 = J (((f + 3 * t) % 4 : Nat) : Int) := by rw [J_sub, J_and3]; exact congrArg J (by omega)
    have i5 : J 144 * J ((4 * t + f : Nat) : Int) + J (c : Int) = J ((576 * t + 144 * f + c : Nat) : Int) := by rw [J_mul, J_add]; exact congrArg J (by omega)
    have a92 : A1 92 = A 92 := e5 92 (by decide) (by decide) (by decide)
    have q1 := hE t f c ht hf hc
    obtain ⟨q2, q3⟩ := (e2 f hf).1 (Nat.le_refl _)
    have hl := LfS_lt S t f c
    have hr := RfS_lt S t f c
    have hs := hS t f c
    have p1 := (t_pl hl hr).2
    have p2 := (t_pl hs (pl_lt (LfS S t f c) (RfS S t f c))).2
    have p3 := (t_pl hl hs).2
    have p4 := (t_pl hr hs).2
    have eL : pl (LfS S t f c) (S t f c) = LfS S (t + 1) ((f + 3) % 4) c := by
      simp only [LfS]
      rw [show ((f + 3) % 4 + 1) % 4 = f by omega]
      unfold pl
      rw [Nat.add_comm]
    have eR : pl (RfS S t f c) (S t f c) = RfS S (t + 1) ((f + 1) % 4) c := by
      simp only [RfS]
      rw [show ((f + 1) % 4 + 3) % 4 = f by omega]
      unfold pl
      rw [Nat.add_comm]
    have b1 : (f + t) % 4 < 4 := Nat.mod_lt _ (by decide)
    have b2 : (f + 3 * t) % 4 < 4 := Nat.mod_lt _ (by decide)
    have nl : ∀ f', f' < 4 → f' ≠ f → (f' + t) % 4 ≠ (f + t) % 4 ∧ (f' + 3 * t) % 4 ≠ (f + 3 * t) % 4 := fun f' h1 h2 => by omega
    generalize hxl : (f + t) % 4 = xl at *
    generalize hxr : (f + 3 * t) % 4 = xr at *
    have i6 : J 4 * (J (T : Int) + J 1) = J ((4 * (T + 1) : Nat) : Int) := by rw [J_add, J_mul]; rfl
    unfold b_X2_turnAt_18
    simp (disch := omega) only [↓nm_s, ↓grd_s, ↓reduceIte, J_lit, Int.cast_ofNat_Int, J_lt_t, J_lt_f, J_le_t, J_le_f, J_eq_t, J_eq_f, within_t, within_f, isIn_t, isIn_f, inRow_t, inRow_f, isCell_t, isCell_f, inb_t, ix_Jn, ix_J, Int.reduceToNat, Int.toNat_natCast, i1, i2, i3, i4, i5, i6, a92, q1, q2, q3, mset_ne, mset_eq, mrow_ne, mrow_eq, upd_eq, upd_ne, p1, p2, p3, p4]
    have new : LRs (mset (mset (mset A1 91 (576 * t + 144 * f + c) (J (pl (S t f c) (pl (LfS S t f c) (RfS S t f c))))) 93 xl (J (pl (LfS S t f c) (S t f c)))) 94 xr (J (pl (RfS S t f c) (S t f c)))) S c t (f + 1) := by
      intro f' hf'
      by_cases e : f' = f
      · subst e
        refine ⟨fun h => by omega, fun _ => ?_⟩
        rw [hxl, hxr]
        simp (disch := omega) only [mset_ne, mset_eq, mrow_ne, mrow_eq, upd_eq, upd_ne]
        rw [eL, eR]
        exact ⟨rfl, rfl⟩
      · obtain ⟨n1, n2⟩ := nl f' hf' e
        simp (disch := omega) only [mset_ne, mset_eq, mrow_ne, mrow_eq, upd_eq, upd_ne]
        obtain ⟨r1, r2⟩ := e2 f' hf'
        exact ⟨fun h => r1 (by omega), fun h => r2 (by omega)⟩
    refine wp_some ⟨J_s _, ?_, fun t' f' hf' h => ?_, fun i hi' => ?_, fun j h1 h2 h3 => by simp (disch := omega) only [mset_ne, mset_eq, mrow_ne, mrow_eq, upd_eq, upd_ne]; exact e5 j h1 h2 h3⟩
    · by_cases e : f = 3
      · subst e
        rw [show (4 * t + 3 + 1) / 4 = t + 1 by omega, show (4 * t + 3 + 1) % 4 = 0 by omega]
        exact LRs_next new
      · rw [show (4 * t + f + 1) / 4 = t by omega, show (4 * t + f + 1) % 4 = f + 1 by omega]
        exact new
    · simp only
      by_cases e : 4 * t' + f' = 4 * t + f
      · have h1 : t' = t := by omega
        have h2 : f' = f := by omega
        subst h1 h2
        simp (disch := omega) only [mset_ne, mset_eq, mrow_ne, mrow_eq, upd_eq, upd_ne]
        rfl
      · have : 576 * t' + 144 * f' + c ≠ 576 * t + 144 * f + c := by omega
        simp (disch := omega) only [mset_ne, mset_eq, mrow_ne, mrow_eq, upd_eq, upd_ne]
        exact e3 t' f' hf' (by omega)
    · simp only
      have : i ≠ 576 * t + 144 * f + c := by omega
      simp (disch := omega) only [mset_ne, mset_eq, mrow_ne, mrow_eq, upd_eq, upd_ne]
      exact e4 i hi'
  · rintro ⟨s1, A1⟩ ⟨e1, e2, e3, e4, e5⟩
    simp only at e1 e2 e3 e4 e5
    subst e1
    have i6 : J 4 * (J (T : Int) + J 1) = J ((4 * (T + 1) : Nat) : Int) := by rw [J_add, J_mul]; rfl
    unfold b_X2_turnAt_18
    simp (disch := omega) only [↓reduceIte, J_lit, Int.cast_ofNat_Int, i6, J_lt_t, J_lt_f, J_le_t, J_le_f, J_eq_t, J_eq_f, within_t, within_f, isIn_t, isIn_f, inRow_t, inRow_f, isCell_t, isCell_f, inb_t]
    exact wp_some ⟨fun t f ht hf => e3 t f hf (by omega), e4, e5⟩
theorem p_turnEv {A : zM} {S : Nat → Nat → Nat → Nat} {T : Nat} (hT : T ≤ 6) (hS : ∀ t f c, S t f c < 1000000007) (hE : E92 A T S) :
    Wp (f_X2_turnEverywhere (J T) A) (fun A' => E91 A' T S ∧ ∀ j, j ≠ 91 → j ≠ 93 → j ≠ 94 → A' j = A j) := by
  unfold f_X2_turnEverywhere j_X2_turnEverywhere_21
  refine wp_bind ?_
  refine wp_mono (P := fun A' => E91 A' T S ∧ ∀ j, j ≠ 91 → j ≠ 93 → j ≠ 94 → A' j = A j) ?_ (fun A' h => wp_some h)
  refine loop_up (fun k s => s.1 = J k ∧ (∀ t f c, t ≤ T → f < 4 → c < k → c < 144 → s.2 91 (576 * t + 144 * f + c) = J (Tot S t f c)) ∧ ∀ j, j ≠ 91 → j ≠ 93 → j ≠ 94 → s.2 j = A j) 144 ⟨rfl, fun t f c _ _ h => by omega, fun _ _ _ _ => rfl⟩ ?_ ?_
  · rintro k ⟨s1, A1⟩ hk ⟨e1, e2, e3⟩
    simp only at e1 e2 e3
    subst e1
    unfold b_X2_turnEverywhere_2
    simp (disch := omega) only [↓reduceIte, J_lit, Int.cast_ofNat_Int, J_lt_t, J_lt_f, J_le_t, J_le_f, J_eq_t, J_eq_f, within_t, within_f, isIn_t, isIn_f, inRow_t, inRow_f, isCell_t, isCell_f, inb_t]
    refine wp_bind (wp_mono (p_turnAt (A := A1) hk hT hS (fun t f c h1 h2 h3 => by rw [e3 92 (by decide) (by decide) (by decide)]; exact hE t f c h1 h2 h3)) ?_)
    rintro A2 ⟨h1, h2, h3⟩
    refine wp_some ⟨J_s _, fun t f c ht hf hc hc' => ?_, fun j g1 g2 g3 => (h3 j g1 g2 g3).trans (e3 j g1 g2 g3)⟩
    by_cases e : c = k
    · subst e
      exact h1 t f ht hf
    · simp only
      rw [h2 _ (by omega)]
      exact e2 t f c ht hf (by omega) hc'
  · rintro ⟨s1, A1⟩ ⟨e1, e2, e3⟩
    simp only at e1 e2 e3
    subst e1
    unfold b_X2_turnEverywhere_2
    simp (disch := omega) only [↓reduceIte, J_lit, Int.cast_ofNat_Int, J_lt_t, J_lt_f, J_le_t, J_le_f, J_eq_t, J_eq_f, within_t, within_f, isIn_t, isIn_f, inRow_t, inRow_f, isCell_t, isCell_f, inb_t]
    exact wp_some ⟨fun t f c ht hf hc => e2 t f c ht hf hc hc, e3⟩
theorem p_stepOn {A : zM} {g : Nat → Int32} {S : Nat → Nat → Nat → Nat} {T : Nat} (hT : T ≤ 6) (hg : ∀ v, v < 144 → A 3 v = g v) (hZ : Zst g S) (hE : E91 A T S) :
    Wp (f_X2_stepOn (J T) A) (fun A' => E92 A' T (SxS g S) ∧ ∀ j, j ≠ 92 → A' j = A j) := by
  have f1 := t_fill (a := 92) (J 0) A (by rw [LN92]; decide)
  rw [LN92] at f1
  unfold f_X2_stepOn j_X2_stepOn_80
  simp (disch := omega) only [J_lit, Int.cast_ofNat_Int, f1, bind_s]
  refine wp_bind ?_
  refine wp_mono (P := fun A' => E92 A' T (SxS g S) ∧ ∀ j, j ≠ 92 → A' j = A j) ?_ (fun A' h => wp_some h)
  refine loop_up (fun i s => s.1 = J i ∧ (∀ t f c, t ≤ T → f < 4 → c < 144 → (∃ b, b < 144 ∧ onw g b f = some c ∧ 576 * t + 144 * f + b < i ∧ s.2 92 (576 * t + 144 * f + c) = J (Tot S t f b)) ∨ ((∀ b, b < 144 → onw g b f = some c → i ≤ 576 * t + 144 * f + b) ∧ s.2 92 (576 * t + 144 * f + c) = J 0)) ∧ ∀ j, j ≠ 92 → s.2 j = A j) (576 * (T + 1)) ⟨rfl, fun t f c ht hf hc => Or.inr ⟨fun b _ _ => by omega, ?_⟩, fun j hj => mrow_ne hj⟩ ?_ ?_
  · simp only
    rw [mrow_eq]
    exact if_pos (by omega)
  · rintro i ⟨s1, A1⟩ hi ⟨e1, e2, e3⟩
    simp only at e1 e2 e3
    subst e1
    obtain ⟨t, f, b, ht, hf, hb, rfl⟩ : ∃ t f b : Nat, t ≤ T ∧ f < 4 ∧ b < 144 ∧ i = 576 * t + 144 * f + b := ⟨i / 576, i % 576 / 144, i % 144, by omega, by omega, by omega, by omega⟩
    have i1 : irem (J ((576 * t + 144 * f + b : Nat) : Int)) (J 144) = J (b : Int) := by rw [J_rem (by omega) (by omega) (by omega) (by omega)]; exact congrArg J (by omega)
    have i2 : irem (J ((576 * t + 144 * f + b : Nat) : Int)) (J 576) / J 144 = J (f : Int) := by rw [J_rem (by omega) (by omega) (by omega) (by omega), J_div (by omega) (by omega) (by omega) (by omega)]; exact congrArg J (by omega)
    have i6 : J 576 * (J (T : Int) + J 1) = J ((576 * (T + 1) : Nat) : Int) := by rw [J_add, J_mul]; rfl
    have a91 : A1 91 = A 91 := e3 91 (by decide)
    have q := hE t f b ht hf hb
    have ho := t_onward (A := A1) hb hf
    rw [onw_cg (g' := g) (fun v hv => by rw [e3 3 (by decide)]; exact hg v hv) hb hf] at ho
    have hto : Tot S t f b < 1000000007 := pl_lt _ _
    -- all others stay
    have oth : ∀ (A2 : zM) (t' f' c' : Nat), t' ≤ T → f' < 4 → c' < 144 → ¬ (t' = t ∧ f' = f ∧ onw g b f = some c') → A2 92 (576 * t' + 144 * f' + c') = A1 92 (576 * t' + 144 * f' + c') → (∃ b', b' < 144 ∧ onw g b' f' = some c' ∧ 576 * t' + 144 * f' + b' < 576 * t + 144 * f + b + 1 ∧ A2 92 (576 * t' + 144 * f' + c') = J (Tot S t' f' b')) ∨ ((∀ b', b' < 144 → onw g b' f' = some c' → 576 * t + 144 * f + b + 1 ≤ 576 * t' + 144 * f' + b') ∧ A2 92 (576 * t' + 144 * f' + c') = J 0) := by
      intro A2 t' f' c' ht' hf' hc' hne hA
      rw [hA]
      rcases e2 t' f' c' ht' hf' hc' with ⟨b', r1, r2, r3, r4⟩ | ⟨r1, r2⟩
      · exact Or.inl ⟨b', r1, r2, by omega, r4⟩
      · refine Or.inr ⟨fun b' hb' hob' => ?_, r2⟩
        have h1 := r1 b' hb' hob'
        by_cases e : 576 * t' + 144 * f' + b' = 576 * t + 144 * f + b
        · exfalso
          have et : t' = t := by omega
          have ef : f' = f := by omega
          have eb : b' = b := by omega
          subst et ef eb
          exact hne ⟨rfl, rfl, hob'⟩
        · omega
    unfold b_X2_stepOn_10 j_X2_stepOn_74_10
    by_cases cz : Tot S t f b = 0
    · have q' : A 91 (576 * t + 144 * f + b) = J 0 := by rw [q, cz]; rfl
      simp (disch := omega) only [↓nm_s, ↓grd_s, ↓reduceIte, J_lit, Int.cast_ofNat_Int, J_lt_t, J_lt_f, J_le_t, J_le_f, J_eq_t, J_eq_f, within_t, within_f, isIn_t, isIn_f, inRow_t, inRow_f, isCell_t, isCell_f, inb_t, ix_Jn, ix_J, Int.reduceToNat, Int.toNat_natCast, i6, a91, q']
      refine wp_some ⟨J_s _, fun t' f' c' ht' hf' hc' => ?_, e3⟩
      by_cases e : t' = t ∧ f' = f ∧ onw g b f = some c'
      · obtain ⟨et, ef, ec⟩ := e
        subst et ef
        left
        refine ⟨b, hb, ec, by omega, ?_⟩
        simp only
        rcases e2 t' f' c' ht' hf' hc' with ⟨b', r1, r2, r3, r4⟩ | ⟨r1, r2⟩
        · have := onw_inj hf r2 ec
          subst this
          exact r4
        · rw [r2, cz]
          rfl
      · exact oth A1 t' f' c' ht' hf' hc' e rfl
    · have q' : ¬ J (Tot S t f b : Int) = J 0 := by
        rw [J_eq (by omega) (by omega) (by omega) (by omega)]
        omega
      cases hon : onw g b f with
      | none =>
        rw [hon] at ho
        simp only [onJ] at ho
        simp (disch := omega) only [↓nm_s, ↓grd_s, ↓reduceIte, J_lit, J_neg, Int.cast_ofNat_Int, J_lt_t, J_lt_f, J_le_t, J_le_f, J_eq_t, J_eq_f, within_t, within_f, isIn_t, isIn_f, inRow_t, inRow_f, isCell_t, isCell_f, inb_t, ix_Jn, ix_J, Int.reduceToNat, Int.toNat_natCast, i1, i2, i6, a91, q, q', ho, bind_s]
        refine wp_some ⟨J_s _, fun t' f' c' ht' hf' hc' => oth A1 t' f' c' ht' hf' hc' (fun h => by rw [hon] at h; exact absurd h.2.2 (by simp)) rfl, e3⟩
      | some c =>
        have hne := onJ_ne hb hf hon
        have hcl := (onw_lt hb hf hon).1
        rw [hon] at ho
        simp only [onJ] at ho
        have i7 : J ((576 * t + 144 * f + b : Nat) : Int) - J (b : Int) + J (c : Int) = J ((576 * t + 144 * f + c : Nat) : Int) := by rw [J_sub, J_add]; exact congrArg J (by omega)
        simp (disch := omega) only [↓nm_s, ↓grd_s, ↓reduceIte, J_lit, J_neg, Int.cast_ofNat_Int, J_lt_t, J_lt_f, J_le_t, J_le_f, J_eq_t, J_eq_f, within_t, within_f, isIn_t, isIn_f, inRow_t, inRow_f, isCell_t, isCell_f, inb_t, ix_Jn, ix_J, Int.reduceToNat, Int.toNat_natCast, i1, i2, i6, i7, a91, q, q', ho, bind_s, hne]
        refine wp_some ⟨J_s _, fun t' f' c' ht' hf' hc' => ?_, fun j hj => by simp (disch := omega) only [mset_ne, mset_eq, mrow_ne, mrow_eq, upd_eq, upd_ne]; exact e3 j hj⟩
        by_cases e : t' = t ∧ f' = f ∧ onw g b f = some c'
        · obtain ⟨et, ef, ec⟩ := e
          subst et ef
          have e' : c = c' := by rw [hon] at ec; exact Option.some.inj ec
          subst e'
          left
          refine ⟨b, hb, ec, by omega, ?_⟩
          simp only
          simp (disch := omega) only [mset_ne, mset_eq, mrow_ne, mrow_eq, upd_eq, upd_ne]
        · refine oth _ t' f' c' ht' hf' hc' e ?_
          simp only
          have : 576 * t' + 144 * f' + c' ≠ 576 * t + 144 * f + c := by
            intro h
            have et : t' = t := by omega
            have ef : f' = f := by omega
            have ec : c' = c := by omega
            exact e ⟨et, ef, by rw [hon, ec]⟩
          simp (disch := omega) only [mset_ne, mset_eq, mrow_ne, mrow_eq, upd_eq, upd_ne]
  · rintro ⟨s1, A1⟩ ⟨e1, e2, e3⟩
    simp only at e1 e2 e3
    subst e1
    have i6 : J 576 * (J (T : Int) + J 1) = J ((576 * (T + 1) : Nat) : Int) := by rw [J_add, J_mul]; rfl
    unfold b_X2_stepOn_10
    simp (disch := omega) only [↓reduceIte, J_lit, Int.cast_ofNat_Int, i6, J_lt_t, J_lt_f, J_le_t, J_le_f, J_eq_t, J_eq_f, within_t, within_f, isIn_t, isIn_f, inRow_t, inRow_f, isCell_t, isCell_f, inb_t]
    refine wp_some ⟨fun t f c ht hf hc => ?_, e3⟩
    unfold SxS
    rcases e2 t f c ht hf hc with ⟨b, r1, r2, r3, r4⟩ | ⟨r1, r2⟩
    · rw [r4]
      cases hb : bk g f c with
      | none =>
        by_cases gb : g b = J 1
        · simp only
          rw [Tot_Z hZ r1 gb]
        · have := bk_of hf r1 gb r2
          rw [hb] at this
          exact absurd this (by simp)
      | some b' =>
        have := onw_inj hf (bk_dp hf hc hb).2.2.2.2 r2
        subst this
        rfl
    · rw [r2]
      cases hb : bk g f c with
      | none => rfl
      | some b' =>
        obtain ⟨h1, _, _, _, h2⟩ := bk_dp hf hc hb
        have := r1 b' h1 h2
        omega
