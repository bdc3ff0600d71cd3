/-! ===== far with turns: what goes on straight ===== -/
noncomputable def bk (g : Nat → Int32) (f c : Nat) : Option Nat := @ite (Option Nat) (g c = J 1) (Classical.propDecidable _) none (onw g c ((f + 2) % 4))
def dp (f c : Nat) : Nat := match f with
  | 0 => c / 12
  | 1 => c % 12
  | 2 => 11 - c / 12
  | _ => 11 - c % 12
theorem dp_le {f c : Nat} (hc : c < 144) : dp f c ≤ 11 := by
  unfold dp
  split <;> omega
theorem bk_dp {g : Nat → Int32} {f c b : Nat} (hf : f < 4) (hc : c < 144) (h : bk g f c = some b) : b < 144 ∧ dp f c = dp f b + 1 ∧ ¬ g c = J 1 ∧ ¬ g b = J 1 ∧ onw g b f = some c := by
  unfold bk at h
  by_cases q : g c = J 1
  · rw [if_pos q] at h
    exact absurd h (by simp)
  · rw [if_neg q] at h
    obtain ⟨h1, h2⟩ := onw_lt hc (Nat.mod_lt _ (by decide)) h
    have hb := onw_bk hc q (Nat.mod_lt _ (by decide)) h
    rw [show ((f + 2) % 4 + 2) % 4 = f by omega] at hb
    refine ⟨h1, ?_, q, h2, hb⟩
    rcases (show f = 0 ∨ f = 1 ∨ f = 2 ∨ f = 3 by omega) with e | e | e | e <;> subst e <;> simp only [Nat.reduceAdd, Nat.reduceMod] at h <;> unfold onw at h <;> simp only at h <;> unfold dp <;> simp only
    all_goals
      split at h
      · rename_i hh
        have := Option.some.inj h
        omega
      · exact absurd h (by simp)
theorem bk_of {g : Nat → Int32} {f x c : Nat} (hf : f < 4) (hx : x < 144) (hg : ¬ g x = J 1) (h : onw g x f = some c) : bk g f c = some x := by
  unfold bk
  rw [if_neg (onw_lt hx hf h).2]
  exact onw_bk hx hg hf h
noncomputable def clo (g : Nat → Int32) (P : Nat → Nat → Nat) (f : Nat) : Nat → Nat → Nat
  | 0, c => P f c
  | n + 1, c => match bk g f c with
    | none => P f c
    | some b => min (P f c) (clo g P f n b + 1)
noncomputable def Cl (g : Nat → Int32) (P : Nat → Nat → Nat) (f c : Nat) : Nat := clo g P f (dp f c) c
theorem Cl_n {g : Nat → Int32} {P : Nat → Nat → Nat} {f c : Nat} (h : bk g f c = none) : Cl g P f c = P f c := by
  unfold Cl
  cases dp f c with
  | zero => rfl
  | succ n =>
    unfold clo
    rw [h]
theorem Cl_s {g : Nat → Int32} {P : Nat → Nat → Nat} {f c b : Nat} (hf : f < 4) (hc : c < 144) (h : bk g f c = some b) : Cl g P f c = min (P f c) (Cl g P f b + 1) := by
  have e := (bk_dp hf hc h).2.1
  unfold Cl
  rw [e]
  rw [clo, h]
def Bd (m : Nat) (P : Nat → Nat → Nat) : Prop := ∀ f c, f < 4 → c < 144 → P f c ≤ m ∨ P f c = 1000
theorem Cl_Bd {g : Nat → Int32} {P : Nat → Nat → Nat} {m : Nat} (hm : m ≤ 100) (h : Bd m P) : Bd (m + 11) (Cl g P) := by
  intro f c hf hc
  have key : ∀ n c, c < 144 → dp f c = n → Cl g P f c ≤ m + n ∨ Cl g P f c = 1000 := by
    intro n
    induction n with
    | zero =>
      intro c hc hd
      cases hb : bk g f c with
      | none =>
        rw [Cl_n hb]
        have := h f c hf hc
        omega
      | some b =>
        have := (bk_dp hf hc hb).2.1
        omega
    | succ n ih =>
      intro c hc hd
      have hp := h f c hf hc
      cases hb : bk g f c with
      | none =>
        rw [Cl_n hb]
        omega
      | some b =>
        rw [Cl_s hf hc hb]
        obtain ⟨h1, h2, _⟩ := bk_dp hf hc hb
        have := ih b h1 (by omega)
        omega
  have := key _ c hc rfl
  have := dp_le (f := f) hc
  omega
def Sto (g : Nat → Int32) (P : Nat → Nat → Nat) : Prop := ∀ f c, f < 4 → c < 144 → g c = J 1 → P f c = 1000
theorem Cl_Sto {g : Nat → Int32} {P : Nat → Nat → Nat} (h : Sto g P) : Sto g (Cl g P) := by
  intro f c hf hc hg
  have hb : bk g f c = none := by unfold bk; rw [if_pos hg]
  rw [Cl_n hb]
  exact h f c hf hc hg
def tuN (T : Nat → Nat → Nat) (f c : Nat) : Nat := min (T ((f + 1) % 4) c) (T ((f + 3) % 4) c)
theorem tu_Bd {T : Nat → Nat → Nat} {m : Nat} (h : Bd m T) : Bd m (tuN T) := by
  intro f c hf hc
  unfold tuN
  have := h ((f + 1) % 4) c (Nat.mod_lt _ (by decide)) hc
  have := h ((f + 3) % 4) c (Nat.mod_lt _ (by decide)) hc
  omega
theorem tu_Sto {g : Nat → Int32} {T : Nat → Nat → Nat} (h : Sto g T) : Sto g (tuN T) := by
  intro f c hf hc hg
  unfold tuN
  rw [h ((f + 1) % 4) c (Nat.mod_lt _ (by decide)) hc hg, h ((f + 3) % 4) c (Nat.mod_lt _ (by decide)) hc hg]
  rfl
def P0 (fr f0 : Nat) (f c : Nat) : Nat := if f = f0 ∧ c = fr then 0 else 1000
noncomputable def Tn (g : Nat → Int32) (fr f0 : Nat) : Nat → Nat → Nat → Nat
  | 0 => Cl g (P0 fr f0)
  | t + 1 => Cl g (tuN (Tn g fr f0 t))
theorem Tn_ok {g : Nat → Int32} {fr f0 : Nat} (hg : ¬ g fr = J 1) : ∀ t, t ≤ 6 → Bd (11 * (t + 1)) (Tn g fr f0 t) ∧ Sto g (Tn g fr f0 t) := by
  intro t
  induction t with
  | zero =>
    intro _
    have h1 : Bd 0 (P0 fr f0) := by
      intro f c _ _
      unfold P0
      split <;> omega
    have h2 : Sto g (P0 fr f0) := by
      intro f c _ _ hc
      unfold P0
      rw [if_neg]
      rintro ⟨_, e⟩
      subst e
      exact hg hc
    exact ⟨by have := Cl_Bd (g := g) (by omega) h1; rw [show 11 * (0 + 1) = 0 + 11 by omega]; exact this, Cl_Sto h2⟩
  | succ t ih =>
    intro ht
    obtain ⟨h1, h2⟩ := ih (by omega)
    exact ⟨by have := Cl_Bd (g := g) (by omega) (tu_Bd h1); rw [show 11 * (t + 1 + 1) = 11 * (t + 1) + 11 by omega]; exact this, Cl_Sto (tu_Sto h2)⟩
theorem e6_m {a b : Nat} (ha : a ≤ 200 ∨ a = 1000) (hb : b ≤ 200 ∨ b = 1000) : min (e6 a : Int) ((e6 b : Int) + 1) = (e6 (min a (b + 1)) : Nat) ∧ min (e6 a : Int) (e6 b) = (e6 (min a b) : Nat) ∧ e6 a ≤ 1000000 ∧ e9 a ≤ 9999 ∧ min (e9 a) (e9 b + 1) = e9 (min a (b + 1)) ∧ min (e9 a) (e9 b) = e9 (min a b) := by
  rcases ha with ha | ha
  · have h1 : e6 a = a := by unfold e6; rw [if_neg (by omega)]
    have h2 : e9 a = a := by unfold e9; rw [if_neg (by omega)]
    rcases hb with hb | hb
    · have h3 : e6 b = b := by unfold e6; rw [if_neg (by omega)]
      have h4 : e9 b = b := by unfold e9; rw [if_neg (by omega)]
      have h5 : e6 (min a (b + 1)) = min a (b + 1) := by unfold e6; rw [if_neg (by omega)]
      have h6 : e9 (min a (b + 1)) = min a (b + 1) := by unfold e9; rw [if_neg (by omega)]
      have h7 : e6 (min a b) = min a b := by unfold e6; rw [if_neg (by omega)]
      have h8 : e9 (min a b) = min a b := by unfold e9; rw [if_neg (by omega)]
      rw [h1, h2, h3, h4, h5, h6, h7, h8]
      omega
    · subst hb
      have h3 : e6 1000 = 1000000 := rfl
      have h4 : e9 1000 = 9999 := rfl
      have h5 : min a (1000 + 1) = a := by omega
      have h6 : min a 1000 = a := by omega
      rw [h5, h6, h1, h2, h3, h4]
      omega
  · subst ha
    have h1 : e6 1000 = 1000000 := rfl
    have h2 : e9 1000 = 9999 := rfl
    rcases hb with hb | hb
    · have h3 : e6 b = b := by unfold e6; rw [if_neg (by omega)]
      have h4 : e9 b = b := by unfold e9; rw [if_neg (by omega)]
      have h5 : min 1000 (b + 1) = b + 1 := by omega
      have h6 : min 1000 b = b := by omega
      have h7 : e6 (b + 1) = b + 1 := by unfold e6; rw [if_neg (by omega)]
      have h8 : e9 (b + 1) = b + 1 := by unfold e9; rw [if_neg (by omega)]
      rw [h5, h6, h7, h8, h1, h2, h3, h4]
      omega
    · subst hb
      have h5 : min 1000 (1000 + 1) = 1000 := by omega
      have h6 : min 1000 1000 = 1000 := by omega
      rw [h5, h6, h1, h2]
      omega
/-! ===== the class goes on straight ===== -/
def EnC (A : zM) (D : Nat → Nat → Nat) : Prop := ∀ f c, f < 4 → c < 144 → A 88 (144 * f + c) = J (e6 (D f c))
def ord (f c : Nat) : Nat := if f < 2 then c else 143 - c
theorem onw_ord {g : Nat → Int32} {f x c : Nat} (hf : f < 4) (hx : x < 144) (h : onw g x f = some c) : ord f x < ord f c := by
  unfold ord
  have hl := (onw_lt hx hf h).1
  rcases (show f = 0 ∨ f = 1 ∨ f = 2 ∨ f = 3 by omega) with e | e | e | e <;> subst e <;> unfold onw at h <;> simp only at h
  all_goals
    split at h
    · rename_i hh
      have := Option.some.inj h
      simp
      omega
    · exact absurd h (by simp)
theorem onw_inj {g : Nat → Int32} {f x y t : Nat} (hf : f < 4) (h : onw g x f = some t) (h' : onw g y f = some t) : x = y := by
  rcases (show f = 0 ∨ f = 1 ∨ f = 2 ∨ f = 3 by omega) with e | e | e | e <;> subst e <;> unfold onw at h h' <;> simp only at h h'
  all_goals
    split at h
    · rename_i hh
      split at h'
      · rename_i hh'
        have := Option.some.inj h
        have := Option.some.inj h'
        omega
      · exact absurd h' (by simp)
    · exact absurd h (by simp)
theorem ord_inj {f x y : Nat} (hx : x < 144) (hy : y < 144) (h : ord f x = ord f y) : x = y := by
  unfold ord at h
  split at h <;> omega
theorem p_straight1 {A : zM} {g : Nat → Int32} {P : Nat → Nat → Nat} {m f : Nat} (hf : f < 4) (hg : ∀ v, v < 144 → A 3 v = g v) (hm : m ≤ 100) (hB : Bd m P) (hS : Sto g P) {D0 : Nat → Nat → Nat} (hE : EnC A D0) (hD : ∀ c, c < 144 → D0 f c = P f c) :
    Wp (loopW (fun s => b_X2_goStraight_9_2 (J f) s.1 s.2) (J 0, A)) (fun A' => EnC A' (fun f' c => if f' = f then Cl g P f c else D0 f' c) ∧ ∀ j, j ≠ 88 → A' j = A j) := by
  have hCB := Cl_Bd (g := g) hm hB
  refine wp_mono (P := fun A' => (∃ D : Nat → Nat → Nat, EnC A' D ∧ (∀ f' c, f' ≠ f → D f' c = D0 f' c) ∧ ∀ c, c < 144 → D f c = Cl g P f c) ∧ ∀ j, j ≠ 88 → A' j = A j) ?_ ?_
  · refine loop_up (fun i s => s.1 = J i ∧ (∃ D : Nat → Nat → Nat, EnC s.2 D ∧ (∀ f' c, f' ≠ f → D f' c = D0 f' c) ∧ ∀ c, c < 144 → ((∀ b, bk g f c = some b → ord f b < i) → D f c = Cl g P f c) ∧ (∀ b, bk g f c = some b → i ≤ ord f b → D f c = P f c)) ∧ ∀ j, j ≠ 88 → s.2 j = A j) 144 ⟨rfl, ⟨D0, hE, fun _ _ _ => rfl, fun c hc => ⟨fun hb => ?_, fun b _ _ => hD c hc⟩⟩, fun _ _ => rfl⟩ ?_ ?_
    · rw [hD c hc]
      cases hbk : bk g f c with
      | none => rw [Cl_n hbk]
      | some b => have := hb b hbk; omega
    · rintro i ⟨s1, A1⟩ hi ⟨e1, ⟨D, d1, d2, d3⟩, e3⟩
      simp only at e1 d1 e3
      subst e1
      -- the cell of this turn
      obtain ⟨x, hx, hox, hbeg⟩ : ∃ x, x < 144 ∧ ord f x = i ∧ b_X2_goStraight_9_2 (J f) (J i) A1 = j_X2_goStraight_30_2_9 (J f) (J i) (J x) A1 := by
        unfold b_X2_goStraight_9_2
        by_cases c : f < 2
        · refine ⟨i, hi, by unfold ord; rw [if_pos c], ?_⟩
          simp (disch := omega) only [↓reduceIte, J_lit, Int.cast_ofNat_Int, J_lt_t, J_lt_f, J_le_t, J_le_f, J_eq_t, J_eq_f, within_t, within_f, isIn_t, isIn_f, inRow_t, inRow_f, isCell_t, isCell_f, inb_t]
        · refine ⟨143 - i, by omega, by unfold ord; rw [if_neg c]; omega, ?_⟩
          simp (disch := omega) only [↓reduceIte, J_lit, Int.cast_ofNat_Int, J_lt_t, J_lt_f, J_le_t, J_le_f, J_eq_t, J_eq_f, within_t, within_f, isIn_t, isIn_f, inRow_t, inRow_f, isCell_t, isCell_f, inb_t]
          rw [J_sub, show ((143 - i : Nat) : Int) = 143 - (i : Int) by omega]
      rw [hbeg]
      have ho := t_onward (A := A1) hx hf
      rw [onw_cg (g' := g) (fun v hv => by rw [e3 3 (by decide)]; exact hg v hv) hx hf] at ho
      have dP : ∀ c, c < 144 → D f c ≤ 200 ∨ D f c = 1000 := by
        intro c hc
        have h1 := hB f c hf hc
        have h2 := hCB f c hf hc
        by_cases q : ∀ b, bk g f c = some b → ord f b < i
        · rw [(d3 c hc).1 q]; omega
        · obtain ⟨b, q1⟩ := Classical.not_forall.1 q
          obtain ⟨q2, q3⟩ := Classical.not_imp.1 q1
          rw [(d3 c hc).2 b q2 (by omega)]; omega
      unfold j_X2_goStraight_30_2_9 j_X2_goStraight_88_2_9
      cases hon : onw g x f with
      | none =>
        rw [hon] at ho
        simp only [onJ] at ho
        simp (disch := omega) only [↓nm_s, ↓reduceIte, J_lit, J_neg, Int.cast_ofNat_Int, J_lt_t, J_lt_f, J_le_t, J_le_f, J_eq_t, J_eq_f, within_t, within_f, isIn_t, isIn_f, inRow_t, inRow_f, isCell_t, isCell_f, inb_t, ho, bind_s]
        have ne : ∀ c b, c < 144 → bk g f c = some b → ord f b ≠ i := by
          intro c b hc hb e
          obtain ⟨b1, _, _, _, b2⟩ := bk_dp hf hc hb
          have := ord_inj b1 hx (e.trans hox.symm)
          subst this
          rw [hon] at b2
          exact absurd b2 (by simp)
        refine wp_some ⟨J_s _, ⟨D, d1, d2, fun c hc => ⟨fun q => (d3 c hc).1 (fun b hb => ?_), fun b hb q => (d3 c hc).2 b hb (by omega)⟩⟩, e3⟩
        have := q b hb
        have := ne c b hc hb
        omega
      | some t =>
        have hne := onJ_ne hx hf hon
        obtain ⟨ht, hgt⟩ := onw_lt hx hf hon
        rw [hon] at ho
        simp only [onJ] at ho
        have i1 : J 144 * J (f : Int) + J (t : Int) = J ((144 * f + t : Nat) : Int) := by rw [J_mul, J_add]; rfl
        have i2 : J 144 * J (f : Int) + J (x : Int) = J ((144 * f + x : Nat) : Int) := by rw [J_mul, J_add]; rfl
        have a1 := d1 f t hf ht
        have a2 := d1 f x hf hx
        obtain ⟨m1, m2, m3, m4, m5, m6⟩ := e6_m (dP t ht) (dP x hx)
        obtain ⟨_, _, m7, _⟩ := e6_m (dP x hx) (dP x hx)
        have hmin : f_J9_min_7cf53 (J (e6 (D f t))) (J (e6 (D f x) : Int) + J 1) = J (e6 (min (D f t) (D f x + 1))) := by
          rw [J_add, t_min2 (by omega) (by omega) (by omega) (by omega), m1]
        simp (disch := omega) only [↓nm_s, ↓grd_s, ↓reduceIte, J_lit, J_neg, Int.cast_ofNat_Int, J_lt_t, J_lt_f, J_le_t, J_le_f, J_eq_t, J_eq_f, within_t, within_f, isIn_t, isIn_f, inRow_t, inRow_f, isCell_t, isCell_f, inb_t, ix_Jn, ix_J, Int.reduceToNat, Int.toNat_natCast, ho, bind_s, hne, i1, i2, a1, a2, hmin]
        -- what is laid is the least there
        have dx : D f x = Cl g P f x := (d3 x hx).1 (fun b hb => by
          have := onw_ord hf (bk_dp hf hx hb).1 (bk_dp hf hx hb).2.2.2.2
          omega)
        have val : min (D f t) (D f x + 1) = Cl g P f t := by
          by_cases hgx : g x = J 1
          · have hbn : bk g f t = none := by
              cases hb : bk g f t with
              | none => rfl
              | some b =>
                obtain ⟨_, _, _, h1, h2⟩ := bk_dp hf ht hb
                have := onw_inj hf h2 hon
                subst this
                exact absurd hgx h1
            have e1 : D f t = Cl g P f t := (d3 t ht).1 (fun b hb => by rw [hbn] at hb; exact absurd hb (by simp))
            have e2 : D f x = 1000 := by rw [dx]; exact Cl_Sto hS f x hf hx hgx
            have := dP t ht
            rw [e2, ← e1]
            omega
          · have hb := bk_of hf hx hgx hon
            rw [Cl_s hf ht hb, (d3 t ht).2 x hb (by omega), dx]
        rw [val]
        refine wp_some ⟨J_s _, ⟨fun f' c => if f' = f ∧ c = t then Cl g P f t else D f' c, fun f' c hf' hc => ?_, fun f' c hne' => ?_, fun c hc => ⟨fun q => ?_, fun b hb q => ?_⟩⟩, fun j hj => by simp (disch := omega) only [mset_ne, mset_eq, mrow_ne, mrow_eq, upd_eq, upd_ne]; exact e3 j hj⟩
        · simp only
          by_cases e : f' = f ∧ c = t
          · rw [if_pos e, e.1, e.2]
            simp (disch := omega) only [mset_ne, mset_eq, mrow_ne, mrow_eq, upd_eq, upd_ne]
          · rw [if_neg e]
            simp (disch := omega) only [mset_ne, mset_eq, mrow_ne, mrow_eq, upd_eq, upd_ne]
            exact d1 f' c hf' hc
        · simp only
          rw [if_neg (fun e => hne' e.1)]
          exact d2 f' c hne'
        · simp only
          by_cases e : c = t
          · rw [if_pos ⟨trivial, e⟩, e]
          · rw [if_neg (fun h => e h.2)]
            refine (d3 c hc).1 (fun b hb => ?_)
            have h1 := q b hb
            have h2 : ord f b ≠ i := by
              intro e'
              obtain ⟨b1, _, _, _, b2⟩ := bk_dp hf hc hb
              have := ord_inj b1 hx (e'.trans hox.symm)
              subst this
              rw [hon] at b2
              exact e (Option.some.inj b2).symm
            omega
        · simp only
          have e : c ≠ t := by
            intro e
            subst e
            obtain ⟨b1, _, _, _, b2⟩ := bk_dp hf hc hb
            have := onw_inj hf b2 hon
            subst this
            omega
          rw [if_neg (fun h => e h.2)]
          exact (d3 c hc).2 b hb (by omega)
    · rintro ⟨s1, A1⟩ ⟨e1, ⟨D, d1, d2, d3⟩, e3⟩
      simp only at e1 d1 e3
      subst e1
      unfold b_X2_goStraight_9_2
      simp (disch := omega) only [↓reduceIte, J_lit, Int.cast_ofNat_Int, J_lt_t, J_lt_f, J_le_t, J_le_f, J_eq_t, J_eq_f, within_t, within_f, isIn_t, isIn_f, inRow_t, inRow_f, isCell_t, isCell_f, inb_t]
      refine wp_some ⟨⟨D, d1, d2, fun c hc => (d3 c hc).1 (fun b hb => ?_)⟩, e3⟩
      have := (bk_dp hf hc hb).1
      unfold ord
      split <;> omega
  · rintro A' ⟨⟨D, h1, h2, h3⟩, h4⟩
    refine ⟨fun f' c hf' hc => ?_, h4⟩
    rw [h1 f' c hf' hc]
    by_cases e : f' = f
    · subst e
      simp only [if_true]
      rw [h3 c hc]
    · simp only [e, if_false]
      rw [h2 f' c e]
theorem p_straight {A : zM} {g : Nat → Int32} {P : Nat → Nat → Nat} {m : Nat} (hg : ∀ v, v < 144 → A 3 v = g v) (hm : m ≤ 100) (hB : Bd m P) (hS : Sto g P) (hE : EnC A P) : Wp (f_X2_goStraight A) (fun A' => EnC A' (Cl g P) ∧ ∀ j, j ≠ 88 → A' j = A j) := by
  unfold f_X2_goStraight j_X2_goStraight_100
  refine wp_bind ?_
  refine wp_mono (P := fun A' => EnC A' (Cl g P) ∧ ∀ j, j ≠ 88 → A' j = A j) ?_ (fun A' h => wp_some h)
  refine loop_up (fun f s => s.1 = J f ∧ EnC s.2 (fun f' c => if f' < f then Cl g P f' c else P f' c) ∧ ∀ j, j ≠ 88 → s.2 j = A j) 4 ⟨rfl, fun f c hf hc => ?_, fun _ _ => rfl⟩ ?_ ?_
  · simp only
    rw [if_neg (by omega)]
    exact hE f c hf hc
  · rintro f ⟨s1, A1⟩ hf ⟨e1, e2, e3⟩
    simp only at e1 e2 e3
    subst e1
    unfold b_X2_goStraight_2 j_X2_goStraight_94_2
    simp (disch := omega) only [↓reduceIte, J_lit, Int.cast_ofNat_Int, J_lt_t, J_lt_f, J_le_t, J_le_f, J_eq_t, J_eq_f, within_t, within_f, isIn_t, isIn_f, inRow_t, inRow_f, isCell_t, isCell_f, inb_t]
    refine wp_bind (wp_mono (p_straight1 (A := A1) hf (fun v hv => by rw [e3 3 (by decide)]; exact hg v hv) hm hB hS e2 (fun c hc => by rw [if_neg (by omega)])) ?_)
    rintro A2 ⟨h1, h2⟩
    refine wp_some ⟨J_s _, fun f' c hf' hc => ?_, fun j hj => (h2 j hj).trans (e3 j hj)⟩
    have h1' := h1 f' c hf' hc
    simp only at h1' ⊢
    rw [h1']
    by_cases q : f' = f
    · subst q
      rw [if_pos rfl, if_pos (by omega)]
    · rw [if_neg q]
      by_cases q2 : f' < f
      · rw [if_pos q2, if_pos (by omega)]
      · rw [if_neg q2, if_neg (by omega)]
  · rintro ⟨s1, A1⟩ ⟨e1, e2, e3⟩
    simp only at e1 e2 e3
    subst e1
    unfold b_X2_goStraight_2
    simp (disch := omega) only [↓reduceIte, J_lit, Int.cast_ofNat_Int, J_lt_t, J_lt_f, J_le_t, J_le_f, J_eq_t, J_eq_f, within_t, within_f, isIn_t, isIn_f, inRow_t, inRow_f, isCell_t, isCell_f, inb_t]
    refine wp_some ⟨fun f c hf hc => ?_, e3⟩
    have := e2 f c hf hc
    simp only at this
    rw [this, if_pos hf]
