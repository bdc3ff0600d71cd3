/-! ===== a law: a condition goes on, both ===== -/
def Kq (wn : Nat) (N N' : zM) : Prop := N' 257 12 = N 257 12 ∧ N' 257 19 = N 257 19 ∧ ∀ i, i < wn → N' 264 i = N 264 i
/-- read well; what waits is kept below wn -/
def Sd (m wn : Nat) (M N M' N' : zM) (tp : Nat → Nat) (n NN : Nat) (P E : Nat → Nat) (j cz cn s : Nat) : Prop :=
  ∃ (j' q' : Nat) (L : List (Nat × Int32)), j < j' ∧ LwS M' N' tp n NN P E j' q' (cz + (encL L).length) (cn + L.length) s ∧ Em M N M' N' cz cn L ∧ (∀ q ∈ L, okQ q) ∧ (∀ st : List Bool, st.length < m → tyL L st = some (true :: st)) ∧ Kq wn N N' ∧ FrC M M' ∧ FrN N N'
def SG (rS : Nat → Int32 → zM → Option (Int32 × zM)) (tp : Nat → Nat) (n NN : Nat) (P E : Nat → Nat) (p : Nat) : Prop := ∀ (j q cz cn s wn : Nat) (M N : zM), LwS M N tp n NN P E j q cz cn s → N 257 19 = J wn → wn ≤ 3 * p + 2 → N 257 12 = J p →
  (∃ M' N', rS 55 (J p) M = some (J 1, M') ∧ FO N = FB N' ∧ Sd (44 + 2 * p) wn M N M' N' tp n NN P E j cz cn s) ∨
  (∃ M' N', rS 55 (J p) M = some (J 0, M') ∧ FO N = some N' ∧ Fc M N M' N')
def CD (rC : Nat → Int32 → zM → Option (Int32 × zM)) (tp : Nat → Nat) (n NN : Nat) (P E : Nat → Nat) (p : Nat) : Prop := ∀ (j q cz cn s wn : Nat) (M N : zM), LwS M N tp n NN P E j q cz cn s → N 257 19 = J wn → wn ≤ 3 * p → (wn = 0 ∨ N 264 (wn - 1) = J 1) → N 257 12 = J p →
  (∃ M' N', rC 55 (J p) M = some (J 1, M') ∧ FO N = FC (J 0) N' ∧ Sd (42 + 2 * p) wn M N M' N' tp n NN P E j cz cn s) ∨
  (∃ M' N', rC 55 (J p) M = some (J 0, M') ∧ FO N = some N' ∧ Fc M N M' N')
noncomputable def CH (rS : Nat → Int32 → zM → Option (Int32 × zM)) (p a o k : Nat) (M : zM) : Option (Int32 × zM) := (if a = 1 then f_X3_emit 55 (J 10133) M else some M).bind (CLp rS p (J o) (J 1) (J k))
def rep (m : Nat) (st : List Bool) : List Bool := List.replicate m true ++ st
theorem rep_l (m : Nat) (st : List Bool) : (rep m st).length = m + st.length := by simp [rep]
theorem rep_s (m : Nat) (st : List Bool) : true :: rep m st = rep (m + 1) st := by simp [rep, List.replicate_succ]
def cloL (c b : Nat) : List (Nat × Int32) := if b = 1 then [(c + 7, J 0)] else []
theorem cloL_l {c b : Nat} (hc : c = 3 ∨ c = 4) (hb : b ≤ 1) : (cloL c b).length = b ∧ (encL (cloL c b)).length = b := by
  by_cases c1 : b = 1
  · subst c1
    rcases hc with e | e <;> subst e <;> exact ⟨rfl, rfl⟩
  · have : b = 0 := by omega
    subst this
    exact ⟨rfl, rfl⟩
theorem cloL_ok {c b : Nat} (hc : c = 3 ∨ c = 4) : ∀ q ∈ cloL c b, okQ q := by
  intro q hq
  unfold cloL at hq
  by_cases c1 : b = 1
  · rw [if_pos c1, List.mem_singleton] at hq
    subst hq
    exact ⟨by show c + 7 ≤ 11; omega, fun e => by simp at e, fun e => by simp at e, fun e => by simp at e⟩
  · rw [if_neg c1] at hq
    simp at hq
theorem cloL_ty {c b : Nat} (hc : c = 3 ∨ c = 4) (hb : b ≤ 1) (m : Nat) (st : List Bool) : tyL (cloL c b) (rep (m + 1 + b) st) = some (rep (m + 1) st) := by
  by_cases c1 : b = 1
  · subst c1
    rw [show rep (m + 1 + 1) st = true :: true :: rep m st by rw [rep_s, rep_s], show rep (m + 1) st = true :: rep m st by rw [rep_s]]
    rcases hc with e | e <;> subst e <;> rfl
  · have : b = 0 := by omega
    subst this
    rfl
def HdOk (p wn a o s : Nat) (M N M' N' : zM) (tp : Nat → Nat) (n NN : Nat) (P E : Nat → Nat) (j cz cn : Nat) : Prop :=
  ∃ (j' q' : Nat) (L : List (Nat × Int32)), j ≤ j' ∧ LwS M' N' tp n NN P E j' q' (cz + (encL L).length) (cn + L.length) s ∧ Em M N M' N' cz cn L ∧ (∀ q ∈ L, okQ q) ∧ (∀ st : List Bool, st.length < 42 + 2 * p → tyL L (rep (1 + o + a) st) = some (true :: st)) ∧ (N' 257 12 = N 257 12 ∧ N' 257 19 = J wn ∧ ∀ i, i < wn → N' 264 i = N 264 i) ∧ FrC M M' ∧ FrN N N'
theorem hd_cons {p wn a o a' o' s : Nat} {M N M1 N1 M' N' : zM} {tp : Nat → Nat} {n NN : Nat} {P E : Nat → Nat} {j j1 cz cn : Nat} {A : List (Nat × Int32)} (hj : j ≤ j1) (hA : Em M N M1 N1 cz cn A) (okA : ∀ q ∈ A, okQ q) (tyA : ∀ st : List Bool, st.length < 42 + 2 * p → tyL A (rep (1 + o + a) st) = some (rep (1 + o' + a') st)) (k1 : N1 257 12 = N 257 12) (k2 : ∀ i, i < wn → N1 264 i = N 264 i) (f1 : FrC M M1) (f2 : FrN N N1)
    (h : HdOk p wn a' o' s M1 N1 M' N' tp n NN P E j1 (cz + (encL A).length) (cn + A.length)) : HdOk p wn a o s M N M' N' tp n NN P E j cz cn := by
  obtain ⟨j', q', L, l1, l2, l3, l4, l5, ⟨l6, l6b, l6c⟩, l7, l8⟩ := h
  have hc := LwS_c l2
  refine ⟨j', q', A ++ L, by omega, LwS_app l2, Em_t (by omega) hA l3, ok_app okA l4, fun st hst => ?_, ⟨by rw [l6, k1], l6b, fun i hi => by rw [l6c i hi, k2 i hi]⟩, FrC_t f1 l7, FrN_t f2 l8⟩
  rw [tyL_app, tyA st hst]
  exact l5 st hst
/-- a push on the reference's stack, behind a word -/
def puN (N : zM) (c : Int32) (w e : Nat) : zM := mset (mset (mset N 264 w c) 257 9 (J e)) 257 19 (J (w + 1 : Nat))
theorem puS {M N : zM} {tp : Nat → Nat} {n NN : Nat} {P E : Nat → Nat} {j q cz cn s : Nat} (h : LwS M N tp n NN P E j q cz cn s) (hj : j < NN) (c : Int32) (w : Nat) : LwS (mset M 78 7 (J (j + 1 : Nat))) (puN N c w (E j)) tp n NN P E (j + 1) (E j) cz cn (s + 1) := by
  have hx := LwS_next h hj
  refine ⟨TS_fr hx.1 rfl rfl rfl rfl ?_ ?_ ?_ ?_, hx.2.1, ?_, hx.2.2.2.1, hx.2.2.2.2⟩
  · unfold puN; simp (disch := omega) only [mset_ne, mset_eq, mrow_ne, mrow_eq, upd_eq, upd_ne]
  · unfold puN; simp (disch := omega) only [mset_ne, mset_eq, mrow_ne, mrow_eq, upd_eq, upd_ne]
  · unfold puN; simp (disch := omega) only [mset_ne, mset_eq, mrow_ne, mrow_eq, upd_eq, upd_ne]
  · unfold puN; simp (disch := omega) only [mset_ne, mset_eq, mrow_ne, mrow_eq, upd_eq, upd_ne]
  · unfold puN; simp (disch := omega) only [mset_ne, mset_eq, mrow_ne, mrow_eq, upd_eq, upd_ne]; exact h.2.2.1
theorem puF (N : zM) (c : Int32) (w e : Nat) : FrN N (puN N c w e) := ⟨fun j h1 h2 h3 => by unfold puN; simp (disch := omega) only [mset_ne, mset_eq, mrow_ne, mrow_eq, upd_eq, upd_ne], fun i h1 h2 h3 h4 h5 h6 => by unfold puN; simp (disch := omega) only [mset_ne, mset_eq, mrow_ne, mrow_eq, upd_eq, upd_ne]⟩
