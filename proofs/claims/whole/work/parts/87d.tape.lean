/-! ===== the tape: words, numbers, signs ===== -/
def kwL : List (List Nat) := [[115, 108, 105, 112, 115], [115, 101, 101, 115], [112, 97, 121, 115], [119, 104, 101, 110], [111, 114], [97, 110, 100], [110, 111, 116], [104, 97, 115, 116, 101], [116, 117, 114, 110, 115], [115, 105, 103, 110, 115], [120], [121], [102, 97, 99, 105, 110, 103], [115, 110, 111, 119], [105, 110, 115, 105, 100, 101], [119, 97, 116, 99, 104], [109, 105, 110, 117, 116, 101], [115, 116, 111, 110, 101], [115, 105, 103, 110], [98, 97, 114, 101], [116, 111], [119, 97, 108, 107, 101, 114], [97, 104, 101, 97, 100], [108, 101, 102, 116], [114, 105, 103, 104, 116], [98, 97, 99, 107], [119, 97, 105, 116], [102, 114, 111, 109], [98, 108, 105, 110, 100]]
def kwN (i t : Nat) : Nat := (kwL.getD i []).getD t 0
def kwS (i : Nat) : Nat := (kwL.getD i []).length
def kCH : List Nat := [115, 108, 105, 112, 115, 32, 115, 101, 101, 115, 32, 112, 97, 121, 115, 32, 119, 104, 101, 110, 32, 111, 114, 32, 97, 110, 100, 32, 110, 111, 116, 32, 104, 97, 115, 116, 101, 32, 116, 117, 114, 110, 115, 32, 115, 105, 103, 110, 115, 32, 120, 32, 121, 32, 102, 97, 99, 105, 110, 103, 32, 115, 110, 111, 119, 32, 105, 110, 115, 105, 100, 101, 32, 119, 97, 116, 99, 104, 32, 109, 105, 110, 117, 116, 101, 32, 115, 116, 111, 110, 101, 32, 115, 105, 103, 110, 32, 98, 97, 114, 101, 32, 116, 111, 32, 119, 97, 108, 107, 101, 114, 32, 97, 104, 101, 97, 100, 32, 108, 101, 102, 116, 32, 114, 105, 103, 104, 116, 32, 98, 97, 99, 107, 32, 119, 97, 105, 116, 32, 102, 114, 111, 109, 32, 98, 108, 105, 110, 100, 32]
def kWI : List Nat := [0, 0, 0, 0, 0, 0, 1, 1, 1, 1, 1, 2, 2, 2, 2, 2, 3, 3, 3, 3, 3, 4, 4, 4, 5, 5, 5, 5, 6, 6, 6, 6, 7, 7, 7, 7, 7, 7, 8, 8, 8, 8, 8, 8, 9, 9, 9, 9, 9, 9, 10, 10, 11, 11, 12, 12, 12, 12, 12, 12, 12, 13, 13, 13, 13, 13, 14, 14, 14, 14, 14, 14, 14, 15, 15, 15, 15, 15, 15, 16, 16, 16, 16, 16, 16, 16, 17, 17, 17, 17, 17, 17, 18, 18, 18, 18, 18, 19, 19, 19, 19, 19, 20, 20, 20, 21, 21, 21, 21, 21, 21, 21, 22, 22, 22, 22, 22, 22, 23, 23, 23, 23, 23, 24, 24, 24, 24, 24, 24, 25, 25, 25, 25, 25, 26, 26, 26, 26, 26, 27, 27, 27, 27, 27, 28, 28, 28, 28, 28, 28, 29]
def kWO : List Nat := [0, 1, 2, 3, 4, 5, 0, 1, 2, 3, 4, 0, 1, 2, 3, 4, 0, 1, 2, 3, 4, 0, 1, 2, 0, 1, 2, 3, 0, 1, 2, 3, 0, 1, 2, 3, 4, 5, 0, 1, 2, 3, 4, 5, 0, 1, 2, 3, 4, 5, 0, 1, 0, 1, 0, 1, 2, 3, 4, 5, 6, 0, 1, 2, 3, 4, 0, 1, 2, 3, 4, 5, 6, 0, 1, 2, 3, 4, 5, 0, 1, 2, 3, 4, 5, 6, 0, 1, 2, 3, 4, 5, 0, 1, 2, 3, 4, 0, 1, 2, 3, 4, 0, 1, 2, 0, 1, 2, 3, 4, 5, 6, 0, 1, 2, 3, 4, 5, 0, 1, 2, 3, 4, 0, 1, 2, 3, 4, 5, 0, 1, 2, 3, 4, 0, 1, 2, 3, 4, 0, 1, 2, 3, 4, 0, 1, 2, 3, 4, 5, 0]
def isLet (c : Nat) : Prop := (97 ≤ c ∧ c ≤ 122) ∨ (65 ≤ c ∧ c ≤ 90)
def isDig (c : Nat) : Prop := 48 ≤ c ∧ c ≤ 57
def isBl (c : Nat) : Prop := c = 32 ∨ c = 10
theorem kT1 : ∀ k : Nat, k < 150 → f_J0_charAt_5068e 0 (J k) = some (J ((kCH.getD k 0 : Nat) : Int)) ∧ kCH.getD k 0 < 256 ∧ kWO.getD k 0 ≤ 6 ∧ kWI.getD k 0 < 29 := by decide +kernel
theorem kT2 : ∀ k : Nat, k < 150 → (kCH.getD k 0 = 32 → kWO.getD k 0 = kwS (kWI.getD k 0) ∧ kWI.getD (k + 1) 0 = kWI.getD k 0 + 1 ∧ kWO.getD (k + 1) 0 = 0) ∧ (¬ kCH.getD k 0 = 32 → kWI.getD (k + 1) 0 = kWI.getD k 0 ∧ kWO.getD (k + 1) 0 = kWO.getD k 0 + 1 ∧ kwN (kWI.getD k 0) (kWO.getD k 0) = kCH.getD k 0 ∧ kWO.getD k 0 < kwS (kWI.getD k 0)) := by decide +kernel
theorem kT3 : f_J0_length_8abf5 0 = J 150 := by decide +kernel
theorem kT4 : ∀ i : Nat, i < 29 → 1 ≤ kwS i ∧ kwS i ≤ 6 ∧ ∀ t : Nat, t < kwS i → 97 ≤ kwN i t ∧ kwN i t ≤ 122 := by decide +kernel
theorem kT5 : ∀ i : Nat, i < 29 → ∀ j : Nat, j < 29 → kwL.getD i [] = kwL.getD j [] → i = j := by decide +kernel
/-- the letters from p to e are word i -/
def isW (tp : Nat → Nat) (p e i : Nat) : Prop := e = p + kwS i ∧ ∀ t, t < kwS i → tp (p + t) = kwN i t
theorem isW_u {tp : Nat → Nat} {p e i j : Nat} (hi : i < 29) (hj : j < 29) (h : isW tp p e i) (h' : isW tp p e j) : i = j := by
  refine kT5 i hi j hj ?_
  have hl : (kwL.getD i []).length = (kwL.getD j []).length := by
    have h1 := h.1
    have h2 := h'.1
    unfold kwS at h1 h2
    omega
  refine List.ext_getElem hl (fun t h1 h2 => ?_)
  have e1 := h.2 t h1
  have e2 := h'.2 t h2
  rw [e1] at e2
  unfold kwN at e2
  clear e1
  generalize kwL.getD i [] = a at *
  generalize kwL.getD j [] = b at *
  rw [List.getD_eq_getElem?_getD, List.getD_eq_getElem?_getD, List.getElem?_eq_getElem h1, List.getElem?_eq_getElem h2] at e2
  exact e2
theorem lt_5 : ∀ c : Nat, c < 256 → (isLet c → ¬ f_X5_isLetter (J c) = J 0 ∧ ¬ f_X11_isLetter (J c) = J 0) ∧ (¬ isLet c → f_X5_isLetter (J c) = J 0 ∧ f_X11_isLetter (J c) = J 0) ∧ (isDig c → ¬ f_X5_isDigit (J c) = J 0 ∧ ¬ f_X11_isDigit (J c) = J 0) ∧ (¬ isDig c → f_X5_isDigit (J c) = J 0 ∧ f_X11_isDigit (J c) = J 0) := by
  intro c hc
  unfold isLet isDig f_X5_isLetter f_X11_isLetter f_X5_isDigit f_X11_isDigit j_X5_isLetter_12 j_X11_isLetter_12
  have n10 : ¬ J 1 = J 0 := by decide
  refine ⟨fun h => ?_, fun h => ?_, fun h => ?_, fun h => ?_⟩
  · rcases h with h | h
    · simp (disch := omega) only [↓reduceIte, J_lit, Int.cast_ofNat_Int, J_lt_t, J_lt_f, J_le_t, J_le_f, J_eq_t, J_eq_f, within_t, within_f, isIn_t, isIn_f, inRow_t, inRow_f, isCell_t, isCell_f, inb_t, not_false_eq_true, and_self]
    · simp (disch := omega) only [↓reduceIte, J_lit, Int.cast_ofNat_Int, J_lt_t, J_lt_f, J_le_t, J_le_f, J_eq_t, J_eq_f, within_t, within_f, isIn_t, isIn_f, inRow_t, inRow_f, isCell_t, isCell_f, inb_t, not_false_eq_true, and_self]
  · by_cases h1 : c < 65
    · simp (disch := omega) only [↓reduceIte, J_lit, Int.cast_ofNat_Int, J_lt_t, J_lt_f, J_le_t, J_le_f, J_eq_t, J_eq_f, within_t, within_f, isIn_t, isIn_f, inRow_t, inRow_f, isCell_t, isCell_f, inb_t, and_self]
    · by_cases h2 : c < 97
      · simp (disch := omega) only [↓reduceIte, J_lit, Int.cast_ofNat_Int, J_lt_t, J_lt_f, J_le_t, J_le_f, J_eq_t, J_eq_f, within_t, within_f, isIn_t, isIn_f, inRow_t, inRow_f, isCell_t, isCell_f, inb_t, and_self]
      · simp (disch := omega) only [↓reduceIte, J_lit, Int.cast_ofNat_Int, J_lt_t, J_lt_f, J_le_t, J_le_f, J_eq_t, J_eq_f, within_t, within_f, isIn_t, isIn_f, inRow_t, inRow_f, isCell_t, isCell_f, inb_t, and_self]
  · simp (disch := omega) only [↓reduceIte, J_lit, Int.cast_ofNat_Int, J_lt_t, J_lt_f, J_le_t, J_le_f, J_eq_t, J_eq_f, within_t, within_f, isIn_t, isIn_f, inRow_t, inRow_f, isCell_t, isCell_f, inb_t, not_false_eq_true, and_self]
  · by_cases h1 : c < 48
    · simp (disch := omega) only [↓reduceIte, J_lit, Int.cast_ofNat_Int, J_lt_t, J_lt_f, J_le_t, J_le_f, J_eq_t, J_eq_f, within_t, within_f, isIn_t, isIn_f, inRow_t, inRow_f, isCell_t, isCell_f, inb_t, and_self]
    · simp (disch := omega) only [↓reduceIte, J_lit, Int.cast_ofNat_Int, J_lt_t, J_lt_f, J_le_t, J_le_f, J_eq_t, J_eq_f, within_t, within_f, isIn_t, isIn_f, inRow_t, inRow_f, isCell_t, isCell_f, inb_t, and_self]
/-- a tape of n bytes at row a -/
def TpR (r : Nat → Int32) (tp : Nat → Nat) (n : Nat) : Prop := n ≤ 400 ∧ ∀ i, i < n → r i = J (tp i) ∧ tp i < 256
/-- from i on as many as are so: to e -/
def IsE (p : Nat → Prop) (n i e : Nat) : Prop := i ≤ e ∧ e ≤ n ∧ (∀ j, i ≤ j → j < e → p j) ∧ (e = n ∨ ¬ p e)
theorem IsE_u {p : Nat → Prop} {n i e e' : Nat} (h : IsE p n i e) (h' : IsE p n i e') : e = e' := by
  obtain ⟨a1, a2, a3, a4⟩ := h
  obtain ⟨b1, b2, b3, b4⟩ := h'
  rcases Nat.lt_trichotomy e e' with q | q | q
  · rcases a4 with a4 | a4
    · omega
    · exact absurd (b3 e a1 q) a4
  · exact q
  · rcases b4 with b4 | b4
    · omega
    · exact absurd (a3 e' b1 q) b4
theorem IsE_s {p : Nat → Prop} {n i e : Nat} (h : IsE p n i e) {j : Nat} (hj : i ≤ j) (hj2 : j ≤ e) : IsE p n j e := ⟨hj2, h.2.1, fun k h1 h2 => h.2.2.1 k (by omega) h2, h.2.2.2⟩
theorem p_behL {M : zM} {tp : Nat → Nat} {n p : Nat} (h0 : M 78 0 = J n) (hT : TpR (M 79) tp n) (hp : p ≤ n) : Wp (f_X5_behindLetters (J p) M) (fun v => ∃ e : Nat, v = J e ∧ IsE (fun i => isLet (tp i)) n p e) := by
  unfold f_X5_behindLetters j_X5_behindLetters_28
  refine wp_bind ?_
  refine wp_mono (P := fun v => ∃ e : Nat, v = J e ∧ IsE (fun i => isLet (tp i)) n p e) ?_ (fun v h => wp_some h)
  have hn := hT.1
  refine loop_fr (fun k s => s = J k ∧ ∀ j, p ≤ j → j < k → isLet (tp j)) p n hp ⟨rfl, fun j _ _ => by omega⟩ ?_ ?_
  · rintro k s h1 h2 ⟨rfl, h3⟩
    obtain ⟨q1, q2⟩ := hT.2 k h2
    obtain ⟨l1, l2, _, _⟩ := lt_5 (tp k) q2
    unfold b_X5_behindLetters_2
    by_cases c : isLet (tp k)
    · have := (l1 c).1
      simp (disch := omega) only [↓grd_s, ↓reduceIte, J_lit, Int.cast_ofNat_Int, J_lt_t, J_lt_f, J_le_t, J_le_f, J_eq_t, J_eq_f, within_t, within_f, isIn_t, isIn_f, inRow_t, inRow_f, isCell_t, isCell_f, inb_t, ix_Jn, ix_J, Int.reduceToNat, Int.toNat_natCast, h0, q1, this]
      refine wp_some ⟨J_s _, fun j h4 h5 => ?_⟩
      by_cases e : j = k
      · subst e; exact c
      · exact h3 j h4 (by omega)
    · have := (l2 c).1
      simp (disch := omega) only [↓grd_s, ↓reduceIte, J_lit, Int.cast_ofNat_Int, J_lt_t, J_lt_f, J_le_t, J_le_f, J_eq_t, J_eq_f, within_t, within_f, isIn_t, isIn_f, inRow_t, inRow_f, isCell_t, isCell_f, inb_t, ix_Jn, ix_J, Int.reduceToNat, Int.toNat_natCast, h0, q1, this]
      exact wp_some ⟨k, rfl, h1, by omega, h3, Or.inr c⟩
  · rintro s ⟨rfl, h3⟩
    unfold b_X5_behindLetters_2
    simp (disch := omega) only [↓grd_s, ↓reduceIte, J_lit, Int.cast_ofNat_Int, J_lt_t, J_lt_f, J_le_t, J_le_f, J_eq_t, J_eq_f, within_t, within_f, isIn_t, isIn_f, inRow_t, inRow_f, isCell_t, isCell_f, inb_t, ix_Jn, ix_J, Int.reduceToNat, Int.toNat_natCast, h0]
    exact wp_some ⟨n, rfl, hp, Nat.le_refl _, h3, Or.inl rfl⟩
theorem p_behD {M : zM} {tp : Nat → Nat} {n p : Nat} (h0 : M 78 0 = J n) (hT : TpR (M 79) tp n) (hp : p ≤ n) : Wp (f_X5_behindDigits (J p) M) (fun v => ∃ e : Nat, v = J e ∧ IsE (fun i => isDig (tp i)) n p e) := by
  unfold f_X5_behindDigits j_X5_behindDigits_28
  refine wp_bind ?_
  refine wp_mono (P := fun v => ∃ e : Nat, v = J e ∧ IsE (fun i => isDig (tp i)) n p e) ?_ (fun v h => wp_some h)
  have hn := hT.1
  refine loop_fr (fun k s => s = J k ∧ ∀ j, p ≤ j → j < k → isDig (tp j)) p n hp ⟨rfl, fun j _ _ => by omega⟩ ?_ ?_
  · rintro k s h1 h2 ⟨rfl, h3⟩
    obtain ⟨q1, q2⟩ := hT.2 k h2
    obtain ⟨_, _, l1, l2⟩ := lt_5 (tp k) q2
    unfold b_X5_behindDigits_2
    by_cases c : isDig (tp k)
    · have := (l1 c).1
      simp (disch := omega) only [↓grd_s, ↓reduceIte, J_lit, Int.cast_ofNat_Int, J_lt_t, J_lt_f, J_le_t, J_le_f, J_eq_t, J_eq_f, within_t, within_f, isIn_t, isIn_f, inRow_t, inRow_f, isCell_t, isCell_f, inb_t, ix_Jn, ix_J, Int.reduceToNat, Int.toNat_natCast, h0, q1, this]
      refine wp_some ⟨J_s _, fun j h4 h5 => ?_⟩
      by_cases e : j = k
      · subst e; exact c
      · exact h3 j h4 (by omega)
    · have := (l2 c).1
      simp (disch := omega) only [↓grd_s, ↓reduceIte, J_lit, Int.cast_ofNat_Int, J_lt_t, J_lt_f, J_le_t, J_le_f, J_eq_t, J_eq_f, within_t, within_f, isIn_t, isIn_f, inRow_t, inRow_f, isCell_t, isCell_f, inb_t, ix_Jn, ix_J, Int.reduceToNat, Int.toNat_natCast, h0, q1, this]
      exact wp_some ⟨k, rfl, h1, by omega, h3, Or.inr c⟩
  · rintro s ⟨rfl, h3⟩
    unfold b_X5_behindDigits_2
    simp (disch := omega) only [↓grd_s, ↓reduceIte, J_lit, Int.cast_ofNat_Int, J_lt_t, J_lt_f, J_le_t, J_le_f, J_eq_t, J_eq_f, within_t, within_f, isIn_t, isIn_f, inRow_t, inRow_f, isCell_t, isCell_f, inb_t, ix_Jn, ix_J, Int.reduceToNat, Int.toNat_natCast, h0]
    exact wp_some ⟨n, rfl, hp, Nat.le_refl _, h3, Or.inl rfl⟩
/-- the digits as a number -/
def dv (tp : Nat → Nat) (p : Nat) : Nat → Int
  | 0 => 0
  | r + 1 => 10 * dv tp p r + tp (p + r) - 48
theorem p_valueOf {M : zM} {tp : Nat → Nat} {n p e : Nat} (hT : TpR (M 79) tp n) (hp : p ≤ e) (he : e ≤ n) : f_X5_valueOf (J p) (J e) M = some (J (dv tp p (e - p))) := by
  have hn := hT.1
  have key : Wp (loopW (fun s => b_X5_valueOf_5 (J e) s.1 s.2 M) (J 0, J p)) (fun v => v = J (dv tp p (e - p))) := by
    refine loop_fr (fun k s => s = (J (dv tp p (k - p)), J k)) p e hp (by rw [Nat.sub_self]; rfl) ?_ ?_
    · rintro k s h1 h2 rfl
      obtain ⟨q1, q2⟩ := hT.2 k (by omega)
      unfold b_X5_valueOf_5
      simp (disch := omega) only [↓nm_s, ↓grd_s, ↓reduceIte, J_lit, Int.cast_ofNat_Int, J_lt_t, J_lt_f, J_le_t, J_le_f, J_eq_t, J_eq_f, within_t, within_f, isIn_t, isIn_f, inRow_t, inRow_f, isCell_t, isCell_f, inb_t, ix_Jn, ix_J, Int.reduceToNat, Int.toNat_natCast, q1]
      refine wp_some (pr2 ?_ (J_s _))
      rw [J_mul, J_add, J_sub, show k + 1 - p = (k - p) + 1 by omega]
      simp only [dv]
      rw [show p + (k - p) = k by omega]
    · rintro s rfl
      unfold b_X5_valueOf_5
      simp (disch := omega) only [↓reduceIte, J_lt_t, J_lt_f, J_le_t, J_le_f, J_eq_t, J_eq_f, within_t, within_f, isIn_t, isIn_f, inRow_t, inRow_f, isCell_t, isCell_f, inb_t]
      exact wp_some rfl
  obtain ⟨v, q, rfl⟩ := key
  unfold f_X5_valueOf j_X5_valueOf_33
  rw [show (0 : Int32) = J 0 from rfl, q]
  rfl
theorem p_keyword {M : zM} {tp : Nat → Nat} {n p e : Nat} (hT : TpR (M 79) tp n) (hp : p < e) (he : e ≤ n) : Wp (f_X5_keyword (J p) (J e) M) (fun v => (∃ i : Nat, i < 29 ∧ isW tp p e i ∧ v = J (128 + i : Nat)) ∨ (v = J 1 ∧ ∀ i, i < 29 → ¬ isW tp p e i)) := by
  have hn := hT.1
  unfold f_X5_keyword j_X5_keyword_103
  refine wp_bind ?_
  refine wp_mono (P := fun q => (∃ i : Nat, i < 29 ∧ isW tp p e i ∧ q = .inr (J (128 + i : Nat))) ∨ (q = .inl () ∧ ∀ i, i < 29 → ¬ isW tp p e i)) ?_ ?_
  · refine loop_up (fun k s => s.2.2.2 = J k ∧ s.1 = J (128 + kWI.getD k 0 : Nat) ∧ s.2.1 = J (p + kWO.getD k 0 : Nat) ∧ Bo s.2.2.1 (∀ t, t < kWO.getD k 0 → p + t < e ∧ tp (p + t) = kwN (kWI.getD k 0) t) ∧ ∀ i, i < kWI.getD k 0 → ¬ isW tp p e i) 150 ⟨rfl, rfl, rfl, Or.inl ⟨rfl, fun t ht => absurd ht (Nat.not_lt_zero _)⟩, fun i hi => absurd hi (Nat.not_lt_zero _)⟩ ?_ ?_
    · rintro k ⟨s1, s2, s3, s4⟩ hk ⟨e1, e2, e3, e4, e5⟩
      simp only at e1 e2 e3 e4 e5
      subst e1 e2 e3
      obtain ⟨t1, t2, t3, t4⟩ := kT1 k hk
      obtain ⟨u1, u2⟩ := kT2 k hk
      have hl := (kT4 _ t4).2.1
      generalize kCH.getD k 0 = ch at *
      generalize kWI.getD k 0 = wi at *
      generalize kWO.getD k 0 = wo at *
      generalize kWI.getD (k + 1) 0 = wi' at *
      generalize kWO.getD (k + 1) 0 = wo' at *
      unfold b_X5_keyword_13 j_X5_keyword_66_13 j_X5_keyword_67_13 j_X5_keyword_88_13 j_X5_keyword_97_13
      by_cases c : ch = 32
      · obtain ⟨v1, v2, v3⟩ := u1 c
        subst c
        rcases e4 with ⟨rfl, e4⟩ | ⟨rfl, e4⟩
        · by_cases ce : p + wo = e
          · simp (disch := omega) only [↓grd_s, ↓reduceIte, J_lit, Int.cast_ofNat_Int, J_lt_t, J_lt_f, J_le_t, J_le_f, J_eq_t, J_eq_f, within_t, within_f, isIn_t, isIn_f, inRow_t, inRow_f, isCell_t, isCell_f, inb_t, ix_Jn, ix_J, Int.reduceToNat, Int.toNat_natCast, kT3, t1, bind_s]
            exact wp_some (Or.inl ⟨wi, t4, ⟨by omega, fun t ht => (e4 t (by omega)).2⟩, rfl⟩)
          · simp (disch := omega) only [↓grd_s, ↓reduceIte, J_lit, Int.cast_ofNat_Int, J_lt_t, J_lt_f, J_le_t, J_le_f, J_eq_t, J_eq_f, within_t, within_f, isIn_t, isIn_f, inRow_t, inRow_f, isCell_t, isCell_f, inb_t, ix_Jn, ix_J, Int.reduceToNat, Int.toNat_natCast, kT3, t1, bind_s]
            refine wp_some ⟨J_s _, ?_, ?_, Or.inl ⟨rfl, fun t ht => by omega⟩, fun i hi => ?_⟩
            · simp only
              rw [J_s, v2]
              rfl
            · simp only
              rw [v3]
              rfl
            · by_cases ei : i = wi
              · subst ei
                intro h
                have := h.1
                omega
              · exact e5 i (by omega)
        · simp (disch := omega) only [↓grd_s, ↓reduceIte, J_lit, Int.cast_ofNat_Int, J_lt_t, J_lt_f, J_le_t, J_le_f, J_eq_t, J_eq_f, within_t, within_f, isIn_t, isIn_f, inRow_t, inRow_f, isCell_t, isCell_f, inb_t, ix_Jn, ix_J, Int.reduceToNat, Int.toNat_natCast, kT3, t1, bind_s]
          refine wp_some ⟨J_s _, ?_, ?_, Or.inl ⟨rfl, fun t ht => by omega⟩, fun i hi => ?_⟩
          · simp only
            rw [J_s, v2]
            rfl
          · simp only
            rw [v3]
            rfl
          · by_cases ei : i = wi
            · subst ei
              intro h
              refine e4 (fun t ht => ⟨?_, h.2 t (by omega)⟩)
              have := h.1
              omega
            · exact e5 i (by omega)
      · obtain ⟨v1, v2, v3, v4⟩ := u2 c
        have nx : ∀ s0 : Int32, Bo s0 (∀ t, t < wo + 1 → p + t < e ∧ tp (p + t) = kwN wi t) → Wp (some (.inl (J ((128 + wi : Nat) : Int), J ((p + wo : Nat) : Int) + J 1, s0, J (k : Int) + J 1)) : Option ((Int32 × Int32 × Int32 × Int32) ⊕ (Unit ⊕ Int32))) (fun o => Sum.elim (fun s => s.2.2.2 = J ((k + 1 : Nat) : Int) ∧ s.1 = J ((128 + wi' : Nat) : Int) ∧ s.2.1 = J ((p + wo' : Nat) : Int) ∧ Bo s.2.2.1 (∀ t, t < wo' → p + t < e ∧ tp (p + t) = kwN wi' t) ∧ ∀ i, i < wi' → ¬ isW tp p e i) (fun q => (∃ i : Nat, i < 29 ∧ isW tp p e i ∧ q = .inr (J (128 + i : Nat))) ∨ (q = .inl () ∧ ∀ i, i < 29 → ¬ isW tp p e i)) o) := by
          intro s0 h
          rw [v1, v2]
          exact wp_some ⟨J_s _, rfl, J_s _, h, e5⟩
        rcases e4 with ⟨rfl, e4⟩ | ⟨rfl, e4⟩
        · by_cases ce : p + wo < e
          · obtain ⟨q1, q2⟩ := hT.2 (p + wo) (by omega)
            by_cases cc : tp (p + wo) = ch
            · simp (disch := omega) only [↓grd_s, ↓reduceIte, J_lit, Int.cast_ofNat_Int, J_lt_t, J_lt_f, J_le_t, J_le_f, J_eq_t, J_eq_f, within_t, within_f, isIn_t, isIn_f, inRow_t, inRow_f, isCell_t, isCell_f, inb_t, ix_Jn, ix_J, Int.reduceToNat, Int.toNat_natCast, kT3, t1, bind_s, q1]
              refine nx _ (Or.inl ⟨rfl, fun t ht => ?_⟩)
              by_cases et : t = wo
              · subst et; exact ⟨ce, by rw [cc, v3]⟩
              · exact e4 t (by omega)
            · simp (disch := omega) only [↓grd_s, ↓reduceIte, J_lit, Int.cast_ofNat_Int, J_lt_t, J_lt_f, J_le_t, J_le_f, J_eq_t, J_eq_f, within_t, within_f, isIn_t, isIn_f, inRow_t, inRow_f, isCell_t, isCell_f, inb_t, ix_Jn, ix_J, Int.reduceToNat, Int.toNat_natCast, kT3, t1, bind_s, q1]
              refine nx _ (Or.inr ⟨rfl, fun h => ?_⟩)
              have := (h wo (by omega)).2
              omega
          · simp (disch := omega) only [↓grd_s, ↓reduceIte, J_lit, Int.cast_ofNat_Int, J_lt_t, J_lt_f, J_le_t, J_le_f, J_eq_t, J_eq_f, within_t, within_f, isIn_t, isIn_f, inRow_t, inRow_f, isCell_t, isCell_f, inb_t, ix_Jn, ix_J, Int.reduceToNat, Int.toNat_natCast, kT3, t1, bind_s]
            refine nx _ (Or.inr ⟨rfl, fun h => ?_⟩)
            have := (h wo (by omega)).1
            omega
        · simp (disch := omega) only [↓grd_s, ↓reduceIte, J_lit, Int.cast_ofNat_Int, J_lt_t, J_lt_f, J_le_t, J_le_f, J_eq_t, J_eq_f, within_t, within_f, isIn_t, isIn_f, inRow_t, inRow_f, isCell_t, isCell_f, inb_t, ix_Jn, ix_J, Int.reduceToNat, Int.toNat_natCast, kT3, t1, bind_s]
          exact nx _ (Or.inr ⟨rfl, fun h => e4 (fun t ht => h t (by omega))⟩)
    · rintro ⟨s1, s2, s3, s4⟩ ⟨e1, e2, e3, e4, e5⟩
      simp only at e1 e2 e3 e4 e5
      subst e1 e2 e3
      unfold b_X5_keyword_13
      simp (disch := omega) only [↓grd_s, ↓reduceIte, J_lit, Int.cast_ofNat_Int, J_lt_t, J_lt_f, J_le_t, J_le_f, J_eq_t, J_eq_f, within_t, within_f, isIn_t, isIn_f, inRow_t, inRow_f, isCell_t, isCell_f, inb_t, ix_Jn, ix_J, Int.reduceToNat, Int.toNat_natCast, kT3]
      exact wp_some (Or.inr ⟨rfl, e5⟩)
  · rintro q (⟨i, h1, h2, rfl⟩ | ⟨rfl, h⟩)
    · exact wp_some (Or.inl ⟨i, h1, h2, rfl⟩)
    · exact wp_some (Or.inr ⟨rfl, h⟩)
