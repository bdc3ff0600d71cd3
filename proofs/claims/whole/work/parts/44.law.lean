/-! ===== the law is asked ===== -/
theorem loop_st {σ ρ : Type} {B : σ → Option (σ ⊕ ρ)} {s s' : σ} (h : B s = some (.inl s')) : loopW B s = loopW B s' := by
  rw [loopW_eq, h]
theorem loop_en {σ ρ : Type} {B : σ → Option (σ ⊕ ρ)} {s : σ} {r : ρ} (h : B s = some (.inr r)) : loopW B s = some r := by
  rw [loopW_eq, h]
def StkR (f g : Nat → Int32) : List Bool → Prop
  | [] => True
  | b :: r => StkR f g r ∧ f r.length = g r.length ∧ (b = true → f r.length = 0 ∨ f r.length = 1)
theorem StkR_upd {f g : Nat → Int32} {j j' : Nat} {v v' : Int32} : ∀ {r : List Bool}, r.length ≤ j → r.length ≤ j' → StkR f g r → StkR (upd f j v) (upd g j' v') r
  | [], _, _, _ => trivial
  | b :: r, h1, h2, ⟨a, e, c⟩ => by
    simp only [List.length_cons] at h1 h2
    refine ⟨StkR_upd (by omega) (by omega) a, ?_, ?_⟩
    · rw [upd_ne (by omega), upd_ne (by omega)]
      exact e
    · rw [upd_ne (by omega)]
      exact c
theorem RdC_hd {f : Nat → Int32} {c : Nat} {v : Int32} {l : List Int32} (h : RdC f c (v :: l)) : f c = v := h 0 v rfl
theorem RdC_tl {f : Nat → Int32} {c : Nat} {v : Int32} {l : List Int32} (h : RdC f c (v :: l)) : RdC f (c + 1) l := fun i w hw => by
  have := h (i + 1) w (by simpa using hw)
  rw [show c + 1 + i = c + (i + 1) by omega]
  exact this
theorem RdR_hd {f : Nat → Int32} {c : Nat} {q : Nat × Int32} {l : List (Nat × Int32)} (h : RdR f c (q :: l)) : f (1025 + 2 * c) = J q.1 ∧ f (1026 + 2 * c) = q.2 := h 0 q rfl
theorem RdR_tl {f : Nat → Int32} {c : Nat} {q : Nat × Int32} {l : List (Nat × Int32)} (h : RdR f c (q :: l)) : RdR f (c + 1) l := fun i w hw => by
  have := h (i + 1) w (by simpa using hw)
  rw [show c + 1 + i = c + (i + 1) by omega]
  exact this
theorem s_push {M N : zM} {cE fE d c fr : Nat} {q : Nat × Int32} {v : Int32} (hd : d < 63) (hc : c < cE) (hcE : cE ≤ 400) (hf : fr < fE) (hfE : fE ≤ 450)
    (hcls : M 45 c = v) (hv : (∃ x : Nat, x < 10000 ∧ v = J x ∧ q = (0, v)) ∨ ∃ x : Nat, x < 10 ∧ v = J (10135 + x) ∧ q = (1, J x)) (hr1 : N 259 (1025 + 2 * fr) = J q.1) (hr2 : N 259 (1026 + 2 * fr) = q.2) (hfa : ∀ i, i < 10 → M 84 i = N 265 i) :
    ∃ w, b_X3_run_6 41 84 (J cE) (J d) (J c) M = some (.inl (J (d + 1 : Nat), J (c + 1 : Nat), mset M 46 d w)) ∧ b_X11_comesTo_5 (J fE) (J d) (J fr) N = some (.inl (J (d + 1 : Nat), J (fr + 1 : Nat), mset N 266 d w)) := by
  have e1025 : (1025 + 2 * (fr : Int)).toNat = 1025 + 2 * fr := by omega
  have e1026 : (1025 + 2 * (fr : Int) + 1).toNat = 1026 + 2 * fr := by omega
  unfold b_X3_run_6 b_X11_comesTo_5 j_X3_run_169_6 j_X11_comesTo_71_5 j_X11_comesTo_158_5
  rcases hv with ⟨x, hx, rfl, rfl⟩ | ⟨x, hx, rfl, rfl⟩
  · simp only at hr1 hr2
    refine ⟨J x, ?_, ?_⟩
    · simp (disch := omega) only [↓nm_eq, ↓grd_if, ↓reduceIte, J_lit, J_nI, J_add, J_sub, J_mul, J_neg, Int.cast_ofNat_Int, J_lt_t, J_lt_f, J_le_t, J_le_f, J_eq_t, J_eq_f, within_t, within_f, isIn_t, isIn_f, inRow_t, inRow_f, isCell_t, isCell_f, inb_t, ix_Jn, ix_J, Int.reduceToNat, Int.toNat_natCast, mset_ne, mset_eq, mrow_ne, mrow_eq, upd_eq, upd_ne, bind_some, bnd2_some, not_true_eq_false, not_false_eq_true, Nat.reduceAdd, hcls]
      rfl
    · simp (disch := omega) only [↓nm_eq, ↓grd_if, ↓reduceIte, J_lit, J_nI, J_add, J_sub, J_mul, J_neg, Int.cast_ofNat_Int, J_lt_t, J_lt_f, J_le_t, J_le_f, J_eq_t, J_eq_f, within_t, within_f, isIn_t, isIn_f, inRow_t, inRow_f, isCell_t, isCell_f, inb_t, ix_Jn, ix_J, Int.reduceToNat, Int.toNat_natCast, mset_ne, mset_eq, mrow_ne, mrow_eq, upd_eq, upd_ne, bind_some, bnd2_some, not_true_eq_false, not_false_eq_true, Nat.reduceAdd, e1025, e1026, hr1, hr2]
      rfl
  · simp only at hr1 hr2
    refine ⟨M 84 x, ?_, ?_⟩
    · have e : (10135 + (x : Int) - 10000 - 135).toNat = x := by omega
      simp (disch := omega) only [↓nm_eq, ↓grd_if, ↓reduceIte, J_lit, J_nI, J_add, J_sub, J_mul, J_neg, Int.cast_ofNat_Int, J_lt_t, J_lt_f, J_le_t, J_le_f, J_eq_t, J_eq_f, within_t, within_f, isIn_t, isIn_f, inRow_t, inRow_f, isCell_t, isCell_f, inb_t, ix_Jn, ix_J, Int.reduceToNat, Int.toNat_natCast, mset_ne, mset_eq, mrow_ne, mrow_eq, upd_eq, upd_ne, bind_some, bnd2_some, not_true_eq_false, not_false_eq_true, Nat.reduceAdd, hcls, e]
      rfl
    · simp (disch := omega) only [↓nm_eq, ↓grd_if, ↓reduceIte, J_lit, J_nI, J_add, J_sub, J_mul, J_neg, Int.cast_ofNat_Int, J_lt_t, J_lt_f, J_le_t, J_le_f, J_eq_t, J_eq_f, within_t, within_f, isIn_t, isIn_f, inRow_t, inRow_f, isCell_t, isCell_f, inb_t, ix_Jn, ix_J, Int.reduceToNat, Int.toNat_natCast, mset_ne, mset_eq, mrow_ne, mrow_eq, upd_eq, upd_ne, bind_some, bnd2_some, not_true_eq_false, not_false_eq_true, Nat.reduceAdd, e1025, e1026, hr1, hr2]
      rw [hfa x hx]
      rfl
def isBin (w : Nat) : Prop := w = 2 ∨ w = 3 ∨ w = 4 ∨ w = 6 ∨ w = 7 ∨ w = 8 ∨ w = 10 ∨ w = 11
/-- two are made one -/
def bin2 (w : Nat) (a b : Int32) : Int32 := match w with
  | 2 => a + b
  | 3 => a - b
  | 4 => a * b
  | 6 => if a < b then 1 else 0
  | 7 => if a = b then 1 else 0
  | 8 => if b < a then 1 else 0
  | 10 => a &&& b
  | _ => a ||| b
def binC (w : Nat) : Int := match w with
  | 2 => 10043
  | 3 => 10045
  | 4 => 10042
  | 6 => 10060
  | 7 => 10061
  | 8 => 10062
  | 10 => 10133
  | _ => 10132
theorem lt_nle (a b : Int32) : (b ≤ a) = ¬ (a < b) := by
  rw [i_lt, i_le]
  simp only [eq_iff_iff]
  omega
theorem t_join {w : Nat} (hw : isBin w) (a b : Int32) : f_X3_join (J (binC w - 10000)) a b = some (bin2 w a b) := by
  unfold f_X3_join
  rcases hw with e | e | e | e | e | e | e | e <;> subst e <;> simp (disch := omega) only [↓nm_eq, ↓grd_if, ↓reduceIte, J_lit, J_nI, J_add, J_sub, J_mul, J_neg, Int.cast_ofNat_Int, J_lt_t, J_lt_f, J_le_t, J_le_f, J_eq_t, J_eq_f, within_t, within_f, isIn_t, isIn_f, inRow_t, inRow_f, isCell_t, isCell_f, inb_t, ix_Jn, ix_J, Int.reduceToNat, Int.toNat_natCast, mset_ne, mset_eq, mrow_ne, mrow_eq, upd_eq, upd_ne, bind_some, bnd2_some, not_true_eq_false, not_false_eq_true, Nat.reduceAdd, binC, bin2, Int.reduceSub]
  · by_cases h : a < b
    · rw [if_neg (show ¬ b ≤ a by rw [lt_nle]; simpa using h), if_pos h]
    · rw [if_pos (show b ≤ a by rw [lt_nle]; simpa using h), if_neg h]
  · by_cases h : a = b
    · rw [if_pos h, if_pos h]
    · rw [if_neg h, if_neg h]
  · by_cases h : b < a
    · rw [if_neg (show ¬ a ≤ b by rw [lt_nle]; simpa using h), if_pos h]
    · rw [if_pos (show a ≤ b by rw [lt_nle]; simpa using h), if_neg h]
theorem t_both {w : Nat} (hw : isBin w) (a b : Int32) (hb : 10 ≤ w → (a = 0 ∨ a = 1) ∧ (b = 0 ∨ b = 1)) : f_X11_both (J w) a b = bin2 w a b := by
  unfold f_X11_both j_X11_both_86 j_X11_both_122 f_X11_asInt
  rcases hw with e | e | e | e | e | e | e | e <;> subst e <;> simp (disch := omega) only [↓nm_eq, ↓grd_if, ↓reduceIte, J_lit, J_nI, J_add, J_sub, J_mul, J_neg, Int.cast_ofNat_Int, J_lt_t, J_lt_f, J_le_t, J_le_f, J_eq_t, J_eq_f, within_t, within_f, isIn_t, isIn_f, inRow_t, inRow_f, isCell_t, isCell_f, inb_t, ix_Jn, ix_J, Int.reduceToNat, Int.toNat_natCast, mset_ne, mset_eq, mrow_ne, mrow_eq, upd_eq, upd_ne, bind_some, bnd2_some, not_true_eq_false, not_false_eq_true, Nat.reduceAdd, bin2]
  · by_cases h : a < b
    · rw [if_neg (show ¬ b ≤ a by rw [lt_nle]; simpa using h), if_pos h]
    · rw [if_pos (show b ≤ a by rw [lt_nle]; simpa using h), if_neg h]
  · by_cases h : b < a
    · rw [if_neg (show ¬ a ≤ b by rw [lt_nle]; simpa using h), if_pos h]
    · rw [if_pos (show a ≤ b by rw [lt_nle]; simpa using h), if_neg h]
  · obtain ⟨h1, h2⟩ := hb (by omega)
    rcases h1 with e | e <;> rcases h2 with e' | e' <;> subst e <;> subst e' <;> decide
  · obtain ⟨h1, h2⟩ := hb (by omega)
    rcases h1 with e | e <;> rcases h2 with e' | e' <;> subst e <;> subst e' <;> decide
theorem s_bin {M N : zM} {cE fE e c fr w : Nat} {v : Int32} (hd : e + 2 < 64) (hc : c < cE) (hcE : cE ≤ 400) (hf : fr < fE) (hfE : fE ≤ 450) (hw : isBin w)
    (hcls : M 45 c = J (binC w)) (hr1 : N 259 (1025 + 2 * fr) = J w) (h0 : M 46 e = N 266 e) (h1 : M 46 (e + 1) = N 266 (e + 1)) (eb : f_X11_both (J w) (N 266 e) (N 266 (e + 1)) = bin2 w (N 266 e) (N 266 (e + 1))) :
    b_X3_run_6 41 84 (J cE) (J (e + 2 : Nat)) (J c) M = some (.inl (J (e + 1 : Nat), J (c + 1 : Nat), mset M 46 e (bin2 w (M 46 e) (M 46 (e + 1))))) ∧ b_X11_comesTo_5 (J fE) (J (e + 2 : Nat)) (J fr) N = some (.inl (J (e + 1 : Nat), J (fr + 1 : Nat), mset N 266 e (bin2 w (M 46 e) (M 46 (e + 1))))) := by
  have e1025 : (1025 + 2 * (fr : Int)).toNat = 1025 + 2 * fr := by omega
  have e1026 : (1025 + 2 * (fr : Int) + 1).toNat = 1026 + 2 * fr := by omega
  have ed : (((e + 2 : Nat) : Int) + -1).toNat = e + 1 := by omega
  have ed2 : (((e + 2 : Nat) : Int) + -1 - 1).toNat = e := by omega
  have ee : ((e + 2 : Nat) : Int) + -1 = ((e + 1 : Nat) : Int) := by omega
  have ed3 : (((e + 1 : Nat) : Int) - 1).toNat = e := by omega
  have ej := t_join hw (M 46 e) (M 46 (e + 1))
  have hbc : 10042 ≤ binC w ∧ binC w ≤ 10133 ∧ binC w ≠ 10134 := by
    unfold isBin at hw
    rcases hw with e | e | e | e | e | e | e | e <;> subst e <;> decide
  unfold b_X3_run_6 b_X11_comesTo_5 j_X3_run_169_6 j_X3_run_94_6 j_X3_run_130_6 j_X11_comesTo_158_5
  constructor
  · simp (disch := omega) only [↓nm_eq, ↓grd_if, ↓reduceIte, J_lit, J_nI, J_add, J_sub, J_mul, J_neg, Int.cast_ofNat_Int, J_lt_t, J_lt_f, J_le_t, J_le_f, J_eq_t, J_eq_f, within_t, within_f, isIn_t, isIn_f, inRow_t, inRow_f, isCell_t, isCell_f, inb_t, ix_Jn, ix_J, Int.reduceToNat, Int.toNat_natCast, mset_ne, mset_eq, mrow_ne, mrow_eq, upd_eq, upd_ne, bind_some, bnd2_some, not_true_eq_false, not_false_eq_true, Nat.reduceAdd, j_X3_run_169_6, hcls, ed, ed2, ed3, ej, ee]
    rfl
  · have hw2 : 2 ≤ w ∧ w ≤ 11 ∧ w ≠ 5 ∧ w ≠ 9 := by unfold isBin at hw; omega
    simp (disch := omega) only [↓nm_eq, ↓grd_if, ↓reduceIte, J_lit, J_nI, J_add, J_sub, J_mul, J_neg, Int.cast_ofNat_Int, J_lt_t, J_lt_f, J_le_t, J_le_f, J_eq_t, J_eq_f, within_t, within_f, isIn_t, isIn_f, inRow_t, inRow_f, isCell_t, isCell_f, inb_t, ix_Jn, ix_J, Int.reduceToNat, Int.toNat_natCast, mset_ne, mset_eq, mrow_ne, mrow_eq, upd_eq, upd_ne, bind_some, bnd2_some, not_true_eq_false, not_false_eq_true, Nat.reduceAdd, e1025, e1026, hr1, ed, ed2, ed3, ee, eb]
    rw [h0, h1]
    rfl
theorem s_not {M N : zM} {cE fE e c fr : Nat} (hd : e + 1 < 64) (hc : c < cE) (hcE : cE ≤ 400) (hf : fr < fE) (hfE : fE ≤ 450) (hcls : M 45 c = J 10134) (hr1 : N 259 (1025 + 2 * fr) = J 9) (h0 : M 46 e = N 266 e) :
    b_X3_run_6 41 84 (J cE) (J (e + 1 : Nat)) (J c) M = some (.inl (J (e + 1 : Nat), J (c + 1 : Nat), mset M 46 e (J 1 - M 46 e))) ∧ b_X11_comesTo_5 (J fE) (J (e + 1 : Nat)) (J fr) N = some (.inl (J (e + 1 : Nat), J (fr + 1 : Nat), mset N 266 e (J 1 - M 46 e))) := by
  have e1025 : (1025 + 2 * (fr : Int)).toNat = 1025 + 2 * fr := by omega
  have e1026 : (1025 + 2 * (fr : Int) + 1).toNat = 1026 + 2 * fr := by omega
  have ed : (((e + 1 : Nat) : Int) - 1).toNat = e := by omega
  unfold b_X3_run_6 b_X11_comesTo_5 j_X3_run_169_6 j_X3_run_94_6 j_X11_comesTo_158_5
  constructor
  · simp (disch := omega) only [↓nm_eq, ↓grd_if, ↓reduceIte, J_lit, J_nI, J_add, J_sub, J_mul, J_neg, Int.cast_ofNat_Int, J_lt_t, J_lt_f, J_le_t, J_le_f, J_eq_t, J_eq_f, within_t, within_f, isIn_t, isIn_f, inRow_t, inRow_f, isCell_t, isCell_f, inb_t, ix_Jn, ix_J, Int.reduceToNat, Int.toNat_natCast, mset_ne, mset_eq, mrow_ne, mrow_eq, upd_eq, upd_ne, bind_some, bnd2_some, not_true_eq_false, not_false_eq_true, Nat.reduceAdd, j_X3_run_169_6, hcls, ed]
    rfl
  · simp (disch := omega) only [↓nm_eq, ↓grd_if, ↓reduceIte, J_lit, J_nI, J_add, J_sub, J_mul, J_neg, Int.cast_ofNat_Int, J_lt_t, J_lt_f, J_le_t, J_le_f, J_eq_t, J_eq_f, within_t, within_f, isIn_t, isIn_f, inRow_t, inRow_f, isCell_t, isCell_f, inb_t, ix_Jn, ix_J, Int.reduceToNat, Int.toNat_natCast, mset_ne, mset_eq, mrow_ne, mrow_eq, upd_eq, upd_ne, bind_some, bnd2_some, not_true_eq_false, not_false_eq_true, Nat.reduceAdd, e1025, e1026, hr1, ed, h0]
    rfl
theorem s_by {M N : zM} {cE fE e c fr x : Nat} (hd : e + 1 < 63) (hc : c + 1 < cE) (hcE : cE ≤ 400) (hf : fr < fE) (hfE : fE ≤ 450) (hx : x < 10000) (hx0 : x ≠ 0) (hcls : M 45 c = J x) (hcls2 : M 45 (c + 1) = J 10047) (hr1 : N 259 (1025 + 2 * fr) = J 5) (hr2 : N 259 (1026 + 2 * fr) = J x) (h0 : M 46 e = N 266 e) :
    b_X3_run_6 41 84 (J cE) (J (e + 1 : Nat)) (J c) M = some (.inl (J (e + 2 : Nat), J (c + 1 : Nat), mset M 46 (e + 1) (J x))) ∧ b_X3_run_6 41 84 (J cE) (J (e + 2 : Nat)) (J (c + 1 : Nat)) (mset M 46 (e + 1) (J x)) = some (.inl (J (e + 1 : Nat), J (c + 2 : Nat), mset (mset M 46 (e + 1) (J x)) 46 e (M 46 e / J x))) ∧ b_X11_comesTo_5 (J fE) (J (e + 1 : Nat)) (J fr) N = some (.inl (J (e + 1 : Nat), J (fr + 1 : Nat), mset N 266 e (M 46 e / J x))) := by
  have e1025 : (1025 + 2 * (fr : Int)).toNat = 1025 + 2 * fr := by omega
  have e1026 : (1025 + 2 * (fr : Int) + 1).toNat = 1026 + 2 * fr := by omega
  have ed0 : (((e + 1 : Nat) : Int) - 1).toNat = e := by omega
  have ed : (((e + 2 : Nat) : Int) + -1).toNat = e + 1 := by omega
  have ed2 : (((e + 2 : Nat) : Int) + -1 - 1).toNat = e := by omega
  have ee : ((e + 2 : Nat) : Int) + -1 = ((e + 1 : Nat) : Int) := by omega
  have hne : ¬ J x = 0 := J_ne0 (by omega) (by omega) (by omega)
  have hne' : ¬ J x = J 0 := hne
  unfold b_X3_run_6 b_X11_comesTo_5 j_X3_run_169_6 j_X3_run_94_6 j_X3_run_130_6 j_X11_comesTo_158_5 f_X3_join
  refine ⟨?_, ?_, ?_⟩
  · simp (disch := omega) only [↓nm_eq, ↓grd_if, ↓reduceIte, J_lit, J_nI, J_add, J_sub, J_mul, J_neg, Int.cast_ofNat_Int, J_lt_t, J_lt_f, J_le_t, J_le_f, J_eq_t, J_eq_f, within_t, within_f, isIn_t, isIn_f, inRow_t, inRow_f, isCell_t, isCell_f, inb_t, ix_Jn, ix_J, Int.reduceToNat, Int.toNat_natCast, mset_ne, mset_eq, mrow_ne, mrow_eq, upd_eq, upd_ne, bind_some, bnd2_some, not_true_eq_false, not_false_eq_true, Nat.reduceAdd, hcls]
    rfl
  · simp (disch := omega) only [↓nm_eq, ↓grd_if, ↓reduceIte, J_lit, J_nI, J_add, J_sub, J_mul, J_neg, Int.cast_ofNat_Int, J_lt_t, J_lt_f, J_le_t, J_le_f, J_eq_t, J_eq_f, within_t, within_f, isIn_t, isIn_f, inRow_t, inRow_f, isCell_t, isCell_f, inb_t, ix_Jn, ix_J, Int.reduceToNat, Int.toNat_natCast, mset_ne, mset_eq, mrow_ne, mrow_eq, upd_eq, upd_ne, bind_some, bnd2_some, not_true_eq_false, not_false_eq_true, Nat.reduceAdd, j_X3_run_169_6, hcls2, ed, ed2, ed0, ee, Int.reduceSub, hne', hne]
    rfl
  · simp (disch := omega) only [↓nm_eq, ↓grd_if, ↓reduceIte, J_lit, J_nI, J_add, J_sub, J_mul, J_neg, Int.cast_ofNat_Int, J_lt_t, J_lt_f, J_le_t, J_le_f, J_eq_t, J_eq_f, within_t, within_f, isIn_t, isIn_f, inRow_t, inRow_f, isCell_t, isCell_f, inb_t, ix_Jn, ix_J, Int.reduceToNat, Int.toNat_natCast, mset_ne, mset_eq, mrow_ne, mrow_eq, upd_eq, upd_ne, bind_some, bnd2_some, not_true_eq_false, not_false_eq_true, Nat.reduceAdd, e1025, e1026, hr1, hr2, ed0, h0, hne, hne']
    rfl
