/-! ===== conditions that are decided ===== -/
theorem grd_if {α : Type} (c : Prop) [Decidable c] (x : Option α) : grd c x = if c then x else none := rfl
theorem J_lt_t {a b : Int} (h : a < b) (h1 : -2147483648 ≤ a) (h4 : b < 2147483648) : (J a < J b) = True := by
  rw [J_lt (by omega) (by omega) (by omega) (by omega)]
  exact eq_true h
theorem J_lt_f {a b : Int} (h : b ≤ a) (h1 : -2147483648 ≤ b) (h4 : a < 2147483648) : (J a < J b) = False := by
  rw [J_lt (by omega) (by omega) (by omega) (by omega)]
  exact eq_false (by omega)
theorem J_le_t {a b : Int} (h : a ≤ b) (h1 : -2147483648 ≤ a) (h4 : b < 2147483648) : (J a ≤ J b) = True := by
  rw [J_le (by omega) (by omega) (by omega) (by omega)]
  exact eq_true h
theorem J_le_f {a b : Int} (h : b < a) (h1 : -2147483648 ≤ b) (h4 : a < 2147483648) : (J a ≤ J b) = False := by
  rw [J_le (by omega) (by omega) (by omega) (by omega)]
  exact eq_false (by omega)
theorem J_eq_t {a b : Int} (h : a = b) : (J a = J b) = True := eq_true (congrArg J h)
theorem J_eq_f {a b : Int} (h : a ≠ b) (h1 : -2147483648 ≤ a) (h2 : a < 2147483648) (h3 : -2147483648 ≤ b) (h4 : b < 2147483648) : (J a = J b) = False := by
  rw [J_eq (by omega) (by omega) (by omega) (by omega)]
  exact eq_false h
theorem within_t {a b c : Int} (h : ¬ (b ≤ a ∧ a ≤ c)) (h1 : -2147483648 ≤ a) (h2 : a < 2147483648) (h3 : -2147483648 ≤ b) (h4 : b < 2147483648) (h5 : -2147483648 ≤ c) (h6 : c < 2147483648) : (f_X11_within (J a) (J b) (J c) = J 0) = True := by
  rw [within0 h1 h2 h3 h4 h5 h6]
  exact eq_true h
theorem within_f {a b c : Int} (h : b ≤ a) (h' : a ≤ c) (h3 : -2147483648 ≤ b) (h6 : c < 2147483648) : (f_X11_within (J a) (J b) (J c) = J 0) = False := by
  rw [within0 (by omega) (by omega) (by omega) (by omega) (by omega) (by omega)]
  exact eq_false (by omega)
theorem isIn_t {a b : Int} (h : ¬ (0 ≤ a ∧ a ≤ 11 ∧ 0 ≤ b ∧ b ≤ 11)) (h1 : -2147483648 ≤ a) (h2 : a < 2147483648) (h3 : -2147483648 ≤ b) (h4 : b < 2147483648) : (f_X11_isIn (J a) (J b) = J 0) = True := by
  rw [isIn0 h1 h2 h3 h4]
  exact eq_true h
theorem isIn_f {a b : Int} (h1 : 0 ≤ a) (h2 : a ≤ 11) (h3 : 0 ≤ b) (h4 : b ≤ 11) : (f_X11_isIn (J a) (J b) = J 0) = False := by
  rw [isIn0 (by omega) (by omega) (by omega) (by omega)]
  exact eq_false (by omega)
theorem inRow_t {a : Int} (h : ¬ (0 ≤ a ∧ a < 12)) (h1 : -2147483648 ≤ a) (h2 : a < 2147483648) : (f_X10_inRow (J a) = J 0) = True := by
  rw [inRow0 h1 h2]
  exact eq_true h
theorem inRow_f {a : Int} (h1 : 0 ≤ a) (h2 : a < 12) : (f_X10_inRow (J a) = J 0) = False := by
  rw [inRow0 (by omega) (by omega)]
  exact eq_false (by omega)
theorem isCell_t {a : Int} (h : ¬ (0 ≤ a ∧ a < 144)) (h1 : -2147483648 ≤ a) (h2 : a < 2147483648) : (f_X10_isCell (J a) = J 0) = True := by
  rw [isCell0 h1 h2]
  exact eq_true h
theorem isCell_f {a : Int} (h1 : 0 ≤ a) (h2 : a < 144) : (f_X10_isCell (J a) = J 0) = False := by
  rw [isCell0 (by omega) (by omega)]
  exact eq_false (by omega)
theorem inb_t {z : Int} {n : Nat} (h : 0 ≤ z) (h2 : z < n) (hn : z < 2147483648) : inb (J z) n = True := eq_true (inb_J h h2 hn)
/-! two loops, with a relation of sums by name -/
def SumR {σ τ ρ π : Type} (P : σ → τ → Prop) (Q : ρ → π → Prop) : σ ⊕ ρ → τ ⊕ π → Prop
  | .inl s, .inl t => P s t
  | .inr r, .inr r' => Q r r'
  | .inl _, .inr _ => False
  | .inr _, .inl _ => False
def NoR {σ τ : Type} (_ : σ) (_ : τ) : Prop := False
theorem loopR {σ τ ρ π : Type} {B : σ → Option (σ ⊕ ρ)} {C : τ → Option (τ ⊕ π)} {Q : ρ → π → Prop} (P : Nat → σ → τ → Prop) (n : Nat) {s : σ} {t : τ} (h0 : P 0 s t)
    (hs : ∀ k s t, k < n → P k s t → W2 (B s) (C t) (SumR (P (k + 1)) Q)) (he : ∀ s t, P n s t → W2 (B s) (C t) (SumR NoR Q)) : W2 (loopW B s) (loopW C t) Q := by
  refine loop2 P n h0 (fun k s t hk hp => ?_) (fun s t hp => ?_)
  · refine w2_mono (hs k s t hk hp) ?_
    intro o p h
    cases o <;> cases p <;> exact h
  · refine w2_mono (he s t hp) ?_
    intro o p h
    cases o <;> cases p <;> first | exact h | exact h.elim
