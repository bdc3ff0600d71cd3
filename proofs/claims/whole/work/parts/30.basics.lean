/-! ===== the pure side: numbers ===== -/
theorem nm_eq {α β : Type} (e : α) (k : α → β) : nm e k = k e := rfl
/-- an int by its number -/
def J (z : Int) : Int32 := Int32.ofInt z
theorem J_of (v : Int32) : v = J v.toInt := (Int32.ofInt_toInt v).symm
theorem J_toInt {z : Int} (h : -2147483648 ≤ z) (h2 : z < 2147483648) : (J z).toInt = z := Int32.toInt_ofInt_of_le h h2
theorem t_lo (v : Int32) : -2147483648 ≤ v.toInt := v.minValue_le_toInt
theorem t_hi (v : Int32) : v.toInt < 2147483648 := v.toInt_lt
theorem J_add (a b : Int) : J a + J b = J (a + b) := (Int32.ofInt_add a b).symm
theorem J_sub (a b : Int) : J a - J b = J (a - b) := (Int32.ofInt_sub a b).symm
theorem J_mul (a b : Int) : J a * J b = J (a * b) := (Int32.ofInt_mul a b).symm
theorem J_neg (a : Int) : - J a = J (-a) := (Int32.ofInt_neg a).symm
theorem J_nI (n : Nat) : nI n = J (n : Int) := Int32.ofInt_eq_ofNat.symm
theorem J_lit (n : Nat) : (OfNat.ofNat n : Int32) = J ((OfNat.ofNat n : Nat) : Int) := Int32.ofInt_eq_ofNat.symm
theorem i_lt (a b : Int32) : a < b ↔ a.toInt < b.toInt := Int32.lt_iff_toInt_lt
theorem i_le (a b : Int32) : a ≤ b ↔ a.toInt ≤ b.toInt := Int32.le_iff_toInt_le
theorem i_eq (a b : Int32) : a = b ↔ a.toInt = b.toInt := Int32.toInt_inj.symm
theorem J_lt {a b : Int} (h1 : -2147483648 ≤ a) (h2 : a < 2147483648) (h3 : -2147483648 ≤ b) (h4 : b < 2147483648) : (J a < J b) = (a < b) := by
  rw [i_lt, J_toInt h1 h2, J_toInt h3 h4]
theorem J_le {a b : Int} (h1 : -2147483648 ≤ a) (h2 : a < 2147483648) (h3 : -2147483648 ≤ b) (h4 : b < 2147483648) : (J a ≤ J b) = (a ≤ b) := by
  rw [i_le, J_toInt h1 h2, J_toInt h3 h4]
theorem J_eq {a b : Int} (h1 : -2147483648 ≤ a) (h2 : a < 2147483648) (h3 : -2147483648 ≤ b) (h4 : b < 2147483648) : (J a = J b) = (a = b) := by
  rw [i_eq, J_toInt h1 h2, J_toInt h3 h4]
theorem ix_J {z : Int} (h : 0 ≤ z) (h2 : z < 2147483648) : ix (J z) = z.toNat := by
  show (J z).toNatClampNeg = _
  rw [← Int32.toNat_toInt, J_toInt (by omega) h2]
theorem ix_Jn {n : Nat} (h2 : n < 2147483648) : ix (J (n : Int)) = n := by
  rw [ix_J (by omega) (by omega)]
  omega
theorem inb_J {z : Int} {n : Nat} (h : 0 ≤ z) (h2 : z < n) (hn : z < 2147483648) : inb (J z) n := by
  show ¬ (_ ∨ _)
  have e := ix_J h hn
  have e2 : (J z).toNatClampNeg = z.toNat := e
  rw [e2]
  have e3 : ¬ J z < 0 := by
    rw [show (0 : Int32) = J 0 from rfl, J_lt (by omega) (by omega) (by omega) (by omega)]
    omega
  intro h3
  rcases h3 with h3 | h3
  · exact e3 h3
  · omega
theorem J_div {a b : Int} (h1 : 0 ≤ a) (h2 : a < 2147483648) (h3 : 0 < b) (h4 : b < 2147483648) : J a / J b = J (a / b) := by
  have e1 : Int32.minValue.toInt = -2147483648 := rfl
  have e2 : Int32.maxValue.toInt = 2147483647 := rfl
  have := Int32.ofInt_tdiv (a := a) (b := b) (by omega) (by omega) (by omega) (by omega)
  rw [Int.tdiv_eq_ediv_of_nonneg h1] at this
  exact this.symm
theorem J_tdiv {a b : Int} (h1 : -2147483648 ≤ a) (h2 : a < 2147483648) (h3 : -2147483648 ≤ b) (h4 : b < 2147483648) : J a / J b = J (a.tdiv b) := by
  have e1 : Int32.minValue.toInt = -2147483648 := rfl
  have e2 : Int32.maxValue.toInt = 2147483647 := rfl
  exact (Int32.ofInt_tdiv (a := a) (b := b) (by omega) (by omega) (by omega) (by omega)).symm
theorem J_rem {a b : Int} (h1 : 0 ≤ a) (h2 : a < 2147483648) (h3 : 0 < b) (h4 : b < 2147483648) : irem (J a) (J b) = J (a % b) := by
  unfold irem
  rw [J_div h1 h2 h3 h4, J_mul, J_sub]
  congr 1
  rw [Int.emod_def, Int.mul_comm]
theorem J_trem {a b : Int} (h1 : -2147483648 ≤ a) (h2 : a < 2147483648) (h3 : -2147483648 ≤ b) (h4 : b < 2147483648) : irem (J a) (J b) = J (a.tmod b) := by
  unfold irem
  rw [J_tdiv h1 h2 h3 h4, J_mul, J_sub]
  congr 1
  rw [Int.tmod_def, Int.mul_comm]
theorem J_ne0 {b : Int} (h3 : -2147483648 ≤ b) (h4 : b < 2147483648) (h : b ≠ 0) : ¬ J b = 0 := by
  rw [show (0 : Int32) = J 0 from rfl, J_eq (by omega) (by omega) (by omega) (by omega)]
  exact h
/-- a mask of k bits is the remainder -/
theorem J_mask (a : Int) (k : Nat) (hk : k < 32) : J a &&& J (2 ^ k - 1) = J (a % 2 ^ k) := by
  apply Int32.toBitVec_inj.1
  show BitVec.ofInt 32 a &&& BitVec.ofInt 32 (2 ^ k - 1) = BitVec.ofInt 32 (a % 2 ^ k)
  have e : (BitVec.ofInt 32 (2 ^ k - 1)) = BitVec.ofNat 32 (2 ^ k - 1) := by
    have : ((2 : Int) ^ k - 1) = ((2 ^ k - 1 : Nat) : Int) := by
      have h0 : 0 < 2 ^ k := Nat.two_pow_pos k
      rw [Int.natCast_sub (by omega)]
      simp
    rw [this]
    exact BitVec.ofInt_natCast 32 (2 ^ k - 1)
  rw [e]
  apply BitVec.eq_of_toNat_eq
  rw [BitVec.toNat_and, BitVec.toNat_ofNat, BitVec.toNat_ofInt, BitVec.toNat_ofInt]
  have hp : (2 : Nat) ^ k ≤ 2 ^ 31 := Nat.pow_le_pow_right (by decide) (by omega)
  have h0 : 0 < 2 ^ k := Nat.two_pow_pos k
  rw [Nat.mod_eq_of_lt (show 2 ^ k - 1 < 2 ^ 32 by omega), Nat.and_two_pow_sub_one_eq_mod]
  have hd : ((2 ^ k : Nat) : Int) ∣ ((2 ^ 32 : Nat) : Int) := by
    refine Int.natCast_dvd_natCast.mpr (Nat.pow_dvd_pow 2 (by omega))
  have e1 : a % ((2 ^ 32 : Nat) : Int) % ((2 ^ k : Nat) : Int) = a % ((2 ^ k : Nat) : Int) := Int.emod_emod_of_dvd a hd
  have hc : ((2 ^ k : Nat) : Int) = 2 ^ k := by simp
  rw [hc] at e1
  have hpi : (0 : Int) < 2 ^ k := by rw [← hc]; exact Int.natCast_pos.mpr h0
  have hpi2 : (2 : Int) ^ k ≤ 2147483648 := by
    rw [← hc]
    omega
  have e2 : (a % 2 ^ k) % ((2 ^ 32 : Nat) : Int) = a % 2 ^ k := by
    refine Int.emod_eq_of_lt (Int.emod_nonneg _ (by omega)) ?_
    have := Int.emod_lt_of_pos a hpi
    omega
  rw [e2]
  have e3 : (a % ((2 ^ 32 : Nat) : Int)).toNat % 2 ^ k = (a % ((2 ^ 32 : Nat) : Int) % 2 ^ k).toNat := by
    have := Int.toNat_emod (x := a % ((2 ^ 32 : Nat) : Int)) (y := 2 ^ k) (Int.emod_nonneg _ (by decide)) (by omega)
    rw [this]
    congr 1
  rw [e3, e1]
theorem J_and1 (a : Int) : J a &&& J 1 = J (a % 2) := J_mask a 1 (by decide)
theorem J_and3 (a : Int) : J a &&& J 3 = J (a % 4) := J_mask a 2 (by decide)
theorem J_and31 (a : Int) : J a &&& J 31 = J (a % 32) := J_mask a 5 (by decide)
theorem J_and63 (a : Int) : J a &&& J 63 = J (a % 64) := J_mask a 6 (by decide)
theorem J_and127 (a : Int) : J a &&& J 127 = J (a % 128) := J_mask a 7 (by decide)
theorem J_and255 (a : Int) : J a &&& J 255 = J (a % 256) := J_mask a 8 (by decide)
/-! ===== options ===== -/
def Wp {α : Type} (x : Option α) (Q : α → Prop) : Prop := ∃ a, x = some a ∧ Q a
theorem wp_some {α : Type} {a : α} {Q : α → Prop} (h : Q a) : Wp (some a) Q := ⟨a, rfl, h⟩
theorem wp_eq {α : Type} {x : Option α} {a : α} {Q : α → Prop} (e : x = some a) (h : Q a) : Wp x Q := ⟨a, e, h⟩
theorem wp_mono {α : Type} {x : Option α} {P Q : α → Prop} (h : Wp x P) (hq : ∀ a, P a → Q a) : Wp x Q := let ⟨a, e, hp⟩ := h; ⟨a, e, hq a hp⟩
theorem wp_grd {α : Type} {c : Prop} [Decidable c] {x : Option α} {Q : α → Prop} (hc : c) (h : Wp x Q) : Wp (grd c x) Q := by
  unfold grd
  rw [if_pos hc]
  exact h
theorem wp_nm {α β : Type} {e : α} {k : α → Option β} {Q : β → Prop} (h : Wp (k e) Q) : Wp (nm e k) Q := h
theorem wp_ite {α : Type} {c : Prop} [Decidable c] {x y : Option α} {Q : α → Prop} (h1 : c → Wp x Q) (h2 : ¬ c → Wp y Q) : Wp (if c then x else y) Q := by
  by_cases h : c
  · rw [if_pos h]; exact h1 h
  · rw [if_neg h]; exact h2 h
theorem wp_bind {α β : Type} {x : Option α} {f : α → Option β} {Q : β → Prop} (h : Wp x (fun a => Wp (f a) Q)) : Wp (x.bind f) Q := by
  obtain ⟨a, e, b, e2, h2⟩ := h
  exact ⟨b, by rw [e]; exact e2, h2⟩
theorem wp_bnd2 {α : Type} {x : Option (Int32 × zM)} {k : Int32 → zM → Option α} {Q : α → Prop} (h : Wp x (fun q => Wp (k q.1 q.2) Q)) : Wp (bnd2 x k) Q := wp_bind h
theorem bnd2_some {α : Type} (v : Int32) (M : zM) (k : Int32 → zM → Option α) : bnd2 (some (v, M)) k = k v M := rfl
theorem bind_some {α β : Type} (a : α) (f : α → Option β) : (some a).bind f = f a := rfl
theorem grd_t {α : Type} {c : Prop} [Decidable c] {x : Option α} (h : c) : grd c x = x := if_pos h
theorem grd_J {α : Type} {z : Int} {n : Nat} {x : Option α} (h : 0 ≤ z) (h2 : z < n) (hn : z < 2147483648) : grd (inb (J z) n) x = x := grd_t (inb_J h h2 hn)
/-! ===== memory ===== -/




theorem upd_eq {f : Nat → Int32} {j : Nat} {v : Int32} : upd f j v j = v := if_pos rfl
theorem upd_ne {f : Nat → Int32} {j i : Nat} {v : Int32} (h : i ≠ j) : upd f j v i = f i := if_neg h
theorem mset_get (M : zM) (a j : Nat) (v : Int32) (k i : Nat) : mset M a j v k i = if k = a ∧ i = j then v else M k i := by
  unfold mset upd
  by_cases h : k = a
  · subst h
    simp
  · simp [h]
theorem mrow_get (M : zM) (a : Nat) (f : Nat → Int32) (k i : Nat) : mrow M a f k i = if k = a then f i else M k i := by
  unfold mrow
  by_cases h : k = a <;> simp [h]
theorem mset_row (M : zM) (a j : Nat) (v : Int32) : mset M a j v = mrow M a (upd (M a) j v) := by
  funext k
  by_cases h : k = a
  · subst h; rw [mset_eq, mrow_eq]
  · rw [mset_ne h, mrow_ne h]
theorem mrow_mrow (M : zM) (a : Nat) (f g : Nat → Int32) : mrow (mrow M a f) a g = mrow M a g := by
  funext k
  by_cases h : k = a
  · subst h; rw [mrow_eq, mrow_eq]
  · rw [mrow_ne h, mrow_ne h, mrow_ne h]
theorem zB_t {zn : Nat → Bool} {M0 M : zM} {k : Nat} (h : zn k = true) : zB zn M0 M k = M k := if_pos h
theorem zB_f {zn : Nat → Bool} {M0 M : zM} {k : Nat} (h : ¬ zn k = true) : zB zn M0 M k = M0 k := if_neg h
/-! ===== loops ===== -/
/-- a loop that ends: a measure falls while I holds; at its end Q -/
theorem loop_q {σ ρ : Type} (B : σ → Option (σ ⊕ ρ)) (μ : σ → Nat) (I : σ → Prop) (Q : ρ → Prop) (hs : ∀ s, I s → Wp (B s) (fun o => Sum.elim (fun s' => I s' ∧ μ s' < μ s) Q o)) : ∀ s, I s → Wp (loopW B s) Q := by
  intro s
  induction h : μ s using Nat.strongRecOn generalizing s with
  | _ n ih =>
    intro hI
    obtain ⟨o, e, ho⟩ := hs s hI
    cases o with
    | inl s' =>
      obtain ⟨r, h1, h2⟩ := ih (μ s') (by have := ho.2; omega) s' rfl ho.1
      refine ⟨r, ?_, h2⟩
      rw [loopW_eq, e]
      exact h1
    | inr r =>
      refine ⟨r, ?_, ho⟩
      rw [loopW_eq, e]
/-- a counted loop: P k holds of the state ahead of its k-th time; it may end early -/
theorem loop_up {σ ρ : Type} {B : σ → Option (σ ⊕ ρ)} {Q : ρ → Prop} (P : Nat → σ → Prop) (n : Nat) {s : σ} (h0 : P 0 s) (hs : ∀ k s, k < n → P k s → Wp (B s) (fun o => Sum.elim (fun s' => P (k + 1) s') Q o)) (he : ∀ s, P n s → Wp (B s) (fun o => Sum.elim (fun _ => False) Q o)) : Wp (loopW B s) Q := by
  have key : ∀ m k s, k + m = n → P k s → Wp (loopW B s) Q := by
    intro m
    induction m with
    | zero =>
      intro k s hk hp
      have hk2 : k = n := by omega
      subst hk2
      obtain ⟨o, e, ho⟩ := he s hp
      cases o with
      | inl s' => exact ho.elim
      | inr r => exact ⟨r, by rw [loopW_eq, e], ho⟩
    | succ m ih =>
      intro k s hk hp
      obtain ⟨o, e, ho⟩ := hs k s (by omega) hp
      cases o with
      | inl s' =>
        obtain ⟨r, h1, h2⟩ := ih (k + 1) s' (by omega) ho
        exact ⟨r, by rw [loopW_eq, e]; exact h1, h2⟩
      | inr r => exact ⟨r, by rw [loopW_eq, e], ho⟩
  exact key n 0 s (by omega) h0
/-- the same from i on -/
theorem loop_fr {σ ρ : Type} {B : σ → Option (σ ⊕ ρ)} {Q : ρ → Prop} (P : Nat → σ → Prop) (i n : Nat) (hin : i ≤ n) {s : σ} (h0 : P i s) (hs : ∀ k s, i ≤ k → k < n → P k s → Wp (B s) (fun o => Sum.elim (fun s' => P (k + 1) s') Q o)) (he : ∀ s, P n s → Wp (B s) (fun o => Sum.elim (fun _ => False) Q o)) : Wp (loopW B s) Q := by
  refine loop_up (fun k => P (i + k)) (n - i) (s := s) h0 (fun k s hk hp => hs (i + k) s (by omega) (by omega) hp) (fun s hp => he s ?_)
  rw [show i + (n - i) = n by omega] at hp
  exact hp
theorem pr2 {α β : Type} {a a' : α} {b b' : β} (h1 : a = a') (h2 : b = b') : (a, b) = (a', b') := by rw [h1, h2]
theorem J_ex (v : Int32) : ∃ z : Int, v = J z ∧ -2147483648 ≤ z ∧ z < 2147483648 := ⟨v.toInt, J_of v, t_lo v, t_hi v⟩
