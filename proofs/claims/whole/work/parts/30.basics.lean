/-! ===== the pure side: numbers, memory, loops ===== -/
theorem nm_eq {α β : Type} (e : α) (k : α → β) : nm e k = k e := rfl
theorem grd_t {α : Type} {c : Prop} [Decidable c] {x : Option α} (h : c) : grd c x = x := if_pos h
theorem fa_lit (n : Nat) : (OfNat.ofNat n : Int32) = nI n := rfl
theorem ix_lit (n : Nat) (h : n < 2147483648) : ix (OfNat.ofNat n : Int32) = n := nI_clamp h
theorem ix_nI {n : Nat} (h : n < 2147483648) : ix (nI n) = n := nI_clamp h
theorem inb_nI {n N : Nat} (h : n < N) (hN : N < 2147483648) : inb (nI n) N := vp_in_nI h hN
theorem mset_get (M : zM) (a j : Nat) (v : Int32) (k i : Nat) : mset M a j v k i = if k = a ∧ i = j then v else M k i := by
  unfold mset upd
  by_cases h : k = a
  · subst h
    simp
  · simp [h]
theorem mrow_get (M : zM) (a : Nat) (f : Nat → Int32) (k i : Nat) : mrow M a f k i = if k = a then f i else M k i := by
  unfold mrow
  by_cases h : k = a <;> simp [h]
theorem zB_get (zn : Nat → Bool) (M0 M : zM) (k : Nat) : zB zn M0 M k = if zn k = true then M k else M0 k := rfl
theorem i_lt (a b : Int32) : a < b ↔ a.toInt < b.toInt := Int32.lt_iff_toInt_lt
theorem i_le (a b : Int32) : a ≤ b ↔ a.toInt ≤ b.toInt := Int32.le_iff_toInt_le
theorem i_eq (a b : Int32) : a = b ↔ a.toInt = b.toInt := Int32.toInt_inj.symm
/-- an int within 0 .. n -/
theorem i_rng {x : Int32} {n : Nat} (h0 : ¬ x < 0) (h1 : ¬ nI n < x) (hn : n < 2147483648) : ∃ j, j ≤ n ∧ x = nI j := by
  rw [i_lt] at h0 h1
  rw [nI_toInt hn] at h1
  have e0 : (0 : Int32).toInt = 0 := rfl
  rw [e0] at h0
  refine ⟨x.toInt.toNat, by omega, ?_⟩
  rw [i_eq, nI_toInt (by omega)]
  omega
/-- a loop that ends: a measure falls while I holds; at its end Q -/
theorem loop_q {σ ρ : Type} (B : σ → Option (σ ⊕ ρ)) (μ : σ → Nat) (I : σ → Prop) (Q : ρ → Prop) (hs : ∀ s, I s → (∃ s', B s = some (.inl s') ∧ I s' ∧ μ s' < μ s) ∨ ∃ r, B s = some (.inr r) ∧ Q r) : ∀ s, I s → ∃ r, loopW B s = some r ∧ Q r := by
  intro s
  induction h : μ s using Nat.strongRecOn generalizing s with
  | _ n ih =>
    intro hI
    rcases hs s hI with ⟨s', e, hI', hlt⟩ | ⟨r, e, hq⟩
    · obtain ⟨r, h1, h2⟩ := ih (μ s') (by omega) s' rfl hI'
      refine ⟨r, ?_, h2⟩
      rw [loopW_eq, e]
      exact h1
    · refine ⟨r, ?_, hq⟩
      rw [loopW_eq, e]
/-- so many steps of f -/
def itN {τ : Type} (f : Nat → τ → τ) : Nat → τ → τ
  | 0, t => t
  | n + 1, t => f n (itN f n t)
theorem loop_for {τ σ ρ : Type} (B : σ → Option (σ ⊕ ρ)) (S : Nat → τ → σ) (f : Nat → τ → τ) (n : Nat) (fin : τ → ρ) (I : Nat → τ → Prop) (hs : ∀ k, k < n → ∀ t, I k t → B (S k t) = some (.inl (S (k + 1) (f k t))) ∧ I (k + 1) (f k t)) (he : ∀ t, I n t → B (S n t) = some (.inr (fin t))) (t : τ) (h0 : I 0 t) : loopW B (S 0 t) = some (fin (itN f n t)) ∧ I n (itN f n t) := by
  have key : ∀ k, k ≤ n → loopW B (S 0 t) = loopW B (S k (itN f k t)) ∧ I k (itN f k t) := by
    intro k
    induction k with
    | zero => intro _; exact ⟨rfl, h0⟩
    | succ k ih =>
      intro hk
      obtain ⟨e, hI⟩ := ih (by omega)
      obtain ⟨e2, hI2⟩ := hs k (by omega) _ hI
      refine ⟨?_, hI2⟩
      rw [e, loopW_eq, e2]
      rfl
  obtain ⟨e, hI⟩ := key n (Nat.le_refl _)
  refine ⟨?_, hI⟩
  rw [e, loopW_eq, he _ hI]
/-- a counted loop that goes from i on: the plain form of for (i ..; i < n; i++) -/
theorem loop_from {τ σ ρ : Type} (B : σ → Option (σ ⊕ ρ)) (S : Nat → τ → σ) (f : Nat → τ → τ) (i n : Nat) (hin : i ≤ n) (fin : τ → ρ) (I : Nat → τ → Prop) (hs : ∀ k, i ≤ k → k < n → ∀ t, I k t → B (S k t) = some (.inl (S (k + 1) (f k t))) ∧ I (k + 1) (f k t)) (he : ∀ t, I n t → B (S n t) = some (.inr (fin t))) (t : τ) (h0 : I i t) : loopW B (S i t) = some (fin (itN (fun k => f (i + k)) (n - i) t)) ∧ I n (itN (fun k => f (i + k)) (n - i) t) := by
  have := loop_for B (fun k => S (i + k)) (fun k => f (i + k)) (n - i) fin (fun k => I (i + k)) (fun k hk t hI => hs (i + k) (by omega) (by omega) t hI) (fun t hI => by have e : i + (n - i) = n := by omega
                                                                                                                                                             rw [e] at hI ⊢; exact he t hI) t h0
  have e : i + (n - i) = n := by omega
  rw [e] at this
  exact this
theorem t_state10 (p : Int32) (M : zM) : f_X10_state p M = some (M 1 5, mset (mset M 1 5 p) 0 4 0) := rfl
theorem t_state11 (p : Int32) (M : zM) : f_X11_state p M = some (M 258 938, mset (mset M 258 938 p) 257 4 0) := by
  unfold f_X11_state
  simp only [nm_eq, ix_lit]
  rfl
