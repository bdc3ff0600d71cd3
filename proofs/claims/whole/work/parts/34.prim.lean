/-! ===== changes of a square ===== -/
theorem Sq_hd {M M' : zM} {a : Nat} {ρ ρ' : Nat → Int32} {n m b k m' b' k' : Nat} (h : SqB M a ρ n m b k) (h2 : M' (a + 2) = M (a + 2)) (hw : ∀ w, w < 16 → M' (a + 3 + w) = M (a + 3 + w)) (hρ : ∀ j, j < 2325 → (j < 336 ∨ 940 ≤ j) → ρ' j = ρ j) (hm : b ≤ b') (hm2 : m' ≤ 10100) (hk : k' ≤ 150) (he : M' a 2 = J n ∧ M' a 3 = J m' ∧ M' a 6 = J k' ∧ M' a 4 = ρ' 937 ∧ M' a 5 = ρ' 938) (hr : ρ' 936 = J m' ∧ ρ' 939 = J k') : SqB M' a ρ' n m' b' k' := by
  obtain ⟨hb, _, hr0, hc, hwk, hz, hd⟩ := h
  refine ⟨⟨hb.1, hm2, hk⟩, he, ⟨by rw [hρ 940 (by omega) (by omega)]; exact hr0.1, hr⟩, ?_, ?_, ?_, fun v w hv hw' hne => by rw [hw v (by have := hb.1; omega), hw w (by have := hb.1; omega)]; exact hd v w hv hw' hne⟩
  · intro i hi
    rw [h2, hρ i (by omega) (by omega)]
    exact hc i hi
  · intro w hw'
    have := hb.1
    rw [hw w (by omega)]
    exact WkR_mo hm (WkR_ro (fun j _ _ => hρ j (by omega) (by omega)) (fun j _ _ => hρ j (by omega) (by omega)) (by omega) (hwk w hw'))
  · intro w _ _ i hi
    rw [hρ _ (by omega) (by omega)]
    exact hz w ‹_› ‹_› i hi
theorem Sq_wk {M M' : zM} {a : Nat} {ρ ρ' : Nat → Int32} {n m b k w : Nat} (h : SqB M a ρ n m b k) (hw : w < n) (h0 : M' a = M a) (h2 : M' (a + 2) = M (a + 2)) (hv : ∀ v, v ≠ w → v < 16 → M' (a + 3 + v) = M (a + 3 + v)) (hρ : ∀ j, j < 2325 → (j < 144 + 12 * w ∨ 156 + 12 * w ≤ j) → (j < 336 ∨ 936 ≤ j) → ρ' j = ρ j) (hnew : WkR (M' (a + 3 + w)) ρ' w b) (hds : ∀ v, v < n → v ≠ w → M' (a + 3 + w) 1 = 1 → M (a + 3 + v) 1 = 1 → atR (M (a + 3 + v)) ≠ atR (M' (a + 3 + w))) : SqB M' a ρ' n m b k := by
  obtain ⟨hb, he, hr, hc, hwk, hz, hd⟩ := h
  have hn := hb.1
  refine ⟨hb, ?_, ?_, ?_, ?_, ?_, ?_⟩
  · rw [h0, hρ 937 (by omega) (by omega) (by omega), hρ 938 (by omega) (by omega) (by omega)]
    exact he
  · rw [hρ 940 (by omega) (by omega) (by omega), hρ 936 (by omega) (by omega) (by omega), hρ 939 (by omega) (by omega) (by omega)]
    exact hr
  · intro i hi
    rw [h2, hρ i (by omega) (by omega) (by omega)]
    exact hc i hi
  · intro v hv'
    by_cases e : v = w
    · subst e
      exact hnew
    · rw [hv v e (by omega)]
      exact WkR_ro (fun j _ _ => hρ j (by omega) (by omega) (by omega)) (fun j _ _ => hρ j (by omega) (by omega) (by omega)) (by omega) (hwk v hv')
  · intro v _ _ i hi
    rw [hρ _ (by omega) (by omega) (by omega)]
    exact hz v ‹_› ‹_› i hi
  · intro v1 v2 h1 h2' hne i1 i2
    by_cases e1 : v1 = w
    · subst e1
      rw [hv v2 (fun e => hne e.symm) (by omega)] at i2 ⊢
      exact (hds v2 h2' (fun e => hne e.symm) i1 i2).symm
    · rw [hv v1 e1 (by omega)] at i1 ⊢
      by_cases e2 : v2 = w
      · subst e2
        exact hds v1 h1 e1 i2 i1
      · rw [hv v2 e2 (by omega)] at i2 ⊢
        exact hd v1 v2 h1 h2' hne i1 i2
theorem Sq_cl {M M' : zM} {a : Nat} {ρ ρ' : Nat → Int32} {n m b k : Nat} (h : SqB M a ρ n m b k) (h0 : M' a = M a) (hv : ∀ v, v < 16 → M' (a + 3 + v) = M (a + 3 + v)) (hρ : ∀ j, 144 ≤ j → j < 2325 → (j < 336 ∨ 936 ≤ j) → ρ' j = ρ j) (hc : ∀ i, i < 144 → M' (a + 2) i = ρ' i ∧ Lt (ρ' i) 4) : SqB M' a ρ' n m b k := by
  obtain ⟨hb, he, hr, _, hwk, hz, hd⟩ := h
  have hn := hb.1
  refine ⟨hb, ?_, ?_, hc, ?_, ?_, fun v w h1 h2 hne => by rw [hv v (by omega), hv w (by omega)]; exact hd v w h1 h2 hne⟩
  · rw [h0, hρ 937 (by omega) (by omega) (by omega), hρ 938 (by omega) (by omega) (by omega)]
    exact he
  · rw [hρ 940 (by omega) (by omega) (by omega), hρ 936 (by omega) (by omega) (by omega), hρ 939 (by omega) (by omega) (by omega)]
    exact hr
  · intro v hv'
    rw [hv v (by omega)]
    exact WkR_ro (fun j _ _ => hρ j (by omega) (by omega) (by omega)) (fun j _ _ => hρ j (by omega) (by omega) (by omega)) (by omega) (hwk v hv')
  · intro v _ _ i hi
    rw [hρ _ (by omega) (by omega) (by omega)]
    exact hz v ‹_› ‹_› i hi
theorem Un_0 {M N : zM} {n k o : Nat} {ks : Nat → Nat} (ho : o < 6) (h0 : M 0 3 = J o) (h1 : M 0 4 = J 0) (h2 : N 257 4 = J 0) : Un M N n k 0 o ks := ⟨by omega, ho, h0, h1, h2, fun p hp => by omega, fun p q _ hq => by omega⟩
theorem upd_get (f : Nat → Int32) (j : Nat) (v : Int32) (i : Nat) : upd f j v i = if i = j then v else f i := rfl
/-! ===== a call of both ===== -/
def Cl2 (F G : zM → Option (Int32 × zM)) : Prop := ∀ M N, IC M N → ∃ u M1 N1, F M = some (u, M1) ∧ G N = some (u, N1) ∧ IC M1 N1
def Cl1 (F : zM → Option Int32) (G : zM → Option (Int32 × zM)) : Prop := ∀ M N, IC M N → ∃ u N1, F M = some u ∧ G N = some (u, N1) ∧ IC M N1
def Cl0 (F G : zM → Option Int32) : Prop := ∀ M N, IC M N → ∃ u, F M = some u ∧ G N = some u
theorem ix_0 : ix 0 = 0 := by decide +kernel
theorem c_state (p : Int32) : Cl2 (f_X10_state p) (f_X11_state p) := by
  rintro M N ⟨n, m, k, u, o, ks, a1, a2, a3, a4, a5, a6, a7, a8, a9, a10⟩
  refine ⟨M 1 5, mset (mset M 1 5 p) 0 4 (J 0), mset (mset N 258 938 p) 257 4 (J 0), rfl, ?_, ?_⟩
  · unfold f_X11_state
    simp (disch := omega) only [nm_eq, J_lit, J_nI, J_add, J_sub, J_mul, J_neg, Int.cast_ofNat_Int, ix_Jn, ix_J, Int.reduceToNat, Int.toNat_natCast]
    rw [a2.2.1.2.2.2.2]
  · refine ⟨n, m, k, 0, o, ks, a1, ?_, ?_, ?_, ?_, ?_, ?_, ?_, ?_, ?_⟩
    · simp (disch := omega) only [mset_ne, mset_eq, mrow_ne, mrow_eq, upd_eq, upd_ne]
      refine Sq_hd a2 (by simp (disch := omega) only [mset_ne, mrow_ne]) (fun w hw => by simp (disch := omega) only [mset_ne, mrow_ne]) (fun j h1 h2 => upd_ne (by omega)) (Nat.le_refl _) a2.1.2.1 a2.1.2.2 ?_ ?_
      · simp (disch := omega) only [mset_ne, mset_eq, mrow_ne, mrow_eq, upd_eq, upd_ne]
        obtain ⟨e1, e2, e3, e4, e5⟩ := a2.2.1
        exact ⟨e1, e2, e3, e4, trivial⟩
      · simp (disch := omega) only [mset_ne, mset_eq, mrow_ne, mrow_eq, upd_eq, upd_ne]
        exact a2.2.2.1.2
    · simp (disch := omega) only [mset_ne, mset_eq, mrow_ne, mrow_eq, upd_eq, upd_ne]
      exact Tx_ro (fun j h1 h2 => upd_ne (by omega)) (Tx_fr (fun j h1 h2 _ => by simp (disch := omega) only [mset_ne, mrow_ne]) a3)
    · simp (disch := omega) only [mset_ne, mset_eq, mrow_ne, mrow_eq, upd_eq, upd_ne]
      exact Bk_ro a2.1.2.2 (fun j h1 h2 => upd_ne (by omega)) a4
    · simp (disch := omega) only [mset_ne, mset_eq, mrow_ne, mrow_eq, upd_eq, upd_ne]
      exact Rw_ro (fun j h1 h2 => upd_ne (by omega)) (Rw_fr (fun j h1 h2 => by simp (disch := omega) only [mset_ne, mrow_ne]) (by simp (disch := omega) only [mset_ne, mrow_ne]) (by simp (disch := omega) only [mset_ne, mrow_ne]) a5)
    · exact Tp_fr (fun i _ => by simp (disch := omega) only [mset_ne, mrow_ne]) (fun i _ => by simp (disch := omega) only [mset_ne, mrow_ne]) (by simp (disch := omega) only [mset_ne, mset_eq, mrow_ne, mrow_eq, upd_eq, upd_ne]) (fun i _ => by simp (disch := omega) only [mset_ne, mrow_ne]) (by simp (disch := omega) only [mset_ne, mset_eq, mrow_ne, mrow_eq, upd_eq, upd_ne]) (by simp (disch := omega) only [mset_ne, mset_eq, mrow_ne, mrow_eq, upd_eq, upd_ne]) a6
    · exact Un_0 a7.2.1 (by simp (disch := omega) only [mset_ne, mset_eq, mrow_ne, mrow_eq, upd_eq, upd_ne]; exact a7.2.2.1) (by simp (disch := omega) only [mset_ne, mset_eq, mrow_ne, mrow_eq, upd_eq, upd_ne]) (by simp (disch := omega) only [mset_ne, mset_eq, mrow_ne, mrow_eq, upd_eq, upd_ne])
    · exact Im_fr (by simp (disch := omega) only [mset_ne, mset_eq, mrow_ne, mrow_eq, upd_eq, upd_ne]) (fun j h1 h2 => by simp (disch := omega) only [mset_ne, mrow_ne]) (by simp (disch := omega) only [mset_ne, mset_eq, mrow_ne, mrow_eq, upd_eq, upd_ne]) (fun i _ => by simp (disch := omega) only [mset_ne, mrow_ne]) a8
    · exact Vl_fr (by simp (disch := omega) only [mset_ne, mrow_ne]) (by simp (disch := omega) only [mset_ne, mrow_ne]) a9
    · simp (disch := omega) only [mset_ne, mset_eq, mrow_ne, mrow_eq, upd_eq, upd_ne]
      exact a10
/-! ===== two at once ===== -/
def W2 {α β : Type} (x : Option α) (y : Option β) (Q : α → β → Prop) : Prop := ∃ a b, x = some a ∧ y = some b ∧ Q a b
theorem w2_some {α β : Type} {a : α} {b : β} {Q : α → β → Prop} (h : Q a b) : W2 (some a) (some b) Q := ⟨a, b, rfl, rfl, h⟩
theorem w2_mono {α β : Type} {x : Option α} {y : Option β} {P Q : α → β → Prop} (h : W2 x y P) (hq : ∀ a b, P a b → Q a b) : W2 x y Q := let ⟨a, b, e1, e2, hp⟩ := h; ⟨a, b, e1, e2, hq a b hp⟩
theorem w2_bind {α β γ δ : Type} {x : Option α} {y : Option β} {f : α → Option γ} {g : β → Option δ} {Q : γ → δ → Prop} (h : W2 x y (fun a b => W2 (f a) (g b) Q)) : W2 (x.bind f) (y.bind g) Q := by
  obtain ⟨a, b, e1, e2, c, d, e3, e4, h⟩ := h
  exact ⟨c, d, by rw [e1]; exact e3, by rw [e2]; exact e4, h⟩
theorem w2_l {α β γ : Type} {x : Option α} {y : Option β} {f : α → Option γ} {Q : γ → β → Prop} (h : Wp x (fun a => W2 (f a) y Q)) : W2 (x.bind f) y Q := by
  obtain ⟨a, e1, c, d, e3, e4, h⟩ := h
  exact ⟨c, d, by rw [e1]; exact e3, e4, h⟩
theorem w2_r {α β γ : Type} {x : Option α} {y : Option β} {g : β → Option γ} {Q : α → γ → Prop} (h : Wp y (fun b => W2 x (g b) Q)) : W2 x (y.bind g) Q := by
  obtain ⟨a, e1, c, d, e3, e4, h⟩ := h
  exact ⟨c, d, e3, by rw [e1]; exact e4, h⟩
theorem w2_wp {α β : Type} {x : Option α} {y : Option β} {Q : α → β → Prop} (h : Wp x (fun a => Wp y (fun b => Q a b))) : W2 x y Q := by
  obtain ⟨a, e1, b, e2, h⟩ := h
  exact ⟨a, b, e1, e2, h⟩
theorem loop2 {σ τ ρ π : Type} {B : σ → Option (σ ⊕ ρ)} {C : τ → Option (τ ⊕ π)} {Q : ρ → π → Prop} (P : Nat → σ → τ → Prop) (n : Nat) {s : σ} {t : τ} (h0 : P 0 s t)
    (hs : ∀ k s t, k < n → P k s t → W2 (B s) (C t) (fun o p => match o, p with
      | .inl s', .inl t' => P (k + 1) s' t'
      | .inr r, .inr r' => Q r r'
      | _, _ => False))
    (he : ∀ s t, P n s t → W2 (B s) (C t) (fun o p => match o, p with
      | .inr r, .inr r' => Q r r'
      | _, _ => False)) : W2 (loopW B s) (loopW C t) Q := by
  have key : ∀ m k s t, k + m = n → P k s t → W2 (loopW B s) (loopW C t) Q := by
    intro m
    induction m with
    | zero =>
      intro k s t hk hp
      have hk2 : k = n := by omega
      subst hk2
      obtain ⟨o, p, e1, e2, h⟩ := he s t hp
      match o, p, h with
      | .inr r, .inr r', h => exact ⟨r, r', by rw [loopW_eq, e1], by rw [loopW_eq, e2], h⟩
    | succ m ih =>
      intro k s t hk hp
      obtain ⟨o, p, e1, e2, h⟩ := hs k s t (by omega) hp
      match o, p, h with
      | .inr r, .inr r', h => exact ⟨r, r', by rw [loopW_eq, e1], by rw [loopW_eq, e2], h⟩
      | .inl s', .inl t', h =>
        obtain ⟨a, b, f1, f2, h2⟩ := ih (k + 1) s' t' (by omega) h
        exact ⟨a, b, by rw [loopW_eq, e1]; exact f1, by rw [loopW_eq, e2]; exact f2, h2⟩
  exact key n 0 s t (by omega) h0
