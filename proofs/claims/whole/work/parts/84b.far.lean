/-! ===== far: the least, by the reference ===== -/
def ph (k : Nat) : Nat := 144 * (k % 4) + k / 4
theorem ph_lt {k : Nat} (h : k < 576) : ph k < 576 := by unfold ph; omega
theorem ph_inj {k k' : Nat} (h : ph k = ph k') (h1 : k < 576) (h2 : k' < 576) : k = k' := by unfold ph at h; omega
theorem ph_sur {u : Nat} (h : u < 576) : ∃ k, k < 576 ∧ ph k = u := ⟨4 * (u % 144) + u / 144, by omega, by unfold ph; omega⟩
theorem Rch_lt {g : Nat → Int32} {s : Nat} (hs : s < 576) : ∀ n v, Rch (nxS g) 3 s n v → v < 576 := by
  intro n
  induction n with
  | zero =>
    intro v hv
    have : v = s := hv
    omega
  | succ n ih =>
    intro v hv
    rcases hv with hv | ⟨u, k, hk, hu, hv⟩
    · exact ih v hv
    · exact nxS_lt (ih u hu) hv
/-- ahead of level t's end: what is laid, Pr tells whose ways are gone -/
def Lv (g : Nat → Int32) (s : Nat) (B : zM) (t : Nat) (Pr : Nat → Nat → Prop) : Prop := ∀ k, k < 576 →
  (∃ d : Nat, d ≤ t ∧ B 268 k = J d ∧ Rch (nxS g) 3 s d (ph k) ∧ ∀ n, n < d → ¬ Rch (nxS g) 3 s n (ph k)) ∨
  (B 268 k = J (t + 1 : Nat) ∧ ¬ Rch (nxS g) 3 s t (ph k) ∧ Rch (nxS g) 3 s (t + 1) (ph k)) ∨
  (B 268 k = J 9999 ∧ ¬ Rch (nxS g) 3 s t (ph k) ∧ ∀ k' kk, k' < 576 → kk < 3 → Pr k' kk → B 268 k' = J t → ¬ nxS g (ph k') kk = some (ph k))
theorem Lv_at {g : Nat → Int32} {s : Nat} {B : zM} {t : Nat} {Pr : Nat → Nat → Prop} (h : Lv g s B t Pr) (ht : t < 9000) {k : Nat} (hk : k < 576) : (B 268 k = J t ↔ Rch (nxS g) 3 s t (ph k) ∧ ∀ n, n < t → ¬ Rch (nxS g) 3 s n (ph k)) := by
  rcases h k hk with ⟨d, h1, h2, h3, h4⟩ | ⟨h1, h2, h3⟩ | ⟨h1, h2, h3⟩
  · rw [h2, J_eq (by omega) (by omega) (by omega) (by omega)]
    constructor
    · intro e
      have : d = t := by omega
      subst this
      exact ⟨h3, h4⟩
    · rintro ⟨_, e⟩
      by_cases c : d = t
      · omega
      · exact absurd h3 (e d (by omega))
  · rw [h1, J_eq (by omega) (by omega) (by omega) (by omega)]
    constructor
    · intro e; omega
    · rintro ⟨e, _⟩; exact absurd e h2
  · rw [h1, J_eq (by omega) (by omega) (by omega) (by omega)]
    constructor
    · intro e; omega
    · rintro ⟨e, _⟩; exact absurd e h2
theorem Lv_skip {g : Nat → Int32} {s : Nat} {B : zM} {t : Nat} {Pr Pr' : Nat → Nat → Prop} (h : Lv g s B t Pr) {k0 kk0 : Nat} (hp : ∀ k kk, Pr' k kk → Pr k kk ∨ (k = k0 ∧ kk = kk0)) (hn : ∀ kv, kv < 576 → nxS g (ph k0) kk0 = some (ph kv) → ¬ B 268 kv = J 9999) : Lv g s B t Pr' := by
  intro k hk
  rcases h k hk with h1 | h1 | ⟨h1, h2, h3⟩
  · exact Or.inl h1
  · exact Or.inr (Or.inl h1)
  · refine Or.inr (Or.inr ⟨h1, h2, fun k' kk hk' hkk hpr hB => ?_⟩)
    rcases hp k' kk hpr with q | ⟨q1, q2⟩
    · exact h3 k' kk hk' hkk q hB
    · subst q1 q2
      intro e
      exact hn k hk e h1
theorem Lv_set {g : Nat → Int32} {s : Nat} {B : zM} {t : Nat} {Pr Pr' : Nat → Nat → Prop} (h : Lv g s B t Pr) (ht : t < 9000) {k0 kk0 kv : Nat} (hk0 : k0 < 576) (hkk : kk0 < 3) (hat : B 268 k0 = J t) (hv : kv < 576) (hnx : nxS g (ph k0) kk0 = some (ph kv)) (h9 : B 268 kv = J 9999) (hp : ∀ k kk, Pr' k kk → Pr k kk ∨ (k = k0 ∧ kk = kk0)) : Lv g s (mset B 268 kv (J (t + 1 : Nat))) t Pr' := by
  have hr := ((Lv_at h ht hk0).1 hat).1
  intro k hk
  by_cases e : k = kv
  · subst e
    rcases h k hk with ⟨d, h1, h2, _⟩ | ⟨h1, _⟩ | ⟨h1, h2, h3⟩
    · rw [h9, J_eq (by omega) (by omega) (by omega) (by omega)] at h2
      omega
    · rw [h9, J_eq (by omega) (by omega) (by omega) (by omega)] at h1
      omega
    · refine Or.inr (Or.inl ⟨by simp (disch := omega) only [mset_ne, mset_eq, mrow_ne, mrow_eq, upd_eq, upd_ne], h2, Or.inr ⟨ph k0, kk0, hkk, hr, hnx⟩⟩)
  · have ek : mset B 268 kv (J (t + 1 : Nat)) 268 k = B 268 k := by simp (disch := omega) only [mset_ne, mset_eq, mrow_ne, mrow_eq, upd_eq, upd_ne]
    rw [ek]
    rcases h k hk with h1 | h1 | ⟨h1, h2, h3⟩
    · exact Or.inl h1
    · exact Or.inr (Or.inl h1)
    · refine Or.inr (Or.inr ⟨h1, h2, fun k' kk hk' hkk' hpr hB => ?_⟩)
      have ek' : k' ≠ kv := by
        intro q
        subst q
        have : mset B 268 k' (J (t + 1 : Nat)) 268 k' = J (t + 1 : Nat) := by simp (disch := omega) only [mset_ne, mset_eq, mrow_ne, mrow_eq, upd_eq, upd_ne]
        rw [this, J_eq (by omega) (by omega) (by omega) (by omega)] at hB
        omega
      have : mset B 268 kv (J (t + 1 : Nat)) 268 k' = B 268 k' := by simp (disch := omega) only [mset_ne, mset_eq, mrow_ne, mrow_eq, upd_eq, upd_ne]
      rw [this] at hB
      rcases hp k' kk hpr with q | ⟨q1, q2⟩
      · exact h3 k' kk hk' hkk' q hB
      · subst q1 q2
        rw [hnx]
        intro q
        exact e (ph_inj (Option.some.inj q) hv hk).symm
theorem Lv_next {g : Nat → Int32} {s : Nat} (hs : s < 576) {B : zM} {t : Nat} {Pr : Nat → Nat → Prop} (h : Lv g s B t Pr) (ht : t < 9000) (hp : ∀ k kk, k < 576 → kk < 3 → B 268 k = J t → Pr k kk) : Lv g s B (t + 1) (fun _ _ => False) := by
  intro k hk
  rcases h k hk with ⟨d, h1, h2, h3, h4⟩ | ⟨h1, h2, h3⟩ | ⟨h1, h2, h3⟩
  · exact Or.inl ⟨d, by omega, h2, h3, h4⟩
  · refine Or.inl ⟨t + 1, Nat.le_refl _, h1, h3, fun n hn hr => ?_⟩
    exact h2 (Rch_le hr (by omega))
  · refine Or.inr (Or.inr ⟨h1, ?_, fun _ _ _ _ q => q.elim⟩)
    rintro (hr | ⟨u, kk, hkk, hu, hr⟩)
    · exact h2 hr
    · obtain ⟨k', hk', rfl⟩ := ph_sur (Rch_lt hs _ _ hu)
      rcases h k' hk' with ⟨d, a1, a2, a3, a4⟩ | ⟨_, a2, _⟩ | ⟨_, a2, _⟩
      · by_cases e : d = t
        · subst e
          exact h3 k' kk hk' hkk (hp k' kk hk' hkk a2) a2 hr
        · exact h2 (Rch_le (show Rch (nxS g) 3 s (d + 1) (ph k) from Or.inr ⟨ph k', kk, hkk, a3, hr⟩) (by omega))
      · exact absurd hu a2
      · exact absurd hu a2
/-- no one is at level t: nothing is farther -/
theorem Lv_end {g : Nat → Int32} {s : Nat} (hs : s < 576) {B : zM} {t : Nat} {Pr : Nat → Nat → Prop} (h : Lv g s B t Pr) (ht : t < 9000) (he : ∀ k, k < 576 → ¬ B 268 k = J t) : ∀ n v, Rch (nxS g) 3 s n v → ∃ n', n' < t ∧ Rch (nxS g) 3 s n' v := by
  have bel : ∀ v, Rch (nxS g) 3 s t v → ∃ n', n' < t ∧ Rch (nxS g) 3 s n' v := by
    intro v hv
    obtain ⟨k, hk, rfl⟩ := ph_sur (Rch_lt hs _ _ hv)
    rcases h k hk with ⟨d, a1, a2, a3, a4⟩ | ⟨_, a2, _⟩ | ⟨_, a2, _⟩
    · by_cases e : d = t
      · subst e
        exact absurd a2 (he k hk)
      · exact ⟨d, by omega, a3⟩
    · exact absurd hv a2
    · exact absurd hv a2
  intro n
  induction n with
  | zero =>
    intro v hv
    exact bel v (Rch_le hv (Nat.zero_le _))
  | succ n ih =>
    intro v hv
    rcases hv with hv | ⟨u, kk, hkk, hu, hr⟩
    · exact ih v hv
    · obtain ⟨n', h1, h2⟩ := ih u hu
      exact bel v (Rch_le (show Rch (nxS g) 3 s (n' + 1) v from Or.inr ⟨u, kk, hkk, h2, hr⟩) (by omega))
theorem nxS_ph (g : Nat → Int32) {c f : Nat} (hc : c < 144) (hf : f < 4) : nxS g (ph (4 * c + f)) 1 = some (ph (4 * c + (f + 1) % 4)) ∧ nxS g (ph (4 * c + f)) 2 = some (ph (4 * c + (f + 3) % 4)) ∧ nxS g (ph (4 * c + f)) 0 = (onw g c f).map (fun v => ph (4 * v + f)) := by
  have e : ph (4 * c + f) = 144 * f + c := by unfold ph; omega
  rw [e]
  refine ⟨?_, ?_, ?_⟩
  · unfold nxS ph
    simp only
    have q1 : (144 * f + c) / 144 = f := by omega
    have q2 : (144 * f + c) % 144 = c := by omega
    have q3 : (f + 1) % 4 < 4 := Nat.mod_lt _ (by decide)
    rw [q1, q2]
    generalize (f + 1) % 4 = r at *
    exact congrArg some (by omega)
  · unfold nxS ph
    simp only
    have q1 : (144 * f + c) / 144 = f := by omega
    have q2 : (144 * f + c) % 144 = c := by omega
    have q3 : (f + 3) % 4 < 4 := Nat.mod_lt _ (by decide)
    rw [q1, q2]
    generalize (f + 3) % 4 = r at *
    exact congrArg some (by omega)
  · unfold nxS
    simp only
    rw [show (144 * f + c) % 144 = c by omega, show (144 * f + c) / 144 = f by omega]
    cases onw g c f with
    | none => rfl
    | some v =>
      simp only [Option.map_some]
      unfold ph
      exact congrArg some (by omega)
theorem t_turned4 : ∀ f : Nat, f < 4 → f_X11_turned (J f) (J 0) = J (((f + 3) % 4 : Nat) : Int) ∧ f_X11_turned (J f) (J 1) = J (((f + 1) % 4 : Nat) : Int) := by decide +kernel
/-- one place of level t -/
theorem p_lvone {B : zM} {g : Nat → Int32} {s t : Nat} {Pr : Nat → Nat → Prop} {k : Nat} (mo : Int32) (ht : t < 9000) (hk : k < 576) (hg : B 258 = g) (h : Lv g s B t Pr) (hat : B 268 k = J t) :
    Wp (b_X11_layFar_51_42 (J t) mo (J k) B) (fun o => ∃ B', o = .inl (J 1, J (k + 1 : Nat), B') ∧ Lv g s B' t (fun k' kk => Pr k' kk ∨ k' = k) ∧ (∀ j, j ≠ 268 → B' j = B j) ∧ ∀ k', k' < 576 → (B' 268 k' = J t ↔ B 268 k' = J t)) := by
  obtain ⟨c, f, hf, rfl⟩ : ∃ c f : Nat, f < 4 ∧ k = 4 * c + f := ⟨k / 4, k % 4, by omega, by omega⟩
  have hc : c < 144 := by omega
  have i1 : J ((4 * c + f : Nat) : Int) / J 4 = J (c : Int) := by rw [J_div (by omega) (by omega) (by omega) (by omega)]; exact congrArg J (by omega)
  have i2 : irem (J ((4 * c + f : Nat) : Int)) (J 4) = J (f : Int) := by rw [J_rem (by omega) (by omega) (by omega) (by omega)]; exact congrArg J (by omega)
  obtain ⟨x1, x2, x0⟩ := nxS_ph g hc hf
  -- the turns
  have turns : ∀ B1 : zM, B1 258 = g → Lv g s B1 t (fun k' kk => Pr k' kk ∨ (k' = 4 * c + f ∧ kk = 0)) → (∀ k', k' < 576 → (B1 268 k' = J t ↔ B 268 k' = J t)) → (∀ j, j ≠ 268 → B1 j = B j) →
      Wp (j_X11_layFar_135_42_51 (J 1) (J t) (J ((4 * c + f : Nat) : Int)) B1) (fun o => ∃ B', o = .inl (J 1, J ((4 * c + f + 1 : Nat) : Int), B') ∧ Lv g s B' t (fun k' kk => Pr k' kk ∨ k' = 4 * c + f) ∧ (∀ j, j ≠ 268 → B' j = B j) ∧ ∀ k', k' < 576 → (B' 268 k' = J t ↔ B 268 k' = J t)) := by
    intro B1 hg1 h1 hq hfr
    unfold j_X11_layFar_135_42_51 j_X11_layFar_202_42_51
    refine wp_bind ?_
    refine wp_mono (P := fun B' => Lv g s B' t (fun k' kk => Pr k' kk ∨ k' = 4 * c + f) ∧ (∀ j, j ≠ 268 → B' j = B j) ∧ ∀ k', k' < 576 → (B' 268 k' = J t ↔ B 268 k' = J t)) ?_ (fun B' hB' => ?_)
    · refine loop_up (fun h st => st.1 = J h ∧ Lv g s st.2 t (fun k' kk => Pr k' kk ∨ (k' = 4 * c + f ∧ (kk = 0 ∨ (0 < h ∧ kk = 2) ∨ (1 < h ∧ kk = 1)))) ∧ (∀ j, j ≠ 268 → st.2 j = B j) ∧ ∀ k', k' < 576 → (st.2 268 k' = J t ↔ B 268 k' = J t)) 2 ⟨rfl, ?_, hfr, hq⟩ ?_ ?_
      · refine Lv_skip (k0 := 4 * c + f) (kk0 := 0) h1 (fun k' kk hp => ?_) (fun kv hkv hnx => ?_)
        · rcases hp with hp | ⟨hp, hp' | hp' | hp'⟩
          · exact Or.inl (Or.inl hp)
          · exact Or.inr ⟨hp, hp'⟩
          · omega
          · omega
        · intro h9'
          have h9 : B1 268 kv = J 9999 := h9'
          rcases h1 kv hkv with ⟨d, _, a2, _⟩ | ⟨a2, _⟩ | ⟨_, _, a3⟩
          · rw [h9, J_eq (by omega) (by omega) (by omega) (by omega)] at a2; omega
          · rw [h9, J_eq (by omega) (by omega) (by omega) (by omega)] at a2; omega
          · exact a3 (4 * c + f) 0 hk (by omega) (Or.inr ⟨rfl, rfl⟩) ((hq _ hk).2 hat) hnx
      · rintro h ⟨st1, B2⟩ hh ⟨e1, e2, e3, e4⟩
        simp only at e1 e2 e3 e4
        subst e1
        obtain ⟨tf, hw, htf, hkk⟩ : ∃ tf kk0 : Nat, tf < 4 ∧ kk0 < 3 ∧ f_X11_turned (J f) (J h) = J (tf : Int) ∧ nxS g (ph (4 * c + f)) kk0 = some (ph (4 * c + tf)) ∧ (h = 0 ∧ kk0 = 2 ∨ h = 1 ∧ kk0 = 1) := by
          rcases (show h = 0 ∨ h = 1 by omega) with q | q <;> subst q
          · exact ⟨(f + 3) % 4, 2, Nat.mod_lt _ (by decide), by omega, (t_turned4 f hf).1, x2, Or.inl ⟨rfl, rfl⟩⟩
          · exact ⟨(f + 1) % 4, 1, Nat.mod_lt _ (by decide), by omega, (t_turned4 f hf).2, x1, Or.inr ⟨rfl, rfl⟩⟩
        obtain ⟨hk3, htu, hnx, hcase⟩ := hkk
        have ei : J (c : Int) * J 4 + J (tf : Int) = J ((4 * c + tf : Nat) : Int) := by rw [J_mul, J_add]; exact congrArg J (by omega)
        have hpr : ∀ k' kk, (Pr k' kk ∨ (k' = 4 * c + f ∧ (kk = 0 ∨ (0 < h + 1 ∧ kk = 2) ∨ (1 < h + 1 ∧ kk = 1)))) → (Pr k' kk ∨ (k' = 4 * c + f ∧ (kk = 0 ∨ (0 < h ∧ kk = 2) ∨ (1 < h ∧ kk = 1)))) ∨ (k' = 4 * c + f ∧ kk = hw) := by
          rintro k' kk (q | ⟨q, q'⟩)
          · exact Or.inl (Or.inl q)
          · by_cases d : kk = hw
            · exact Or.inr ⟨q, d⟩
            · exact Or.inl (Or.inr ⟨q, by omega⟩)
        unfold b_X11_layFar_138_42_51 j_X11_layFar_195_42_51_138
        by_cases c9 : B2 268 (4 * c + tf) = J 9999
        · simp (disch := omega) only [↓nm_s, ↓grd_s, ↓reduceIte, J_lit, Int.cast_ofNat_Int, J_lt_t, J_lt_f, J_le_t, J_le_f, J_eq_t, J_eq_f, within_t, within_f, isIn_t, isIn_f, inRow_t, inRow_f, isCell_t, isCell_f, inb_t, ix_Jn, ix_J, Int.reduceToNat, Int.toNat_natCast, i1, i2, htu, ei, c9]
          rw [J_s t]
          refine wp_some ⟨J_s _, Lv_set e2 ht hk hk3 ((e4 _ hk).2 hat) (by omega) hnx c9 hpr, fun j hj => by simp (disch := omega) only [mset_ne, mset_eq, mrow_ne, mrow_eq, upd_eq, upd_ne]; exact e3 j hj, fun k' hk' => ?_⟩
          by_cases e : k' = 4 * c + tf
          · subst e
            have h1 : ¬ B 268 (4 * c + tf) = J t := by
              intro q
              have := (e4 _ hk').2 q
              rw [c9, J_eq (by omega) (by omega) (by omega) (by omega)] at this
              omega
            simp only
            simp (disch := omega) only [mset_ne, mset_eq, mrow_ne, mrow_eq, upd_eq, upd_ne]
            constructor
            · intro q
              rw [J_eq (by omega) (by omega) (by omega) (by omega)] at q
              omega
            · intro q; exact absurd q h1
          · simp only
            simp (disch := omega) only [mset_ne, mset_eq, mrow_ne, mrow_eq, upd_eq, upd_ne]
            exact e4 k' hk'
        · simp (disch := omega) only [↓nm_s, ↓grd_s, ↓reduceIte, J_lit, Int.cast_ofNat_Int, J_lt_t, J_lt_f, J_le_t, J_le_f, J_eq_t, J_eq_f, within_t, within_f, isIn_t, isIn_f, inRow_t, inRow_f, isCell_t, isCell_f, inb_t, ix_Jn, ix_J, Int.reduceToNat, Int.toNat_natCast, i1, i2, htu, ei, c9]
          have same : mset B2 268 (4 * c + tf) (B2 268 (4 * c + tf)) = B2 := by
            funext a b
            rw [mset_get]
            by_cases q : a = 268 ∧ b = 4 * c + tf
            · rw [if_pos q, q.1, q.2]
            · rw [if_neg q]
          rw [same]
          refine wp_some ⟨J_s _, Lv_skip e2 hpr (fun kv hkv hnv => ?_), e3, e4⟩
          rw [hnx] at hnv
          have := ph_inj (Option.some.inj hnv) (by omega) hkv
          rw [← this]
          exact c9
      · rintro ⟨st1, B2⟩ ⟨e1, e2, e3, e4⟩
        simp only at e1 e2 e3 e4
        subst e1
        unfold b_X11_layFar_138_42_51
        simp (disch := omega) only [↓reduceIte, J_lit, Int.cast_ofNat_Int, J_lt_t, J_lt_f, J_le_t, J_le_f, J_eq_t, J_eq_f, within_t, within_f, isIn_t, isIn_f, inRow_t, inRow_f, isCell_t, isCell_f, inb_t]
        refine wp_some ⟨?_, e3, e4⟩
        intro k' hk'
        rcases e2 k' hk' with a | a | ⟨a1, a2, a3⟩
        · exact Or.inl a
        · exact Or.inr (Or.inl a)
        · refine Or.inr (Or.inr ⟨a1, a2, fun k2 kk hk2 hkk hp => a3 k2 kk hk2 hkk ?_⟩)
          rcases hp with hp | hp
          · exact Or.inl hp
          · exact Or.inr ⟨hp, by omega⟩
    · simp only [J_lit, Int.cast_ofNat_Int]
      rw [J_s]
      exact wp_some ⟨B', rfl, hB'⟩
  have ho := t_onBy (B := B) hc hf
  rw [hg] at ho
  unfold b_X11_layFar_51_42
  cases hon : onw g c f with
  | none =>
    rw [hon] at ho x0
    simp only [onJ] at ho
    simp only [Option.map_none] at x0
    simp (disch := omega) only [↓nm_s, ↓grd_s, ↓reduceIte, J_lit, J_neg, Int.cast_ofNat_Int, J_lt_t, J_lt_f, J_le_t, J_le_f, J_eq_t, J_eq_f, within_t, within_f, isIn_t, isIn_f, inRow_t, inRow_f, isCell_t, isCell_f, inb_t, ix_Jn, ix_J, Int.reduceToNat, Int.toNat_natCast, i1, i2, ho, bind_s, hat]
    exact turns B hg (Lv_skip h (fun k' kk hp => hp) (fun kv hkv hnx => by rw [x0] at hnx; exact absurd hnx (by simp))) (fun _ _ => Iff.rfl) (fun _ _ => rfl)
  | some v =>
    have hne := onJ_ne hc hf hon
    have hv := (onw_lt hc hf hon).1
    rw [hon] at ho x0
    simp only [onJ] at ho
    simp only [Option.map_some] at x0
    have ei : J 4 * J (v : Int) + J (f : Int) = J ((4 * v + f : Nat) : Int) := by rw [J_mul, J_add]; rfl
    by_cases c9 : B 268 (4 * v + f) = J 9999
    · simp (disch := omega) only [↓nm_s, ↓grd_s, ↓reduceIte, J_lit, J_neg, Int.cast_ofNat_Int, J_lt_t, J_lt_f, J_le_t, J_le_f, J_eq_t, J_eq_f, within_t, within_f, isIn_t, isIn_f, inRow_t, inRow_f, isCell_t, isCell_f, inb_t, ix_Jn, ix_J, Int.reduceToNat, Int.toNat_natCast, i1, i2, ho, bind_s, hat, hne, ei, c9]
      rw [J_s t]
      refine turns _ (by simp (disch := omega) only [mset_ne, mset_eq, mrow_ne, mrow_eq, upd_eq, upd_ne]; exact hg) (Lv_set h ht hk (by omega) hat (by omega) x0 c9 (fun k' kk hp => hp)) (fun k' hk' => ?_) (fun j hj => by simp (disch := omega) only [mset_ne, mset_eq, mrow_ne, mrow_eq, upd_eq, upd_ne])
      by_cases e : k' = 4 * v + f
      · subst e
        simp (disch := omega) only [mset_ne, mset_eq, mrow_ne, mrow_eq, upd_eq, upd_ne]
        rw [c9]
        constructor
        · intro q
          rw [J_eq (by omega) (by omega) (by omega) (by omega)] at q
          omega
        · intro q
          rw [J_eq (by omega) (by omega) (by omega) (by omega)] at q
          omega
      · simp (disch := omega) only [mset_ne, mset_eq, mrow_ne, mrow_eq, upd_eq, upd_ne]
    · simp (disch := omega) only [↓nm_s, ↓grd_s, ↓reduceIte, J_lit, J_neg, Int.cast_ofNat_Int, J_lt_t, J_lt_f, J_le_t, J_le_f, J_eq_t, J_eq_f, within_t, within_f, isIn_t, isIn_f, inRow_t, inRow_f, isCell_t, isCell_f, inb_t, ix_Jn, ix_J, Int.reduceToNat, Int.toNat_natCast, i1, i2, ho, bind_s, hat, hne, ei, c9]
      refine turns B hg (Lv_skip h (fun k' kk hp => hp) (fun kv hkv hnx => ?_)) (fun _ _ => Iff.rfl) (fun _ _ => rfl)
      rw [x0] at hnx
      have := ph_inj (Option.some.inj hnx) (by omega) hkv
      rw [← this]
      exact c9
