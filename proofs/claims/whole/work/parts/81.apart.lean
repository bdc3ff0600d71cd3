/-! ===== apart: lists without doubles ===== -/
theorem nod_len : ∀ (n : Nat) (l : List Nat), l.Nodup → (∀ e, e ∈ l → e < n) → l.length ≤ n := by
  intro n
  induction n with
  | zero =>
    intro l _ h
    cases l with
    | nil => exact Nat.le_refl _
    | cons a l => exact absurd (h a (List.mem_cons_self)) (by omega)
  | succ n ih =>
    intro l hl h
    by_cases c : n ∈ l
    · have e := List.length_erase_of_mem c
      have hl' : (l.erase n).Nodup := hl.erase n
      have := ih (l.erase n) hl' (fun e he => by
        have h1 := (List.Nodup.mem_erase_iff hl).1 he
        have := h e h1.2
        have := h1.1
        omega)
      omega
    · have := ih l hl (fun e he => by
        have := h e he
        by_cases d : e = n
        · subst d; exact absurd he c
        · omega)
      omega
/-- cells beside one another, by sides and corners, and oneself -/
def nb (c p : Nat) : Prop := p < 144 ∧ p % 12 ≤ c % 12 + 1 ∧ c % 12 ≤ p % 12 + 1 ∧ p / 12 ≤ c / 12 + 1 ∧ c / 12 ≤ p / 12 + 1
def IsMn (D : Nat → Nat) (c v : Nat) : Prop := (c % 12 = 0 ∧ v = 0) ∨ (c % 12 ≠ 0 ∧ (∃ p, nb c p ∧ D p = v) ∧ ∀ p, nb c p → v ≤ D p)
theorem IsMn_u {D : Nat → Nat} {c v v' : Nat} (h : IsMn D c v) (h' : IsMn D c v') : v = v' := by
  rcases h with ⟨h1, h2⟩ | ⟨h1, ⟨p, h2, h3⟩, h4⟩
  · rcases h' with ⟨g1, g2⟩ | ⟨g1, _⟩
    · omega
    · exact absurd h1 g1
  · rcases h' with ⟨g1, g2⟩ | ⟨g1, ⟨p', g2, g3⟩, g4⟩
    · exact absurd g1 h1
    · have := h4 p' g2
      have := g4 p h2
      omega
/-- the state within round t, ahead of cell i: costs, when changed, by which chain -/
def ApI (w D T : Nat → Nat) (L : Nat → List Nat) (t i : Nat) : Prop :=
  (∀ c, c < 144 → (L c).Nodup ∧ (∀ e, e ∈ L c → e < 144 ∧ D e ≤ D c) ∧ T c ≤ (L c).length) ∧
  (∀ c, c < 144 → ((c < i ∨ 0 < t) ∧ D c ≤ c % 12 + 1) ∨ (i ≤ c ∧ t = 0 ∧ D c = 1000)) ∧
  (∀ c, c < 144 → c < i ∨ 0 < t → c % 12 = 0 → D c ≤ w c) ∧
  (∀ c, c < 144 → c % 12 ≠ 0 → ∀ p, nb c p → D c ≤ D p + w c ∨ (c < i ∧ T p = t + 1) ∨ (i ≤ c ∧ t ≤ T p))
def upN (f : Nat → Nat) (j v : Nat) : Nat → Nat := fun i => if i = j then v else f i
def upL (f : Nat → List Nat) (j : Nat) (v : List Nat) : Nat → List Nat := fun i => if i = j then v else f i
theorem upN_eq (f : Nat → Nat) (j v : Nat) : upN f j v j = v := if_pos rfl
theorem upN_ne {f : Nat → Nat} {j v i : Nat} (h : i ≠ j) : upN f j v i = f i := if_neg h
theorem upL_eq (f : Nat → List Nat) (j : Nat) (v : List Nat) : upL f j v j = v := if_pos rfl
theorem upL_ne {f : Nat → List Nat} {j i : Nat} {v : List Nat} (h : i ≠ j) : upL f j v i = f i := if_neg h
theorem Ap_no {w D T : Nat → Nat} {L : Nat → List Nat} {t i v : Nat} (h : ApI w D T L t i) (hi : i < 144) (hw : ∀ c, w c ≤ 1) (hv : IsMn D i v) (hn : D i ≤ v + w i) : ApI w D T L t (i + 1) := by
  obtain ⟨h1, h2, h3, h4⟩ := h
  refine ⟨h1, fun c hc => ?_, fun c hc h hc0 => ?_, fun c hc hc0 p hp => ?_⟩
  · by_cases e : c = i
    · subst e
      left
      refine ⟨Or.inl (by omega), ?_⟩
      rcases hv with ⟨g1, g2⟩ | ⟨g1, g2, g3⟩
      · have := hw c; omega
      · have := g3 (c - 1) (by unfold nb; omega)
        have hw := hw c
        rcases h2 (c - 1) (by omega) with ⟨_, q⟩ | ⟨q, _⟩ <;> omega
    · rcases h2 c hc with ⟨g1, g2⟩ | ⟨g1, g2, g3⟩
      · exact Or.inl ⟨by omega, g2⟩
      · exact Or.inr ⟨by omega, g2, g3⟩
  · by_cases e : c = i
    · subst e
      rcases hv with ⟨g1, g2⟩ | ⟨g1, g2, g3⟩
      · omega
      · exact absurd hc0 g1
    · exact h3 c hc (by omega) hc0
  · by_cases e : c = i
    · subst e
      left
      rcases hv with ⟨g1, g2⟩ | ⟨g1, g2, g3⟩
      · exact absurd g1 hc0
      · have := g3 p hp; omega
    · rcases h4 c hc hc0 p hp with g | ⟨g1, g2⟩ | ⟨g1, g2⟩
      · exact Or.inl g
      · exact Or.inr (Or.inl ⟨by omega, g2⟩)
      · exact Or.inr (Or.inr ⟨by omega, g2⟩)
theorem Ap_yes {w D T : Nat → Nat} {L : Nat → List Nat} {t i v : Nat} (h : ApI w D T L t i) (hi : i < 144) (hw : ∀ c, w c ≤ 1) (hv : IsMn D i v) (hn : v + w i < D i) : t < 144 ∧ ∃ T' L', ApI w (upN D i (v + w i)) T' L' t (i + 1) := by
  obtain ⟨h1, h2, h3, h4⟩ := h
  -- the chain
  obtain ⟨l, hl1, hl2, hl3⟩ : ∃ l : List Nat, (i :: l).Nodup ∧ (∀ e, e ∈ l → e < 144 ∧ D e ≤ v + w i) ∧ t ≤ l.length := by
    rcases hv with ⟨g1, g2⟩ | ⟨g1, ⟨p, g2, g3⟩, g4⟩
    · have : t = 0 := by
        rcases Nat.eq_zero_or_pos t with q | q
        · exact q
        · have := h3 i hi (Or.inr q) g1
          omega
      refine ⟨[], by simp, by simp, by omega⟩
    · obtain ⟨k1, k2, k3⟩ := h1 p g2.1
      rcases h4 i hi g1 p g2 with q | ⟨q, _⟩ | ⟨_, q⟩
      · omega
      · omega
      · refine ⟨L p, List.nodup_cons.2 ⟨fun hm => ?_, k1⟩, fun e he => ?_, by omega⟩
        · have := (k2 i hm).2
          omega
        · have := k2 e he
          exact ⟨this.1, by omega⟩
  have hlen := nod_len 144 (i :: l) hl1 (fun e he => by
    rcases List.mem_cons.1 he with q | q
    · omega
    · exact (hl2 e q).1)
  rw [List.length_cons] at hlen
  refine ⟨by omega, upN T i (t + 1), upL L i (i :: l), fun c hc => ?_, fun c hc => ?_, fun c hc h hc0 => ?_, fun c hc hc0 p hp => ?_⟩
  · by_cases e : c = i
    · subst e
      rw [upL_eq, upN_eq, upN_eq]
      refine ⟨hl1, fun e he => ?_, by rw [List.length_cons]; omega⟩
      rcases List.mem_cons.1 he with q | q
      · subst q
        rw [upN_eq]
        exact ⟨hc, Nat.le_refl _⟩
      · have := hl2 e q
        have ne : e ≠ c := fun q' => by subst q'; exact (List.nodup_cons.1 hl1).1 q
        rw [upN_ne ne]
        exact this
    · rw [upL_ne e, upN_ne e, upN_ne e]
      obtain ⟨k1, k2, k3⟩ := h1 c hc
      refine ⟨k1, fun e' he => ?_, k3⟩
      obtain ⟨q1, q2⟩ := k2 e' he
      by_cases e2 : e' = i
      · subst e2
        rw [upN_eq]
        exact ⟨q1, by omega⟩
      · rw [upN_ne e2]
        exact ⟨q1, q2⟩
  · by_cases e : c = i
    · subst e
      rw [upN_eq]
      left
      refine ⟨Or.inl (by omega), ?_⟩
      rcases h2 c hc with ⟨_, q⟩ | ⟨q1, q2, q3⟩
      · omega
      · rcases hv with ⟨g1, g2⟩ | ⟨g1, g2, g3⟩
        · have := hw c; omega
        · have := g3 (c - 1) (by unfold nb; omega)
          have hw := hw c
          rcases h2 (c - 1) (by omega) with ⟨_, q⟩ | ⟨q, _⟩ <;> omega
    · rw [upN_ne e]
      rcases h2 c hc with ⟨g1, g2⟩ | ⟨g1, g2, g3⟩
      · exact Or.inl ⟨by omega, g2⟩
      · exact Or.inr ⟨by omega, g2, g3⟩
  · by_cases e : c = i
    · subst e
      rw [upN_eq]
      rcases hv with ⟨g1, g2⟩ | ⟨g1, g2, g3⟩
      · omega
      · exact absurd hc0 g1
    · rw [upN_ne e]
      exact h3 c hc (by omega) hc0
  · by_cases e : c = i
    · subst e
      left
      rw [upN_eq]
      rcases hv with ⟨g1, g2⟩ | ⟨g1, g2, g3⟩
      · exact absurd g1 hc0
      · by_cases e2 : p = c
        · subst e2; rw [upN_eq]; omega
        · rw [upN_ne e2]
          have := g3 p hp
          omega
    · rw [upN_ne e]
      by_cases e2 : p = i
      · subst e2
        rw [upN_eq, upN_eq]
        by_cases q : c < p + 1
        · exact Or.inr (Or.inl ⟨q, rfl⟩)
        · exact Or.inr (Or.inr ⟨by omega, by omega⟩)
      · rw [upN_ne e2, upN_ne e2]
        rcases h4 c hc hc0 p hp with g | ⟨g1, g2⟩ | ⟨g1, g2⟩
        · exact Or.inl g
        · exact Or.inr (Or.inl ⟨by omega, g2⟩)
        · exact Or.inr (Or.inr ⟨by omega, g2⟩)
theorem Ap_end {w D T : Nat → Nat} {L : Nat → List Nat} {t : Nat} (h : ApI w D T L t 144) : ApI w D T L (t + 1) 0 := by
  obtain ⟨h1, h2, h3, h4⟩ := h
  refine ⟨h1, fun c hc => ?_, fun c hc _ hc0 => h3 c hc (Or.inl hc) hc0, fun c hc hc0 p hp => ?_⟩
  · rcases h2 c hc with ⟨_, q⟩ | ⟨q, _⟩
    · exact Or.inl ⟨Or.inr (by omega), q⟩
    · omega
  · rcases h4 c hc hc0 p hp with g | ⟨g1, g2⟩ | ⟨g1, g2⟩
    · exact Or.inl g
    · exact Or.inr (Or.inr ⟨by omega, by omega⟩)
    · omega
theorem Ap_0 (w : Nat → Nat) : ApI w (fun _ => 1000) (fun _ => 0) (fun _ => []) 0 0 := by
  refine ⟨fun c _ => ⟨by simp, by simp, by simp⟩, fun c _ => Or.inr ⟨by omega, rfl, rfl⟩, fun c _ h => by omega, fun c _ _ p _ => Or.inr (Or.inr ⟨by omega, by omega⟩)⟩
