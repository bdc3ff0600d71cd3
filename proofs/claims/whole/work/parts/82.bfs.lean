/-! ===== a row of places that are gone through one behind another ===== -/
theorem inj_le {w : Nat → Nat} {V : Nat} : ∀ m, (∀ j, j < m → w j < V) → (∀ j j', j < m → j' < m → w j = w j' → j = j') → m ≤ V := by
  intro m h1 h2
  have : ∃ l : List Nat, l.Nodup ∧ l.length = m ∧ ∀ e, e ∈ l → ∃ j, j < m ∧ w j = e := by
    induction m with
    | zero => exact ⟨[], by simp, rfl, by simp⟩
    | succ m ih =>
      obtain ⟨l, a, b, c⟩ := ih (fun j hj => h1 j (by omega)) (fun j j' hj hj' => h2 j j' (by omega) (by omega))
      refine ⟨w m :: l, List.nodup_cons.2 ⟨fun hm => ?_, a⟩, by rw [List.length_cons, b], fun e he => ?_⟩
      · obtain ⟨j, hj, e⟩ := c _ hm
        have := h2 j m (by omega) (by omega) e
        omega
      · rcases List.mem_cons.1 he with q | q
        · exact ⟨m, by omega, q.symm⟩
        · obtain ⟨j, hj, e⟩ := c _ q
          exact ⟨j, by omega, e⟩
  obtain ⟨l, a, b, c⟩ := this
  rw [← b]
  refine nod_len V l a (fun e he => ?_)
  obtain ⟨j, hj, e'⟩ := c e he
  rw [← e']
  exact h1 j hj
def Rch (nx : Nat → Nat → Option Nat) (K s : Nat) : Nat → Nat → Prop
  | 0, v => v = s
  | n + 1, v => Rch nx K s n v ∨ ∃ u k, k < K ∧ Rch nx K s n u ∧ nx u k = some v
theorem Rch_mo {nx : Nat → Nat → Option Nat} {K s n v : Nat} (h : Rch nx K s n v) : ∀ j, Rch nx K s (n + j) v := by
  intro j
  induction j with
  | zero => exact h
  | succ j ih => exact Or.inl ih
theorem Rch_le {nx : Nat → Nat → Option Nat} {K s n n' v : Nat} (h : Rch nx K s n v) (hn : n ≤ n') : Rch nx K s n' v := by
  have := Rch_mo h (n' - n)
  rw [show n + (n' - n) = n' by omega] at this
  exact this
/-- the row q of m places, i of them gone through, the i-th in kk ways; c: where one has been (lab), O: what was so ahead of it -/
def BQ (nx : Nat → Nat → Option Nat) (K V s lim : Nat) (O : Nat → Prop) (lab : Nat → Int32) (c q : Nat → Int32) (m i kk : Nat) (w d : Nat → Nat) : Prop :=
  (0 < m ∧ w 0 = s ∧ d 0 = 0 ∧ i ≤ m) ∧
  (∀ j, j < m → q j = J (w j) ∧ w j < V ∧ c (w j) = lab (d j) ∧ ¬ O (w j)) ∧
  (∀ v, v < V → ¬ O v → (∀ j, j < m → w j ≠ v) → c v = J (-1)) ∧
  (∀ j j', j < m → j' < m → w j = w j' → j = j') ∧
  (∀ j j', j ≤ j' → j' < m → d j ≤ d j') ∧
  (i < m → ∀ j, j < m → d j ≤ d i + 1) ∧
  (∀ j, j < m → 0 < j → ∃ j' k, j' < j ∧ k < K ∧ nx (w j') k = some (w j) ∧ d j = d j' + 1) ∧
  (∀ j k, j < m → k < K → d j < lim → (j < i ∨ j = i ∧ k < kk) → ∀ v, nx (w j) k = some v → O v ∨ ∃ j', j' < m ∧ w j' = v ∧ d j' ≤ d j + 1)
theorem BQ_R {nx : Nat → Nat → Option Nat} {K V s lim : Nat} {O : Nat → Prop} {lab : Nat → Int32} {c q : Nat → Int32} {m i kk : Nat} {w d : Nat → Nat} (h : BQ nx K V s lim O lab c q m i kk w d) : ∀ j, j < m → Rch nx K s (d j) (w j) := by
  intro j
  induction j using Nat.strongRecOn with
  | _ j ih =>
    intro hj
    by_cases e : j = 0
    · subst e
      rw [h.1.2.2.1]
      exact h.1.2.1
    · obtain ⟨j', k, h1, h2, h3, h4⟩ := h.2.2.2.2.2.2.1 j hj (by omega)
      rw [h4]
      exact Or.inr ⟨w j', k, h2, ih j' h1 (by omega), h3⟩
theorem BQ_dj {nx : Nat → Nat → Option Nat} {K V s lim : Nat} {O : Nat → Prop} {lab : Nat → Int32} {c q : Nat → Int32} {m i kk : Nat} {w d : Nat → Nat} (h : BQ nx K V s lim O lab c q m i kk w d) : ∀ j, j < m → d j ≤ j := by
  intro j
  induction j using Nat.strongRecOn with
  | _ j ih =>
    intro hj
    by_cases e : j = 0
    · subst e
      rw [h.1.2.2.1]
      exact Nat.le_refl _
    · obtain ⟨j', k, h1, h2, h3, h4⟩ := h.2.2.2.2.2.2.1 j hj (by omega)
      have := ih j' h1 (by omega)
      omega
theorem BQ_all {nx : Nat → Nat → Option Nat} {K V s lim : Nat} {lab : Nat → Int32} {c q : Nat → Int32} {m i kk : Nat} {w d : Nat → Nat} (h : BQ nx K V s lim (fun _ => False) lab c q m i kk w d) : ∀ n v, n ≤ lim → (∀ j, i ≤ j → j < m → n ≤ d j) → Rch nx K s n v → ∃ j, j < m ∧ w j = v ∧ d j ≤ n := by
  intro n
  induction n with
  | zero =>
    intro v _ _ hv
    refine ⟨0, h.1.1, ?_, by rw [h.1.2.2.1]; exact Nat.le_refl _⟩
    rw [h.1.2.1]
    exact hv.symm
  | succ n ih =>
    intro v hl hd hv
    rcases hv with hv | ⟨u, k, hk, hu, hv⟩
    · obtain ⟨j, h1, h2, h3⟩ := ih v (by omega) (fun j a b => by have := hd j a b; omega) hv
      exact ⟨j, h1, h2, by omega⟩
    · obtain ⟨j, h1, h2, h3⟩ := ih u (by omega) (fun j a b => by have := hd j a b; omega) hu
      have hji : j < i := by
        rcases Nat.lt_or_ge j i with e | e
        · exact e
        · have := hd j e h1
          omega
      rcases h.2.2.2.2.2.2.2 j k h1 hk (by omega) (Or.inl hji) v (by rw [h2]; exact hv) with e | ⟨j', g1, g2, g3⟩
      · exact e.elim
      · exact ⟨j', g1, g2, by omega⟩
theorem BQ_cl {nx : Nat → Nat → Option Nat} {K V s lim : Nat} {lab : Nat → Int32} {c q : Nat → Int32} {m kk : Nat} {w d : Nat → Nat} (h : BQ nx K V s lim (fun _ => False) lab c q m m kk w d) (hd : ∀ j, j < m → d j < lim) : ∀ n v, Rch nx K s n v → ∃ j, j < m ∧ w j = v := by
  intro n
  induction n with
  | zero =>
    intro v hv
    exact ⟨0, h.1.1, by rw [h.1.2.1]; exact hv.symm⟩
  | succ n ih =>
    intro v hv
    rcases hv with hv | ⟨u, k, hk, hu, hv⟩
    · exact ih v hv
    · obtain ⟨j, h1, h2⟩ := ih u hu
      rcases h.2.2.2.2.2.2.2 j k h1 hk (hd j h1) (Or.inl h1) v (by rw [h2]; exact hv) with e | ⟨j', g1, g2, g3⟩
      · exact e.elim
      · exact ⟨j', g1, g2⟩
theorem BQ_skip {nx : Nat → Nat → Option Nat} {K V s lim : Nat} {O : Nat → Prop} {lab : Nat → Int32} {c q : Nat → Int32} {m i kk : Nat} {w d : Nat → Nat} (h : BQ nx K V s lim O lab c q m i kk w d) (hi : i < m) (hv : ∀ v, nx (w i) kk = some v → v < V ∧ ¬ c v = J (-1)) : BQ nx K V s lim O lab c q m i (kk + 1) w d := by
  obtain ⟨h1, h2, h3, h4, h5, h6, h7, h8⟩ := h
  refine ⟨h1, h2, h3, h4, h5, h6, h7, fun j k hj hk hl hc v hvv => ?_⟩
  rcases hc with hc | ⟨hc, hc'⟩
  · exact h8 j k hj hk hl (Or.inl hc) v hvv
  · by_cases e : k = kk
    · subst e hc
      obtain ⟨g1, g2⟩ := hv v hvv
      by_cases o : O v
      · exact Or.inl o
      · right
        by_cases c2 : ∃ j', j' < m ∧ w j' = v
        · obtain ⟨j', a, b⟩ := c2
          exact ⟨j', a, b, h6 hi j' a⟩
        · exact absurd (h3 v g1 o (fun j hj' e => c2 ⟨j, hj', e⟩)) g2
    · exact h8 j k hj hk hl (Or.inr ⟨hc, by omega⟩) v hvv
theorem BQ_push {nx : Nat → Nat → Option Nat} {K V s lim : Nat} {O : Nat → Prop} {lab : Nat → Int32} {c q : Nat → Int32} {m i kk : Nat} {w d : Nat → Nat} (h : BQ nx K V s lim O lab c q m i kk w d) (hi : i < m) (hk : kk < K) {v : Nat} (hv : nx (w i) kk = some v) (hV : v < V) (hc : c v = J (-1)) (hO : ∀ u, O u → ¬ c u = J (-1)) (hlab : ∀ j, j < m → ¬ lab (d j) = J (-1)) :
    m < V ∧ BQ nx K V s lim O lab (upd c v (lab (d i + 1))) (upd q m (J v)) (m + 1) i (kk + 1) (upN w m v) (upN d m (d i + 1)) := by
  obtain ⟨h1, h2, h3, h4, h5, h6, h7, h8⟩ := h
  have hno : ∀ j, j < m → w j ≠ v := by
    intro j hj e
    have := (h2 j hj).2.2.1
    rw [e, hc] at this
    exact hlab j hj this.symm
  have hOv : ¬ O v := fun o => hO v o hc
  have hinj : ∀ j j', j < m + 1 → j' < m + 1 → upN w m v j = upN w m v j' → j = j' := by
    intro j j' hj hj' e
    by_cases a : j = m
    · by_cases b : j' = m
      · omega
      · rw [a, upN_eq, upN_ne b] at e
        exact absurd e.symm (hno j' (by omega))
    · by_cases b : j' = m
      · rw [b, upN_eq, upN_ne a] at e
        exact absurd e (hno j (by omega))
      · rw [upN_ne a, upN_ne b] at e
        exact h4 j j' (by omega) (by omega) e
  have hm := inj_le (w := upN w m v) (V := V) (m + 1) (fun j hj => by
    by_cases a : j = m
    · rw [a, upN_eq]; exact hV
    · rw [upN_ne a]; exact (h2 j (by omega)).2.1) hinj
  have em : i ≠ m := by omega
  refine ⟨by omega, ⟨by omega, by rw [upN_ne (by omega)]; exact h1.2.1, by rw [upN_ne (by omega)]; exact h1.2.2.1, by omega⟩, ?_, ?_, hinj, ?_, ?_, ?_, ?_⟩
  · intro j hj
    by_cases a : j = m
    · subst a
      rw [upN_eq, upN_eq, upd_eq, upd_eq]
      exact ⟨rfl, hV, rfl, hOv⟩
    · rw [upN_ne a, upN_ne a, upd_ne a, upd_ne (hno j (by omega))]
      exact h2 j (by omega)
  · intro u hu ho hj
    have e : u ≠ v := fun e => hj m (by omega) (by rw [upN_eq, e])
    rw [upd_ne e]
    exact h3 u hu ho (fun j hj' => by have := hj j (by omega); rw [upN_ne (by omega)] at this; exact this)
  · intro j j' hjj hj'
    by_cases a : j = m
    · have : j' = m := by omega
      rw [a, this]
      exact Nat.le_refl _
    · rw [upN_ne a]
      by_cases b : j' = m
      · rw [b, upN_eq]
        exact h6 hi j (by omega)
      · rw [upN_ne b]
        exact h5 j j' hjj (by omega)
  · intro _ j hj
    rw [upN_ne em]
    by_cases a : j = m
    · rw [a, upN_eq]
      exact Nat.le_refl _
    · rw [upN_ne a]
      exact h6 hi j (by omega)
  · intro j hj hj0
    by_cases a : j = m
    · subst a
      rw [upN_eq, upN_eq]
      refine ⟨i, kk, by omega, hk, ?_, ?_⟩
      · rw [upN_ne em]; exact hv
      · rw [upN_ne em]
    · rw [upN_ne a, upN_ne a]
      obtain ⟨j', k, g1, g2, g3, g4⟩ := h7 j (by omega) hj0
      exact ⟨j', k, g1, g2, by rw [upN_ne (by omega)]; exact g3, by rw [upN_ne (by omega)]; exact g4⟩
  · intro j k hj hk' hl hc' u hu
    have a : j ≠ m := by omega
    rw [upN_ne a] at hl hu ⊢
    have old : (O u ∨ ∃ j', j' < m ∧ w j' = u ∧ d j' ≤ d j + 1) → O u ∨ ∃ j', j' < m + 1 ∧ upN w m v j' = u ∧ upN d m (d i + 1) j' ≤ d j + 1 := by
      rintro (o | ⟨j', g1, g2, g3⟩)
      · exact Or.inl o
      · exact Or.inr ⟨j', by omega, by rw [upN_ne (by omega)]; exact g2, by rw [upN_ne (by omega)]; exact g3⟩
    rcases hc' with hc' | ⟨hc', hc2⟩
    · exact old (h8 j k (by omega) hk' hl (Or.inl hc') u hu)
    · by_cases e : k = kk
      · subst e hc'
        rw [hv] at hu
        have : u = v := (Option.some.inj hu).symm
        subst this
        exact Or.inr ⟨m, by omega, upN_eq _ _ _, by rw [upN_eq]; exact Nat.le_refl _⟩
      · exact old (h8 j k (by omega) hk' hl (Or.inr ⟨hc', by omega⟩) u hu)
theorem BQ_next {nx : Nat → Nat → Option Nat} {K V s lim : Nat} {O : Nat → Prop} {lab : Nat → Int32} {c q : Nat → Int32} {m i : Nat} {kk : Nat} {w d : Nat → Nat} (h : BQ nx K V s lim O lab c q m i kk w d) (hi : i < m) (hk : K ≤ kk ∨ lim ≤ d i) : BQ nx K V s lim O lab c q m (i + 1) 0 w d := by
  obtain ⟨h1, h2, h3, h4, h5, h6, h7, h8⟩ := h
  refine ⟨⟨h1.1, h1.2.1, h1.2.2.1, by omega⟩, h2, h3, h4, h5, fun h j hj => ?_, h7, fun j k hj hk' hl hc v hv => ?_⟩
  · have := h6 hi j hj
    have := h5 i (i + 1) (by omega) h
    omega
  · rcases hc with hc | ⟨_, hc⟩
    · by_cases e : j = i
      · subst e
        rcases hk with hk | hk
        · exact h8 j k hj hk' hl (Or.inr ⟨rfl, by omega⟩) v hv
        · omega
      · exact h8 j k hj hk' hl (Or.inl (by omega)) v hv
    · omega
theorem BQ_0 {nx : Nat → Nat → Option Nat} {K V s lim : Nat} {O : Nat → Prop} {lab : Nat → Int32} {c q : Nat → Int32} (hs : s < V) (hO : ¬ O s) (hc : c s = lab 0) (hq : q 0 = J s) (hv : ∀ v, v < V → ¬ O v → v ≠ s → c v = J (-1)) : BQ nx K V s lim O lab c q 1 0 0 (fun _ => s) (fun _ => 0) := by
  refine ⟨⟨by omega, rfl, rfl, by omega⟩, fun j hj => ?_, fun v h1 h2 h3 => hv v h1 h2 (fun e => h3 0 (by omega) e.symm), fun j j' _ _ _ => by omega, fun _ _ _ _ => Nat.le_refl _, fun _ _ _ => Nat.zero_le _, fun j _ _ => by omega, fun j k _ _ _ h => by omega⟩
  have : j = 0 := by omega
  subst this
  exact ⟨hq, hs, hc, hO⟩
/-! ===== one on, on the square ===== -/
def onw (g : Nat → Int32) (c f : Nat) : Option Nat := match f with
  | 0 => if c < 132 ∧ ¬ g (c + 12) = J 1 then some (c + 12) else none
  | 1 => if c % 12 < 11 ∧ ¬ g (c + 1) = J 1 then some (c + 1) else none
  | 2 => if 12 ≤ c ∧ ¬ g (c - 12) = J 1 then some (c - 12) else none
  | _ => if 0 < c % 12 ∧ ¬ g (c - 1) = J 1 then some (c - 1) else none
def onJ : Option Nat → Int32
  | none => J (-1)
  | some q => J q
theorem onw_cg {g g' : Nat → Int32} (h : ∀ i, i < 144 → g i = g' i) {c f : Nat} (hc : c < 144) (hf : f < 4) : onw g c f = onw g' c f := by
  rcases (show f = 0 ∨ f = 1 ∨ f = 2 ∨ f = 3 by omega) with e | e | e | e <;> subst e <;> unfold onw <;> simp only
  · by_cases q : c < 132
    · rw [h _ (by omega)]
    · rw [if_neg (by omega), if_neg (by omega)]
  · by_cases q : c % 12 < 11
    · rw [h _ (by omega)]
    · rw [if_neg (by omega), if_neg (by omega)]
  · rw [h _ (by omega)]
  · rw [h _ (by omega)]
theorem onw_lt {g : Nat → Int32} {c f v : Nat} (hc : c < 144) (hf : f < 4) (h : onw g c f = some v) : v < 144 ∧ ¬ g v = J 1 := by
  rcases (show f = 0 ∨ f = 1 ∨ f = 2 ∨ f = 3 by omega) with e | e | e | e <;> subst e <;> unfold onw at h <;> simp only at h
  all_goals
    split at h
    · rename_i hh
      have := Option.some.inj h
      subst this
      exact ⟨by omega, hh.2⟩
    · exact absurd h (by simp)
/-- and back -/
theorem onw_bk {g : Nat → Int32} {c f v : Nat} (hc : c < 144) (hg : ¬ g c = J 1) (hf : f < 4) (h : onw g c f = some v) : onw g v ((f + 2) % 4) = some c := by
  rcases (show f = 0 ∨ f = 1 ∨ f = 2 ∨ f = 3 by omega) with e | e | e | e <;> subst e <;> unfold onw at h <;> simp only at h
  all_goals
    split at h
    · rename_i hh
      have := Option.some.inj h
      subst this
      simp only [Nat.reduceAdd, Nat.reduceMod]
      unfold onw
      simp only
      rw [if_pos]
      · exact congrArg some (by omega)
      · refine ⟨by omega, ?_⟩
        first
          | (rw [show c + 12 - 12 = c by omega]; exact hg)
          | (rw [show c + 1 - 1 = c by omega]; exact hg)
          | (rw [show c - 12 + 12 = c by omega]; exact hg)
          | (rw [show c - 1 + 1 = c by omega]; exact hg)
    · exact absurd h (by simp)
theorem onw_4 {g : Nat → Int32} {x y f : Nat} (hx : x < 12) (hy : y < 12) (hf : f < 4) : onw g (12 * y + x) f = if 0 ≤ (x : Int) + dxI f ∧ (x : Int) + dxI f < 12 ∧ 0 ≤ (y : Int) + dyI f ∧ (y : Int) + dyI f < 12 ∧ ¬ g (12 * ((y : Int) + dyI f) + ((x : Int) + dxI f)).toNat = J 1 then some (12 * ((y : Int) + dyI f) + ((x : Int) + dxI f)).toNat else none := by
  rcases (show f = 0 ∨ f = 1 ∨ f = 2 ∨ f = 3 by omega) with e | e | e | e <;> subst e <;> unfold onw <;> simp only
  · have d0 : dxI 0 = 0 := rfl
    have d1 : dyI 0 = 1 := rfl
    by_cases q : y < 11
    · have e : (12 * ((y : Int) + dyI 0) + ((x : Int) + dxI 0)).toNat = 12 * y + x + 12 := by omega
      rw [e]
      by_cases d : g (12 * y + x + 12) = J 1
      · rw [if_neg (fun h => h.2 d), if_neg (fun h => h.2.2.2.2 d)]
      · rw [if_pos ⟨by omega, d⟩, if_pos ⟨by omega, by omega, by omega, by omega, d⟩]
    · rw [if_neg (by omega), if_neg (by omega)]
  · have d0 : dxI 1 = 1 := rfl
    have d1 : dyI 1 = 0 := rfl
    by_cases q : x < 11
    · have e : (12 * ((y : Int) + dyI 1) + ((x : Int) + dxI 1)).toNat = 12 * y + x + 1 := by omega
      rw [e]
      by_cases d : g (12 * y + x + 1) = J 1
      · rw [if_neg (fun h => h.2 d), if_neg (fun h => h.2.2.2.2 d)]
      · rw [if_pos ⟨by omega, d⟩, if_pos ⟨by omega, by omega, by omega, by omega, d⟩]
    · rw [if_neg (by omega), if_neg (by omega)]
  · have d0 : dxI 2 = 0 := rfl
    have d1 : dyI 2 = -1 := rfl
    by_cases q : 0 < y
    · have e : (12 * ((y : Int) + dyI 2) + ((x : Int) + dxI 2)).toNat = 12 * y + x - 12 := by omega
      rw [e]
      by_cases d : g (12 * y + x - 12) = J 1
      · rw [if_neg (fun h => h.2 d), if_neg (fun h => h.2.2.2.2 d)]
      · rw [if_pos ⟨by omega, d⟩, if_pos ⟨by omega, by omega, by omega, by omega, d⟩]
    · rw [if_neg (by omega), if_neg (by omega)]
  · have d0 : dxI 3 = -1 := rfl
    have d1 : dyI 3 = 0 := rfl
    by_cases q : 0 < x
    · have e : (12 * ((y : Int) + dyI 3) + ((x : Int) + dxI 3)).toNat = 12 * y + x - 1 := by omega
      rw [e]
      by_cases d : g (12 * y + x - 1) = J 1
      · rw [if_neg (fun h => h.2 d), if_neg (fun h => h.2.2.2.2 d)]
      · rw [if_pos ⟨by omega, d⟩, if_pos ⟨by omega, by omega, by omega, by omega, d⟩]
    · rw [if_neg (by omega), if_neg (by omega)]
theorem t_onward {A : zM} {c f : Nat} (hc : c < 144) (hf : f < 4) : f_X2_onward (J c) (J f) A = some (onJ (onw (A 3) c f)) := by
  obtain ⟨x, y, hx, hy, rfl⟩ : ∃ x y : Nat, x < 12 ∧ y < 12 ∧ c = 12 * y + x := ⟨c % 12, c / 12, by omega, by omega, by omega⟩
  have e1 : irem (J ((12 * y + x : Nat) : Int)) (J 12) = J (x : Int) := by rw [J_rem (by omega) (by omega) (by omega) (by omega)]; exact congrArg J (by omega)
  have e2 : J ((12 * y + x : Nat) : Int) / J 12 = J (y : Int) := by rw [J_div (by omega) (by omega) (by omega) (by omega)]; exact congrArg J (by omega)
  have e3 : (f : Int) % 4 = f := by omega
  have bx := dx_b f hf
  have by' := dy_b f hf
  have z0 := t_zsx f hf
  have z1 := t_zsy f hf
  rw [onw_4 hx hy hf]
  unfold f_X2_onward
  by_cases c1 : 0 ≤ (x : Int) + dxI f ∧ (x : Int) + dxI f < 12
  · by_cases c2 : 0 ≤ (y : Int) + dyI f ∧ (y : Int) + dyI f < 12
    · by_cases c3 : A 3 (12 * ((y : Int) + dyI f) + ((x : Int) + dxI f)).toNat = J 1
      · simp (disch := omega) only [↓nm_s, ↓grd_s, ↓reduceIte, J_lit, J_neg, J_add, J_mul, Int.cast_ofNat_Int, J_lt_t, J_lt_f, J_le_t, J_le_f, J_eq_t, J_eq_f, within_t, within_f, isIn_t, isIn_f, inRow_t, inRow_f, isCell_t, isCell_f, inb_t, ix_Jn, ix_J, Int.reduceToNat, Int.toNat_natCast, e1, e2, e3, J_and3, z0, z1, c3]
        rw [if_neg (by simp)]
        rfl
      · simp (disch := omega) only [↓nm_s, ↓grd_s, ↓reduceIte, J_lit, J_neg, J_add, J_mul, Int.cast_ofNat_Int, J_lt_t, J_lt_f, J_le_t, J_le_f, J_eq_t, J_eq_f, within_t, within_f, isIn_t, isIn_f, inRow_t, inRow_f, isCell_t, isCell_f, inb_t, ix_Jn, ix_J, Int.reduceToNat, Int.toNat_natCast, e1, e2, e3, J_and3, z0, z1, c3]
        rw [if_pos ⟨c1.1, c1.2, c2.1, c2.2, not_false⟩]
        simp only [onJ]
        congr 2
        omega
    · simp (disch := omega) only [↓nm_s, ↓grd_s, ↓reduceIte, J_lit, J_neg, J_add, J_mul, Int.cast_ofNat_Int, J_lt_t, J_lt_f, J_le_t, J_le_f, J_eq_t, J_eq_f, within_t, within_f, isIn_t, isIn_f, inRow_t, inRow_f, isCell_t, isCell_f, inb_t, ix_Jn, ix_J, Int.reduceToNat, Int.toNat_natCast, e1, e2, e3, J_and3, z0, z1]
      rw [if_neg (by omega)]
      rfl
  · simp (disch := omega) only [↓nm_s, ↓grd_s, ↓reduceIte, J_lit, J_neg, J_add, J_mul, Int.cast_ofNat_Int, J_lt_t, J_lt_f, J_le_t, J_le_f, J_eq_t, J_eq_f, within_t, within_f, isIn_t, isIn_f, inRow_t, inRow_f, isCell_t, isCell_f, inb_t, ix_Jn, ix_J, Int.reduceToNat, Int.toNat_natCast, e1, e2, e3, J_and3, z0, z1]
    rw [if_neg (by omega)]
    rfl
theorem t_onBy {B : zM} {c f : Nat} (hc : c < 144) (hf : f < 4) : f_X11_onBy (J c) (J f) (J 1) B = some (onJ (onw (B 258) c f)) := by
  obtain ⟨x, y, hx, hy, rfl⟩ : ∃ x y : Nat, x < 12 ∧ y < 12 ∧ c = 12 * y + x := ⟨c % 12, c / 12, by omega, by omega, by omega⟩
  have e1 : irem (J ((12 * y + x : Nat) : Int)) (J 12) = J (x : Int) := by rw [J_rem (by omega) (by omega) (by omega) (by omega)]; exact congrArg J (by omega)
  have e2 : J ((12 * y + x : Nat) : Int) / J 12 = J (y : Int) := by rw [J_div (by omega) (by omega) (by omega) (by omega)]; exact congrArg J (by omega)
  have bx := dx_b f hf
  have by' := dy_b f hf
  have z0 := t_gx f hf
  have z1 := t_gy f hf
  have ez0 : (1 : Int) * dxI f = dxI f := by omega
  have ez1 : (1 : Int) * dyI f = dyI f := by omega
  rw [onw_4 hx hy hf]
  unfold f_X11_onBy f_X11_place
  by_cases c1 : 0 ≤ (x : Int) + dxI f ∧ (x : Int) + dxI f < 12
  · by_cases c2 : 0 ≤ (y : Int) + dyI f ∧ (y : Int) + dyI f < 12
    · by_cases c3 : B 258 (12 * ((y : Int) + dyI f) + ((x : Int) + dxI f)).toNat = J 1
      · simp (disch := omega) only [↓nm_s, ↓grd_s, ↓reduceIte, J_lit, J_neg, J_add, J_mul, Int.cast_ofNat_Int, J_lt_t, J_lt_f, J_le_t, J_le_f, J_eq_t, J_eq_f, within_t, within_f, isIn_t, isIn_f, inRow_t, inRow_f, isCell_t, isCell_f, inb_t, ix_Jn, ix_J, Int.reduceToNat, Int.toNat_natCast, e1, e2, z0, z1, ez0, ez1, c3]
        rw [if_neg (by simp)]
        rfl
      · simp (disch := omega) only [↓nm_s, ↓grd_s, ↓reduceIte, J_lit, J_neg, J_add, J_mul, Int.cast_ofNat_Int, J_lt_t, J_lt_f, J_le_t, J_le_f, J_eq_t, J_eq_f, within_t, within_f, isIn_t, isIn_f, inRow_t, inRow_f, isCell_t, isCell_f, inb_t, ix_Jn, ix_J, Int.reduceToNat, Int.toNat_natCast, e1, e2, z0, z1, ez0, ez1, c3]
        rw [if_pos ⟨c1.1, c1.2, c2.1, c2.2, not_false⟩]
        simp only [onJ]
        congr 2
        omega
    · simp (disch := omega) only [↓nm_s, ↓grd_s, ↓reduceIte, J_lit, J_neg, J_add, J_mul, Int.cast_ofNat_Int, J_lt_t, J_lt_f, J_le_t, J_le_f, J_eq_t, J_eq_f, within_t, within_f, isIn_t, isIn_f, inRow_t, inRow_f, isCell_t, isCell_f, inb_t, ix_Jn, ix_J, Int.reduceToNat, Int.toNat_natCast, e1, e2, z0, z1, ez0, ez1]
      rw [if_neg (by omega)]
      rfl
  · simp (disch := omega) only [↓nm_s, ↓grd_s, ↓reduceIte, J_lit, J_neg, J_add, J_mul, Int.cast_ofNat_Int, J_lt_t, J_lt_f, J_le_t, J_le_f, J_eq_t, J_eq_f, within_t, within_f, isIn_t, isIn_f, inRow_t, inRow_f, isCell_t, isCell_f, inb_t, ix_Jn, ix_J, Int.reduceToNat, Int.toNat_natCast, e1, e2, z0, z1, ez0, ez1]
    rw [if_neg (by omega)]
    rfl
theorem dx_op : ∀ f : Nat, f < 4 → dxI ((f + 2) % 4) = -dxI f ∧ dyI ((f + 2) % 4) = -dyI f := by decide +kernel
theorem t_onBk {B : zM} {c f : Nat} (hc : c < 144) (hf : f < 4) : f_X11_onBy (J c) (J f) (J (-1)) B = some (onJ (onw (B 258) c ((f + 2) % 4))) := by
  rw [← t_onBy hc (Nat.mod_lt _ (by decide))]
  have z0 := t_gx f hf
  have z1 := t_gy f hf
  have hf2 : (f + 2) % 4 < 4 := Nat.mod_lt _ (by decide)
  have z2 := t_gx _ hf2
  have z3 := t_gy _ hf2
  obtain ⟨o1, o2⟩ := dx_op f hf
  unfold f_X11_onBy
  rw [z0, z1, z2, z3, J_mul, J_mul, J_mul, J_mul, o1, o2, show (-1 : Int) * dxI f = 1 * -dxI f by omega, show (-1 : Int) * dyI f = 1 * -dyI f by omega]
