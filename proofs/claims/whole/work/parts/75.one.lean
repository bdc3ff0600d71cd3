/-! ===== one: rows that go round ===== -/
def sw (s v : Nat) : Nat := if s = 1 ∧ v < 2 then 1 - v else v
theorem sw_sw {s v : Nat} (h : v < 3) : sw s (sw s v) = v := by
  unfold sw
  by_cases h1 : s = 1
  · rcases (show v = 0 ∨ v = 1 ∨ v = 2 by omega) with e | e | e <;> subst e <;> simp [h1]
  · simp [h1]
theorem sw_lt {s v : Nat} (h : v < 3) : sw s v < 3 := by
  unfold sw
  split <;> omega
theorem sw_0 (v : Nat) : sw 0 v = v := by unfold sw; rw [if_neg (by omega)]
theorem per_m {f : Nat → Nat} {n : Nat} (hf : ∀ i, f (i + n) = f i) : ∀ m i, f (i + n * m) = f i := by
  intro m
  induction m with
  | zero => intro i; rfl
  | succ m ih =>
    intro i
    rw [Nat.mul_succ, ← Nat.add_assoc, hf, ih]
theorem per_mod {f : Nat → Nat} {n : Nat} (hf : ∀ i, f (i + n) = f i) (i : Nat) : f (i % n) = f i := by
  have := per_m hf (i / n) (i % n)
  rw [Nat.mod_add_div] at this
  exact this.symm
theorem per_all {f g : Nat → Nat} {n : Nat} (hn : 0 < n) (hf : ∀ i, f (i + n) = f i) (hg : ∀ i, g (i + n) = g i) (h : ∀ i, i < n → f i = g i) : ∀ i, f i = g i := by
  intro i
  rw [← per_mod hf, ← per_mod hg]
  exact h _ (Nat.mod_lt _ hn)
theorem per_sh {f g : Nat → Nat} {n k k' : Nat} (hn : 0 < n) (hf : ∀ i, f (i + n) = f i) (h : ∀ i, f (i + k) = g (i + k')) : ∀ j, f j = g (j + ((n - 1) * k + k')) := by
  intro j
  have := h (j + (n - 1) * k)
  rw [show j + (n - 1) * k + k = j + n * k by
    obtain ⟨m, rfl⟩ : ∃ m, n = m + 1 := ⟨n - 1, by omega⟩
    rw [Nat.succ_mul, Nat.add_sub_cancel]; omega, per_m hf] at this
  rw [this]
  congr 1
  omega
theorem per_dv {f : Nat → Nat} {p : Nat} (hp : 0 < p) (h1 : ∀ i, f (i + p) = f i) (h2 : ∀ q, 0 < q → q < p → ¬ ∀ i, f (i + q) = f i) (k : Nat) : (∀ i, f (i + k) = f i) ↔ k % p = 0 := by
  constructor
  · intro h
    by_cases c : k % p = 0
    · exact c
    · refine absurd (fun i => ?_) (h2 (k % p) (by omega) (Nat.mod_lt _ hp))
      have := per_m h1 (k / p) (i + k % p)
      rw [Nat.add_assoc, Nat.mod_add_div] at this
      rw [← this, h]
  · intro h i
    have := per_m h1 (k / p) i
    rw [← this]
    have e := Nat.mod_add_div k p
    rw [h, Nat.zero_add] at e
    rw [e]
theorem per_ev {f : Nat → Nat} {n p : Nat} (hn : 0 < n) (hf : ∀ i, f (i + n) = f i) (hp : 0 < p) (h1 : ∀ i, f (i + p) = f i) (h2 : ∀ q, 0 < q → q < p → ¬ ∀ i, f (i + q) = f i) (k k' : Nat) : (∀ i, f (i + k) = f (i + k')) ↔ k % p = k' % p := by
  have le : ∀ k k', k ≤ k' → (∀ i, f (i + k) = f (i + k')) → k % p = k' % p := by
    intro k k' hk h
    have hD : ∀ i, f (i + (k' - k)) = f i := by
      intro j
      have := h (j + (n - 1) * k)
      have e : j + (n - 1) * k + k = j + n * k := by
        obtain ⟨m, rfl⟩ : ∃ m, n = m + 1 := ⟨n - 1, by omega⟩
        rw [Nat.succ_mul, Nat.add_sub_cancel]; omega
      rw [e, per_m hf, show j + (n - 1) * k + k' = (j + (k' - k)) + n * k by omega, per_m hf] at this
      exact this.symm
    have hd := (per_dv hp h1 h2 _).1 hD
    have e := Nat.mod_add_div (k' - k) p
    rw [hd, Nat.zero_add] at e
    rw [show k' = k + p * ((k' - k) / p) by omega, Nat.add_mul_mod_self_left]
  constructor
  · intro h
    rcases Nat.le_total k k' with c | c
    · exact le k k' c h
    · exact (le k' k c (fun i => (h i).symm)).symm
  · intro h i
    have e1 := per_m h1 (k / p) (i + k % p)
    have e2 := per_m h1 (k' / p) (i + k' % p)
    rw [Nat.add_assoc, Nat.mod_add_div] at e1 e2
    rw [e1, e2, h]
/-! how many are so -/
noncomputable def cnt (P : Nat → Prop) : Nat → Nat
  | 0 => 0
  | n + 1 => cnt P n + (@ite Nat (P n) (Classical.propDecidable _) 1 0)
theorem cnt_t {P : Nat → Prop} {n : Nat} (h : P n) : cnt P (n + 1) = cnt P n + 1 := by
  simp only [cnt]
  rw [if_pos h]
theorem cnt_f {P : Nat → Prop} {n : Nat} (h : ¬ P n) : cnt P (n + 1) = cnt P n := by
  simp only [cnt]
  rw [if_neg h]
  rfl
theorem cnt_le (P : Nat → Prop) : ∀ n, cnt P n ≤ n := by
  intro n
  induction n with
  | zero => exact Nat.le_refl _
  | succ n ih =>
    by_cases h : P n
    · rw [cnt_t h]; omega
    · rw [cnt_f h]; omega
theorem cnt_cg {P Q : Nat → Prop} : ∀ n, (∀ i, i < n → (P i ↔ Q i)) → cnt P n = cnt Q n := by
  intro n
  induction n with
  | zero => intro _; rfl
  | succ n ih =>
    intro h
    have e := ih (fun i hi => h i (by omega))
    by_cases c : P n
    · rw [cnt_t c, cnt_t ((h n (by omega)).1 c), e]
    · rw [cnt_f c, cnt_f (fun d => c ((h n (by omega)).2 d)), e]
theorem cnt_all {P : Nat → Prop} : ∀ n, (∀ i, i < n → P i) → cnt P n = n := by
  intro n
  induction n with
  | zero => intro _; rfl
  | succ n ih =>
    intro h
    rw [cnt_t (h n (by omega)), ih (fun i hi => h i (by omega))]
theorem cnt_none {P : Nat → Prop} : ∀ n, (∀ i, i < n → ¬ P i) → cnt P n = 0 := by
  intro n
  induction n with
  | zero => intro _; rfl
  | succ n ih =>
    intro h
    rw [cnt_f (h n (by omega)), ih (fun i hi => h i (by omega))]
/-- one more is so -/
theorem cnt_one {P Q : Nat → Prop} {r : Nat} (hP : ¬ P r) (h : ∀ i, Q i ↔ P i ∨ i = r) : ∀ n, cnt Q n = cnt P n + if r < n then 1 else 0 := by
  intro n
  induction n with
  | zero => rfl
  | succ n ih =>
    by_cases e : n = r
    · subst e
      rw [cnt_t ((h n).2 (Or.inr rfl)), cnt_f hP, ih, if_neg (by omega), if_pos (by omega)]
    · by_cases c : P n
      · rw [cnt_t c, cnt_t ((h n).2 (Or.inl c)), ih]
        by_cases d : r < n
        · rw [if_pos d, if_pos (by omega)]
        · rw [if_neg d, if_neg (by omega)]
      · rw [cnt_f c, cnt_f (fun q => by rcases (h n).1 q with q | q; exact c q; exact e q), ih]
        by_cases d : r < n
        · rw [if_pos d, if_pos (by omega)]
        · rw [if_neg d, if_neg (by omega)]
/-- the first ones of each kind are as many as the kinds -/
theorem cnt_first (c : Nat → Nat) (q : Nat) : ∀ N, (∀ h, h < N → c h < q) → cnt (fun h => ∀ t, t < h → c h ≠ c t) N = cnt (fun r => ∃ h, h < N ∧ c h = r) q := by
  intro N
  induction N with
  | zero =>
    intro _
    rw [cnt_none q (fun i _ ⟨h, hh, _⟩ => by omega)]
    rfl
  | succ N ih =>
    intro hc
    have e := ih (fun h hh => hc h (by omega))
    by_cases d : ∀ t, t < N → c N ≠ c t
    · rw [cnt_t (P := fun h => ∀ t, t < h → c h ≠ c t) d, e]
      rw [cnt_one (P := fun r => ∃ h, h < N ∧ c h = r) (Q := fun r => ∃ h, h < N + 1 ∧ c h = r) (r := c N) (fun ⟨h, h1, h2⟩ => d h h1 h2.symm) (fun i => ?_), if_pos (hc N (by omega))]
      constructor
      · rintro ⟨h, h1, h2⟩
        by_cases e : h = N
        · subst e; exact Or.inr h2.symm
        · exact Or.inl ⟨h, by omega, h2⟩
      · rintro (⟨h, h1, h2⟩ | h2)
        · exact ⟨h, by omega, h2⟩
        · exact ⟨N, by omega, h2.symm⟩
    · rw [cnt_f (P := fun h => ∀ t, t < h → c h ≠ c t) d, e]
      refine cnt_cg q (fun i hi => ?_)
      constructor
      · rintro ⟨h, h1, h2⟩
        exact ⟨h, by omega, h2⟩
      · rintro ⟨h, h1, h2⟩
        by_cases e : h = N
        · subst e
          obtain ⟨t, ht⟩ := Classical.not_forall.1 d
          obtain ⟨h3, h4⟩ := Classical.not_imp.1 ht
          exact ⟨t, h3, by rw [← h2]; exact (Classical.not_not.1 h4).symm⟩
        · exact ⟨h, by omega, h2⟩
/-- the row that comes of a by how -/
def rwo (a : Nat → Nat) (n how i : Nat) : Nat := sw (how % 2) (a ((how / 2 + i) % n))
theorem cnt_rows {a : Nat → Nat} {n p : Nat} (hn : 0 < n) (ha : ∀ i, i < n → a i < 3) (hp : 0 < p) (hpn : p ≤ n) (h1 : p = n ∨ ∀ i, i < n → a i = sw 0 (a ((i + p) % n))) (h2 : ∀ q, 0 < q → q < p → ¬ ∀ i, i < n → a i = sw 0 (a ((i + q) % n))) :
    cnt (fun h => ∀ t, t < h → ¬ ∀ i, i < n → rwo a n h i = rwo a n t i) (2 * n) = @ite Nat (∃ k, k < n ∧ ∀ i, i < n → a i = sw 1 (a ((i + k) % n))) (Classical.propDecidable _) p (2 * p) := by
  let f : Nat → Nat := fun i => a (i % n)
  have ff : ∀ i, f i = a (i % n) := fun _ => rfl
  have hf : ∀ i, f (i + n) = f i := fun i => by rw [ff, ff, Nat.add_mod_right]
  have f3 : ∀ i, f i < 3 := fun i => ha _ (Nat.mod_lt _ hn)
  have fa : ∀ i, i < n → f i = a i := fun i hi => by rw [ff, Nat.mod_eq_of_lt hi]
  have hfk : ∀ k i, f (i + n + k) = f (i + k) := fun k i => by rw [show i + n + k = (i + k) + n by omega, hf]
  have tr : ∀ q, (∀ i, i < n → a i = sw 0 (a ((i + q) % n))) ↔ ∀ i, f (i + q) = f i := by
    intro q
    constructor
    · intro h
      exact per_all hn (f := fun i => f (i + q)) (g := f) (fun i => hfk q i) hf (fun i hi => by rw [fa i hi, h i hi, sw_0])
    · intro h i hi
      rw [sw_0, ← ff, h i, fa i hi]
  have g1 : ∀ i, f (i + p) = f i := by
    rcases h1 with e | e
    · rw [e]; exact hf
    · exact (tr p).1 e
  have g2 : ∀ q, 0 < q → q < p → ¬ ∀ i, f (i + q) = f i := fun q h h' e => h2 q h h' ((tr q).2 e)
  have ev := per_ev hn hf hp g1 g2
  have al : ∀ h t, (∀ i, i < n → rwo a n h i = rwo a n t i) ↔ ∀ i, sw (h % 2) (f (i + h / 2)) = sw (t % 2) (f (i + t / 2)) := by
    intro h t
    constructor
    · intro e
      refine per_all hn (f := fun i => sw (h % 2) (f (i + h / 2))) (g := fun i => sw (t % 2) (f (i + t / 2))) (fun i => by simp only [hfk]) (fun i => by simp only [hfk]) (fun i hi => ?_)
      have := e i hi
      unfold rwo at this
      rw [Nat.add_comm (h / 2), Nat.add_comm (t / 2)] at this
      exact this
    · intro e i _
      unfold rwo
      rw [Nat.add_comm (h / 2), Nat.add_comm (t / 2)]
      exact e i
  by_cases c : ∃ k, k < n ∧ ∀ i, i < n → a i = sw 1 (a ((i + k) % n))
  · rw [if_pos c]
    obtain ⟨d, hd, e⟩ := c
    have e' : ∀ i, f i = sw 1 (f (i + d)) := per_all hn hf (g := fun i => sw 1 (f (i + d))) (fun i => by simp only [hfk]) (fun i hi => by rw [fa i hi, e i hi])
    have e2 : ∀ i, sw 1 (f i) = f (i + d) := fun i => by rw [e' i, sw_sw (f3 _)]
    have ro : ∀ h i, sw (h % 2) (f (i + h / 2)) = f (i + (h / 2 + h % 2 * d)) := by
      intro h i
      rcases (show h % 2 = 0 ∨ h % 2 = 1 by omega) with q | q
      · rw [q, sw_0, Nat.zero_mul]; rfl
      · rw [q, e2, Nat.one_mul, Nat.add_assoc]
    rw [cnt_cg (Q := fun h => ∀ t, t < h → (h / 2 + h % 2 * d) % p ≠ (t / 2 + t % 2 * d) % p) (2 * n) (fun h _ => ?_), cnt_first (fun h => (h / 2 + h % 2 * d) % p) p (2 * n) (fun _ _ => Nat.mod_lt _ hp), cnt_all p (fun r hr => ⟨2 * r, by omega, by rw [show 2 * r % 2 = 0 by omega, show 2 * r / 2 = r by omega, Nat.zero_mul, Nat.add_zero, Nat.mod_eq_of_lt hr]⟩)]
    · refine forall_congr' fun t => ?_
      refine forall_congr' fun _ => ?_
      rw [al]
      simp only [ro]
      rw [ev]
  · rw [if_neg c]
    have no : ∀ k k', ¬ ∀ i, f (i + k) = sw 1 (f (i + k')) := by
      intro k k' h
      refine c ⟨((n - 1) * k + k') % n, Nat.mod_lt _ hn, fun i hi => ?_⟩
      have := per_sh (g := fun i => sw 1 (f i)) hn hf h i
      rw [← fa i hi, this, ff, Nat.add_mod_mod]
    have ro : ∀ h t, (∀ i, sw (h % 2) (f (i + h / 2)) = sw (t % 2) (f (i + t / 2))) ↔ (h / 2) % p + h % 2 * p = (t / 2) % p + t % 2 * p := by
      intro h t
      have b1 := Nat.mod_lt (h / 2) hp
      have b2 := Nat.mod_lt (t / 2) hp
      rcases (show h % 2 = 0 ∨ h % 2 = 1 by omega) with q | q <;> rcases (show t % 2 = 0 ∨ t % 2 = 1 by omega) with q' | q'
      · simp only [q, q', sw_0, Nat.zero_mul, Nat.add_zero]
        exact ev _ _
      · simp only [q, q', sw_0, Nat.zero_mul, Nat.add_zero, Nat.one_mul]
        exact ⟨fun e => absurd e (no _ _), fun e => by omega⟩
      · simp only [q, q', sw_0, Nat.zero_mul, Nat.add_zero, Nat.one_mul]
        exact ⟨fun e => absurd (fun i => (e i).symm) (no _ _), fun e => by omega⟩
      · simp only [q, q', Nat.one_mul]
        rw [Nat.add_right_cancel_iff, ← ev]
        constructor
        · intro e i
          have := congrArg (sw 1) (e i)
          rw [sw_sw (f3 _), sw_sw (f3 _)] at this
          exact this
        · intro e i
          rw [e i]
    rw [cnt_cg (Q := fun h => ∀ t, t < h → (h / 2) % p + h % 2 * p ≠ (t / 2) % p + t % 2 * p) (2 * n) (fun h _ => ?_), cnt_first (fun h => (h / 2) % p + h % 2 * p) (2 * p) (2 * n) (fun h _ => ?_), cnt_all (2 * p) (fun r hr => ?_)]
    · by_cases d : r < p
      · refine ⟨2 * r, by omega, ?_⟩
        rw [show 2 * r % 2 = 0 by omega, show 2 * r / 2 = r by omega, Nat.zero_mul, Nat.add_zero, Nat.mod_eq_of_lt d]
      · refine ⟨2 * (r - p) + 1, by omega, ?_⟩
        rw [show (2 * (r - p) + 1) % 2 = 1 by omega, show (2 * (r - p) + 1) / 2 = r - p by omega, Nat.one_mul, Nat.mod_eq_of_lt (by omega)]
        omega
    · have b1 := Nat.mod_lt (h / 2) hp
      rcases (show h % 2 = 0 ∨ h % 2 = 1 by omega) with q | q
      · simp only [q]; omega
      · simp only [q]; omega
    · refine forall_congr' fun t => ?_
      refine forall_congr' fun _ => ?_
      rw [al, ro]
