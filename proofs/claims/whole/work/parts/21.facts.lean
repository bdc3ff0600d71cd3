theorem tg0_of {a j m c : Nat} (h : RF0 a j = some m ∧ tO true c m) : TG0 m = (c + 3, 0) := by
  have hk : ∀ k, k < 257 → 3 ≤ (TG0 k).1 → (TG0 k).2 = 0 := by decide +kernel
  obtain ⟨-, h1, h2⟩ := h
  have := hk m (by simp [zin] at h1; exact h1) (by omega)
  exact Prod.ext h2 this
section XM2
variable {α : Type} {C : zC} {w w0 : zW} {cs : Nat × Nat} {cc : ByteArray} {nL : Nat} {own : String} {pc n0 : Nat} {F : Nat → Nat → Bool} {M : zM} {X : Option α} {K : α → Prop}
/-- a field that is a new row of references: the row's own places are laid later -/
theorem c_ir (hC : Cok C cc nL own) (hin : C.1.2.2.2.2.2.2.2.2.1.name = "<init>") {i i2 c j N m a lp t : Nat} {v : Int32} {Cn : String} {J J' : Nat → Bool} {lv : List (Nat × (Nat ⊕ Int32))} (d1 : decode cc pc = .ok (.aload_n 0, 1)) (hq : lv[0]? = some (0, .inl a)) (hp : ∀ {st : List (Nat ⊕ Int32)}, Sg C w cs (pc + 1 + lp) (lvO w lv) (stO w (.inr v :: st)) M X K → Sg C w cs (pc + 1) (lvO w lv) (stO w st) M X K) (d3 : decode cc (pc + 1 + lp) = .ok (.anewarray i2, 3)) (ht : (zT C.2.2.1)[t]? = some (C.2.2.1.2.2.1 t, .object Cn)) (ht2 : t = 1 ∨ t = 2) (hcl : Cond.classLink own i2 Cn ∈ lw_g) (hao : va_AO Cn C.1.2.2.2.2.1) (d4 : decode cc (pc + 1 + lp + 3) = .ok (.putfield i, 3)) (lk : lkF own i c j true (.array (.object Cn))) (hown : ∀ Cn T N, vwCl[c]? = some (Cn, T, N) → (T j).1 = own) (hi : zIf c j = false)
    (ham : a < m) (hF : ∀ k, a ≤ k → ∀ j, F k j = false) (hT : (TG0 a).1 = c + 3) (hr : RF0 a j = some m) (hn : TG0 m = (t, N)) (hv : ¬ v < 0) (hN : v.toNatClampNeg = N) (hb : N * 4 ≤ 536870912) (hl : okC m (lv.map (·.2))) (hr1 : cs.1 + 1 ≤ C.1.2.2.2.1.cells) (hr2 : cs.2 + N ≤ C.1.2.2.2.1.slots) (hJ : ∀ i, J' i = (J i || decide (i = j))) (hw : cW w m (gF F a J m)) (hwf : wfF m (gF F a J m)) (hn0 : n0 ≤ m) (had : adE n0 w0 w) (cs' : Nat × Nat) (hcs : (cs.1 + 1, cs.2 + N) = cs')
    (k : ∀ w1, cW w1 (m + 1) (gF F a J' m) → adE n0 w0 w1 → Sg C w1 cs' (pc + 1 + lp + 3 + 3) (lvO w1 lv) (stO w1 []) M X K) : Sg C w cs pc (lvO w lv) (stO w []) M X K := by
  subst hcs
  refine c_aload hC d1 rfl 0 hq ?_
  refine hp ?_
  refine c_newq hC d3 ht ht2 hcl hao hw hwf hn (gF_fresh hF ham m (Nat.le_refl _)) hv hN hb hl ?_ hr1 hr2 (fun w1 hw1 ad1 => ?_)
  · intro q hq
    simp only [List.mem_singleton] at hq
    subst hq
    exact ham
  · refine c_putR hC d4 lk hown hin hi hw1 (by omega) hT hr (fun q => ⟨rfl, rfl⟩) (fun w2 hw3 ad2 => ?_)
    rw [gF_put hJ] at hw3
    exact k w2 hw3 (fun q h => by rw [ad2 q (by omega), ad1 q (by omega), had q h])
end XM2
theorem wd_217 : Cond.arrayClass .int ∈ lw_g := g_in (t_in 217 (by decide +kernel)) rfl
theorem wd_149 : Cond.methodLink RX9 3 objectInit ∈ lw_g := g_in (t_in 149 (by decide +kernel)) rfl
theorem wd_135 : Cond.instanceMethod objectInit ∈ lw_g := g_in (t_in 135 (by decide +kernel)) rfl
theorem wd_136 : Cond.code objectInit ⟨#[0xb1]⟩ 1 none ∈ lw_g := g_in (t_in 136 (by decide +kernel)) rfl
theorem hj_Walker {a : Nat} (ha : tO true 9 a) : ∀ j r, RF0 a j = some r → j ∈ ([] : List Nat) := by
  have hk : ∀ a, a < 257 → ∀ j, j < 40 → (!(decide ((TG0 a).1 = 12)) || (RF0 a j).isNone || decide (j ∈ ([] : List Nat))) = true := by decide +kernel
  intro j r h
  have := hk a (by have := ha.1; simp [zin] at this; exact this) j (RF0_24 h).2
  rw [h, ha.2] at this
  simpa using this
theorem wd_323 : Cond.methodLink RX0 1 objectInit ∈ lw_g := g_in (t_in 323 (by decide +kernel)) rfl
theorem ow_Book_0 {a : Nat} (h : tO true 0 a) : OW (a + 1) = (a, 0) := by
  have hk : ∀ a, a < 257 → (TG0 a).1 = 3 → OW (a + 1) = (a, 0) := by decide +kernel
  exact hk a (by have := h.1; simp [zin] at this; exact this) h.2
theorem ho_0_0 : ∀ Cn T N, vwCl[0]? = some (Cn, T, N) → (T 0).1 = RX0 := by
  intro Cn T N h
  have h2 : (RX0, TX0, 1) = (Cn, T, N) := Option.some.inj h
  cases h2
  rfl
theorem hj_Book {a : Nat} (ha : tO true 0 a) : ∀ j r, RF0 a j = some r → j ∈ ([0] : List Nat) := by
  have hk : ∀ a, a < 257 → ∀ j, j < 40 → (!(decide ((TG0 a).1 = 3)) || (RF0 a j).isNone || decide (j ∈ ([0] : List Nat))) = true := by decide +kernel
  intro j r h
  have := hk a (by have := ha.1; simp [zin] at this; exact this) j (RF0_24 h).2
  rw [h, ha.2] at this
  simpa using this
theorem wd_266 : Cond.methodLink RX3 3 objectInit ∈ lw_g := g_in (t_in 266 (by decide +kernel)) rfl
theorem ow_Law_1 {a : Nat} (h : tO true 3 a) : OW (a + 1) = (a, 1) := by
  have hk : ∀ a, a < 257 → (TG0 a).1 = 6 → OW (a + 1) = (a, 1) := by decide +kernel
  exact hk a (by have := h.1; simp [zin] at this; exact this) h.2
theorem ho_3_1 : ∀ Cn T N, vwCl[3]? = some (Cn, T, N) → (T 1).1 = RX3 := by
  intro Cn T N h
  have h2 : (RX3, TX3, 7) = (Cn, T, N) := Option.some.inj h
  cases h2
  rfl
theorem ow_Law_2 {a : Nat} (h : tO true 3 a) : OW (a + 2) = (a, 2) := by
  have hk : ∀ a, a < 257 → (TG0 a).1 = 6 → OW (a + 2) = (a, 2) := by decide +kernel
  exact hk a (by have := h.1; simp [zin] at this; exact this) h.2
theorem ho_3_2 : ∀ Cn T N, vwCl[3]? = some (Cn, T, N) → (T 2).1 = RX3 := by
  intro Cn T N h
  have h2 : (RX3, TX3, 7) = (Cn, T, N) := Option.some.inj h
  cases h2
  rfl
theorem ow_Law_3 {a : Nat} (h : tO true 3 a) : OW (a + 3) = (a, 3) := by
  have hk : ∀ a, a < 257 → (TG0 a).1 = 6 → OW (a + 3) = (a, 3) := by decide +kernel
  exact hk a (by have := h.1; simp [zin] at this; exact this) h.2
theorem ho_3_3 : ∀ Cn T N, vwCl[3]? = some (Cn, T, N) → (T 3).1 = RX3 := by
  intro Cn T N h
  have h2 : (RX3, TX3, 7) = (Cn, T, N) := Option.some.inj h
  cases h2
  rfl
theorem ow_Law_4 {a : Nat} (h : tO true 3 a) : OW (a + 4) = (a, 4) := by
  have hk : ∀ a, a < 257 → (TG0 a).1 = 6 → OW (a + 4) = (a, 4) := by decide +kernel
  exact hk a (by have := h.1; simp [zin] at this; exact this) h.2
theorem ho_3_4 : ∀ Cn T N, vwCl[3]? = some (Cn, T, N) → (T 4).1 = RX3 := by
  intro Cn T N h
  have h2 : (RX3, TX3, 7) = (Cn, T, N) := Option.some.inj h
  cases h2
  rfl
theorem ow_Law_6 {a : Nat} (h : tO true 3 a) : OW (a + 5) = (a, 6) := by
  have hk : ∀ a, a < 257 → (TG0 a).1 = 6 → OW (a + 5) = (a, 6) := by decide +kernel
  exact hk a (by have := h.1; simp [zin] at this; exact this) h.2
theorem ho_3_6 : ∀ Cn T N, vwCl[3]? = some (Cn, T, N) → (T 6).1 = RX3 := by
  intro Cn T N h
  have h2 : (RX3, TX3, 7) = (Cn, T, N) := Option.some.inj h
  cases h2
  rfl
theorem hj_Law {a : Nat} (ha : tO true 3 a) : ∀ j r, RF0 a j = some r → j ∈ ([1, 2, 3, 4, 6] : List Nat) := by
  have hk : ∀ a, a < 257 → ∀ j, j < 40 → (!(decide ((TG0 a).1 = 6)) || (RF0 a j).isNone || decide (j ∈ ([1, 2, 3, 4, 6] : List Nat))) = true := by decide +kernel
  intro j r h
  have := hk a (by have := ha.1; simp [zin] at this; exact this) j (RF0_24 h).2
  rw [h, ha.2] at this
  simpa using this
theorem wd_333 : Cond.methodLink RX6 5 objectInit ∈ lw_g := g_in (t_in 333 (by decide +kernel)) rfl
theorem ow_Rows_0 {a : Nat} (h : tO true 6 a) : OW (a + 1) = (a, 0) := by
  have hk : ∀ a, a < 257 → (TG0 a).1 = 9 → OW (a + 1) = (a, 0) := by decide +kernel
  exact hk a (by have := h.1; simp [zin] at this; exact this) h.2
theorem ho_6_0 : ∀ Cn T N, vwCl[6]? = some (Cn, T, N) → (T 0).1 = RX6 := by
  intro Cn T N h
  have h2 : (RX6, TX6, 12) = (Cn, T, N) := Option.some.inj h
  cases h2
  rfl
theorem ow_Rows_1 {a : Nat} (h : tO true 6 a) : OW (a + 2) = (a, 1) := by
  have hk : ∀ a, a < 257 → (TG0 a).1 = 9 → OW (a + 2) = (a, 1) := by decide +kernel
  exact hk a (by have := h.1; simp [zin] at this; exact this) h.2
theorem ho_6_1 : ∀ Cn T N, vwCl[6]? = some (Cn, T, N) → (T 1).1 = RX6 := by
  intro Cn T N h
  have h2 : (RX6, TX6, 12) = (Cn, T, N) := Option.some.inj h
  cases h2
  rfl
theorem ow_Rows_2 {a : Nat} (h : tO true 6 a) : OW (a + 3) = (a, 2) := by
  have hk : ∀ a, a < 257 → (TG0 a).1 = 9 → OW (a + 3) = (a, 2) := by decide +kernel
  exact hk a (by have := h.1; simp [zin] at this; exact this) h.2
theorem ho_6_2 : ∀ Cn T N, vwCl[6]? = some (Cn, T, N) → (T 2).1 = RX6 := by
  intro Cn T N h
  have h2 : (RX6, TX6, 12) = (Cn, T, N) := Option.some.inj h
  cases h2
  rfl
theorem ow_Rows_4 {a : Nat} (h : tO true 6 a) : OW (a + 4) = (a, 4) := by
  have hk : ∀ a, a < 257 → (TG0 a).1 = 9 → OW (a + 4) = (a, 4) := by decide +kernel
  exact hk a (by have := h.1; simp [zin] at this; exact this) h.2
theorem ho_6_4 : ∀ Cn T N, vwCl[6]? = some (Cn, T, N) → (T 4).1 = RX6 := by
  intro Cn T N h
  have h2 : (RX6, TX6, 12) = (Cn, T, N) := Option.some.inj h
  cases h2
  rfl
theorem ow_Rows_5 {a : Nat} (h : tO true 6 a) : OW (a + 5) = (a, 5) := by
  have hk : ∀ a, a < 257 → (TG0 a).1 = 9 → OW (a + 5) = (a, 5) := by decide +kernel
  exact hk a (by have := h.1; simp [zin] at this; exact this) h.2
theorem ho_6_5 : ∀ Cn T N, vwCl[6]? = some (Cn, T, N) → (T 5).1 = RX6 := by
  intro Cn T N h
  have h2 : (RX6, TX6, 12) = (Cn, T, N) := Option.some.inj h
  cases h2
  rfl
theorem ow_Rows_7 {a : Nat} (h : tO true 6 a) : OW (a + 6) = (a, 7) := by
  have hk : ∀ a, a < 257 → (TG0 a).1 = 9 → OW (a + 6) = (a, 7) := by decide +kernel
  exact hk a (by have := h.1; simp [zin] at this; exact this) h.2
theorem ho_6_7 : ∀ Cn T N, vwCl[6]? = some (Cn, T, N) → (T 7).1 = RX6 := by
  intro Cn T N h
  have h2 : (RX6, TX6, 12) = (Cn, T, N) := Option.some.inj h
  cases h2
  rfl
theorem ow_Rows_8 {a : Nat} (h : tO true 6 a) : OW (a + 7) = (a, 8) := by
  have hk : ∀ a, a < 257 → (TG0 a).1 = 9 → OW (a + 7) = (a, 8) := by decide +kernel
  exact hk a (by have := h.1; simp [zin] at this; exact this) h.2
theorem ho_6_8 : ∀ Cn T N, vwCl[6]? = some (Cn, T, N) → (T 8).1 = RX6 := by
  intro Cn T N h
  have h2 : (RX6, TX6, 12) = (Cn, T, N) := Option.some.inj h
  cases h2
  rfl
theorem hj_Rows {a : Nat} (ha : tO true 6 a) : ∀ j r, RF0 a j = some r → j ∈ ([0, 1, 2, 4, 5, 7, 8] : List Nat) := by
  have hk : ∀ a, a < 257 → ∀ j, j < 40 → (!(decide ((TG0 a).1 = 9)) || (RF0 a j).isNone || decide (j ∈ ([0, 1, 2, 4, 5, 7, 8] : List Nat))) = true := by decide +kernel
  intro j r h
  have := hk a (by have := ha.1; simp [zin] at this; exact this) j (RF0_24 h).2
  rw [h, ha.2] at this
  simpa using this
theorem wd_260 : Cond.methodLink RX8 3 objectInit ∈ lw_g := g_in (t_in 260 (by decide +kernel)) rfl
theorem ow_Texts_0 {a : Nat} (h : tO true 8 a) : OW (a + 1) = (a, 0) := by
  have hk : ∀ a, a < 257 → (TG0 a).1 = 11 → OW (a + 1) = (a, 0) := by decide +kernel
  exact hk a (by have := h.1; simp [zin] at this; exact this) h.2
theorem wd_261 : Cond.classLink RX8 9 RX3 ∈ lw_g := g_in (t_in 261 (by decide +kernel)) rfl
theorem wd_262 : Cond.instantiable RX3 7 ∈ lw_g := g_in (t_in 262 (by decide +kernel)) rfl
theorem kn2_X8_9 : lkC RX8 9 3 := ⟨RX3, TX3, 7, tyX3, rfl, ug_3, tyX3_ok, rfl, wd_261, wd_262, wd_112, by decide +kernel⟩
theorem wd_265 : Cond.code yX3_init cX3_init 1 none ∈ lw_g := g_in (t_in 265 (by decide +kernel)) rfl
theorem wd_264 : Cond.instanceMethod yX3_init ∈ lw_g := g_in (t_in 264 (by decide +kernel)) rfl
theorem wd_263 : Cond.methodLinkNest RX8 11 yX3_init "WindingSquare" ∈ lw_nest := n_in (t_in 263 (by decide +kernel)) rfl
theorem ki2_X8_11 : lkI RX8 11 yX3_init cX3_init 1 0 := ⟨wd_265, wd_112, wd_264, rfl, by decide +kernel, by decide, Or.inr wd_263⟩
theorem ho_8_0 : ∀ Cn T N, vwCl[8]? = some (Cn, T, N) → (T 0).1 = RX8 := by
  intro Cn T N h
  have h2 : (RX8, TX8, 8) = (Cn, T, N) := Option.some.inj h
  cases h2
  rfl
theorem ow_Texts_1 {a : Nat} (h : tO true 8 a) : OW (a + 7) = (a, 1) := by
  have hk : ∀ a, a < 257 → (TG0 a).1 = 11 → OW (a + 7) = (a, 1) := by decide +kernel
  exact hk a (by have := h.1; simp [zin] at this; exact this) h.2
theorem ho_8_1 : ∀ Cn T N, vwCl[8]? = some (Cn, T, N) → (T 1).1 = RX8 := by
  intro Cn T N h
  have h2 : (RX8, TX8, 8) = (Cn, T, N) := Option.some.inj h
  cases h2
  rfl
theorem ow_Texts_2 {a : Nat} (h : tO true 8 a) : OW (a + 8) = (a, 2) := by
  have hk : ∀ a, a < 257 → (TG0 a).1 = 11 → OW (a + 8) = (a, 2) := by decide +kernel
  exact hk a (by have := h.1; simp [zin] at this; exact this) h.2
theorem ho_8_2 : ∀ Cn T N, vwCl[8]? = some (Cn, T, N) → (T 2).1 = RX8 := by
  intro Cn T N h
  have h2 : (RX8, TX8, 8) = (Cn, T, N) := Option.some.inj h
  cases h2
  rfl
theorem ow_Texts_3 {a : Nat} (h : tO true 8 a) : OW (a + 9) = (a, 3) := by
  have hk : ∀ a, a < 257 → (TG0 a).1 = 11 → OW (a + 9) = (a, 3) := by decide +kernel
  exact hk a (by have := h.1; simp [zin] at this; exact this) h.2
theorem ho_8_3 : ∀ Cn T N, vwCl[8]? = some (Cn, T, N) → (T 3).1 = RX8 := by
  intro Cn T N h
  have h2 : (RX8, TX8, 8) = (Cn, T, N) := Option.some.inj h
  cases h2
  rfl
theorem ow_Texts_4 {a : Nat} (h : tO true 8 a) : OW (a + 10) = (a, 4) := by
  have hk : ∀ a, a < 257 → (TG0 a).1 = 11 → OW (a + 10) = (a, 4) := by decide +kernel
  exact hk a (by have := h.1; simp [zin] at this; exact this) h.2
theorem ho_8_4 : ∀ Cn T N, vwCl[8]? = some (Cn, T, N) → (T 4).1 = RX8 := by
  intro Cn T N h
  have h2 : (RX8, TX8, 8) = (Cn, T, N) := Option.some.inj h
  cases h2
  rfl
theorem ow_Texts_5 {a : Nat} (h : tO true 8 a) : OW (a + 11) = (a, 5) := by
  have hk : ∀ a, a < 257 → (TG0 a).1 = 11 → OW (a + 11) = (a, 5) := by decide +kernel
  exact hk a (by have := h.1; simp [zin] at this; exact this) h.2
theorem ho_8_5 : ∀ Cn T N, vwCl[8]? = some (Cn, T, N) → (T 5).1 = RX8 := by
  intro Cn T N h
  have h2 : (RX8, TX8, 8) = (Cn, T, N) := Option.some.inj h
  cases h2
  rfl
theorem ow_Texts_6 {a : Nat} (h : tO true 8 a) : OW (a + 12) = (a, 6) := by
  have hk : ∀ a, a < 257 → (TG0 a).1 = 11 → OW (a + 12) = (a, 6) := by decide +kernel
  exact hk a (by have := h.1; simp [zin] at this; exact this) h.2
theorem ho_8_6 : ∀ Cn T N, vwCl[8]? = some (Cn, T, N) → (T 6).1 = RX8 := by
  intro Cn T N h
  have h2 : (RX8, TX8, 8) = (Cn, T, N) := Option.some.inj h
  cases h2
  rfl
theorem ow_Texts_7 {a : Nat} (h : tO true 8 a) : OW (a + 13) = (a, 7) := by
  have hk : ∀ a, a < 257 → (TG0 a).1 = 11 → OW (a + 13) = (a, 7) := by decide +kernel
  exact hk a (by have := h.1; simp [zin] at this; exact this) h.2
theorem ho_8_7 : ∀ Cn T N, vwCl[8]? = some (Cn, T, N) → (T 7).1 = RX8 := by
  intro Cn T N h
  have h2 : (RX8, TX8, 8) = (Cn, T, N) := Option.some.inj h
  cases h2
  rfl
theorem hj_Texts {a : Nat} (ha : tO true 8 a) : ∀ j r, RF0 a j = some r → j ∈ ([0, 1, 2, 3, 4, 5, 6, 7] : List Nat) := by
  have hk : ∀ a, a < 257 → ∀ j, j < 40 → (!(decide ((TG0 a).1 = 11)) || (RF0 a j).isNone || decide (j ∈ ([0, 1, 2, 3, 4, 5, 6, 7] : List Nat))) = true := by decide +kernel
  intro j r h
  have := hk a (by have := ha.1; simp [zin] at this; exact this) j (RF0_24 h).2
  rw [h, ha.2] at this
  simpa using this
theorem wd_376 : Cond.methodLink RX5 3 objectInit ∈ lw_g := g_in (t_in 376 (by decide +kernel)) rfl
theorem ow_79 : OW 79 = (78, 3) := by decide +kernel
theorem ho_5_3 : ∀ Cn T N, vwCl[5]? = some (Cn, T, N) → (T 3).1 = RX5 := by
  intro Cn T N h
  have h2 : (RX5, TX5, 8) = (Cn, T, N) := Option.some.inj h
  cases h2
  rfl
theorem kh_401 : (Int16.ofInt 401).toInt32 = (401 : Int32) := by decide +kernel
theorem ow_80 : OW 80 = (78, 4) := by decide +kernel
theorem ho_5_4 : ∀ Cn T N, vwCl[5]? = some (Cn, T, N) → (T 4).1 = RX5 := by
  intro Cn T N h
  have h2 : (RX5, TX5, 8) = (Cn, T, N) := Option.some.inj h
  cases h2
  rfl
theorem ow_81 : OW 81 = (78, 5) := by decide +kernel
theorem ho_5_5 : ∀ Cn T N, vwCl[5]? = some (Cn, T, N) → (T 5).1 = RX5 := by
  intro Cn T N h
  have h2 : (RX5, TX5, 8) = (Cn, T, N) := Option.some.inj h
  cases h2
  rfl
theorem ow_82 : OW 82 = (78, 6) := by decide +kernel
theorem ho_5_6 : ∀ Cn T N, vwCl[5]? = some (Cn, T, N) → (T 6).1 = RX5 := by
  intro Cn T N h
  have h2 : (RX5, TX5, 8) = (Cn, T, N) := Option.some.inj h
  cases h2
  rfl
theorem hj_Reader : ∀ j r, RF0 78 j = some r → j ∈ ([3, 4, 5, 6] : List Nat) := by
  have hk : ∀ j, j < 40 → ((RF0 78 j).isNone || decide (j ∈ ([3, 4, 5, 6] : List Nat))) = true := by decide +kernel
  intro j r h
  have := hk j (RF0_24 h).2
  rw [h] at this
  simpa using this
theorem wd_476 : Cond.methodLink RX4 5 objectInit ∈ lw_g := g_in (t_in 476 (by decide +kernel)) rfl
theorem ow_96 : OW 96 = (95, 0) := by decide +kernel
theorem ho_4_0 : ∀ Cn T N, vwCl[4]? = some (Cn, T, N) → (T 0).1 = RX4 := by
  intro Cn T N h
  have h2 : (RX4, TX4, 5) = (Cn, T, N) := Option.some.inj h
  cases h2
  rfl
theorem ow_97 : OW 97 = (95, 1) := by decide +kernel
theorem ho_4_1 : ∀ Cn T N, vwCl[4]? = some (Cn, T, N) → (T 1).1 = RX4 := by
  intro Cn T N h
  have h2 : (RX4, TX4, 5) = (Cn, T, N) := Option.some.inj h
  cases h2
  rfl
theorem ow_98 : OW 98 = (95, 2) := by decide +kernel
theorem ho_4_2 : ∀ Cn T N, vwCl[4]? = some (Cn, T, N) → (T 2).1 = RX4 := by
  intro Cn T N h
  have h2 : (RX4, TX4, 5) = (Cn, T, N) := Option.some.inj h
  cases h2
  rfl
theorem kh_3721 : (Int16.ofInt 3721).toInt32 = (3721 : Int32) := by decide +kernel
theorem ow_99 : OW 99 = (95, 3) := by decide +kernel
theorem ho_4_3 : ∀ Cn T N, vwCl[4]? = some (Cn, T, N) → (T 3).1 = RX4 := by
  intro Cn T N h
  have h2 : (RX4, TX4, 5) = (Cn, T, N) := Option.some.inj h
  cases h2
  rfl
theorem hj_Plane : ∀ j r, RF0 95 j = some r → j ∈ ([0, 1, 2, 3] : List Nat) := by
  have hk : ∀ j, j < 40 → ((RF0 95 j).isNone || decide (j ∈ ([0, 1, 2, 3] : List Nat))) = true := by decide +kernel
  intro j r h
  have := hk j (RF0_24 h).2
  rw [h] at this
  simpa using this
theorem wd_1370 : Cond.methodLink RX11 3 objectInit ∈ lw_g := g_in (t_in 1370 (by decide +kernel)) rfl
theorem ow_258 : OW 258 = (257, 0) := by decide +kernel
theorem ho_11_0 : ∀ Cn T N, vwCl[11]? = some (Cn, T, N) → (T 0).1 = RX11 := by
  intro Cn T N h
  have h2 : (RX11, TX11, 40) = (Cn, T, N) := Option.some.inj h
  cases h2
  rfl
theorem ow_259 : OW 259 = (257, 1) := by decide +kernel
theorem ho_11_1 : ∀ Cn T N, vwCl[11]? = some (Cn, T, N) → (T 1).1 = RX11 := by
  intro Cn T N h
  have h2 : (RX11, TX11, 40) = (Cn, T, N) := Option.some.inj h
  cases h2
  rfl
theorem ow_260 : OW 260 = (257, 2) := by decide +kernel
theorem ho_11_2 : ∀ Cn T N, vwCl[11]? = some (Cn, T, N) → (T 2).1 = RX11 := by
  intro Cn T N h
  have h2 : (RX11, TX11, 40) = (Cn, T, N) := Option.some.inj h
  cases h2
  rfl
theorem kh_5640 : (Int16.ofInt 5640).toInt32 = (5640 : Int32) := by decide +kernel
theorem ow_261 : OW 261 = (257, 3) := by decide +kernel
theorem ho_11_3 : ∀ Cn T N, vwCl[11]? = some (Cn, T, N) → (T 3).1 = RX11 := by
  intro Cn T N h
  have h2 : (RX11, TX11, 40) = (Cn, T, N) := Option.some.inj h
  cases h2
  rfl
theorem ow_262 : OW 262 = (257, 15) := by decide +kernel
theorem ho_11_15 : ∀ Cn T N, vwCl[11]? = some (Cn, T, N) → (T 15).1 = RX11 := by
  intro Cn T N h
  have h2 : (RX11, TX11, 40) = (Cn, T, N) := Option.some.inj h
  cases h2
  rfl
theorem ow_263 : OW 263 = (257, 16) := by decide +kernel
theorem ho_11_16 : ∀ Cn T N, vwCl[11]? = some (Cn, T, N) → (T 16).1 = RX11 := by
  intro Cn T N h
  have h2 : (RX11, TX11, 40) = (Cn, T, N) := Option.some.inj h
  cases h2
  rfl
theorem kh_420 : (Int16.ofInt 420).toInt32 = (420 : Int32) := by decide +kernel
theorem ow_264 : OW 264 = (257, 18) := by decide +kernel
theorem ho_11_18 : ∀ Cn T N, vwCl[11]? = some (Cn, T, N) → (T 18).1 = RX11 := by
  intro Cn T N h
  have h2 : (RX11, TX11, 40) = (Cn, T, N) := Option.some.inj h
  cases h2
  rfl
theorem ow_265 : OW 265 = (257, 20) := by decide +kernel
theorem ho_11_20 : ∀ Cn T N, vwCl[11]? = some (Cn, T, N) → (T 20).1 = RX11 := by
  intro Cn T N h
  have h2 : (RX11, TX11, 40) = (Cn, T, N) := Option.some.inj h
  cases h2
  rfl
theorem ow_266 : OW 266 = (257, 21) := by decide +kernel
theorem ho_11_21 : ∀ Cn T N, vwCl[11]? = some (Cn, T, N) → (T 21).1 = RX11 := by
  intro Cn T N h
  have h2 : (RX11, TX11, 40) = (Cn, T, N) := Option.some.inj h
  cases h2
  rfl
theorem kh_4032 : (Int16.ofInt 4032).toInt32 = (4032 : Int32) := by decide +kernel
theorem ow_267 : OW 267 = (257, 22) := by decide +kernel
theorem ho_11_22 : ∀ Cn T N, vwCl[11]? = some (Cn, T, N) → (T 22).1 = RX11 := by
  intro Cn T N h
  have h2 : (RX11, TX11, 40) = (Cn, T, N) := Option.some.inj h
  cases h2
  rfl
theorem ow_268 : OW 268 = (257, 23) := by decide +kernel
theorem ho_11_23 : ∀ Cn T N, vwCl[11]? = some (Cn, T, N) → (T 23).1 = RX11 := by
  intro Cn T N h
  have h2 : (RX11, TX11, 40) = (Cn, T, N) := Option.some.inj h
  cases h2
  rfl
theorem ow_269 : OW 269 = (257, 24) := by decide +kernel
theorem ho_11_24 : ∀ Cn T N, vwCl[11]? = some (Cn, T, N) → (T 24).1 = RX11 := by
  intro Cn T N h
  have h2 : (RX11, TX11, 40) = (Cn, T, N) := Option.some.inj h
  cases h2
  rfl
theorem ow_270 : OW 270 = (257, 25) := by decide +kernel
theorem ho_11_25 : ∀ Cn T N, vwCl[11]? = some (Cn, T, N) → (T 25).1 = RX11 := by
  intro Cn T N h
  have h2 : (RX11, TX11, 40) = (Cn, T, N) := Option.some.inj h
  cases h2
  rfl
theorem ow_271 : OW 271 = (257, 26) := by decide +kernel
theorem ho_11_26 : ∀ Cn T N, vwCl[11]? = some (Cn, T, N) → (T 26).1 = RX11 := by
  intro Cn T N h
  have h2 : (RX11, TX11, 40) = (Cn, T, N) := Option.some.inj h
  cases h2
  rfl
theorem ow_272 : OW 272 = (257, 27) := by decide +kernel
theorem ho_11_27 : ∀ Cn T N, vwCl[11]? = some (Cn, T, N) → (T 27).1 = RX11 := by
  intro Cn T N h
  have h2 : (RX11, TX11, 40) = (Cn, T, N) := Option.some.inj h
  cases h2
  rfl
theorem ow_273 : OW 273 = (257, 31) := by decide +kernel
theorem ho_11_31 : ∀ Cn T N, vwCl[11]? = some (Cn, T, N) → (T 31).1 = RX11 := by
  intro Cn T N h
  have h2 : (RX11, TX11, 40) = (Cn, T, N) := Option.some.inj h
  cases h2
  rfl
theorem ow_274 : OW 274 = (257, 32) := by decide +kernel
theorem ho_11_32 : ∀ Cn T N, vwCl[11]? = some (Cn, T, N) → (T 32).1 = RX11 := by
  intro Cn T N h
  have h2 : (RX11, TX11, 40) = (Cn, T, N) := Option.some.inj h
  cases h2
  rfl
theorem ow_275 : OW 275 = (257, 33) := by decide +kernel
theorem ho_11_33 : ∀ Cn T N, vwCl[11]? = some (Cn, T, N) → (T 33).1 = RX11 := by
  intro Cn T N h
  have h2 : (RX11, TX11, 40) = (Cn, T, N) := Option.some.inj h
  cases h2
  rfl
theorem ow_276 : OW 276 = (257, 34) := by decide +kernel
theorem ho_11_34 : ∀ Cn T N, vwCl[11]? = some (Cn, T, N) → (T 34).1 = RX11 := by
  intro Cn T N h
  have h2 : (RX11, TX11, 40) = (Cn, T, N) := Option.some.inj h
  cases h2
  rfl
theorem ow_277 : OW 277 = (257, 35) := by decide +kernel
theorem ho_11_35 : ∀ Cn T N, vwCl[11]? = some (Cn, T, N) → (T 35).1 = RX11 := by
  intro Cn T N h
  have h2 : (RX11, TX11, 40) = (Cn, T, N) := Option.some.inj h
  cases h2
  rfl
theorem ow_278 : OW 278 = (257, 36) := by decide +kernel
theorem ho_11_36 : ∀ Cn T N, vwCl[11]? = some (Cn, T, N) → (T 36).1 = RX11 := by
  intro Cn T N h
  have h2 : (RX11, TX11, 40) = (Cn, T, N) := Option.some.inj h
  cases h2
  rfl
theorem ow_279 : OW 279 = (257, 37) := by decide +kernel
theorem ho_11_37 : ∀ Cn T N, vwCl[11]? = some (Cn, T, N) → (T 37).1 = RX11 := by
  intro Cn T N h
  have h2 : (RX11, TX11, 40) = (Cn, T, N) := Option.some.inj h
  cases h2
  rfl
theorem ow_280 : OW 280 = (257, 38) := by decide +kernel
theorem ho_11_38 : ∀ Cn T N, vwCl[11]? = some (Cn, T, N) → (T 38).1 = RX11 := by
  intro Cn T N h
  have h2 : (RX11, TX11, 40) = (Cn, T, N) := Option.some.inj h
  cases h2
  rfl
theorem ow_281 : OW 281 = (257, 39) := by decide +kernel
theorem ho_11_39 : ∀ Cn T N, vwCl[11]? = some (Cn, T, N) → (T 39).1 = RX11 := by
  intro Cn T N h
  have h2 : (RX11, TX11, 40) = (Cn, T, N) := Option.some.inj h
  cases h2
  rfl
theorem hj_WindingSquareModel : ∀ j r, RF0 257 j = some r → j ∈ ([0, 1, 2, 3, 15, 16, 18, 20, 21, 22, 23, 24, 25, 26, 27, 31, 32, 33, 34, 35, 36, 37, 38, 39] : List Nat) := by
  have hk : ∀ j, j < 40 → ((RF0 257 j).isNone || decide (j ∈ ([0, 1, 2, 3, 15, 16, 18, 20, 21, 22, 23, 24, 25, 26, 27, 31, 32, 33, 34, 35, 36, 37, 38, 39] : List Nat))) = true := by decide +kernel
  intro j r h
  have := hk j (RF0_24 h).2
  rw [h] at this
  simpa using this
theorem wd_410 : Cond.methodLink RX1 3 objectInit ∈ lw_g := g_in (t_in 410 (by decide +kernel)) rfl
theorem ow_84 : OW 84 = (83, 5) := by decide +kernel
theorem ho_1_5 : ∀ Cn T N, vwCl[1]? = some (Cn, T, N) → (T 5).1 = RX1 := by
  intro Cn T N h
  have h2 : (RX1, TX1, 8) = (Cn, T, N) := Option.some.inj h
  cases h2
  rfl
theorem ow_85 : OW 85 = (83, 6) := by decide +kernel
theorem wd_411 : Cond.classLink RX1 15 RX9 ∈ lw_g := g_in (t_in 411 (by decide +kernel)) rfl
theorem wd_145 : Cond.instantiable RX9 13 ∈ lw_g := g_in (t_in 145 (by decide +kernel)) rfl
theorem kn2_X1_15 : lkC RX1 15 9 := ⟨RX9, TX9, 13, tyX9, rfl, ug_9, tyX9_ok, rfl, wd_411, wd_145, wd_110, by decide +kernel⟩
theorem wd_148 : Cond.code yX9_init cX9_init 1 none ∈ lw_g := g_in (t_in 148 (by decide +kernel)) rfl
theorem wd_147 : Cond.instanceMethod yX9_init ∈ lw_g := g_in (t_in 147 (by decide +kernel)) rfl
theorem wd_412 : Cond.methodLinkNest RX1 17 yX9_init "WindingSquare" ∈ lw_nest := n_in (t_in 412 (by decide +kernel)) rfl
theorem ki2_X1_17 : lkI RX1 17 yX9_init cX9_init 1 0 := ⟨wd_148, wd_110, wd_147, rfl, by decide +kernel, by decide, Or.inr wd_412⟩
theorem ho_1_6 : ∀ Cn T N, vwCl[1]? = some (Cn, T, N) → (T 6).1 = RX1 := by
  intro Cn T N h
  have h2 : (RX1, TX1, 8) = (Cn, T, N) := Option.some.inj h
  cases h2
  rfl
theorem ow_86 : OW 86 = (83, 7) := by decide +kernel
theorem ho_1_7 : ∀ Cn T N, vwCl[1]? = some (Cn, T, N) → (T 7).1 = RX1 := by
  intro Cn T N h
  have h2 : (RX1, TX1, 8) = (Cn, T, N) := Option.some.inj h
  cases h2
  rfl
theorem ho_1_2 : ∀ Cn T N, vwCl[1]? = some (Cn, T, N) → (T 2).1 = RX1 := by
  intro Cn T N h
  have h2 : (RX1, TX1, 8) = (Cn, T, N) := Option.some.inj h
  cases h2
  rfl
theorem ho_1_3 : ∀ Cn T N, vwCl[1]? = some (Cn, T, N) → (T 3).1 = RX1 := by
  intro Cn T N h
  have h2 : (RX1, TX1, 8) = (Cn, T, N) := Option.some.inj h
  cases h2
  rfl
theorem ho_1_4 : ∀ Cn T N, vwCl[1]? = some (Cn, T, N) → (T 4).1 = RX1 := by
  intro Cn T N h
  have h2 : (RX1, TX1, 8) = (Cn, T, N) := Option.some.inj h
  cases h2
  rfl
theorem hj_Day : ∀ j r, RF0 83 j = some r → j ∈ ([5, 6, 7, 2, 3, 4] : List Nat) := by
  have hk : ∀ j, j < 40 → ((RF0 83 j).isNone || decide (j ∈ ([5, 6, 7, 2, 3, 4] : List Nat))) = true := by decide +kernel
  intro j r h
  have := hk j (RF0_24 h).2
  rw [h] at this
  simpa using this
theorem wd_445 : Cond.methodLink RX2 3 objectInit ∈ lw_g := g_in (t_in 445 (by decide +kernel)) rfl
theorem ow_88 : OW 88 = (87, 1) := by decide +kernel
theorem ho_2_1 : ∀ Cn T N, vwCl[2]? = some (Cn, T, N) → (T 1).1 = RX2 := by
  intro Cn T N h
  have h2 : (RX2, TX2, 8) = (Cn, T, N) := Option.some.inj h
  cases h2
  rfl
theorem ow_89 : OW 89 = (87, 2) := by decide +kernel
theorem ho_2_2 : ∀ Cn T N, vwCl[2]? = some (Cn, T, N) → (T 2).1 = RX2 := by
  intro Cn T N h
  have h2 : (RX2, TX2, 8) = (Cn, T, N) := Option.some.inj h
  cases h2
  rfl
theorem ow_90 : OW 90 = (87, 3) := by decide +kernel
theorem ho_2_3 : ∀ Cn T N, vwCl[2]? = some (Cn, T, N) → (T 3).1 = RX2 := by
  intro Cn T N h
  have h2 : (RX2, TX2, 8) = (Cn, T, N) := Option.some.inj h
  cases h2
  rfl
theorem ow_91 : OW 91 = (87, 4) := by decide +kernel
theorem ho_2_4 : ∀ Cn T N, vwCl[2]? = some (Cn, T, N) → (T 4).1 = RX2 := by
  intro Cn T N h
  have h2 : (RX2, TX2, 8) = (Cn, T, N) := Option.some.inj h
  cases h2
  rfl
theorem ow_92 : OW 92 = (87, 5) := by decide +kernel
theorem ho_2_5 : ∀ Cn T N, vwCl[2]? = some (Cn, T, N) → (T 5).1 = RX2 := by
  intro Cn T N h
  have h2 : (RX2, TX2, 8) = (Cn, T, N) := Option.some.inj h
  cases h2
  rfl
theorem ow_93 : OW 93 = (87, 6) := by decide +kernel
theorem ho_2_6 : ∀ Cn T N, vwCl[2]? = some (Cn, T, N) → (T 6).1 = RX2 := by
  intro Cn T N h
  have h2 : (RX2, TX2, 8) = (Cn, T, N) := Option.some.inj h
  cases h2
  rfl
theorem ow_94 : OW 94 = (87, 7) := by decide +kernel
theorem ho_2_7 : ∀ Cn T N, vwCl[2]? = some (Cn, T, N) → (T 7).1 = RX2 := by
  intro Cn T N h
  have h2 : (RX2, TX2, 8) = (Cn, T, N) := Option.some.inj h
  cases h2
  rfl
theorem ho_2_0 : ∀ Cn T N, vwCl[2]? = some (Cn, T, N) → (T 0).1 = RX2 := by
  intro Cn T N h
  have h2 : (RX2, TX2, 8) = (Cn, T, N) := Option.some.inj h
  cases h2
  rfl
theorem hj_Grid : ∀ j r, RF0 87 j = some r → j ∈ ([1, 2, 3, 4, 5, 6, 7, 0] : List Nat) := by
  have hk : ∀ j, j < 40 → ((RF0 87 j).isNone || decide (j ∈ ([1, 2, 3, 4, 5, 6, 7, 0] : List Nat))) = true := by decide +kernel
  intro j r h
  have := hk j (RF0_24 h).2
  rw [h] at this
  simpa using this
theorem wd_142 : Cond.methodLink RX7 3 objectInit ∈ lw_g := g_in (t_in 142 (by decide +kernel)) rfl
theorem wd_143 : Cond.classLink RX7 9 "WindingSquare$Walker" ∈ lw_g := g_in (t_in 143 (by decide +kernel)) rfl
theorem ho_7_0 : ∀ Cn T N, vwCl[7]? = some (Cn, T, N) → (T 0).1 = RX7 := by
  intro Cn T N h
  have h2 : (RX7, TX7, 7) = (Cn, T, N) := Option.some.inj h
  cases h2
  rfl
theorem ho_7_1 : ∀ Cn T N, vwCl[7]? = some (Cn, T, N) → (T 1).1 = RX7 := by
  intro Cn T N h
  have h2 : (RX7, TX7, 7) = (Cn, T, N) := Option.some.inj h
  cases h2
  rfl
theorem kn2_X7_9 : lkC RX7 9 9 := ⟨RX9, TX9, 13, tyX9, rfl, ug_9, tyX9_ok, rfl, wd_143, wd_145, wd_110, by decide +kernel⟩
theorem wd_146 : Cond.methodLinkNest RX7 21 yX9_init "WindingSquare" ∈ lw_nest := n_in (t_in 146 (by decide +kernel)) rfl
theorem ki2_X7_21 : lkI RX7 21 yX9_init cX9_init 1 0 := ⟨wd_148, wd_110, wd_147, rfl, by decide +kernel, by decide, Or.inr wd_146⟩
theorem ow_Square_1 {a : Nat} (h : tO true 7 a) : OW (a + 2) = (a, 1) := by
  have hk : ∀ a, a < 257 → (TG0 a).1 = 10 → OW (a + 2) = (a, 1) := by decide +kernel
  exact hk a (by have := h.1; simp [zin] at this; exact this) h.2
theorem ow_Square_0 {a : Nat} (h : tO true 7 a) : OW (a + 1) = (a, 0) := by
  have hk : ∀ a, a < 257 → (TG0 a).1 = 10 → OW (a + 1) = (a, 0) := by decide +kernel
  exact hk a (by have := h.1; simp [zin] at this; exact this) h.2
theorem ow_Square_w {a i : Nat} (h : tO true 7 a) (hi : i < 16) : OW (a + 3 + i) = (a + 1, i) := by
  have hk : ∀ a, a < 257 → (TG0 a).1 = 10 → ∀ i, i < 16 → OW (a + 3 + i) = (a + 1, i) := by decide +kernel
  exact hk a (by have := h.1; simp [zin] at this; exact this) h.2 i hi
