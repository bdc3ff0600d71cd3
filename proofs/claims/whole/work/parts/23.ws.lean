theorem wd_134 : Cond.methodLink RX10 1 objectInit ∈ lw_g := g_in (t_in 134 (by decide +kernel)) rfl
theorem wd_137 : Cond.classLink RX10 7 RX7 ∈ lw_g := g_in (t_in 137 (by decide +kernel)) rfl
theorem wd_138 : Cond.instantiable RX7 7 ∈ lw_g := g_in (t_in 138 (by decide +kernel)) rfl
theorem kn2_X10_7 : lkC RX10 7 7 := ⟨RX7, TX7, 7, tyX7, rfl, ug_7, tyX7_ok, rfl, wd_137, wd_138, wd_109, by decide +kernel⟩
theorem wd_141 : Cond.code yX7_init cX7_init 2 none ∈ lw_g := g_in (t_in 141 (by decide +kernel)) rfl
theorem wd_140 : Cond.instanceMethod yX7_init ∈ lw_g := g_in (t_in 140 (by decide +kernel)) rfl
theorem wd_139 : Cond.methodLink RX10 9 yX7_init ∈ lw_g := g_in (t_in 139 (by decide +kernel)) rfl
theorem ki2_X10_9 : lkI RX10 9 yX7_init cX7_init 2 0 := ⟨wd_141, wd_109, wd_140, rfl, by decide +kernel, by decide, Or.inl wd_139⟩
theorem ho_10_0 : ∀ Cn T N, vwCl[10]? = some (Cn, T, N) → (T 0).1 = RX10 := by
  intro Cn T N h
  have h2 : (RX10, TX10, 18) = (Cn, T, N) := Option.some.inj h
  cases h2
  rfl
theorem ow_1 : OW 1 = (0, 0) := by decide +kernel
theorem tg_1 : TG0 1 = (10, 0) := by decide +kernel
theorem ho_10_1 : ∀ Cn T N, vwCl[10]? = some (Cn, T, N) → (T 1).1 = RX10 := by
  intro Cn T N h
  have h2 : (RX10, TX10, 18) = (Cn, T, N) := Option.some.inj h
  cases h2
  rfl
theorem ow_20 : OW 20 = (0, 1) := by decide +kernel
theorem tg_20 : TG0 20 = (10, 0) := by decide +kernel
theorem ow_39 : OW 39 = (0, 2) := by decide +kernel
theorem tg_39 : TG0 39 = (1, 6) := by decide +kernel
theorem ho_10_2 : ∀ Cn T N, vwCl[10]? = some (Cn, T, N) → (T 2).1 = RX10 := by
  intro Cn T N h
  have h2 : (RX10, TX10, 18) = (Cn, T, N) := Option.some.inj h
  cases h2
  rfl
theorem wd_255 : Cond.classLink RX10 23 RX8 ∈ lw_g := g_in (t_in 255 (by decide +kernel)) rfl
theorem wd_256 : Cond.instantiable RX8 8 ∈ lw_g := g_in (t_in 256 (by decide +kernel)) rfl
theorem kn2_X10_23 : lkC RX10 23 8 := ⟨RX8, TX8, 8, tyX8, rfl, ug_8, tyX8_ok, rfl, wd_255, wd_256, wd_111, by decide +kernel⟩
theorem wd_259 : Cond.code yX8_init cX8_init 1 none ∈ lw_g := g_in (t_in 259 (by decide +kernel)) rfl
theorem wd_258 : Cond.instanceMethod yX8_init ∈ lw_g := g_in (t_in 258 (by decide +kernel)) rfl
theorem wd_257 : Cond.methodLinkNest RX10 25 yX8_init "WindingSquare" ∈ lw_nest := n_in (t_in 257 (by decide +kernel)) rfl
theorem ki2_X10_25 : lkI RX10 25 yX8_init cX8_init 1 0 := ⟨wd_259, wd_111, wd_258, rfl, by decide +kernel, by decide, Or.inr wd_257⟩
theorem ho_10_5 : ∀ Cn T N, vwCl[10]? = some (Cn, T, N) → (T 5).1 = RX10 := by
  intro Cn T N h
  have h2 : (RX10, TX10, 18) = (Cn, T, N) := Option.some.inj h
  cases h2
  rfl
theorem ow_40 : OW 40 = (0, 5) := by decide +kernel
theorem tg_40 : TG0 40 = (11, 0) := by decide +kernel
theorem ho_10_6 : ∀ Cn T N, vwCl[10]? = some (Cn, T, N) → (T 6).1 = RX10 := by
  intro Cn T N h
  have h2 : (RX10, TX10, 18) = (Cn, T, N) := Option.some.inj h
  cases h2
  rfl
theorem ow_54 : OW 54 = (0, 6) := by decide +kernel
theorem tg_54 : TG0 54 = (11, 0) := by decide +kernel
theorem wd_318 : Cond.classLink RX10 33 RX0 ∈ lw_g := g_in (t_in 318 (by decide +kernel)) rfl
theorem wd_319 : Cond.instantiable RX0 1 ∈ lw_g := g_in (t_in 319 (by decide +kernel)) rfl
theorem kn2_X10_33 : lkC RX10 33 0 := ⟨RX0, TX0, 1, tyX0, rfl, ug_0, tyX0_ok, rfl, wd_318, wd_319, wd_113, by decide +kernel⟩
theorem wd_322 : Cond.code yX0_init cX0_init 1 none ∈ lw_g := g_in (t_in 322 (by decide +kernel)) rfl
theorem wd_321 : Cond.instanceMethod yX0_init ∈ lw_g := g_in (t_in 321 (by decide +kernel)) rfl
theorem wd_320 : Cond.methodLinkNest RX10 35 yX0_init "WindingSquare" ∈ lw_nest := n_in (t_in 320 (by decide +kernel)) rfl
theorem ki2_X10_35 : lkI RX10 35 yX0_init cX0_init 1 0 := ⟨wd_322, wd_113, wd_321, rfl, by decide +kernel, by decide, Or.inr wd_320⟩
theorem ho_10_7 : ∀ Cn T N, vwCl[10]? = some (Cn, T, N) → (T 7).1 = RX10 := by
  intro Cn T N h
  have h2 : (RX10, TX10, 18) = (Cn, T, N) := Option.some.inj h
  cases h2
  rfl
theorem ow_68 : OW 68 = (0, 7) := by decide +kernel
theorem tg_68 : TG0 68 = (3, 0) := by decide +kernel
theorem wd_328 : Cond.classLink RX10 40 RX6 ∈ lw_g := g_in (t_in 328 (by decide +kernel)) rfl
theorem wd_329 : Cond.instantiable RX6 12 ∈ lw_g := g_in (t_in 329 (by decide +kernel)) rfl
theorem kn2_X10_40 : lkC RX10 40 6 := ⟨RX6, TX6, 12, tyX6, rfl, ug_6, tyX6_ok, rfl, wd_328, wd_329, wd_114, by decide +kernel⟩
theorem wd_332 : Cond.code yX6_init cX6_init 1 none ∈ lw_g := g_in (t_in 332 (by decide +kernel)) rfl
theorem wd_331 : Cond.instanceMethod yX6_init ∈ lw_g := g_in (t_in 331 (by decide +kernel)) rfl
theorem wd_330 : Cond.methodLinkNest RX10 42 yX6_init "WindingSquare" ∈ lw_nest := n_in (t_in 330 (by decide +kernel)) rfl
theorem ki2_X10_42 : lkI RX10 42 yX6_init cX6_init 1 0 := ⟨wd_332, wd_114, wd_331, rfl, by decide +kernel, by decide, Or.inr wd_330⟩
theorem ho_10_8 : ∀ Cn T N, vwCl[10]? = some (Cn, T, N) → (T 8).1 = RX10 := by
  intro Cn T N h
  have h2 : (RX10, TX10, 18) = (Cn, T, N) := Option.some.inj h
  cases h2
  rfl
theorem ow_70 : OW 70 = (0, 8) := by decide +kernel
theorem tg_70 : TG0 70 = (9, 0) := by decide +kernel
theorem wd_371 : Cond.classLink RX10 47 RX5 ∈ lw_g := g_in (t_in 371 (by decide +kernel)) rfl
theorem wd_372 : Cond.instantiable RX5 8 ∈ lw_g := g_in (t_in 372 (by decide +kernel)) rfl
theorem kn2_X10_47 : lkC RX10 47 5 := ⟨RX5, TX5, 8, tyX5, rfl, ug_5, tyX5_ok, rfl, wd_371, wd_372, wd_115, by decide +kernel⟩
theorem wd_375 : Cond.code yX5_init cX5_init 1 none ∈ lw_g := g_in (t_in 375 (by decide +kernel)) rfl
theorem wd_374 : Cond.instanceMethod yX5_init ∈ lw_g := g_in (t_in 374 (by decide +kernel)) rfl
theorem wd_373 : Cond.methodLinkNest RX10 49 yX5_init "WindingSquare" ∈ lw_nest := n_in (t_in 373 (by decide +kernel)) rfl
theorem ki2_X10_49 : lkI RX10 49 yX5_init cX5_init 1 0 := ⟨wd_375, wd_115, wd_374, rfl, by decide +kernel, by decide, Or.inr wd_373⟩
theorem ho_10_9 : ∀ Cn T N, vwCl[10]? = some (Cn, T, N) → (T 9).1 = RX10 := by
  intro Cn T N h
  have h2 : (RX10, TX10, 18) = (Cn, T, N) := Option.some.inj h
  cases h2
  rfl
theorem ow_78 : OW 78 = (0, 9) := by decide +kernel
theorem tg_78 : TG0 78 = (8, 0) := by decide +kernel
theorem wd_405 : Cond.classLink RX10 54 RX1 ∈ lw_g := g_in (t_in 405 (by decide +kernel)) rfl
theorem wd_406 : Cond.instantiable RX1 8 ∈ lw_g := g_in (t_in 406 (by decide +kernel)) rfl
theorem kn2_X10_54 : lkC RX10 54 1 := ⟨RX1, TX1, 8, tyX1, rfl, ug_1, tyX1_ok, rfl, wd_405, wd_406, wd_116, by decide +kernel⟩
theorem ow_83 : OW 83 = (0, 10) := by decide +kernel
theorem tg_83 : TG0 83 = (4, 0) := by decide +kernel
theorem wd_409 : Cond.code yX1_init cX1_init 4 none ∈ lw_g := g_in (t_in 409 (by decide +kernel)) rfl
theorem wd_408 : Cond.instanceMethod yX1_init ∈ lw_g := g_in (t_in 408 (by decide +kernel)) rfl
theorem wd_407 : Cond.methodLink RX10 56 yX1_init ∈ lw_g := g_in (t_in 407 (by decide +kernel)) rfl
theorem ki2_X10_56 : lkI RX10 56 yX1_init cX1_init 4 3 := ⟨wd_409, wd_116, wd_408, rfl, by decide +kernel, by decide, Or.inl wd_407⟩
theorem ho_10_10 : ∀ Cn T N, vwCl[10]? = some (Cn, T, N) → (T 10).1 = RX10 := by
  intro Cn T N h
  have h2 : (RX10, TX10, 18) = (Cn, T, N) := Option.some.inj h
  cases h2
  rfl
theorem wd_440 : Cond.classLink RX10 63 RX2 ∈ lw_g := g_in (t_in 440 (by decide +kernel)) rfl
theorem wd_441 : Cond.instantiable RX2 8 ∈ lw_g := g_in (t_in 441 (by decide +kernel)) rfl
theorem kn2_X10_63 : lkC RX10 63 2 := ⟨RX2, TX2, 8, tyX2, rfl, ug_2, tyX2_ok, rfl, wd_440, wd_441, wd_117, by decide +kernel⟩
theorem ow_87 : OW 87 = (0, 11) := by decide +kernel
theorem tg_87 : TG0 87 = (5, 0) := by decide +kernel
theorem wd_444 : Cond.code yX2_init cX2_init 2 none ∈ lw_g := g_in (t_in 444 (by decide +kernel)) rfl
theorem wd_443 : Cond.instanceMethod yX2_init ∈ lw_g := g_in (t_in 443 (by decide +kernel)) rfl
theorem wd_442 : Cond.methodLink RX10 69 yX2_init ∈ lw_g := g_in (t_in 442 (by decide +kernel)) rfl
theorem ki2_X10_69 : lkI RX10 69 yX2_init cX2_init 2 1 := ⟨wd_444, wd_117, wd_443, rfl, by decide +kernel, by decide, Or.inl wd_442⟩
theorem ho_10_11 : ∀ Cn T N, vwCl[10]? = some (Cn, T, N) → (T 11).1 = RX10 := by
  intro Cn T N h
  have h2 : (RX10, TX10, 18) = (Cn, T, N) := Option.some.inj h
  cases h2
  rfl
theorem wd_471 : Cond.classLink RX10 76 RX4 ∈ lw_g := g_in (t_in 471 (by decide +kernel)) rfl
theorem wd_472 : Cond.instantiable RX4 5 ∈ lw_g := g_in (t_in 472 (by decide +kernel)) rfl
theorem kn2_X10_76 : lkC RX10 76 4 := ⟨RX4, TX4, 5, tyX4, rfl, ug_4, tyX4_ok, rfl, wd_471, wd_472, wd_118, by decide +kernel⟩
theorem wd_475 : Cond.code yX4_init cX4_init 1 none ∈ lw_g := g_in (t_in 475 (by decide +kernel)) rfl
theorem wd_474 : Cond.instanceMethod yX4_init ∈ lw_g := g_in (t_in 474 (by decide +kernel)) rfl
theorem wd_473 : Cond.methodLinkNest RX10 78 yX4_init "WindingSquare" ∈ lw_nest := n_in (t_in 473 (by decide +kernel)) rfl
theorem ki2_X10_78 : lkI RX10 78 yX4_init cX4_init 1 0 := ⟨wd_475, wd_118, wd_474, rfl, by decide +kernel, by decide, Or.inr wd_473⟩
theorem ho_10_12 : ∀ Cn T N, vwCl[10]? = some (Cn, T, N) → (T 12).1 = RX10 := by
  intro Cn T N h
  have h2 : (RX10, TX10, 18) = (Cn, T, N) := Option.some.inj h
  cases h2
  rfl
theorem ow_95 : OW 95 = (0, 12) := by decide +kernel
theorem tg_95 : TG0 95 = (7, 0) := by decide +kernel
theorem ho_10_14 : ∀ Cn T N, vwCl[10]? = some (Cn, T, N) → (T 14).1 = RX10 := by
  intro Cn T N h
  have h2 : (RX10, TX10, 18) = (Cn, T, N) := Option.some.inj h
  cases h2
  rfl
theorem ow_100 : OW 100 = (0, 14) := by decide +kernel
theorem tg_100 : TG0 100 = (10, 0) := by decide +kernel
theorem ho_10_15 : ∀ Cn T N, vwCl[10]? = some (Cn, T, N) → (T 15).1 = RX10 := by
  intro Cn T N h
  have h2 : (RX10, TX10, 18) = (Cn, T, N) := Option.some.inj h
  cases h2
  rfl
theorem ow_119 : OW 119 = (0, 15) := by decide +kernel
theorem tg_119 : TG0 119 = (11, 0) := by decide +kernel
theorem ho_10_16 : ∀ Cn T N, vwCl[10]? = some (Cn, T, N) → (T 16).1 = RX10 := by
  intro Cn T N h
  have h2 : (RX10, TX10, 18) = (Cn, T, N) := Option.some.inj h
  cases h2
  rfl
theorem ow_133 : OW 133 = (0, 16) := by decide +kernel
theorem tg_133 : TG0 133 = (3, 0) := by decide +kernel
theorem ho_10_17 : ∀ Cn T N, vwCl[10]? = some (Cn, T, N) → (T 17).1 = RX10 := by
  intro Cn T N h
  have h2 : (RX10, TX10, 18) = (Cn, T, N) := Option.some.inj h
  cases h2
  rfl
theorem ow_135 : OW 135 = (0, 17) := by decide +kernel
theorem tg_135 : TG0 135 = (9, 0) := by decide +kernel
theorem ow_143 : OW 143 = (39, 0) := by decide +kernel
theorem ow_162 : OW 162 = (39, 1) := by decide +kernel
theorem ow_181 : OW 181 = (39, 2) := by decide +kernel
theorem ow_200 : OW 200 = (39, 3) := by decide +kernel
theorem ow_219 : OW 219 = (39, 4) := by decide +kernel
theorem ow_238 : OW 238 = (39, 5) := by decide +kernel
theorem ow_kp : ∀ i, i < 6 → OW (143 + 19 * i) = (39, i) ∧ TG0 (143 + 19 * i) = (10, 0) := by decide +kernel
/-- the whole under way: fields Jd of cell 0 are laid, e places of the row of kept ones (39), and all cells up to m -/
def hG (Jd : List Nat) (m e : Nat) : Nat → Nat → Bool := fun k j => (decide (k = 0) && decide (j ∈ Jd)) || (decide (k = 39) && decide (j < e)) || decide (0 < k ∧ k < m ∧ k ≠ 39)
theorem hG_0 : (fun _ _ => false) = hG [] 1 0 := by
  funext k j
  simp [hG]
  omega
theorem hG_fresh {Jd : List Nat} {m e : Nat} (h0 : 0 < m) (h : 40 ≤ m ∨ e = 0) : ∀ k, m ≤ k → ∀ j, hG Jd m e k j = false := by
  intro k hk j
  simp [hG]
  omega
theorem hG_no {Jd : List Nat} {m e j : Nat} (h : j ∉ Jd) : hG Jd m e 0 j = false := by
  simp [hG, h]
theorem hG_no2 {Jd : List Nat} {m e : Nat} : hG Jd m e 39 e = false := by
  simp [hG]
theorem hG_st {Jd : List Nat} {m m' j : Nat} (h0 : 0 < m) (hm : m ≤ m') (h : m' ≤ 39 ∨ 40 ≤ m) : fU (fB (hG Jd m 0) m m') 0 j = hG (j :: Jd) m' 0 := by
  funext k i
  rw [Bool.eq_iff_iff]
  simp [fU, fB, hG]
  by_cases hk : k = 0
  · subst hk
    simp
    constructor
    · rintro ((h | h) | h)
      · exact Or.inr h
      · omega
      · exact Or.inl h
    · rintro (h | h)
      · exact Or.inr h
      · exact Or.inl (Or.inl h)
  · simp [hk]
    omega
theorem hG_kp {Jd : List Nat} {j : Nat} : fU (hG Jd 39 0) 0 j = hG (j :: Jd) 40 0 := by
  funext k i
  rw [Bool.eq_iff_iff]
  simp [fU, hG]
  by_cases hk : k = 0
  · subst hk
    simp
    constructor
    · rintro (h | h)
      · exact Or.inr h
      · exact Or.inl h
    · rintro (h | h)
      · exact Or.inr h
      · exact Or.inl h
  · simp [hk]
    omega
theorem hG_el {Jd : List Nat} {m m' e : Nat} (h0 : 40 ≤ m) (hm : m ≤ m') : fU (fB (hG Jd m e) m m') 39 e = hG Jd m' (e + 1) := by
  funext k i
  rw [Bool.eq_iff_iff]
  simp [fU, fB, hG]
  by_cases hk : k = 0
  · subst hk
    simp
    omega
  · simp [hk]
    omega
theorem hj_WS : ∀ k j r, RF0 k j = some r → hG [17, 16, 15, 14, 12, 11, 10, 9, 8, 7, 6, 5, 2, 1, 0] 257 6 k j = fB (fun _ _ => false) 0 257 k j := by
  have hk : ∀ k, k < 282 → ∀ j, j < 40 → ((RF0 k j).isNone || decide (hG [17, 16, 15, 14, 12, 11, 10, 9, 8, 7, 6, 5, 2, 1, 0] 257 6 k j = fB (fun _ _ => false) 0 257 k j)) = true := by decide +kernel
  intro k j r h
  have := hk k (RF0_24 h).1 j (RF0_24 h).2
  rw [h] at this
  simpa using this
section XM3
variable {α : Type} {C : zC} {w w0 : zW} {cs : Nat × Nat} {cc : ByteArray} {nL : Nat} {own : String} {pc n0 : Nat} {G : Nat → Nat → Bool} {M : zM} {X : Option α} {K : α → Prop}
/-- a field of cell 0 that is a new object -/
theorem c_ih (hC : Cok C cc nL own) (hin : C.1.2.2.2.2.2.2.2.2.1.name = "<init>") (hao : zAO C.1.2.2.2.2.1) {i i2 i3 c c2 j m m' mL d mc ms : Nat} {y : MethodName} {bc : ByteArray} {Cn2 : String} {Jd : List Nat} {M' : zM} {lv : List (Nat × (Nat ⊕ Int32))} (d1 : decode cc pc = .ok (.aload_n 0, 1)) (hq : lv[0]? = some (0, .inl 0)) (d2 : decode cc (pc + 1) = .ok (.new i2, 3)) (lk2 : lkC own i2 c2) (d3 : decode cc (pc + 1 + 3) = .ok (.dup, 1)) (d4 : decode cc (pc + 1 + 3 + 1) = .ok (.invokespecial i3, 3)) (lk3 : lkI own i3 y bc mL 0) (d5 : decode cc (pc + 1 + 3 + 1 + 3) = .ok (.putfield i, 3)) (lk : lkF own i c j true (.object Cn2)) (hown : ∀ Cn T N, vwCl[c]? = some (Cn, T, N) → (T j).1 = own) (hi : zIf c j = false)
    (h0 : 0 < m) (hmm : m < m') (h39 : m' ≤ 39 ∨ 40 ≤ m) (hT : (TG0 0).1 = c + 3) (hr : RF0 0 j = some m) (ho : OW m = (0, j)) (hj : j ∉ Jd) (hn : TG0 m = (c2 + 3, 0)) (hz : C.2.2.2.1 m = true) (hM : M m = fun _ => 0) (hl : okC m (lv.map (·.2))) (hf : d + 1 ≤ C.1.2.2.2.1.frames) (hlo : 64 * d + 64 ≤ C.1.2.2.2.1.locals) (hr1 : cs.1 + 1 + mc ≤ C.1.2.2.2.1.cells) (hr2 : cs.2 + zNf c2 + ms ≤ C.1.2.2.2.1.slots) (hw : cW w m (hG Jd m 0)) (hn0 : n0 ≤ m) (had : adE n0 w0 w) (cs' : Nat × Nat) (hcs : (cs.1 + 1 + mc, cs.2 + zNf c2 + ms) = cs')
    (hMet : zMetC C.1.2.1 y bc mL d mc ms C.2.2.1 C.2.2.2.1 C.2.2.2.2 [.inl m] (m + 1) (hG Jd m 0) M m' (fB (hG Jd m 0) m m') M')
    (k : ∀ w1, cW w1 m' (hG (j :: Jd) m' 0) → adE n0 w0 w1 → Sg C w1 cs' (pc + 1 + 3 + 1 + 3 + 3) (lvO w1 lv) (stO w1 []) M' X K) : Sg C w cs pc (lvO w lv) (stO w []) M X K := by
  subst hcs
  refine c_aload hC d1 rfl 0 hq ?_
  refine c_new hC d2 lk2 hw (wf_ow ho (hG_no hj)) hn (hG_fresh h0 (Or.inr rfl) m (Nat.le_refl _)) hz hM hl ?_ (by omega) (by omega) (fun w1 hw1 ad1 => ?_)
  · intro q hq
    simp only [List.mem_singleton] at hq
    subst hq
    exact h0
  · refine c_dup hC d3 ?_
    refine c_call (as := []) (a := m) (st := [.inl m, .inl 0]) hC hao d4 lk3 hw1 hf hlo hr1 hr2 rfl (Nat.le_of_ble_eq_true rfl) ?_ ?_ hMet (fun w2 hw2 ad2 => ?_)
    · intro q hq
      have := hl q hq
      cases q with
      | inl q => exact Nat.lt_succ_of_lt this
      | inr q => trivial
    · intro q hq
      simp only [List.mem_cons, List.not_mem_nil, or_false] at hq
      rcases hq with rfl | rfl
      · exact Nat.lt_succ_self m
      · exact Nat.lt_succ_of_lt h0
    · refine c_putR hC d5 lk hown hin hi hw2 (by omega) hT hr (fun q => ⟨rfl, rfl⟩) (fun w3 hw3 ad3 => ?_)
      rw [hG_st h0 (Nat.le_of_lt hmm) h39] at hw3
      exact k w3 hw3 (fun q h => by rw [ad3 q (by omega), ad2 q (by omega), ad1 q (by omega), had q h])
end XM3
theorem x_cs {α : Type} {C : zC} {w : zW} {cs cs' : Nat × Nat} {pc : Nat} {lv : List (Nat × Value)} {st : List Value} {M : zM} {X : Option α} {K : α → Prop} (h : cs = cs') (k : Sg C w cs' pc lv st M X K) : Sg C w cs pc lv st M X K := h ▸ k
set_option maxRecDepth 100000 in
theorem mk_WindingSquare {l : Launch} {g : zG} {M0 : zM} {zn : Nat → Bool} (hz : ∀ k, k < 257 → zn k = true) : zMetC l yX10_init cX10_init 2 3 256 36478 g zn M0 [.inl 0] 1 (fun _ _ => false) (fun _ _ => 0) 257 (fB (fun _ _ => false) 0 257) (mset (fun _ _ => 0) 78 2 (-1 : Int32)) := by
  refine met_c (by decide +kernel) rfl (fun _ => Nat.le_of_ble_eq_true rfl) (fun w hw C hB hR => ?_)
  obtain ⟨hC, hRm, rfl, rfl, rfl, rfl, hao, hin⟩ := hB
  have hw0 : cW w 1 (hG [] 1 0) := by rw [← hG_0]; exact hw
  have had0 : adE 1 w w := fun _ _ => rfl
  have loop : ∀ q i : Nat, i + q = 6 → ∀ w1, cW w1 (143 + 19 * i) (hG [17, 16, 15, 14, 12, 11, 10, 9, 8, 7, 6, 5, 2, 1, 0] (143 + 19 * i) i) → adE 1 w w1 → Sg C w1 (142 + 19 * i, 34228 + 375 * i) 188 (lvO w1 [(1, .inr (nI i)), (0, .inl 0)]) (stO w1 []) (mset (fun _ _ => 0) 78 2 (-1 : Int32)) (some ()) (fun _ => True) := by
    intro q
    induction q with
    | zero =>
      intro i hi w1 hw1 had1
      have hi : i = 6 := by omega
      subst hi
      refine c_iload hC dX10_init_188 rfl 0 rfl ?_
      refine c_bipush (v := (6 : Int32)) hC dX10_init_189 kb_6 ?_
      refine c_icmp_ge (tgt := 213) hC dX10_init_191 (by decide) (fun _ => ?_) (fun h => absurd (by decide) h)
      exact c_ret (lv := [(1, .inr (nI 6)), (0, .inl 0)]) hR dX10_init_213 (hw1.to hj_WS) had1 rfl
    | succ q ih =>
      intro i hi w1 hw1 had1
      have hi6 : i < 6 := by omega
      refine c_iload hC dX10_init_188 rfl 0 rfl ?_
      refine c_bipush (v := (6 : Int32)) hC dX10_init_189 kb_6 ?_
      refine c_icmp_ge (tgt := 213) hC dX10_init_191 (by decide) (fun h => absurd h (nI_ge (b := 6) hi6 (by decide))) (fun _ => ?_)
      have hv : inb (nI i) 6 := vp_in_nI hi6 (by decide)
      have hx : ix (nI i) = i := nI_clamp (by omega)
      have hkp := nv_kp hv
      rw [hx] at hkp
      have hok := ow_kp i hi6
      refine c_aload (st := []) hC dX10_init_194 rfl 1 rfl ?_
      refine c_getR (st := []) hC dX10_init_195 kf_X10_19 rfl hw1 (by omega) th_0.2 (by simp [hG]) rf_0_2 ?_
      refine c_iload hC dX10_init_198 rfl 0 rfl ?_
      refine c_new hC dX10_init_199 kn2_X10_7 hw1 (wf_ow hok.1 hG_no2) hok.2 (hG_fresh (by omega) (Or.inl (by omega)) _ (Nat.le_refl _)) (hz _ (by omega)) (by rw [mset_ne (by omega)]) (by simp only [okC, List.map, List.mem_cons, List.not_mem_nil, or_false, forall_eq_or_imp, forall_eq, true_and]; omega) (by simp only [okC, List.mem_cons, List.not_mem_nil, or_false, forall_eq_or_imp, forall_eq, true_and]; omega) (by rw [hRm]; show 142 + 19 * i + 1 ≤ 256; omega) (by rw [hRm]; show 34228 + 375 * i + 7 ≤ 36478; omega) (fun w2 hw2 ad2 => ?_)
      refine c_dup hC dX10_init_202 ?_
      refine c_call (as := []) (a := 143 + 19 * i) (st := [.inl (143 + 19 * i), .inr (nI i), .inl 39]) (d := 2) (mc := 18) (ms := 368) hC hao dX10_init_203 ki2_X10_9 hw2 (by rw [hRm]; exact Nat.le_of_ble_eq_true rfl) (by rw [hRm]; exact Nat.le_of_ble_eq_true rfl) (by rw [hRm]; show 142 + 19 * i + 1 + 18 ≤ 256; omega) (by rw [hRm]; show 34228 + 375 * i + 7 + 368 ≤ 36478; omega) rfl (Nat.le_of_ble_eq_true rfl) (by simp only [okC, List.map, List.mem_cons, List.not_mem_nil, or_false, forall_eq_or_imp, forall_eq, true_and]; omega) (by simp only [okC, List.mem_cons, List.not_mem_nil, or_false, forall_eq_or_imp, forall_eq, true_and]; omega) (mk_Square hkp.2 (hG_fresh (by omega) (Or.inl (by omega))) (fun k hk => by rw [mset_ne (by omega)]) (fun k h1 h2 => hz k (by omega))) (fun w3 hw3 ad3 => ?_)
      refine c_aast (c := 7) (T := TX7) (N0 := 7) (N := 6) (t := 1) hC dX10_init_206 rfl (Or.inl rfl) rfl hw3 (by omega) tg_39 (by omega) hkp.2.2 hv (by rw [hx]; exact hkp.1) (fun w4 hw4 ad4 => ?_)
      rw [hx, hG_el (by omega) (by omega)] at hw4
      refine x_iinc (c := (1 : Int32)) hC dX10_init_207 ki_1 (lvO w4 [(1, .inr (nI (i + 1))), (0, .inl 0)]) 0 rfl (by decide) ?_ ?_
      · rw [nI_succ]; rfl
      refine x_goto (tgt := 188) hC dX10_init_210 (by decide) ?_
      have e1 : (142 + 19 * i + 1 + 18, 34228 + 375 * i + zNf 7 + 368) = (142 + 19 * (i + 1), 34228 + 375 * (i + 1)) := by
        have : zNf 7 = 7 := by decide
        rw [this]
        refine Prod.ext ?_ ?_ <;> simp <;> omega
      have := ih (i + 1) (by omega) w4 (by rw [show 143 + 19 * (i + 1) = 143 + 19 * i + 19 by omega]; exact hw4) (fun k hk => by rw [ad4 k (by omega), ad3 k (by omega), ad2 k (by omega), had1 k hk])
      rw [← e1] at this
      exact this
  have go : Sg C w (0, 0) 0 (lvO w [(0, .inl 0)]) (stO w []) (fun _ _ => 0) (some ()) (fun _ => True) := by
    refine c_aload hC dX10_init_0 rfl 0 rfl ?_
    refine c_oinit hC dX10_init_1 wd_134 wd_135 wd_136 (by rw [hRm]; exact Nat.le_of_ble_eq_true rfl) (by rw [hRm]; exact Nat.le_of_ble_eq_true rfl) ?_
    refine c_ih (m := 1) (m' := 20) (d := 2) (mc := 18) (ms := 368) (n0 := 1) (w0 := w) (Jd := []) hC hin hao dX10_init_4 rfl dX10_init_5 kn2_X10_7 dX10_init_8 dX10_init_9 ki2_X10_9 dX10_init_12 kf_X10_10 ho_10_0 rfl (by decide) (by decide) (by decide) th_0.2 rf_0_0 ow_1 (by decide) tg_1 (hz _ (by decide)) rfl (by simp only [okC, List.map, List.mem_cons, List.not_mem_nil, or_false, forall_eq_or_imp, forall_eq]; omega) (by rw [hRm]; exact Nat.le_of_ble_eq_true rfl) (by rw [hRm]; exact Nat.le_of_ble_eq_true rfl) (by rw [hRm]; exact Nat.le_of_ble_eq_true rfl) (by rw [hRm]; exact Nat.le_of_ble_eq_true rfl) hw0 (by decide) had0 (19, 375) rfl (mk_Square th_1 (hG_fresh (by decide) (Or.inr rfl)) (fun k _ => rfl) (fun k h1 h2 => hz k (by omega))) (fun w1 hw1 had1 => ?_)
    refine c_ih (m := 20) (m' := 39) (d := 2) (mc := 18) (ms := 368) (n0 := 1) (w0 := w) (Jd := [0]) hC hin hao dX10_init_15 rfl dX10_init_16 kn2_X10_7 dX10_init_19 dX10_init_20 ki2_X10_9 dX10_init_23 kf_X10_16 ho_10_1 rfl (by decide) (by decide) (by decide) th_0.2 rf_0_1 ow_20 (by decide) tg_20 (hz _ (by decide)) rfl (by simp only [okC, List.map, List.mem_cons, List.not_mem_nil, or_false, forall_eq_or_imp, forall_eq]; omega) (by rw [hRm]; exact Nat.le_of_ble_eq_true rfl) (by rw [hRm]; exact Nat.le_of_ble_eq_true rfl) (by rw [hRm]; exact Nat.le_of_ble_eq_true rfl) (by rw [hRm]; exact Nat.le_of_ble_eq_true rfl) hw1 (by decide) had1 (38, 750) rfl (mk_Square th_20 (hG_fresh (by decide) (Or.inr rfl)) (fun k _ => rfl) (fun k h1 h2 => hz k (by omega))) (fun w2 hw2 had2 => ?_)
    refine c_aload hC dX10_init_26 rfl 0 rfl ?_
    refine c_bipush (v := (6 : Int32)) hC dX10_init_27 kb_6 ?_
    refine c_newq (t := 1) (N := 6) hC dX10_init_29 rfl (Or.inl rfl) wd_137 hao.1 hw2 (wf_ow ow_39 (hG_no (by decide))) tg_39 (hG_fresh (by decide) (Or.inr rfl) _ (Nat.le_refl _)) (by decide) (by decide +kernel) (by decide) (by simp only [okC, List.map, List.mem_cons, List.not_mem_nil, or_false, forall_eq_or_imp, forall_eq]; omega) (by simp only [okC, List.mem_cons, List.not_mem_nil, or_false, forall_eq_or_imp, forall_eq, true_and]; omega) (by rw [hRm]; exact Nat.le_of_ble_eq_true rfl) (by rw [hRm]; exact Nat.le_of_ble_eq_true rfl) (fun wa2 hwa2 ada2 => ?_)
    refine c_putR hC dX10_init_32 kf_X10_19 ho_10_2 hin rfl hwa2 (by decide) th_0.2 rf_0_2 (fun q => ⟨rfl, rfl⟩) (fun w3 hw3 ad3 => ?_)
    rw [hG_kp] at hw3
    have had3 : adE 1 w w3 := fun q h => by rw [ad3 q (by omega), ada2 q (by omega), had2 q h]
    refine x_cs (cs' := (39, 756)) rfl ?_
    refine c_ih (m := 40) (m' := 54) (d := 2) (mc := 13) (ms := 1099) (n0 := 1) (w0 := w) (Jd := [2, 1, 0]) hC hin hao dX10_init_35 rfl dX10_init_36 kn2_X10_23 dX10_init_39 dX10_init_40 ki2_X10_25 dX10_init_43 kf_X10_26 ho_10_5 rfl (by decide) (by decide) (by decide) th_0.2 rf_0_5 ow_40 (by decide) tg_40 (hz _ (by decide)) rfl (by simp only [okC, List.map, List.mem_cons, List.not_mem_nil, or_false, forall_eq_or_imp, forall_eq]; omega) (by rw [hRm]; exact Nat.le_of_ble_eq_true rfl) (by rw [hRm]; exact Nat.le_of_ble_eq_true rfl) (by rw [hRm]; exact Nat.le_of_ble_eq_true rfl) (by rw [hRm]; exact Nat.le_of_ble_eq_true rfl) hw3 (by decide) had3 (53, 1863) rfl (mk_Texts th_40 (hG_fresh (by decide) (Or.inr rfl)) (fun k _ => rfl) (fun k h1 h2 => hz k (by omega))) (fun w4 hw4 had4 => ?_)
    refine c_ih (m := 54) (m' := 68) (d := 2) (mc := 13) (ms := 1099) (n0 := 1) (w0 := w) (Jd := [5, 2, 1, 0]) hC hin hao dX10_init_46 rfl dX10_init_47 kn2_X10_23 dX10_init_50 dX10_init_51 ki2_X10_25 dX10_init_54 kf_X10_30 ho_10_6 rfl (by decide) (by decide) (by decide) th_0.2 rf_0_6 ow_54 (by decide) tg_54 (hz _ (by decide)) rfl (by simp only [okC, List.map, List.mem_cons, List.not_mem_nil, or_false, forall_eq_or_imp, forall_eq]; omega) (by rw [hRm]; exact Nat.le_of_ble_eq_true rfl) (by rw [hRm]; exact Nat.le_of_ble_eq_true rfl) (by rw [hRm]; exact Nat.le_of_ble_eq_true rfl) (by rw [hRm]; exact Nat.le_of_ble_eq_true rfl) hw4 (by decide) had4 (67, 2970) rfl (mk_Texts th_54 (hG_fresh (by decide) (Or.inr rfl)) (fun k _ => rfl) (fun k h1 h2 => hz k (by omega))) (fun w5 hw5 had5 => ?_)
    refine c_ih (m := 68) (m' := 70) (d := 1) (mc := 1) (ms := 600) (n0 := 1) (w0 := w) (Jd := [6, 5, 2, 1, 0]) hC hin hao dX10_init_57 rfl dX10_init_58 kn2_X10_33 dX10_init_61 dX10_init_62 ki2_X10_35 dX10_init_65 kf_X10_36 ho_10_7 rfl (by decide) (by decide) (by decide) th_0.2 rf_0_7 ow_68 (by decide) tg_68 (hz _ (by decide)) rfl (by simp only [okC, List.map, List.mem_cons, List.not_mem_nil, or_false, forall_eq_or_imp, forall_eq]; omega) (by rw [hRm]; exact Nat.le_of_ble_eq_true rfl) (by rw [hRm]; exact Nat.le_of_ble_eq_true rfl) (by rw [hRm]; exact Nat.le_of_ble_eq_true rfl) (by rw [hRm]; exact Nat.le_of_ble_eq_true rfl) hw5 (by decide) had5 (69, 3571) rfl (mk_Book th_68 (hG_fresh (by decide) (Or.inr rfl)) (fun k _ => rfl) (fun k h1 h2 => hz k (by omega))) (fun w6 hw6 had6 => ?_)
    refine c_ih (m := 70) (m' := 78) (d := 1) (mc := 7) (ms := 99) (n0 := 1) (w0 := w) (Jd := [7, 6, 5, 2, 1, 0]) hC hin hao dX10_init_68 rfl dX10_init_69 kn2_X10_40 dX10_init_72 dX10_init_73 ki2_X10_42 dX10_init_76 kf_X10_43 ho_10_8 rfl (by decide) (by decide) (by decide) th_0.2 rf_0_8 ow_70 (by decide) tg_70 (hz _ (by decide)) rfl (by simp only [okC, List.map, List.mem_cons, List.not_mem_nil, or_false, forall_eq_or_imp, forall_eq]; omega) (by rw [hRm]; exact Nat.le_of_ble_eq_true rfl) (by rw [hRm]; exact Nat.le_of_ble_eq_true rfl) (by rw [hRm]; exact Nat.le_of_ble_eq_true rfl) (by rw [hRm]; exact Nat.le_of_ble_eq_true rfl) hw6 (by decide) had6 (77, 3682) rfl (mk_Rows th_70 (hG_fresh (by decide) (Or.inr rfl)) (fun k _ => rfl) (fun k h1 h2 => hz k (by omega))) (fun w7 hw7 had7 => ?_)
    refine c_ih (m := 78) (m' := 83) (d := 1) (mc := 4) (ms := 1603) (n0 := 1) (w0 := w) (Jd := [8, 7, 6, 5, 2, 1, 0]) hC hin hao dX10_init_79 rfl dX10_init_80 kn2_X10_47 dX10_init_83 dX10_init_84 ki2_X10_49 dX10_init_87 kf_X10_50 ho_10_9 rfl (by decide) (by decide) (by decide) th_0.2 rf_0_9 ow_78 (by decide) tg_78 (hz _ (by decide)) rfl (by simp only [okC, List.map, List.mem_cons, List.not_mem_nil, or_false, forall_eq_or_imp, forall_eq]; omega) (by rw [hRm]; exact Nat.le_of_ble_eq_true rfl) (by rw [hRm]; exact Nat.le_of_ble_eq_true rfl) (by rw [hRm]; exact Nat.le_of_ble_eq_true rfl) (by rw [hRm]; exact Nat.le_of_ble_eq_true rfl) hw7 (by decide) had7 (82, 5293) rfl (mk_Reader (hG_fresh (by decide) (Or.inr rfl)) (fun k _ => rfl) (fun k h1 h2 => hz k (by omega))) (fun w8 hw8 had8 => ?_)
    refine c_aload hC dX10_init_90 rfl 0 rfl ?_
    refine c_new (st := [.inl 0]) hC dX10_init_91 kn2_X10_54 hw8 (wf_ow ow_83 (hG_no (by decide))) tg_83 (hG_fresh (by decide) (Or.inr rfl) _ (Nat.le_refl _)) (hz _ (by decide)) (by rw [mset_ne (by omega)]) (by simp only [okC, List.map, List.mem_cons, List.not_mem_nil, or_false, forall_eq_or_imp, forall_eq]; omega) (by simp only [okC, List.mem_cons, List.not_mem_nil, or_false, forall_eq_or_imp, forall_eq, true_and]; omega) (by rw [hRm]; exact Nat.le_of_ble_eq_true rfl) (by rw [hRm]; exact Nat.le_of_ble_eq_true rfl) (fun wa8 hwa8 ada8 => ?_)
    refine c_dup hC dX10_init_94 ?_
    refine c_aload hC dX10_init_95 rfl 0 rfl ?_
    refine c_getR hC dX10_init_96 kf_X10_10 rfl hwa8 (by decide) th_0.2 (by decide +kernel) rf_0_0 ?_
    refine c_aload hC dX10_init_99 rfl 0 rfl ?_
    refine c_getR hC dX10_init_100 kf_X10_26 rfl hwa8 (by decide) th_0.2 (by decide +kernel) rf_0_5 ?_
    refine c_aload hC dX10_init_103 rfl 0 rfl ?_
    refine c_getR hC dX10_init_104 kf_X10_36 rfl hwa8 (by decide) th_0.2 (by decide +kernel) rf_0_7 ?_
    refine c_call (as := [.inl 1, .inl 40, .inl 68]) (a := 83) (st := [.inl 83, .inl 0]) (d := 2) (mc := 3) (ms := 36) hC hao dX10_init_107 ki2_X10_56 hwa8 (by rw [hRm]; exact Nat.le_of_ble_eq_true rfl) (by rw [hRm]; exact Nat.le_of_ble_eq_true rfl) (by rw [hRm]; exact Nat.le_of_ble_eq_true rfl) (by rw [hRm]; exact Nat.le_of_ble_eq_true rfl) rfl (Nat.le_of_ble_eq_true rfl) (by simp only [okC, List.map, List.mem_cons, List.not_mem_nil, or_false, forall_eq_or_imp, forall_eq]; omega) (by simp only [okC, List.mem_cons, List.not_mem_nil, or_false, forall_eq_or_imp, forall_eq, true_and]; omega) (mk_Day (hG_fresh (by decide) (Or.inr rfl)) (fun k hk => by rw [mset_ne (by omega)]) (fun k h1 h2 => hz k (by omega))) (fun wb8 hwb8 adb8 => ?_)
    refine c_putR hC dX10_init_110 kf_X10_59 ho_10_10 hin rfl hwb8 (by decide) th_0.2 rf_0_10 (fun q => ⟨rfl, rfl⟩) (fun w9 hw9 ad9 => ?_)
    rw [hG_st (by decide) (by decide) (by decide)] at hw9
    have had9 : adE 1 w w9 := fun q h => by rw [ad9 q (by omega), adb8 q (by omega), ada8 q (by omega), had8 q h]
    refine x_cs (cs' := (86, 5337)) rfl ?_
    refine c_aload hC dX10_init_113 rfl 0 rfl ?_
    refine c_new (st := [.inl 0]) hC dX10_init_114 kn2_X10_63 hw9 (wf_ow ow_87 (hG_no (by decide))) tg_87 (hG_fresh (by decide) (Or.inr rfl) _ (Nat.le_refl _)) (hz _ (by decide)) (by rw [mset_ne (by omega)]) (by simp only [okC, List.map, List.mem_cons, List.not_mem_nil, or_false, forall_eq_or_imp, forall_eq]; omega) (by simp only [okC, List.mem_cons, List.not_mem_nil, or_false, forall_eq_or_imp, forall_eq, true_and]; omega) (by rw [hRm]; exact Nat.le_of_ble_eq_true rfl) (by rw [hRm]; exact Nat.le_of_ble_eq_true rfl) (fun wa9 hwa9 ada9 => ?_)
    refine c_dup hC dX10_init_117 ?_
    refine c_aload hC dX10_init_118 rfl 0 rfl ?_
    refine c_getR hC dX10_init_119 kf_X10_10 rfl hwa9 (by decide) th_0.2 (by decide +kernel) rf_0_0 ?_
    refine c_getR hC dX10_init_122 kf_X10_65 rfl hwa9 (by decide) th_1.2 (by decide +kernel) rf_1_1 ?_
    refine c_call (as := [.inl 3]) (a := 87) (st := [.inl 87, .inl 0]) (d := 1) (mc := 7) (ms := 9800) hC hao dX10_init_125 ki2_X10_69 hwa9 (by rw [hRm]; exact Nat.le_of_ble_eq_true rfl) (by rw [hRm]; exact Nat.le_of_ble_eq_true rfl) (by rw [hRm]; exact Nat.le_of_ble_eq_true rfl) (by rw [hRm]; exact Nat.le_of_ble_eq_true rfl) rfl (Nat.le_of_ble_eq_true rfl) (by simp only [okC, List.map, List.mem_cons, List.not_mem_nil, or_false, forall_eq_or_imp, forall_eq]; omega) (by simp only [okC, List.mem_cons, List.not_mem_nil, or_false, forall_eq_or_imp, forall_eq, true_and]; omega) (mk_Grid (hG_fresh (by decide) (Or.inr rfl)) (fun k hk => by rw [mset_ne (by omega)]) (fun k h1 h2 => hz k (by omega))) (fun wb9 hwb9 adb9 => ?_)
    refine c_putR hC dX10_init_128 kf_X10_72 ho_10_11 hin rfl hwb9 (by decide) th_0.2 rf_0_11 (fun q => ⟨rfl, rfl⟩) (fun w10 hw10 ad10 => ?_)
    rw [hG_st (by decide) (by decide) (by decide)] at hw10
    have had10 : adE 1 w w10 := fun q h => by rw [ad10 q (by omega), adb9 q (by omega), ada9 q (by omega), had9 q h]
    refine x_cs (cs' := (94, 15145)) rfl ?_
    refine c_ih (m := 95) (m' := 100) (d := 1) (mc := 4) (ms := 16884) (n0 := 1) (w0 := w) (Jd := [11, 10, 9, 8, 7, 6, 5, 2, 1, 0]) hC hin hao dX10_init_131 rfl dX10_init_132 kn2_X10_76 dX10_init_135 dX10_init_136 ki2_X10_78 dX10_init_139 kf_X10_79 ho_10_12 rfl (by decide) (by decide) (by decide) th_0.2 rf_0_12 ow_95 (by decide) tg_95 (hz _ (by decide)) (by rw [mset_ne (by omega)]) (by simp only [okC, List.map, List.mem_cons, List.not_mem_nil, or_false, forall_eq_or_imp, forall_eq]; omega) (by rw [hRm]; exact Nat.le_of_ble_eq_true rfl) (by rw [hRm]; exact Nat.le_of_ble_eq_true rfl) (by rw [hRm]; exact Nat.le_of_ble_eq_true rfl) (by rw [hRm]; exact Nat.le_of_ble_eq_true rfl) hw10 (by decide) had10 (99, 32034) rfl (mk_Plane (hG_fresh (by decide) (Or.inr rfl)) (fun k hk => by rw [mset_ne (by omega)]) (fun k h1 h2 => hz k (by omega))) (fun w11 hw11 had11 => ?_)
    refine c_ih (m := 100) (m' := 119) (d := 2) (mc := 18) (ms := 368) (n0 := 1) (w0 := w) (Jd := [12, 11, 10, 9, 8, 7, 6, 5, 2, 1, 0]) hC hin hao dX10_init_142 rfl dX10_init_143 kn2_X10_7 dX10_init_146 dX10_init_147 ki2_X10_9 dX10_init_150 kf_X10_83 ho_10_14 rfl (by decide) (by decide) (by decide) th_0.2 rf_0_14 ow_100 (by decide) tg_100 (hz _ (by decide)) (by rw [mset_ne (by omega)]) (by simp only [okC, List.map, List.mem_cons, List.not_mem_nil, or_false, forall_eq_or_imp, forall_eq]; omega) (by rw [hRm]; exact Nat.le_of_ble_eq_true rfl) (by rw [hRm]; exact Nat.le_of_ble_eq_true rfl) (by rw [hRm]; exact Nat.le_of_ble_eq_true rfl) (by rw [hRm]; exact Nat.le_of_ble_eq_true rfl) hw11 (by decide) had11 (118, 32409) rfl (mk_Square th_100 (hG_fresh (by decide) (Or.inr rfl)) (fun k hk => by rw [mset_ne (by omega)]) (fun k h1 h2 => hz k (by omega))) (fun w12 hw12 had12 => ?_)
    refine c_ih (m := 119) (m' := 133) (d := 2) (mc := 13) (ms := 1099) (n0 := 1) (w0 := w) (Jd := [14, 12, 11, 10, 9, 8, 7, 6, 5, 2, 1, 0]) hC hin hao dX10_init_153 rfl dX10_init_154 kn2_X10_23 dX10_init_157 dX10_init_158 ki2_X10_25 dX10_init_161 kf_X10_86 ho_10_15 rfl (by decide) (by decide) (by decide) th_0.2 rf_0_15 ow_119 (by decide) tg_119 (hz _ (by decide)) (by rw [mset_ne (by omega)]) (by simp only [okC, List.map, List.mem_cons, List.not_mem_nil, or_false, forall_eq_or_imp, forall_eq]; omega) (by rw [hRm]; exact Nat.le_of_ble_eq_true rfl) (by rw [hRm]; exact Nat.le_of_ble_eq_true rfl) (by rw [hRm]; exact Nat.le_of_ble_eq_true rfl) (by rw [hRm]; exact Nat.le_of_ble_eq_true rfl) hw12 (by decide) had12 (132, 33516) rfl (mk_Texts th_119 (hG_fresh (by decide) (Or.inr rfl)) (fun k hk => by rw [mset_ne (by omega)]) (fun k h1 h2 => hz k (by omega))) (fun w13 hw13 had13 => ?_)
    refine c_ih (m := 133) (m' := 135) (d := 1) (mc := 1) (ms := 600) (n0 := 1) (w0 := w) (Jd := [15, 14, 12, 11, 10, 9, 8, 7, 6, 5, 2, 1, 0]) hC hin hao dX10_init_164 rfl dX10_init_165 kn2_X10_33 dX10_init_168 dX10_init_169 ki2_X10_35 dX10_init_172 kf_X10_89 ho_10_16 rfl (by decide) (by decide) (by decide) th_0.2 rf_0_16 ow_133 (by decide) tg_133 (hz _ (by decide)) (by rw [mset_ne (by omega)]) (by simp only [okC, List.map, List.mem_cons, List.not_mem_nil, or_false, forall_eq_or_imp, forall_eq]; omega) (by rw [hRm]; exact Nat.le_of_ble_eq_true rfl) (by rw [hRm]; exact Nat.le_of_ble_eq_true rfl) (by rw [hRm]; exact Nat.le_of_ble_eq_true rfl) (by rw [hRm]; exact Nat.le_of_ble_eq_true rfl) hw13 (by decide) had13 (134, 34117) rfl (mk_Book th_133 (hG_fresh (by decide) (Or.inr rfl)) (fun k hk => by rw [mset_ne (by omega)]) (fun k h1 h2 => hz k (by omega))) (fun w14 hw14 had14 => ?_)
    refine c_ih (m := 135) (m' := 143) (d := 1) (mc := 7) (ms := 99) (n0 := 1) (w0 := w) (Jd := [16, 15, 14, 12, 11, 10, 9, 8, 7, 6, 5, 2, 1, 0]) hC hin hao dX10_init_175 rfl dX10_init_176 kn2_X10_40 dX10_init_179 dX10_init_180 ki2_X10_42 dX10_init_183 kf_X10_92 ho_10_17 rfl (by decide) (by decide) (by decide) th_0.2 rf_0_17 ow_135 (by decide) tg_135 (hz _ (by decide)) (by rw [mset_ne (by omega)]) (by simp only [okC, List.map, List.mem_cons, List.not_mem_nil, or_false, forall_eq_or_imp, forall_eq]; omega) (by rw [hRm]; exact Nat.le_of_ble_eq_true rfl) (by rw [hRm]; exact Nat.le_of_ble_eq_true rfl) (by rw [hRm]; exact Nat.le_of_ble_eq_true rfl) (by rw [hRm]; exact Nat.le_of_ble_eq_true rfl) hw14 (by decide) had14 (142, 34228) rfl (mk_Rows th_135 (hG_fresh (by decide) (Or.inr rfl)) (fun k hk => by rw [mset_ne (by omega)]) (fun k h1 h2 => hz k (by omega))) (fun w15 hw15 had15 => ?_)
    refine c_iconst (v := (0 : Int32)) hC dX10_init_186 ki_0 ?_
    refine x_istore_n hC dX10_init_187 rfl (lvO w15 [(1, .inr (nI 0)), (0, .inl 0)]) (by decide) rfl ?_
    exact loop 6 0 rfl w15 hw15 had15
  exact go () rfl trivial
