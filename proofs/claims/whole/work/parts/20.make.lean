/-! ===== an object under way: which of its own references are laid (J), and all cells behind it up to m ===== -/
def gF (F : Nat → Nat → Bool) (a : Nat) (J : Nat → Bool) (m : Nat) : Nat → Nat → Bool := fun k i => F k i || (decide (k = a) && J i) || decide (a < k ∧ k < m)
def fB (F : Nat → Nat → Bool) (a m : Nat) : Nat → Nat → Bool := fun k i => F k i || decide (a ≤ k ∧ k < m)
theorem cW.to {w : zW} {n : Nat} {F G : Nat → Nat → Bool} (h : cW w n F) (hm : ∀ k j r, RF0 k j = some r → F k j = G k j) : cW w n G := by
  refine ⟨h.1, h.2.1, ?_⟩
  rw [h.2.2]
  funext k j
  unfold mkF
  cases hr : RF0 k j with
  | none => simp
  | some r => rw [hm k j r hr]
theorem rfI {m N : Nat} (h : TG0 m = (0, N)) : ∀ j r, RF0 m j = some r → False := by
  intro j r hr
  have hk : ∀ k, k < 282 → (TG0 k).1 = 0 → rfL.getD k [] = [] := by decide +kernel
  have hb : ∀ k, 282 ≤ k → rfL.getD k [] = [] := by
    intro k hk
    rw [List.getD_eq_getElem?_getD, List.getElem?_eq_none (by show rfL.length ≤ k; exact Nat.le_trans (by decide +kernel) hk)]
    rfl
  unfold RF0 at hr
  rcases Nat.lt_or_ge m 282 with q | q
  · rw [hk m q (by rw [h])] at hr; cases hr
  · rw [hb m q] at hr; cases hr
theorem gF_start {F : Nat → Nat → Bool} {a : Nat} : gF F a (fun _ => false) (a + 1) = F := by
  funext k i
  simp [gF]
  omega
theorem gF_fresh {F : Nat → Nat → Bool} {a m : Nat} {J : Nat → Bool} (hF : ∀ k, a ≤ k → ∀ j, F k j = false) (ha : a < m) : ∀ k, m ≤ k → ∀ j, gF F a J m k j = false := by
  intro k hk j
  simp [gF, hF k (by omega) j]
  omega
theorem gF_arr {F : Nat → Nat → Bool} {a m N : Nat} {J : Nat → Bool} (ha : a < m) (h : TG0 m = (0, N)) : ∀ k j r, RF0 k j = some r → gF F a J m k j = gF F a J (m + 1) k j := by
  intro k j r hr
  have : k ≠ m := fun e => rfI h j r (e ▸ hr)
  unfold gF
  congr 1
  rw [decide_eq_decide]
  omega
theorem gF_put {F : Nat → Nat → Bool} {a m j0 : Nat} {J J' : Nat → Bool} (hJ : ∀ i, J' i = (J i || decide (i = j0))) : fU (gF F a J m) a j0 = gF F a J' m := by
  funext k i
  simp only [fU, gF, hJ]
  by_cases hk : k = a <;> simp [hk]
  all_goals (cases F a i <;> simp)
theorem gF_sub {F : Nat → Nat → Bool} {a m m' : Nat} {J : Nat → Bool} (ha : a < m) (hm : m ≤ m') : fB (gF F a J m) m m' = gF F a J m' := by
  funext k i
  simp only [fB, gF, Bool.or_assoc]
  congr 2
  rw [Bool.eq_iff_iff]
  simp
  omega
theorem gF_end {F : Nat → Nat → Bool} {a m : Nat} {J : Nat → Bool} (ha : a < m) (hJ : ∀ j r, RF0 a j = some r → J j = true) : ∀ k j r, RF0 k j = some r → gF F a J m k j = fB F a m k j := by
  intro k j r hr
  unfold gF fB
  by_cases hk : k = a
  · subst hk
    rw [hJ j r hr]
    simp [ha]
  · rw [show decide (k = a) = false from decide_eq_false hk, Bool.false_and, Bool.or_false]
    congr 1
    rw [decide_eq_decide]
    omega
def owL : List (Nat × Nat) := [(999, 0), (0, 0), (1, 0), (1, 1), (2, 0), (2, 1), (2, 2), (2, 3), (2, 4), (2, 5), (2, 6), (2, 7), (2, 8), (2, 9), (2, 10), (2, 11), (2, 12), (2, 13), (2, 14), (2, 15), (0, 1), (20, 0), (20, 1), (21, 0), (21, 1), (21, 2), (21, 3), (21, 4), (21, 5), (21, 6), (21, 7), (21, 8), (21, 9), (21, 10), (21, 11), (21, 12), (21, 13), (21, 14), (21, 15), (0, 2), (0, 5), (40, 0), (41, 1), (41, 2), (41, 3), (41, 4), (41, 6), (40, 1), (40, 2), (40, 3), (40, 4), (40, 5), (40, 6), (40, 7), (0, 6), (54, 0), (55, 1), (55, 2), (55, 3), (55, 4), (55, 6), (54, 1), (54, 2), (54, 3), (54, 4), (54, 5), (54, 6), (54, 7), (0, 7), (68, 0), (0, 8), (70, 0), (70, 1), (70, 2), (70, 4), (70, 5), (70, 7), (70, 8), (0, 9), (78, 3), (78, 4), (78, 5), (78, 6), (0, 10), (83, 5), (83, 6), (83, 7), (0, 11), (87, 1), (87, 2), (87, 3), (87, 4), (87, 5), (87, 6), (87, 7), (0, 12), (95, 0), (95, 1), (95, 2), (95, 3), (0, 14), (100, 0), (100, 1), (101, 0), (101, 1), (101, 2), (101, 3), (101, 4), (101, 5), (101, 6), (101, 7), (101, 8), (101, 9), (101, 10), (101, 11), (101, 12), (101, 13), (101, 14), (101, 15), (0, 15), (119, 0), (120, 1), (120, 2), (120, 3), (120, 4), (120, 6), (119, 1), (119, 2), (119, 3), (119, 4), (119, 5), (119, 6), (119, 7), (0, 16), (133, 0), (0, 17), (135, 0), (135, 1), (135, 2), (135, 4), (135, 5), (135, 7), (135, 8), (39, 0), (143, 0), (143, 1), (144, 0), (144, 1), (144, 2), (144, 3), (144, 4), (144, 5), (144, 6), (144, 7), (144, 8), (144, 9), (144, 10), (144, 11), (144, 12), (144, 13), (144, 14), (144, 15), (39, 1), (162, 0), (162, 1), (163, 0), (163, 1), (163, 2), (163, 3), (163, 4), (163, 5), (163, 6), (163, 7), (163, 8), (163, 9), (163, 10), (163, 11), (163, 12), (163, 13), (163, 14), (163, 15), (39, 2), (181, 0), (181, 1), (182, 0), (182, 1), (182, 2), (182, 3), (182, 4), (182, 5), (182, 6), (182, 7), (182, 8), (182, 9), (182, 10), (182, 11), (182, 12), (182, 13), (182, 14), (182, 15), (39, 3), (200, 0), (200, 1), (201, 0), (201, 1), (201, 2), (201, 3), (201, 4), (201, 5), (201, 6), (201, 7), (201, 8), (201, 9), (201, 10), (201, 11), (201, 12), (201, 13), (201, 14), (201, 15), (39, 4), (219, 0), (219, 1), (220, 0), (220, 1), (220, 2), (220, 3), (220, 4), (220, 5), (220, 6), (220, 7), (220, 8), (220, 9), (220, 10), (220, 11), (220, 12), (220, 13), (220, 14), (220, 15), (39, 5), (238, 0), (238, 1), (239, 0), (239, 1), (239, 2), (239, 3), (239, 4), (239, 5), (239, 6), (239, 7), (239, 8), (239, 9), (239, 10), (239, 11), (239, 12), (239, 13), (239, 14), (239, 15), (999, 0), (257, 0), (257, 1), (257, 2), (257, 3), (257, 15), (257, 16), (257, 18), (257, 20), (257, 21), (257, 22), (257, 23), (257, 24), (257, 25), (257, 26), (257, 27), (257, 31), (257, 32), (257, 33), (257, 34), (257, 35), (257, 36), (257, 37), (257, 38), (257, 39)]
def OW (m : Nat) : Nat × Nat := owL.getD m (999, 0)
theorem RF0_24 {k j r : Nat} (h : RF0 k j = some r) : k < 282 ∧ j < 40 := by
  unfold RF0 at h
  rcases Nat.lt_or_ge k 282 with q | q
  · refine ⟨q, ?_⟩
    have hk : ∀ k, k < 282 → (rfL.getD k []).length ≤ 40 := by decide +kernel
    rcases Nat.lt_or_ge j 40 with z | z
    · exact z
    · rw [List.getD_eq_getElem?_getD (l := rfL.getD k []), List.getElem?_eq_none (Nat.le_trans (hk k q) z)] at h
      cases h
  · have hb : rfL.getD k [] = [] := by
      rw [List.getD_eq_getElem?_getD, List.getElem?_eq_none (Nat.le_trans (show rfL.length ≤ 282 by decide +kernel) q)]
      rfl
    rw [hb] at h
    cases h
theorem OW_of {k j m : Nat} (h : RF0 k j = some m) (hk : k < m) : OW m = (k, j) := by
  have hall : ∀ k, k < 282 → ∀ j, j < 40 → (match RF0 k j with | some r => !(decide (k < r)) || decide (OW r = (k, j)) | none => true) = true := by decide +kernel
  obtain ⟨a, b⟩ := RF0_24 h
  have := hall k a j b
  rw [h] at this
  simp [hk] at this
  exact this
theorem wf_ow {F : Nat → Nat → Bool} {m a j : Nat} (ho : OW m = (a, j)) (hF : F a j = false) : wfF m F := by
  intro k hk i hF1 hr
  have := OW_of hr hk
  rw [ho] at this
  cases this
  rw [hF] at hF1
  cases hF1
theorem wf_no {F : Nat → Nat → Bool} {m : Nat} (ho : (OW m).1 = 999) : wfF m F := by
  intro k hk i hF1 hr
  have h1 := OW_of hr hk
  rw [h1] at ho
  have := (RF0_24 hr).1
  omega
theorem gF_no {F : Nat → Nat → Bool} {a m j : Nat} {J : Nat → Bool} (hF : ∀ k, a ≤ k → ∀ j, F k j = false) (hJ : J j = false) : gF F a J m a j = false := by
  simp [gF, hF a (Nat.le_refl _) j, hJ]
theorem fB_fresh {F : Nat → Nat → Bool} {a m : Nat} (hF : ∀ k, a ≤ k → ∀ j, F k j = false) (ha : a ≤ m) : ∀ k, m ≤ k → ∀ j, fB F a m k j = false := by
  intro k hk j
  simp [fB, hF k (by omega) j]
  omega
section XM
variable {α : Type} {C : zC} {w w0 : zW} {cs : Nat × Nat} {cc : ByteArray} {nL : Nat} {own : String} {pc n0 : Nat} {F : Nat → Nat → Bool} {M : zM} {X : Option α} {K : α → Prop}
/-- a field that is a new row of ints -/
theorem c_ia (hC : Cok C cc nL own) (hin : C.1.2.2.2.2.2.2.2.2.1.name = "<init>") {i c j N m a lp : Nat} {v : Int32} {J J' : Nat → Bool} {lv : List (Nat × (Nat ⊕ Int32))} (d1 : decode cc pc = .ok (.aload_n 0, 1)) (hq : lv[0]? = some (0, .inl a)) (hp : ∀ {st : List (Nat ⊕ Int32)}, Sg C w cs (pc + 1 + lp) (lvO w lv) (stO w (.inr v :: st)) M X K → Sg C w cs (pc + 1) (lvO w lv) (stO w st) M X K) (d3 : decode cc (pc + 1 + lp) = .ok (.newarray .int, 2)) (hac : Cond.arrayClass .int ∈ lw_g) (d4 : decode cc (pc + 1 + lp + 2) = .ok (.putfield i, 3)) (lk : lkF own i c j true (.array .int)) (hown : ∀ Cn T N, vwCl[c]? = some (Cn, T, N) → (T j).1 = own) (hi : zIf c j = false)
    (ham : a < m) (hF : ∀ k, a ≤ k → ∀ j, F k j = false) (hT : (TG0 a).1 = c + 3) (hr : RF0 a j = some m) (hn : TG0 m = (0, N)) (hz : C.2.2.2.1 m = true) (hM : M m = fun _ => 0) (hv : ¬ v < 0) (hN : v.toNatClampNeg = N) (hb : N * 4 ≤ 536870912) (hl : okC m (lv.map (·.2))) (hr1 : cs.1 + 1 ≤ C.1.2.2.2.1.cells) (hr2 : cs.2 + N ≤ C.1.2.2.2.1.slots) (hJ : ∀ i, J' i = (J i || decide (i = j))) (hw : cW w m (gF F a J m)) (hwf : wfF m (gF F a J m)) (hn0 : n0 ≤ m) (had : adE n0 w0 w) (cs' : Nat × Nat) (hcs : (cs.1 + 1, cs.2 + N) = cs')
    (k : ∀ w1, cW w1 (m + 1) (gF F a J' (m + 1)) → adE n0 w0 w1 → Sg C w1 cs' (pc + 1 + lp + 2 + 3) (lvO w1 lv) (stO w1 []) M X K) : Sg C w cs pc (lvO w lv) (stO w []) M X K := by
  subst hcs
  refine c_aload hC d1 rfl 0 hq ?_
  refine hp ?_
  refine c_newa hC d3 hac hw hwf hn (gF_fresh hF ham m (Nat.le_refl _)) hz hM hv hN hb hl ?_ hr1 hr2 (fun w1 hw1 ad1 => ?_)
  · intro q hq
    simp only [List.mem_singleton] at hq
    subst hq
    exact ham
  · have hw2 := hw1.to (gF_arr ham hn)
    refine c_putR hC d4 lk hown hin hi hw2 (by omega) hT hr (fun q => ⟨rfl, rfl⟩) (fun w2 hw3 ad2 => ?_)
    rw [gF_put hJ] at hw3
    exact k w2 hw3 (fun q h => by rw [ad2 q (by omega), ad1 q (by omega), had q h])
/-- a field that is a new object, made without arguments -/
theorem c_io (hC : Cok C cc nL own) (hin : C.1.2.2.2.2.2.2.2.2.1.name = "<init>") (hao : zAO C.1.2.2.2.2.1) {i i2 i3 c c2 j m m' a mL d mc ms : Nat} {y : MethodName} {bc : ByteArray} {Cn2 : String} {J J' : Nat → Bool} {M' : zM} {lv : List (Nat × (Nat ⊕ Int32))} (d1 : decode cc pc = .ok (.aload_n 0, 1)) (hq : lv[0]? = some (0, .inl a)) (d2 : decode cc (pc + 1) = .ok (.new i2, 3)) (lk2 : lkC own i2 c2) (d3 : decode cc (pc + 1 + 3) = .ok (.dup, 1)) (d4 : decode cc (pc + 1 + 3 + 1) = .ok (.invokespecial i3, 3)) (lk3 : lkI own i3 y bc mL 0) (d5 : decode cc (pc + 1 + 3 + 1 + 3) = .ok (.putfield i, 3)) (lk : lkF own i c j true (.object Cn2)) (hown : ∀ Cn T N, vwCl[c]? = some (Cn, T, N) → (T j).1 = own) (hi : zIf c j = false)
    (ham : a < m) (hmm : m < m') (hF : ∀ k, a ≤ k → ∀ j, F k j = false) (hT : (TG0 a).1 = c + 3) (hr : RF0 a j = some m) (hn : TG0 m = (c2 + 3, 0)) (hz : C.2.2.2.1 m = true) (hM : M m = fun _ => 0) (hl : okC m (lv.map (·.2))) (hf : d + 1 ≤ C.1.2.2.2.1.frames) (hlo : 64 * d + 64 ≤ C.1.2.2.2.1.locals) (hr1 : cs.1 + 1 + mc ≤ C.1.2.2.2.1.cells) (hr2 : cs.2 + zNf c2 + ms ≤ C.1.2.2.2.1.slots) (hJ : ∀ i, J' i = (J i || decide (i = j))) (hw : cW w m (gF F a J m)) (hwf : wfF m (gF F a J m)) (hn0 : n0 ≤ m) (had : adE n0 w0 w) (cs' : Nat × Nat) (hcs : (cs.1 + 1 + mc, cs.2 + zNf c2 + ms) = cs')
    (hMet : zMetC C.1.2.1 y bc mL d mc ms C.2.2.1 C.2.2.2.1 C.2.2.2.2 [.inl m] (m + 1) (gF F a J m) M m' (fB (gF F a J m) m m') M')
    (k : ∀ w1, cW w1 m' (gF F a J' m') → adE n0 w0 w1 → Sg C w1 cs' (pc + 1 + 3 + 1 + 3 + 3) (lvO w1 lv) (stO w1 []) M' X K) : Sg C w cs pc (lvO w lv) (stO w []) M X K := by
  subst hcs
  refine c_aload hC d1 rfl 0 hq ?_
  refine c_new hC d2 lk2 hw hwf hn (gF_fresh hF ham m (Nat.le_refl _)) hz hM hl ?_ (by omega) (by omega) (fun w1 hw1 ad1 => ?_)
  · intro q hq
    simp only [List.mem_singleton] at hq
    subst hq
    exact ham
  · refine c_dup hC d3 ?_
    refine c_call (as := []) (a := m) (st := [.inl m, .inl a]) hC hao d4 lk3 hw1 hf hlo hr1 hr2 rfl (Nat.le_of_ble_eq_true rfl) ?_ ?_ hMet (fun w2 hw2 ad2 => ?_)
    · intro q hq
      have := hl q hq
      cases q with
      | inl q => exact Nat.lt_succ_of_lt this
      | inr q => trivial
    · intro q hq
      simp only [List.mem_cons, List.not_mem_nil, or_false] at hq
      rcases hq with rfl | rfl
      · exact Nat.lt_succ_self m
      · exact Nat.lt_succ_of_lt ham
    · rw [gF_sub ham (Nat.le_of_lt hmm)] at hw2
      refine c_putR hC d5 lk hown hin hi hw2 (by omega) hT hr (fun q => ⟨rfl, rfl⟩) (fun w3 hw3 ad3 => ?_)
      rw [gF_put hJ] at hw3
      exact k w3 hw3 (fun q h => by rw [ad3 q (by omega), ad2 q (by omega), ad1 q (by omega), had q h])
end XM
