/-! ===== making: the world grows cell by cell, to the tables TG0, RF0; F says which references are laid already ===== -/
def mkF (F : Nat → Nat → Bool) : Nat → Nat → Option Nat := fun k j => if F k j = true then RF0 k j else none
def cW (w : zW) (n : Nat) (F : Nat → Nat → Bool) : Prop := w.1 = n ∧ w.2.1 = TG0 ∧ w.2.2.1 = mkF F
/-- no reference that is laid speaks of the cell that comes next -/
def wfF (n : Nat) (F : Nat → Nat → Bool) : Prop := ∀ k, k < n → ∀ j, F k j = true → RF0 k j ≠ some n
def cV (w : zW) (c : Nat ⊕ Int32) : Value := match c with
  | .inl k => zr w k
  | .inr x => .int x
def lvO (w : zW) (l : List (Nat × (Nat ⊕ Int32))) : List (Nat × Value) := l.map fun q => (q.1, cV w q.2)
def stO (w : zW) (l : List (Nat ⊕ Int32)) : List Value := l.map (cV w)
def okC (n : Nat) (l : List (Nat ⊕ Int32)) : Prop := ∀ c ∈ l, match c with
  | .inl k => k < n
  | .inr _ => True
def adE (n : Nat) (w w1 : zW) : Prop := ∀ k, k < n → w1.2.2.2 k = w.2.2.2 k
theorem stO_eq {n : Nat} {w w1 : zW} {l : List (Nat ⊕ Int32)} (h : adE n w w1) (ho : okC n l) : stO w1 l = stO w l := by
  refine List.map_congr_left fun c hc => ?_
  have := ho c hc
  cases c with
  | inl k => exact congrArg Value.ref (h k this)
  | inr x => rfl
theorem lvO_eq {n : Nat} {w w1 : zW} {l : List (Nat × (Nat ⊕ Int32))} (h : adE n w w1) (ho : okC n (l.map (·.2))) : lvO w1 l = lvO w l := by
  refine List.map_congr_left fun c hc => ?_
  have := ho c.2 (List.mem_map.mpr ⟨c, hc, rfl⟩)
  obtain ⟨i, c⟩ := c
  cases c with
  | inl k => exact congrArg (fun q => (i, Value.ref q)) (h k this)
  | inr x => rfl
theorem zE_ad {g : zG} {w w1 : zW} {M : zM} {k : Nat} (h1 : w1.2.1 k = w.2.1 k) (h2 : w1.2.2.1 k = w.2.2.1 k) (h3 : ∀ j r, w.2.2.1 k j = some r → w1.2.2.2 r = w.2.2.2 r) : zE g w1 M k = zE g w M k := by
  have hr : ∀ j, zRf w1 (w1.2.2.1 k j) = zRf w (w.2.2.1 k j) := by
    intro j
    rw [h2]
    cases hq : w.2.2.1 k j with
    | none => rfl
    | some r => exact congrArg some (h3 j r hq)
  have hf : ∀ c, zF w1 c (w1.2.2.1 k) (M k) = zF w c (w.2.2.1 k) (M k) := by
    intro c
    unfold zF
    refine List.map_congr_left fun j _ => ?_
    rw [hr j]
  have ha : (fun i => zRf w1 (w1.2.2.1 k i)) = fun i => zRf w (w.2.2.1 k i) := funext hr
  unfold zE
  rw [h1]
  split
  · rfl
  · rw [ha]
  · rw [ha]
  · rw [hf]
/-- one cell more -/
theorem zS_grow {g : zG} {w : zW} {n : Nat} {F : Nat → Nat → Bool} {M : zM} {q : Nat} {e : va_E} (hw : cW w n F) (hwf : wfF n F) (he : zE g (n + 1, TG0, mkF F, fun k => if k = n then q else w.2.2.2 k) M n = e) : zS g w M ++ [(q, e)] = zS g (n + 1, TG0, mkF F, fun k => if k = n then q else w.2.2.2 k) M := by
  obtain ⟨h1, h2, h3⟩ := hw
  have hm : zS g w M = (List.range n).map fun k => ((fun k => if k = n then q else w.2.2.2 k) k, zE g (n + 1, TG0, mkF F, fun k => if k = n then q else w.2.2.2 k) M k) := by
    unfold zS
    rw [h1]
    refine List.map_congr_left fun k hk => ?_
    have hk : k < n := List.mem_range.mp hk
    have e1 : (if k = n then q else w.2.2.2 k) = w.2.2.2 k := if_neg (by omega)
    refine Prod.ext e1.symm ?_
    refine (zE_ad ?_ ?_ ?_).symm
    · show TG0 k = w.2.1 k
      rw [h2]
    · show mkF F k = w.2.2.1 k
      rw [h3]
    · intro j r hr
      rw [h3] at hr
      unfold mkF at hr
      by_cases hF : F k j = true
      · rw [if_pos hF] at hr
        exact if_neg (fun e => hwf k hk j hF (by rw [hr]; exact congrArg some e))
      · rw [if_neg hF] at hr
        cases hr
  rw [hm]
  show _ = (List.range (n + 1)).map _
  rw [List.range_succ, List.map_append]
  congr 1
  show [(q, e)] = [(if n = n then q else w.2.2.2 n, zE g (n + 1, TG0, mkF F, fun k => if k = n then q else w.2.2.2 k) M n)]
  rw [if_pos rfl, he]
theorem adE_new {w : zW} {n q : Nat} {F : Nat → Nat → Bool} : adE n w (n + 1, TG0, mkF F, fun k => if k = n then q else w.2.2.2 k) := fun k hk => if_neg (by omega)
section XC
variable {α : Type} {C : zC} {w : zW} {cs : Nat × Nat} {cc : ByteArray} {nL : Nat} {own : String} {pc n : Nat} {F : Nat → Nat → Bool} {lv : List (Nat × (Nat ⊕ Int32))} {st : List (Nat ⊕ Int32)} {M : zM} {X : Option α} {K : α → Prop}
/-- the words of making an object of class c -/
def lkC (own : String) (i c : Nat) : Prop := ∃ (Cn : String) (T : u_T) (N : Nat) (ty0 : Nat → FieldType), vwCl[c]? = some (Cn, T, N) ∧ (∀ w ∈ u_ws Cn T N, w ∈ lw_g) ∧ (∀ k, k < N → parseFieldDescriptor (T k).2.2.1 = some (ty0 k)) ∧ zNf c = N ∧ Cond.classLink own i Cn ∈ lw_g ∧ Cond.instantiable Cn N ∈ lw_g ∧ Cond.initialized Cn ∈ lw_g ∧ ∀ j, j < N → defaultValue (ty0 j) = if zIf c j = true then .int 0 else .null
theorem c_new (hC : Cok C cc nL own) {i c : Nat} (hd : decode cc pc = .ok (.new i, 3)) (lk : lkC own i c) (hw : cW w n F) (hwf : wfF n F) (hn : TG0 n = (c + 3, 0)) (hF : ∀ j, F n j = false) (hz : C.2.2.2.1 n = true) (hM : M n = fun _ => 0) (hl : okC n (lv.map (·.2))) (hs : okC n st) (hr1 : cs.1 + 1 ≤ C.1.2.2.2.1.cells) (hr2 : cs.2 + zNf c ≤ C.1.2.2.2.1.slots)
    (k : ∀ w1, cW w1 (n + 1) F → adE n w w1 → Sg C w1 (cs.1 + 1, cs.2 + zNf c) (pc + 3) (lvO w1 lv) (stO w1 (.inl n :: st)) M X K) : Sg C w cs pc (lvO w lv) (stO w st) M X K := by
  intro y hy hK H locs ls hP hD hS hl0
  obtain ⟨Cn, T, N, ty0, h1, h2, h3, h5, h6, h7, h8, h9⟩ := lk
  subst h5
  refine va_new (fs := zF w c (fun _ => none) (fun _ => 0)) hC.1 hC.2.1 hC.2.2.2.2.1 h2 ty0 h3 hC.2.2.2.1 (hC.2.2.2.2.1 _ h6) (hC.2.2.2.2.1 _ h7) (hC.2.2.2.2.1 _ h8) hC.2.2.2.2.2.1 hP hD hS (fun q hq => Nat.le_trans hC.2.2.2.2.2.2.2.1 hq) h1 ?_ hr1 hr2 hd (fun q H1 hP1 hD1 hS1 => ?_)
  · intro j hj
    rw [h9 j hj]
    unfold vp_V
    rw [List.getD_eq_getElem?_getD]
    by_cases hi : zIf c j = true
    · rw [if_pos hi, zF_int hj hi]; rfl
    · rw [if_neg hi]
      simp [zF, hj, hi, zRf, va_rf]
  · have he : zE C.2.2.1 (n + 1, TG0, mkF F, fun k => if k = n then q else w.2.2.2 k) (zB C.2.2.2.1 C.2.2.2.2 M) n = .inr (c, zF w c (fun _ => none) (fun _ => 0)) := by
      rw [zE_obj (show (TG0 n).1 = c + 3 by rw [hn]), zB_in hz, hM]
      have e2 : mkF F n = fun _ => none := by
        funext j
        unfold mkF
        rw [if_neg (by rw [hF j]; decide)]
      show Sum.inr (c, zF _ c (mkF F n) _) = _
      rw [e2]
      congr 2
    rw [zS_grow hw hwf he] at hP1 hD1
    have := k (n + 1, TG0, mkF F, fun k => if k = n then q else w.2.2.2 k) ⟨rfl, rfl, rfl⟩ adE_new y hy hK H1 locs ls hP1 hD1 hS1 (by rw [lvO_eq adE_new hl]; exact hl0)
    have e3 : stO (n + 1, TG0, mkF F, fun k => if k = n then q else w.2.2.2 k) (.inl n :: st) = .ref q :: stO w st := by
      show (Value.ref (if n = n then q else w.2.2.2 n)) :: stO _ st = _
      rw [if_pos rfl, stO_eq adE_new hs]
    rw [e3] at this
    exact this
theorem c_newa (hC : Cok C cc nL own) {v : Int32} {N : Nat} (hd : decode cc pc = .ok (.newarray .int, 2)) (hac : Cond.arrayClass .int ∈ lw_g) (hw : cW w n F) (hwf : wfF n F) (hn : TG0 n = (0, N)) (hF : ∀ j, F n j = false) (hz : C.2.2.2.1 n = true) (hM : M n = fun _ => 0) (hv : ¬ v < 0) (hN : v.toNatClampNeg = N) (hb : N * 4 ≤ 536870912) (hl : okC n (lv.map (·.2))) (hs : okC n st) (hr1 : cs.1 + 1 ≤ C.1.2.2.2.1.cells) (hr2 : cs.2 + N ≤ C.1.2.2.2.1.slots)
    (k : ∀ w1, cW w1 (n + 1) F → adE n w w1 → Sg C w1 (cs.1 + 1, cs.2 + N) (pc + 2) (lvO w1 lv) (stO w1 (.inl n :: st)) M X K) : Sg C w cs pc (lvO w lv) (stO w (.inr v :: st)) M X K := by
  intro y hy hK H locs ls hP hD hS hl0
  refine va_newa (a0 := (N, .inl fun _ => 0)) hC.1 hC.2.1 (atype := .int) (hC.2.2.2.2.1 _ hac) rfl hC.2.2.2.2.2.1 hP hD hS (fun q hq => Nat.le_trans hC.2.2.2.2.2.2.2.1 hq) (fun cA => rfl) hv hN hb hr1 hr2 hd (fun q cA H1 hK1 hP1 hD1 hS1 => ?_)
  have hcA : cA = C.2.2.1.2.2.1 0 := by
    have a1 := (hK1.2 3 (cA, .int) (by simp [zT]; rfl)).2
    have a2 := (hC.2.2.2.2.2.1.2 0 _ (zT0 _)).2
    exact Option.some.inj (a1.symm.trans a2)
  subst hcA
  have he : zE C.2.2.1 (n + 1, TG0, mkF F, fun k => if k = n then q else w.2.2.2 k) (zB C.2.2.2.1 C.2.2.2.2 M) n = .inl (C.2.2.1.2.2.1 0, N, .inl fun _ => 0) := by
    rw [zE_arr (show TG0 n = (0, N) from hn), zB_in hz, hM]
  rw [zS_grow hw hwf he] at hP1 hD1
  have := k (n + 1, TG0, mkF F, fun k => if k = n then q else w.2.2.2 k) ⟨rfl, rfl, rfl⟩ adE_new y hy hK H1 locs ls hP1 hD1 hS1 (by rw [lvO_eq adE_new hl]; exact hl0)
  have e3 : stO (n + 1, TG0, mkF F, fun k => if k = n then q else w.2.2.2 k) (.inl n :: st) = .ref q :: stO w st := by
    show (Value.ref (if n = n then q else w.2.2.2 n)) :: stO _ st = _
    rw [if_pos rfl, stO_eq adE_new hs]
  rw [e3] at this
  exact this
/-- arrays of references: t 1 Square, 2 Walker -/
theorem c_newq (hC : Cok C cc nL own) {v : Int32} {N i t : Nat} {Cn : String} (hd : decode cc pc = .ok (.anewarray i, 3)) (ht : (zT C.2.2.1)[t]? = some (C.2.2.1.2.2.1 t, .object Cn)) (ht2 : t = 1 ∨ t = 2) (hcl : Cond.classLink own i Cn ∈ lw_g) (hao : va_AO Cn C.1.2.2.2.2.1) (hw : cW w n F) (hwf : wfF n F) (hn : TG0 n = (t, N)) (hF : ∀ j, F n j = false) (hv : ¬ v < 0) (hN : v.toNatClampNeg = N) (hb : N * 4 ≤ 536870912) (hl : okC n (lv.map (·.2))) (hs : okC n st) (hr1 : cs.1 + 1 ≤ C.1.2.2.2.1.cells) (hr2 : cs.2 + N ≤ C.1.2.2.2.1.slots)
    (k : ∀ w1, cW w1 (n + 1) F → adE n w w1 → Sg C w1 (cs.1 + 1, cs.2 + N) (pc + 3) (lvO w1 lv) (stO w1 (.inl n :: st)) M X K) : Sg C w cs pc (lvO w lv) (stO w (.inr v :: st)) M X K := by
  intro y hy hK H locs ls hP hD hS hl0
  refine va_newq hC.1 hC.2.1 hC.2.2.2.1 (hC.2.2.2.2.1 _ hcl) hao hC.2.2.2.2.2.1 hP hD hS (fun q hq => Nat.le_trans hC.2.2.2.2.2.2.2.1 hq) hv hN hb hr1 hr2 hd (fun q cA H1 hK1 hP1 hD1 hS1 => ?_)
  have hcA : cA = C.2.2.1.2.2.1 t := by
    obtain ⟨_, _, -, -, -, a1⟩ := (hK1.2 3 (cA, .object Cn) (by simp [zT])).2
    obtain ⟨_, _, -, -, -, a2⟩ := (hC.2.2.2.2.2.1.2 t _ ht).2
    exact Option.some.inj (a1.symm.trans a2)
  subst hcA
  have e2 : (fun i => zRf (n + 1, TG0, mkF F, fun k => if k = n then q else w.2.2.2 k) (mkF F n i)) = fun _ => none := by
    funext j
    unfold mkF
    rw [if_neg (by rw [hF j]; decide)]
    rfl
  have he : zE C.2.2.1 (n + 1, TG0, mkF F, fun k => if k = n then q else w.2.2.2 k) (zB C.2.2.2.1 C.2.2.2.2 M) n = .inl (C.2.2.1.2.2.1 t, N, .inr (.inr (.inr (.inr fun _ => none)))) := by
    rcases ht2 with rfl | rfl
    · rw [zE_arS (show TG0 n = (1, N) from hn)]
      show Sum.inl (_, N, Sum.inr (Sum.inr (Sum.inr (Sum.inr fun i => zRf _ (mkF F n i))))) = _
      rw [e2]
    · rw [zE_arW (show TG0 n = (2, N) from hn)]
      show Sum.inl (_, N, Sum.inr (Sum.inr (Sum.inr (Sum.inr fun i => zRf _ (mkF F n i))))) = _
      rw [e2]
  rw [zS_grow hw hwf he] at hP1 hD1
  have := k (n + 1, TG0, mkF F, fun k => if k = n then q else w.2.2.2 k) ⟨rfl, rfl, rfl⟩ adE_new y hy hK H1 locs ls hP1 hD1 hS1 (by rw [lvO_eq adE_new hl]; exact hl0)
  have e3 : stO (n + 1, TG0, mkF F, fun k => if k = n then q else w.2.2.2 k) (.inl n :: st) = .ref q :: stO w st := by
    show (Value.ref (if n = n then q else w.2.2.2 n)) :: stO _ st = _
    rw [if_pos rfl, stO_eq adE_new hs]
  rw [e3] at this
  exact this
def fU (F : Nat → Nat → Bool) (a j : Nat) : Nat → Nat → Bool := fun k i => F k i || (decide (k = a) && decide (i = j))
theorem fU_ne {F : Nat → Nat → Bool} {a j k : Nat} (h : k ≠ a) : mkF (fU F a j) k = mkF F k := by
  funext i
  simp [mkF, fU, h]
theorem zF_setR {w : zW} {c j r : Nat} {R R' : Nat → Option Nat} {V : Nat → Int32} (hi : zIf c j = false) (hr : R' j = some r) (ho : ∀ i, i ≠ j → R' i = R i) : (zF w c R V).set j (zr w r) = zF w c R' V := by
  apply List.ext_getElem?
  intro k
  rw [List.getElem?_set]
  by_cases hk : j = k
  · subst hk
    rw [if_pos rfl, zF_len]
    by_cases h : j < zNf c
    · rw [if_pos h, zF_ref h hi hr]
    · rw [if_neg h]; simp [zF, h]
  · rw [if_neg hk]
    by_cases h : k < zNf c
    · simp [zF, h, ho k (fun e => hk e.symm)]
    · simp [zF, h]
theorem c_putR (hC : Cok C cc nL own) {i c j a r : Nat} {ty : FieldType} (hd : decode cc pc = .ok (.putfield i, 3)) (lk : lkF own i c j true ty) (hown : ∀ Cn T N, vwCl[c]? = some (Cn, T, N) → (T j).1 = own) (hin : C.1.2.2.2.2.2.2.2.2.1.name = "<init>") (hi : zIf c j = false) (hw : cW w n F) (ha : a < n) (hT : (TG0 a).1 = c + 3) (hr : RF0 a j = some r) (hty : ∀ q : Nat, narrow ty (.ref q) = .ref q ∧ fits ty (.ref q) = true)
    (k : ∀ w1, cW w1 n (fU F a j) → adE n w w1 → Sg C w1 cs (pc + 3) (lvO w1 lv) (stO w1 st) M X K) : Sg C w cs pc (lvO w lv) (stO w (.inl r :: .inl a :: st)) M X K := by
  intro y hy hK H locs ls hP hD hS hl
  obtain ⟨Cn, T, N, ty0, h1, h2, h3, h4, h5, h6, h7, h8, h9⟩ := lk
  have e := zS_get (g := C.2.2.1) (M := zB C.2.2.2.1 C.2.2.2.2 M) (show a < w.1 by rw [hw.1]; exact ha)
  rw [zE_obj (show (w.2.1 a).1 = c + 3 by rw [hw.2.1]; exact hT)] at e
  have hset : (zS C.2.2.1 w (zB C.2.2.2.1 C.2.2.2.2 M)).set a (w.2.2.2 a, .inr (c, (zF w c (w.2.2.1 a) (zB C.2.2.2.1 C.2.2.2.2 M a)).set j (zr w r))) = zS C.2.2.1 (n, TG0, mkF (fU F a j), w.2.2.2) (zB C.2.2.2.1 C.2.2.2.2 M) := by
    refine zS_set hw.1.symm rfl ?_ ?_
    · rw [zE_obj (w := (n, TG0, mkF (fU F a j), w.2.2.2)) hT]
      rw [zF_setR (R' := mkF (fU F a j) a) hi (by simp [mkF, fU, hr]) (fun q hq => by rw [hw.2.2]; simp [mkF, fU, hq])]
      congr 2
    · intro q hq
      refine zE_ad ?_ ?_ ?_
      · show TG0 q = w.2.1 q
        rw [hw.2.1]
      · show mkF (fU F a j) q = w.2.2.1 q
        rw [hw.2.2, fU_ne hq]
      · intro _ _ _; rfl
  refine va_putF hC.1 hC.2.1 hC.2.2.2.2.1 h2 ty0 h3 h4 hC.2.2.2.1 hC.2.2.2.2.2.1 hP hD hS a e h1 j h6 (hC.2.2.2.2.1 _ h7) (fun _ h => h) h8 hin (hown _ _ _ h1) (ty := ty) (v := zr w r) (by rw [← h9]; exact h3 j h6) (hty _).1 (hty _).2 (by rw [zF_len, h5]; exact h6) hd (fun H1 locs1 hP1 hD1 hS1 => ?_)
  rw [hset] at hP1 hD1
  exact k (n, TG0, mkF (fU F a j), w.2.2.2) ⟨rfl, rfl, rfl⟩ (fun _ _ => rfl) y hy hK H1 locs1 ls hP1 hD1 hS1 hl
/-- a reference into an array: t 1 Square, 2 Walker -/
theorem c_aast (hC : Cok C cc nL own) {a r t c N0 N : Nat} {Cn : String} {T : u_T} {v : Int32} (hd : decode cc pc = .ok (.aastore, 1)) (ht : (zT C.2.2.1)[t]? = some (C.2.2.1.2.2.1 t, .object Cn)) (ht2 : t = 1 ∨ t = 2) (hc : vwCl[c]? = some (Cn, T, N0)) (hw : cW w n F) (ha : a < n) (hT : TG0 a = (t, N)) (hrn : r < n) (hTr : (TG0 r).1 = c + 3) (hv : inb v N) (hr : RF0 a (ix v) = some r)
    (k : ∀ w1, cW w1 n (fU F a (ix v)) → adE n w w1 → Sg C w1 cs (pc + 1) (lvO w1 lv) (stO w1 st) M X K) : Sg C w cs pc (lvO w lv) (stO w (.inl r :: .inr v :: .inl a :: st)) M X K := by
  intro y hy hK H locs ls hP hD hS hl
  have e := zS_get (g := C.2.2.1) (M := zB C.2.2.2.1 C.2.2.2.2 M) (show a < w.1 by rw [hw.1]; exact ha)
  have e2 := zS_get (g := C.2.2.1) (M := zB C.2.2.2.1 C.2.2.2.2 M) (show r < w.1 by rw [hw.1]; exact hrn)
  rw [zE_obj (show (w.2.1 r).1 = c + 3 by rw [hw.2.1]; exact hTr)] at e2
  have he : zE C.2.2.1 w (zB C.2.2.2.1 C.2.2.2.2 M) a = .inl (C.2.2.1.2.2.1 t, N, .inr (.inr (.inr (.inr fun i => zRf w (w.2.2.1 a i))))) := by
    rcases ht2 with rfl | rfl
    · exact zE_arS (by rw [hw.2.1]; exact hT)
    · exact zE_arW (by rw [hw.2.1]; exact hT)
  rw [he] at e
  have hset : (zS C.2.2.1 w (zB C.2.2.2.1 C.2.2.2.2 M)).set a (w.2.2.2 a, .inl (C.2.2.1.2.2.1 t, N, .inr (.inr (.inr (.inr (va_up (fun i => zRf w (w.2.2.1 a i)) v.toNatClampNeg (some (w.2.2.2 r)))))))) = zS C.2.2.1 (n, TG0, mkF (fU F a (ix v)), w.2.2.2) (zB C.2.2.2.1 C.2.2.2.2 M) := by
    refine zS_set hw.1.symm rfl ?_ ?_
    · have e4 : (fun i => zRf (n, TG0, mkF (fU F a (ix v)), w.2.2.2) (mkF (fU F a (ix v)) a i)) = va_up (fun i => zRf w (w.2.2.1 a i)) v.toNatClampNeg (some (w.2.2.2 r)) := by
        funext i
        unfold va_up
        by_cases hi : i = v.toNatClampNeg
        · subst hi
          rw [if_pos rfl]
          simp [mkF, fU, hr, zRf]
        · rw [if_neg hi, hw.2.2]
          simp [mkF, fU, hi, zRf]
      rcases ht2 with rfl | rfl
      · rw [zE_arS (show ((n, TG0, mkF (fU F a (ix v)), w.2.2.2) : zW).2.1 a = (1, N) from hT)]
        exact congrArg (fun f => Sum.inl (C.2.2.1.2.2.1 1, N, Sum.inr (Sum.inr (Sum.inr (Sum.inr f))))) e4
      · rw [zE_arW (show ((n, TG0, mkF (fU F a (ix v)), w.2.2.2) : zW).2.1 a = (2, N) from hT)]
        exact congrArg (fun f => Sum.inl (C.2.2.1.2.2.1 2, N, Sum.inr (Sum.inr (Sum.inr (Sum.inr f))))) e4
    · intro q hq
      refine zE_ad ?_ ?_ ?_
      · show TG0 q = w.2.1 q
        rw [hw.2.1]
      · show mkF (fU F a (ix v)) q = w.2.2.1 q
        rw [hw.2.2, fU_ne hq]
      · intro _ _ _; rfl
  refine va_astq hC.1 hC.2.1 hC.2.2.2.2.2.1 hP hD hS a t r c (r := (Cn, T, N0)) e ht e2 hc hv hd (fun H1 locs1 hP1 hD1 hS1 => ?_)
  rw [hset] at hP1 hD1
  exact k (n, TG0, mkF (fU F a (ix v)), w.2.2.2) ⟨rfl, rfl, rfl⟩ (fun _ _ => rfl) y hy hK H1 locs1 ls hP1 hD1 hS1 hl
theorem c_oinit (hC : Cok C cc nL own) {i a : Nat} (hd : decode cc pc = .ok (.invokespecial i, 3)) (hl1 : Cond.methodLink own i objectInit ∈ lw_g) (hl2 : Cond.instanceMethod objectInit ∈ lw_g) (hl3 : Cond.code objectInit ⟨#[0xb1]⟩ 1 none ∈ lw_g) (hf : 1 ≤ C.1.2.2.2.1.frames) (hlo : (((stO w st).map fun v => v.category).sum) + 12 ≤ C.1.2.2.2.1.locals) (k : Sg C w cs (pc + 3) (lvO w lv) (stO w st) M X K) : Sg C w cs pc (lvO w lv) (stO w (.inl a :: st)) M X K := by
  intro y hy hK H locs ls hP hD hS hl
  refine W.objInit hC.1 hC.2.1 hC.2.2.2.1 (hC.2.2.2.2.1 _ hl1) (hC.2.2.2.2.1 _ hl2) (hC.2.2.2.2.1 _ hl3) rfl hl.1 rfl hd hf (by show 2 * 0 + ((stO w st).map fun v => v.category).sum + 12 ≤ _; omega) (k y hy hK H locs ls hP hD hS hl)
end XC
