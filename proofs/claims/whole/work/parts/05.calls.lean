/-! ===== loops ===== -/
def loopN {σ ρ : Type} (B : σ → Option (σ ⊕ ρ)) : Nat → σ → Option ρ
  | 0, _ => none
  | n + 1, s => match B s with
    | none => none
    | some (.inl s') => loopN B n s'
    | some (.inr r) => some r
theorem loopN_up {σ ρ : Type} {B : σ → Option (σ ⊕ ρ)} : ∀ {n : Nat} {s : σ} {r : ρ}, loopN B n s = some r → loopN B (n + 1) s = some r := by
  intro n
  induction n with
  | zero => intro s r h; cases h
  | succ n ih =>
    intro s r h
    rw [loopN] at h ⊢
    cases hb : B s with
    | none => rw [hb] at h; cases h
    | some o =>
      rw [hb] at h
      cases o with
      | inl s' => exact ih h
      | inr r' => exact h
theorem loopN_le {σ ρ : Type} {B : σ → Option (σ ⊕ ρ)} {n m : Nat} {s : σ} {r : ρ} (hm : n ≤ m) (h : loopN B n s = some r) : loopN B m s = some r := by
  induction hm with
  | refl => exact h
  | step _ ih => exact loopN_up ih
theorem loopN_det {σ ρ : Type} {B : σ → Option (σ ⊕ ρ)} {n m : Nat} {s : σ} {r r' : ρ} (h : loopN B n s = some r) (h' : loopN B m s = some r') : r = r' := by
  rcases Nat.le_total n m with q | q
  · exact Option.some.inj ((loopN_le q h).symm.trans h')
  · exact Option.some.inj (h.symm.trans (loopN_le q h'))
noncomputable def loopW {σ ρ : Type} (B : σ → Option (σ ⊕ ρ)) (s : σ) : Option ρ :=
  @dite _ (∃ (r : ρ) (n : Nat), loopN B n s = some r) (Classical.propDecidable _) (fun h => some (Classical.choose h)) (fun _ => none)
theorem loopW_iff {σ ρ : Type} {B : σ → Option (σ ⊕ ρ)} {s : σ} {r : ρ} : loopW B s = some r ↔ ∃ n, loopN B n s = some r := by
  unfold loopW
  by_cases h : ∃ (r : ρ) (n : Nat), loopN B n s = some r
  · rw [dif_pos h]
    obtain ⟨n, hn⟩ := Classical.choose_spec h
    constructor
    · intro e; exact ⟨n, by rw [hn]; exact e⟩
    · intro ⟨m, hm⟩; rw [loopN_det hn hm]
  · rw [dif_neg h]
    constructor
    · intro e; cases e
    · intro ⟨n, hn⟩; exact absurd ⟨r, n, hn⟩ h
theorem loopW_eq {σ ρ : Type} (B : σ → Option (σ ⊕ ρ)) (s : σ) : loopW B s = match B s with
    | none => none
    | some (.inl s') => loopW B s'
    | some (.inr r) => some r := by
  cases hb : B s with
  | none =>
    cases hl : loopW B s with
    | none => rfl
    | some r =>
      obtain ⟨n, hn⟩ := loopW_iff.mp hl
      cases n with
      | zero => cases hn
      | succ n => rw [loopN, hb] at hn; cases hn
  | some o =>
    cases o with
    | inr r => exact loopW_iff.mpr ⟨1, by rw [loopN, hb]⟩
    | inl s' =>
      show loopW B s = loopW B s'
      cases hl : loopW B s' with
      | some r =>
        obtain ⟨n, hn⟩ := loopW_iff.mp hl
        exact loopW_iff.mpr ⟨n + 1, by rw [loopN, hb]; exact hn⟩
      | none =>
        cases hl2 : loopW B s with
        | none => rfl
        | some r =>
          obtain ⟨n, hn⟩ := loopW_iff.mp hl2
          cases n with
          | zero => cases hn
          | succ n =>
            rw [loopN, hb] at hn
            rw [loopW_iff.mpr ⟨n, hn⟩] at hl
            cases hl
/-! ===== a method from its entry; returns ===== -/
def rmd (d : Nat) : Room := { frames := d, cells := 0, slots := 0, locals := 64 * d }
abbrev wM (y : MethodName) (cc : ByteArray) (nL : Nat) (ret : Option FieldType) : List Cond := .code y cc nL ret :: lw_g
def zUp (g : zG) (w : zW) (M : zM) (U : State) : Prop := va_P g.2.1 vwCl (zS g w M) U.heap ∧ va_D (zA g) (zS g w M) ∧ va_K g.2.1 vwCl (zT g) U ∧ zSt g U U.heap ∧ g.1 ≤ U.heap.size ∧ zNs g U
def zQ (g : zG) (w : zW) (M : zM) (r : Option Value) : Array Value → State → Outcome → State → Prop := fun _ st o t => o = .returned r ∧ va_P g.2.1 vwCl (zS g w M) t.heap ∧ va_D (zA g) (zS g w M) ∧ va_F (zA g) st t
/-- the contract of a method: with these arguments on this memory it answers r, and the memory is M' -/
def zMet (l : Launch) (y : MethodName) (cc : ByteArray) (nL : Nat) (ret : Option FieldType) (d : Nat) (g : zG) (w : zW) (zn : Nat → Bool) (M0 : zM) (as : List Value) (M : zM) (r : Option Value) (M' : zM) : Prop :=
  Met l y (wM y cc nL ret) (rmd d) (va_Pc as (zUp g w (zB zn M0 M))) (zQ g w (zB zn M0 M') r) 0 0 (zA g)
/-- what a body has at hand -/
def zBd (C : zC) (cc : ByteArray) (nL : Nat) (own : String) (d : Nat) (g : zG) (zn : Nat → Bool) (l : Launch) : Prop := Cok C cc nL own ∧ C.1.2.2.2.1 = rmd d ∧ C.2.2.1 = g ∧ C.2.2.2.1 = zn ∧ C.1.2.1 = l
def RtI (C : zC) (cc : ByteArray) (w : zW) (v : Int32) (M : zM) : Prop := ∀ (pc : Nat) (lv : List (Nat × Value)), decode cc pc = .ok (.ireturn, 1) → Zs C w (0, 0) pc lv [.int v] M
def RtV (C : zC) (cc : ByteArray) (w : zW) (M : zM) : Prop := ∀ (pc : Nat) (lv : List (Nat × Value)), decode cc pc = .ok (.return_, 1) → Zs C w (0, 0) pc lv [] M
theorem met_i {l : Launch} {y : MethodName} {cc : ByteArray} {nL : Nat} {ty : FieldType} {d : Nat} {g : zG} {w : zW} {zn : Nat → Bool} {M0 M M' : zM} {as : List Value} {v : Int32} (hy : plainName y.cls = true) (hf : (lg_sl as).length ≤ nL) (hn : narrow ty (.int v) = .int v)
    (h : ∀ C : zC, zBd C cc nL y.cls d g zn l → RtI C cc w v M' → Zs C w (0, 0) 0 (lv_args 0 as) [] M) : zMet l y cc nL (some ty) d g w zn M0 as M (some (.int v)) M' := by
  refine Met.ofW (cc := cc) (maxL := nL) (ret := some ty) hy rfl ?_
  intro p e s m args below meth c s₁ B hml hv
  obtain ⟨rfl, hP, hD, hK, hst, hsz, hns⟩ := hv
  have hl := lv_entry as (n := nL) hf
  rw [lg_entry_eq]
  have hts := atoms_spec (ws := wM y cc nL (some ty)) B.pre
  have hlocks := B.notSynchronized
  refine h ((p, l, e, (headSpec (wM y cc nL (some ty)) (rmd d)).room, s, m, as.toArray, below, meth, c), MQ below (zQ g w (zB zn M0 M') (some (.int v))) as.toArray s 0 0 (zA g), g, zn, M0) ⟨⟨B.exec, B.bytes, hml, findClass_of_methodNamed B.named, fun w hw => hts w (List.mem_cons_of_mem _ hw), hK, hst, hsz, hns⟩, rfl, rfl, rfl, rfl⟩ ?_ s.heap [] _ hP hD va_S.rf ?_
  · intro pc lv hd H locs ls hP hD hS hl
    exact W.zret B.exec B.bytes B.returns hn (fun t ht hW => ⟨rfl, by rw [ht]; exact hP, hD, hS.F ht⟩) hS.2.2 hd
  · show lv_has _ c.maxLocals _
    rw [hml]
    exact hl
theorem met_v {l : Launch} {y : MethodName} {cc : ByteArray} {nL : Nat} {d : Nat} {g : zG} {w : zW} {zn : Nat → Bool} {M0 M M' : zM} {as : List Value} (hy : plainName y.cls = true) (hf : (lg_sl as).length ≤ nL)
    (h : ∀ C : zC, zBd C cc nL y.cls d g zn l → RtV C cc w M' → Zs C w (0, 0) 0 (lv_args 0 as) [] M) : zMet l y cc nL none d g w zn M0 as M none M' := by
  refine Met.ofW (cc := cc) (maxL := nL) (ret := none) hy rfl ?_
  intro p e s m args below meth c s₁ B hml hv
  obtain ⟨rfl, hP, hD, hK, hst, hsz, hns⟩ := hv
  have hl := lv_entry as (n := nL) hf
  rw [lg_entry_eq]
  have hts := atoms_spec (ws := wM y cc nL none) B.pre
  have hlocks := B.notSynchronized
  refine h ((p, l, e, (headSpec (wM y cc nL none) (rmd d)).room, s, m, as.toArray, below, meth, c), MQ below (zQ g w (zB zn M0 M') none) as.toArray s 0 0 (zA g), g, zn, M0) ⟨⟨B.exec, B.bytes, hml, findClass_of_methodNamed B.named, fun w hw => hts w (List.mem_cons_of_mem _ hw), hK, hst, hsz, hns⟩, rfl, rfl, rfl, rfl⟩ ?_ s.heap [] _ hP hD va_S.rf ?_
  · intro pc lv hd H locs ls hP hD hS hl
    exact W.vret B.exec B.bytes B.returns (fun t ht hW => ⟨rfl, by rw [ht]; exact hP, hD, hS.F ht⟩) hS.2.2 hd
  · show lv_has _ c.maxLocals _
    rw [hml]
    exact hl
section XL
variable {α : Type} {C : zC} {w : zW} {n : Nat × Nat} {cc : ByteArray} {nL : Nat} {own : String} {pc : Nat} {lv : List (Nat × Value)} {st : List Value} {M : zM} {X Y : Option α} {K : α → Prop}
theorem x_loop {σ : Type} {B : σ → Option (σ ⊕ α)} (LV : σ → List (Nat × Value)) (MM : σ → zM) (hB : ∀ s, Sg C w n pc (LV s) st (MM s) (B s) (fun o => Sum.elim (fun s' => Zs C w n pc (LV s') st (MM s')) K o)) (s : σ) : Sg C w n pc (LV s) st (MM s) (loopW B s) K := by
  intro a ha hK
  obtain ⟨k, hk⟩ := loopW_iff.mp ha
  clear ha
  induction k generalizing s with
  | zero => cases hk
  | succ k ih =>
    rw [loopN] at hk
    cases hb : B s with
    | none => rw [hb] at hk; cases hk
    | some o =>
      rw [hb] at hk
      cases o with
      | inl s' => exact hB s _ hb (ih s' hk)
      | inr r => cases hk; exact hB s _ hb hK
/-- a loop, and what comes behind its end -/
theorem x_loopB {σ ρ : Type} {B : σ → Option (σ ⊕ ρ)} {f : ρ → Option α} {pc2 : Nat} (LV : σ → List (Nat × Value)) (MM : σ → zM) (LX : ρ → List (Nat × Value)) (MX : ρ → zM) (s : σ) (hB : ∀ s, Sg C w n pc (LV s) st (MM s) (B s) (fun o => Sum.elim (fun s' => Zs C w n pc (LV s') st (MM s')) (fun r => Zs C w n pc2 (LX r) st (MX r)) o)) (hf : ∀ r, Sg C w n pc2 (LX r) st (MX r) (f r) K) : Sg C w n pc (LV s) st (MM s) ((loopW B s).bind f) K :=
  x_bind (x_loop LV MM hB s) (fun r _ a ha hK => hf r a ha hK)
/-- a loop that may end the method as well -/
theorem x_loopR {σ ρ : Type} {B : σ → Option (σ ⊕ (ρ ⊕ α))} {f : ρ → Option α} {pc2 : Nat} (LV : σ → List (Nat × Value)) (MM : σ → zM) (LX : ρ → List (Nat × Value)) (MX : ρ → zM) (s : σ) (hB : ∀ s, Sg C w n pc (LV s) st (MM s) (B s) (fun o => Sum.elim (fun s' => Zs C w n pc (LV s') st (MM s')) (fun q => Sum.elim (fun r => Zs C w n pc2 (LX r) st (MX r)) K q) o)) (hf : ∀ r, Sg C w n pc2 (LX r) st (MX r) (f r) K) : Sg C w n pc (LV s) st (MM s) ((loopW B s).bind (fun q => Sum.elim f some q)) K := by
  refine x_bind (x_loop LV MM hB s) (fun q _ a ha hK => ?_)
  cases q with
  | inl r => exact hf r a ha hK
  | inr b => cases ha; exact hK
/-! ===== calls ===== -/
theorem zblind {g : zG} {w : zW} {M : zM} {as : List Value} : FrameBlind (va_Pc as (zUp g w M)) := by
  intro a U g' mk q
  obtain ⟨q0, qP, qD, qK, qS, qz, qn⟩ := q
  exact ⟨q0, qP, qD, va_K.moved (u := U) (U := U.calling g' mk a) (Vm.Alike.refl U.vm) qK, zSt.moved (u := U) (U := U.calling g' mk a) (Vm.Alike.refl U.vm) qS, qz, zNs.same (s := U) (U := U.calling g' mk a) rfl qn⟩
theorem zready (hC : Cok C cc nL own) {as : List Value} {H : Heap} {locs : List Loc} {U : State} (hP : va_P C.2.2.1.2.1 vwCl (zS C.2.2.1 w M) H) (hD : va_D (zA C.2.2.1) (zS C.2.2.1 w M)) (hS : va_S (zA C.2.2.1) C.1.2.2.2.2.1.heap H locs) (hU : U.heap = H) (hW : C.1.2.2.2.2.1.WarmedH U.vm) : va_Pc as (zUp C.2.2.1 w M) as.toArray U := by
  obtain ⟨-, -, -, -, -, hK, hst, hsz, hns⟩ := hC
  refine ⟨rfl, by rw [hU]; exact hP, hD, va_K.moved hW.alike hK, ?_, by rw [hU]; exact Nat.le_trans hsz hS.1, hns.warm hW⟩
  rw [hU]
  exact (hst.kept hS.2.1).moved hW.alike
theorem x_ran {rest st0 : List Value} {mk : Option Value} {a : Array Value} {M' : zM} {H : Heap} {locs : List Loc} {ls : Array Slot} (hr : va_Run C.1.1 C.1.2.1 C.1.2.2.1 C.1.2.2.2.1 C.1.2.2.2.2.1 C.1.2.2.2.2.2.1 C.1.2.2.2.2.2.2.1 C.1.2.2.2.2.2.2.2.1 C.1.2.2.2.2.2.2.2.2.1 C.1.2.2.2.2.2.2.2.2.2 H locs n.1 n.2 0 0 (F0 C.1.2.2.2.2.2.1 pc ls st0) rest (zQ C.2.2.1 w (zB C.2.2.2.1 C.2.2.2.2 M') mk a) (zA C.2.2.1))
    (hS : va_S (zA C.2.2.1) C.1.2.2.2.2.1.heap H locs) (hl : lv_has ls C.1.2.2.2.2.2.2.2.2.2.maxLocals lv) (k : Zs C w n (pc + 3) lv (mk.toList ++ rest) M') :
    W C.1.1 C.1.2.1 C.1.2.2.1 C.1.2.2.2.1 C.1.2.2.2.2.1 C.1.2.2.2.2.2.1 C.1.2.2.2.2.2.2.1 C.1.2.2.2.2.2.2.2.1 C.1.2.2.2.2.2.2.2.2.1 C.1.2.2.2.2.2.2.2.2.2 H locs n.1 n.2 C.2.1 (F0 C.1.2.2.2.2.2.1 pc ls st0) := by
  intro T hT X
  obtain ⟨v, st₀, t, T', L, h0, X', hL, e1, e2, ⟨hv, hP, hD, hz, hk⟩, st⟩ := hr T hT X
  cases hv
  rw [h0] at hz hk
  obtain ⟨t2, a1, b1⟩ := k T'.heap (locs ++ L) ls (by rw [e1]; exact hP) hD ⟨Nat.le_trans hS.1 (by rw [e1]; exact hz), fun q h1 h2 => by rw [e1, hk q (Nat.lt_of_lt_of_le h1 hS.1) h2]; exact hS.2.1 q h1 h2, fun q hq => by
      rcases List.mem_append.mp hq with h | h
      · exact hS.2.2 q h
      · exact hL q h⟩ hl T' rfl X'
  exact ⟨t2, st t2 a1, b1⟩
/-- the words of a call of a method of one's own kind -/
def lkV (own : String) (i : Nat) (y : MethodName) (cc : ByteArray) (mL : Nat) (ret : Option FieldType) (na c : Nat) : Prop :=
  GoodIn lw_g (wsV own i y.cls y (wM y cc mL ret)) ∧ (y.cls ≠ "java/lang/invoke/MethodHandle" ∧ y.cls ≠ "java/lang/invoke/VarHandle" ∧ (parseMethodDescriptor y.desc).map (fun d => d.parameters.length) = some na) ∧ mL ≤ 45 ∧ ∃ T N, vwCl[c]? = some (y.cls, T, N)
def lkS (own : String) (i : Nat) (y : MethodName) (cc : ByteArray) (mL : Nat) (ret : Option FieldType) (na : Nat) : Prop :=
  GoodIn lw_g (va_wsS own i y (wM y cc mL ret)) ∧ (y.cls ≠ "java/lang/invoke/MethodHandle" ∧ y.cls ≠ "java/lang/invoke/VarHandle" ∧ (parseMethodDescriptor y.desc).map (fun d => d.parameters.length) = some na) ∧ mL ≤ 45
theorem rmd_ok {d mL : Nat} (h : mL ≤ 45) (hd : 1 ≤ d) : (rmd (d - 1)).frames + 1 ≤ (rmd d).frames ∧ 8 + (mL + 11) + (rmd (d - 1)).locals ≤ (rmd d).locals := by
  simp only [rmd]
  omega
theorem z_callV {d : Nat} {g : zG} {zn : Nat → Bool} {l : Launch} (hB : zBd C cc nL own d g zn l) {i a c na : Nat} {y : MethodName} {bc : ByteArray} {mL : Nat} {ret : Option FieldType} {as rest st0 : List Value} {r : Option Value} {M' : zM} (hd : decode cc pc = .ok (.invokevirtual i, 3)) (lk : lkV own i y bc mL ret na c) (ha : a < w.1) (hT : (w.2.1 a).1 = c + 3) (h1 : 1 ≤ d) (hn : as.length = na) (hst : st0 = as.reverse ++ zr w a :: rest) (hrm : (rest.map fun v => v.category).sum ≤ 8)
    (hM : zMet l y bc mL ret (d - 1) g w zn C.2.2.2.2 (zr w a :: as) M r M') (hn0 : n = (0, 0)) (k : Zs C w n (pc + 3) lv (r.toList ++ rest) M') : Zs C w n pc lv st0 M := by
  intro H locs ls hP hD hS hl
  obtain ⟨hC, hR, rfl, rfl, rfl⟩ := hB
  obtain ⟨hG, hyd, hmL, T, N, hcl⟩ := lk
  have e := zS_get (g := C.2.2.1) (M := zB C.2.2.2.1 C.2.2.2.2 M) ha
  rw [zE_obj hT] at e
  subst hst
  refine x_ran (va_runV (As := as) (rest := rest) (nL := nL) (C := y.cls) (b := w.2.2.2 a) (ret := ret) ⟨hC.1, hC.2.1, hC.2.2.1, hC.2.2.2.1, hC.2.2.2.2.1⟩ hM (cwV na hC.2.2.2.2.1 hG rfl rfl rfl ⟨rfl, hyd⟩ (by rw [hR]; exact rmd_ok hmL h1)) ⟨zblind, va_recv hC.2.2.2.2.2.1 hP hcl e, fun U hU hW => zready hC hP hD hS hU hW⟩ rfl hn (by rw [hl.1]; exact hC.2.2.1) rfl (lv_room hrm) hd (by rw [hn0]; exact ⟨Nat.zero_le _, Nat.zero_le _⟩)) hS hl k
theorem z_callS {d : Nat} {g : zG} {zn : Nat → Bool} {l : Launch} (hB : zBd C cc nL own d g zn l) {i na : Nat} {y : MethodName} {bc : ByteArray} {mL : Nat} {ret : Option FieldType} {as rest st0 : List Value} {r : Option Value} {M' : zM} (hd : decode cc pc = .ok (.invokestatic i, 3)) (lk : lkS own i y bc mL ret na) (h1 : 1 ≤ d) (hn : as.length = na) (hst : st0 = as.reverse ++ rest) (hrm : (rest.map fun v => v.category).sum ≤ 8)
    (hM : zMet l y bc mL ret (d - 1) g w zn C.2.2.2.2 as M r M') (hn0 : n = (0, 0)) (k : Zs C w n (pc + 3) lv (r.toList ++ rest) M') : Zs C w n pc lv st0 M := by
  intro H locs ls hP hD hS hl
  obtain ⟨hC, hR, rfl, rfl, rfl⟩ := hB
  obtain ⟨hG, hyd, hmL⟩ := lk
  subst hst
  refine x_ran (va_runS (As := as) (rest := rest) (nL := nL) (ret := ret) ⟨hC.1, hC.2.1, hC.2.2.1, hC.2.2.2.1, hC.2.2.2.2.1⟩ hM (va_cwS na hC.2.2.2.2.1 hG rfl rfl rfl hyd (by rw [hR]; exact rmd_ok hmL h1)) ⟨zblind, fun U hU hW => zready hC hP hD hS hU hW⟩ rfl hn (by rw [hl.1]; exact hC.2.2.1) rfl (lv_room hrm) hd (by rw [hn0]; exact ⟨Nat.zero_le _, Nat.zero_le _⟩)) hS hl k
end XL
