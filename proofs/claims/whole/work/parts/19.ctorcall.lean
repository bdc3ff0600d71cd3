/-! ===== contracts of constructors, and their calls ===== -/
def rmc (d mc ms : Nat) : Room := { frames := d, cells := mc, slots := ms, locals := 64 * d }
def zAO (U : State) : Prop := va_AO "WindingSquare$Square" U ∧ va_AO "WindingSquare$Walker" U
def zQC (g : zG) (w : zW) (n n' : Nat) (F' : Nat → Nat → Bool) (M' : zM) : Array Value → State → Outcome → State → Prop := fun _ st o t => o = .returned none ∧ ∃ w1, cW w1 n' F' ∧ adE n w w1 ∧ va_P g.2.1 vwCl (zS g w1 M') t.heap ∧ va_D (zA g) (zS g w1 M') ∧ va_F (zA g) st t
def zMetC (l : Launch) (y : MethodName) (cc : ByteArray) (nL d mc ms : Nat) (g : zG) (zn : Nat → Bool) (M0 : zM) (as : List (Nat ⊕ Int32)) (n : Nat) (F : Nat → Nat → Bool) (M : zM) (n' : Nat) (F' : Nat → Nat → Bool) (M' : zM) : Prop :=
  ∀ w, cW w n F → Met l y (wM y cc nL none) (rmc d mc ms) (va_Pc (stO w as) (fun U => zUp g w (zB zn M0 M) U ∧ zAO U)) (zQC g w n n' F' (zB zn M0 M')) mc ms (zA g)
def zBc (C : zC) (cc : ByteArray) (nL : Nat) (own : String) (d mc ms : Nat) (g : zG) (zn : Nat → Bool) (l : Launch) (M0 : zM) : Prop := Cok C cc nL own ∧ C.1.2.2.2.1 = rmc d mc ms ∧ C.2.2.1 = g ∧ C.2.2.2.1 = zn ∧ C.1.2.1 = l ∧ C.2.2.2.2 = M0 ∧ zAO C.1.2.2.2.2.1 ∧ C.1.2.2.2.2.2.2.2.2.1.name = "<init>"
def RtC (C : zC) (cc : ByteArray) (n : Nat) (w : zW) (n' : Nat) (F' : Nat → Nat → Bool) (M' : zM) (mc ms : Nat) : Prop := ∀ (pc : Nat) (lv : List (Nat × Value)) (w1 : zW), decode cc pc = .ok (.return_, 1) → cW w1 n' F' → adE n w w1 → Zs C w1 (mc, ms) pc lv [] M'
theorem met_c {l : Launch} {y : MethodName} {cc : ByteArray} {nL d mc ms : Nat} {g : zG} {zn : Nat → Bool} {M0 : zM} {as : List (Nat ⊕ Int32)} {n : Nat} {F : Nat → Nat → Bool} {M : zM} {n' : Nat} {F' : Nat → Nat → Bool} {M' : zM} (hy : plainName y.cls = true) (hn : y.name = "<init>") (hf : ∀ w, (lg_sl (stO w as)).length ≤ nL)
    (h : ∀ w, cW w n F → ∀ C : zC, zBc C cc nL y.cls d mc ms g zn l M0 → RtC C cc n w n' F' M' mc ms → Zs C w (0, 0) 0 (lv_args 0 (stO w as)) [] M) : zMetC l y cc nL d mc ms g zn M0 as n F M n' F' M' := by
  intro w hw
  refine Met.ofW (cc := cc) (maxL := nL) (ret := none) hy rfl ?_
  intro p e s m args below meth c s₁ B hml hv
  obtain ⟨rfl, ⟨hP, hD, hK, hst, hsz, hns⟩, hao⟩ := hv
  have hl := lv_entry (stO w as) (n := nL) (hf w)
  rw [lg_entry_eq]
  have hts := atoms_spec (ws := wM y cc nL none) B.pre
  have hlocks := B.notSynchronized
  refine h w hw ((p, l, e, (headSpec (wM y cc nL none) (rmc d mc ms)).room, s, m, (stO w as).toArray, below, meth, c), MQ below (zQC g w n n' F' (zB zn M0 M')) (stO w as).toArray s mc ms (zA g), g, zn, M0) ⟨⟨B.exec, B.bytes, hml, findClass_of_methodNamed B.named, fun w hw => hts w (List.mem_cons_of_mem _ hw), hK, hst, hsz, hns⟩, rfl, rfl, rfl, rfl, rfl, hao, by rw [← hn]; exact (name_of_methodNamed B.named B.method).1⟩ ?_ s.heap [] _ hP hD va_S.rf ?_
  · intro pc lv w1 hd hw1 had H locs ls hP hD hS hl
    exact W.vret B.exec B.bytes B.returns (fun t ht hW => ⟨rfl, w1, hw1, had, by rw [ht]; exact hP, hD, hS.F ht⟩) hS.2.2 hd
  · show lv_has _ c.maxLocals _
    rw [hml]
    exact hl
theorem zblindC {g : zG} {w : zW} {M : zM} {as : List Value} : FrameBlind (va_Pc as (fun U => zUp g w M U ∧ zAO U)) := by
  intro a U g' mk q
  obtain ⟨q0, ⟨qP, qD, qK, qS, qz, qn⟩, qa, qb⟩ := q
  exact ⟨q0, ⟨qP, qD, va_K.moved (u := U) (U := U.calling g' mk a) (Vm.Alike.refl U.vm) qK, zSt.moved (u := U) (U := U.calling g' mk a) (Vm.Alike.refl U.vm) qS, qz, zNs.same (s := U) (U := U.calling g' mk a) rfl qn⟩, va_AO.moved (u := U) (U := U.calling g' mk a) (Vm.Alike.refl U.vm) qa, va_AO.moved (u := U) (U := U.calling g' mk a) (Vm.Alike.refl U.vm) qb⟩
section XD
variable {α : Type} {C : zC} {w : zW} {cs : Nat × Nat} {cc : ByteArray} {nL : Nat} {own : String} {pc n : Nat} {F : Nat → Nat → Bool} {M : zM} {X : Option α} {K : α → Prop}
theorem zreadyC (hC : Cok C cc nL own) (hao : zAO C.1.2.2.2.2.1) {as : List Value} {H : Heap} {locs : List Loc} {U : State} (hP : va_P C.2.2.1.2.1 vwCl (zS C.2.2.1 w M) H) (hD : va_D (zA C.2.2.1) (zS C.2.2.1 w M)) (hS : va_S (zA C.2.2.1) C.1.2.2.2.2.1.heap H locs) (hU : U.heap = H) (hW : C.1.2.2.2.2.1.WarmedH U.vm) : va_Pc as (fun U => zUp C.2.2.1 w M U ∧ zAO U) as.toArray U := by
  obtain ⟨-, h⟩ := zready (as := as) hC hP hD hS hU hW
  exact ⟨rfl, h, va_AO.moved hW.alike hao.1, va_AO.moved hW.alike hao.2⟩
theorem x_ranC {lv : List (Nat × Value)} {rest st0 : List Value} {a : Array Value} {n' mc ms : Nat} {F' : Nat → Nat → Bool} {M' : zM} {H : Heap} {locs : List Loc} {ls : Array Slot} (hr : va_Run C.1.1 C.1.2.1 C.1.2.2.1 C.1.2.2.2.1 C.1.2.2.2.2.1 C.1.2.2.2.2.2.1 C.1.2.2.2.2.2.2.1 C.1.2.2.2.2.2.2.2.1 C.1.2.2.2.2.2.2.2.2.1 C.1.2.2.2.2.2.2.2.2.2 H locs cs.1 cs.2 mc ms (F0 C.1.2.2.2.2.2.1 pc ls st0) rest (zQC C.2.2.1 w n n' F' (zB C.2.2.2.1 C.2.2.2.2 M') a) (zA C.2.2.1))
    (hS : va_S (zA C.2.2.1) C.1.2.2.2.2.1.heap H locs) (hl : lv_has ls C.1.2.2.2.2.2.2.2.2.2.maxLocals lv) (k : ∀ w1, cW w1 n' F' → adE n w w1 → Zs C w1 (cs.1 + mc, cs.2 + ms) (pc + 3) lv rest M') :
    W C.1.1 C.1.2.1 C.1.2.2.1 C.1.2.2.2.1 C.1.2.2.2.2.1 C.1.2.2.2.2.2.1 C.1.2.2.2.2.2.2.1 C.1.2.2.2.2.2.2.2.1 C.1.2.2.2.2.2.2.2.2.1 C.1.2.2.2.2.2.2.2.2.2 H locs cs.1 cs.2 C.2.1 (F0 C.1.2.2.2.2.2.1 pc ls st0) := by
  intro T hT X
  obtain ⟨v, st₀, t, T', L, h0, X', hL, e1, e2, ⟨hv, w1, hw1, had, hP, hD, hz, hk⟩, st⟩ := hr T hT X
  cases hv
  rw [h0] at hz hk
  obtain ⟨t2, a1, b1⟩ := k w1 hw1 had T'.heap (locs ++ L) ls (by rw [e1]; exact hP) hD ⟨Nat.le_trans hS.1 (by rw [e1]; exact hz), fun q h1 h2 => by rw [e1, hk q (Nat.lt_of_lt_of_le h1 hS.1) h2]; exact hS.2.1 q h1 h2, fun q hq => by
      rcases List.mem_append.mp hq with h | h
      · exact hS.2.2 q h
      · exact hL q h⟩ hl T' rfl X'
  exact ⟨t2, st t2 a1, b1⟩
/-- the words of a constructor's call; nest: a private one of a mate -/
def lkI (own : String) (i : Nat) (y : MethodName) (cc : ByteArray) (mL na : Nat) : Prop :=
  Cond.code y cc mL none ∈ lw_g ∧ Cond.initialized y.cls ∈ lw_g ∧ Cond.instanceMethod y ∈ lw_g ∧ y.name = "<init>" ∧ (y.cls ≠ "java/lang/invoke/MethodHandle" ∧ y.cls ≠ "java/lang/invoke/VarHandle" ∧ (parseMethodDescriptor y.desc).map (fun d => d.parameters.length) = some na) ∧ mL ≤ 45 ∧ (Cond.methodLink own i y ∈ lw_g ∨ Cond.methodLinkNest own i y "WindingSquare" ∈ lw_nest)
theorem c_call {i a na d mc ms : Nat} {y : MethodName} {bc : ByteArray} {mL : Nat} {lv : List (Nat × (Nat ⊕ Int32))} {as st : List (Nat ⊕ Int32)} {n' : Nat} {F' : Nat → Nat → Bool} {M' : zM} (hC : Cok C cc nL own) (hao : zAO C.1.2.2.2.2.1) (hd : decode cc pc = .ok (.invokespecial i, 3)) (lk : lkI own i y bc mL na) (hw : cW w n F) (hf : d + 1 ≤ C.1.2.2.2.1.frames) (hlo : 64 * d + 64 ≤ C.1.2.2.2.1.locals) (hcs : cs.1 + mc ≤ C.1.2.2.2.1.cells) (hss : cs.2 + ms ≤ C.1.2.2.2.1.slots) (hn : as.length = na) (hrm : ((stO w st).map fun v => v.category).sum ≤ 8) (hl : okC n (lv.map (·.2))) (hs : okC n st)
    (hM : zMetC C.1.2.1 y bc mL d mc ms C.2.2.1 C.2.2.2.1 C.2.2.2.2 (.inl a :: as) n F M n' F' M') (k : ∀ w1, cW w1 n' F' → adE n w w1 → Sg C w1 (cs.1 + mc, cs.2 + ms) (pc + 3) (lvO w1 lv) (stO w1 st) M' X K) : Sg C w cs pc (lvO w lv) (stO w (as.reverse ++ .inl a :: st)) M X K := by
  intro b hb hK H locs ls hP hD hS hl0
  obtain ⟨h1, h2, h3, h4, h5, h6, h7⟩ := lk
  have hM1 := hM w hw
  have hG2 : GoodIn lw_g (wM y bc mL none) := fun w hw => (List.mem_cons.mp hw).elim (fun e => by rw [e]; exact lw_gg _ h1) (lw_gg w)
  have hR : (rmc d mc ms).frames + 1 ≤ C.1.2.2.2.1.frames ∧ 8 + (mL + 11) + (rmc d mc ms).locals ≤ C.1.2.2.2.1.locals := by
    refine ⟨hf, ?_⟩
    show 8 + (mL + 11) + 64 * d ≤ _
    omega
  have hstk : stO w (as.reverse ++ .inl a :: st) = (stO w as).reverse ++ .ref (w.2.2.2 a) :: stO w st := by
    simp [stO, cV]
  have hlen : (stO w as).length = na := by rw [← hn]; simp [stO]
  rw [hstk]
  have kk : ∀ w1, cW w1 n' F' → adE n w w1 → Zs C w1 (cs.1 + mc, cs.2 + ms) (pc + 3) (lvO w lv) (stO w st) M' := by
    intro w1 hw1 had
    have := k w1 hw1 had b hb hK
    rw [lvO_eq had hl, stO_eq had hs] at this
    exact this
  rcases h7 with h7 | h7
  · exact x_ranC (va_runI (As := stO w as) (rest := stO w st) (b := w.2.2.2 a) (nL := nL) ⟨hC.1, hC.2.1, hC.2.2.1, hC.2.2.2.1, hC.2.2.2.2.1⟩ hM1 (cwI na hC.2.2.2.2.1 hG2 rfl rfl rfl (hC.2.2.2.2.1 _ h2) (hC.2.2.2.2.1 _ h7) (hC.2.2.2.2.1 _ h3) h4 h5 hR) ⟨zblindC, fun U hU hW => zreadyC hC hao hP hD hS hU hW⟩ rfl hlen (by rw [hl0.1]; exact hC.2.2.1) rfl (lv_room hrm) hd ⟨hcs, hss⟩) hS hl0 kk
  · exact x_ranC (va_runIN (As := stO w as) (rest := stO w st) (b := w.2.2.2 a) (nL := nL) ⟨hC.1, hC.2.1, hC.2.2.1, hC.2.2.2.1, hC.2.2.2.2.1⟩ hM1 ⟨va_cnB na hC.2.2.2.2.1 hG2 rfl rfl rfl (hC.2.2.2.2.2.2.2.2.1 _ h7) (hC.2.2.2.2.1 _ h2) h5 hR, h4, hC.2.2.2.2.1 _ h3⟩ ⟨zblindC, fun U hU hW => zreadyC hC hao hP hD hS hU hW⟩ rfl hlen (by rw [hl0.1]; exact hC.2.2.1) rfl (lv_room hrm) hd ⟨hcs, hss⟩) hS hl0 kk
/-- an int into a field while the world is made -/
theorem c_putI (hC : Cok C cc nL own) {i c j a : Nat} {v : Int32} {lv : List (Nat × (Nat ⊕ Int32))} {st : List (Nat ⊕ Int32)} (hd : decode cc pc = .ok (.putfield i, 3)) (lk : lkF own i c j false .int) (hi : zIf c j = true) (hw : cW w n F) (ha : a < n) (hT : (TG0 a).1 = c + 3) (hz : C.2.2.2.1 a = true) (k : Sg C w cs (pc + 3) (lvO w lv) (stO w st) (mset M a j v) X K) : Sg C w cs pc (lvO w lv) (stO w (.inr v :: .inl a :: st)) M X K :=
  x_putI hC hd lk hi (by rw [hw.1]; exact ha) (by rw [hw.2.1]; exact hT) hz rfl rfl k
theorem c_ret {n' mc ms : Nat} {F' : Nat → Nat → Bool} {M' : zM} {w0 : zW} {lv : List (Nat × (Nat ⊕ Int32))} (hR : RtC C cc n w0 n' F' M' mc ms) (hd : decode cc pc = .ok (.return_, 1)) (hw : cW w n' F') (had : adE n w0 w) (hcs : cs = (mc, ms)) : Sg C w cs pc (lvO w lv) (stO w []) M' X K := by
  subst hcs
  exact fun _ _ _ => hR pc _ w hd hw had
theorem c_aload (hC : Cok C cc nL own) {f : Fin 4} {i a : Nat} {lv : List (Nat × (Nat ⊕ Int32))} {st : List (Nat ⊕ Int32)} (hd : decode cc pc = .ok (.aload_n f, 1)) (hi : (f : Nat) = i) (q : Nat) (hq : lv[q]? = some (i, .inl a)) (k : Sg C w cs (pc + 1) (lvO w lv) (stO w (.inl a :: st)) M X K) : Sg C w cs pc (lvO w lv) (stO w st) M X K :=
  x_aload_n hC hd hi q (by unfold lvO; rw [List.getElem?_map, hq]; rfl) k
theorem c_iload (hC : Cok C cc nL own) {f : Fin 4} {i : Nat} {x : Int32} {lv : List (Nat × (Nat ⊕ Int32))} {st : List (Nat ⊕ Int32)} (hd : decode cc pc = .ok (.iload_n f, 1)) (hi : (f : Nat) = i) (q : Nat) (hq : lv[q]? = some (i, .inr x)) (k : Sg C w cs (pc + 1) (lvO w lv) (stO w (.inr x :: st)) M X K) : Sg C w cs pc (lvO w lv) (stO w st) M X K :=
  x_iload_n hC hd hi q (by unfold lvO; rw [List.getElem?_map, hq]; rfl) k
theorem c_dup (hC : Cok C cc nL own) {a : Nat} {lv : List (Nat × Value)} {st : List (Nat ⊕ Int32)} (hd : decode cc pc = .ok (.dup, 1)) (k : Sg C w cs (pc + 1) lv (stO w (.inl a :: .inl a :: st)) M X K) : Sg C w cs pc lv (stO w (.inl a :: st)) M X K :=
  x_dup hC hd rfl k
theorem c_iconst (hC : Cok C cc nL own) {q : Int} {v : Int32} {lv : List (Nat × Value)} {st : List (Nat ⊕ Int32)} (hd : decode cc pc = .ok (.iconst q, 1)) (hv : Int32.ofInt q = v) (k : Sg C w cs (pc + 1) lv (stO w (.inr v :: st)) M X K) : Sg C w cs pc lv (stO w st) M X K := x_iconst hC hd hv k
theorem c_bipush (hC : Cok C cc nL own) {q : Int} {v : Int32} {lv : List (Nat × Value)} {st : List (Nat ⊕ Int32)} (hd : decode cc pc = .ok (.bipush q, 2)) (hv : (Int8.ofInt q).toInt32 = v) (k : Sg C w cs (pc + 2) lv (stO w (.inr v :: st)) M X K) : Sg C w cs pc lv (stO w st) M X K := x_bipush hC hd hv k
theorem c_sipush (hC : Cok C cc nL own) {q : Int} {v : Int32} {lv : List (Nat × Value)} {st : List (Nat ⊕ Int32)} (hd : decode cc pc = .ok (.sipush q, 3)) (hv : (Int16.ofInt q).toInt32 = v) (k : Sg C w cs (pc + 3) lv (stO w (.inr v :: st)) M X K) : Sg C w cs pc lv (stO w st) M X K := x_sipush hC hd hv k
/-- a reference field that is laid already -/
theorem c_getR (hC : Cok C cc nL own) {i c j a r : Nat} {fin : Bool} {ty : FieldType} {lv : List (Nat × Value)} {st : List (Nat ⊕ Int32)} (hd : decode cc pc = .ok (.getfield i, 3)) (lk : lkF own i c j fin ty) (hi : zIf c j = false) (hw : cW w n F) (ha : a < n) (hT : (TG0 a).1 = c + 3) (hF : F a j = true) (hr : RF0 a j = some r) (k : Sg C w cs (pc + 3) lv (stO w (.inl r :: st)) M X K) : Sg C w cs pc lv (stO w (.inl a :: st)) M X K :=
  x_getR hC hd lk hi (by rw [hw.1]; exact ha) (by rw [hw.2.1]; exact hT) (by rw [hw.2.2]; unfold mkF; rw [if_pos hF]; exact hr) k
end XD
