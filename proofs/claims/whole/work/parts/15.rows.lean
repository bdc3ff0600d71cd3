/-! texts: constant i of two; its bytes -/
section XS
variable {α : Type} {C : zC} {w : zW} {n : Nat × Nat} {cc : ByteArray} {nL : Nat} {own : String} {d : Nat} {g : zG} {l : Launch} {z : Bool} {pc : Nat} {lv : List (Nat × Value)} {st : List Value} {M : zM} {X Y : Option α} {K : α → Prop}
theorem x_none : Sg C w n pc lv st M (none : Option α) K := fun a ha _ => by cases ha
theorem r_ldcS (hB : bOK C cc nL "WindingSquare$Reader" d g l w z) {i k0 : Nat} (hd : decode cc pc = .ok (.ldc i, 2)) (hk : k0 < 2) (hi : zKi.getD k0 0 = i) (k : Sg C w n (pc + 2) lv (.ref (g.2.2.2 (4 + k0)) :: st) M X K) : Sg C w n pc lv st M X K := by
  obtain ⟨⟨hC, -, rfl, -, -⟩, -⟩ := hB
  subst hi
  intro y hy hK H locs ls hP hD hS hv
  exact va_ldcS hC.1 hC.2.1 hC.2.2.2.1 (hC.2.2.2.2.2.2.2.2.2 k0 hk) hd (k y hy hK H locs ls hP hD hS hv)
theorem r_sval (hB : bOK C cc nL "java/lang/String" d g l w z) {k0 : Nat} (hd : decode cc pc = .ok (.getfield 9, 3)) (hl : Cond.fieldLink "java/lang/String" 9 "java/lang/String" "value" "[B" ∈ lw_g) (hk : k0 < 2) (k : Sg C w n (pc + 3) lv (.ref (g.2.2.2 (6 + k0)) :: st) M X K) : Sg C w n pc lv (.ref (g.2.2.2 (4 + k0)) :: st) M X K := by
  obtain ⟨⟨hC, -, rfl, -, -⟩, -⟩ := hB
  intro y hy hK H locs ls hP hD hS hv
  exact vk_getf hC.1 hC.2.1 (hC.2.2.2.2.2.2.1.2.1.1 k0 hk).2.2.1 hS hC.2.2.2.1 (hC.2.2.2.2.1 _ hl) (fun _ h => h) hd (k y hy hK H locs ls hP hD hS hv)
theorem r_scod (hB : bOK C cc nL "java/lang/String" d g l w z) {k0 : Nat} (hd : decode cc pc = .ok (.getfield 15, 3)) (hl : Cond.fieldLink "java/lang/String" 15 "java/lang/String" "coder" "B" ∈ lw_g) (hk : k0 < 2) (k : Sg C w n (pc + 3) lv (.int 0 :: st) M X K) : Sg C w n pc lv (.ref (g.2.2.2 (4 + k0)) :: st) M X K := by
  obtain ⟨⟨hC, -, rfl, -, -⟩, -⟩ := hB
  intro y hy hK H locs ls hP hD hS hv
  exact vk_getf hC.1 hC.2.1 (hC.2.2.2.2.2.2.1.2.1.1 k0 hk).2.1 hS hC.2.2.2.1 (hC.2.2.2.2.1 _ hl) (fun _ h => h) hd (k y hy hK H locs ls hP hD hS hv)
theorem r_scmp (hB : bOK C cc nL "java/lang/String" d g l w z) (hd : decode cc pc = .ok (.getstatic 38, 3)) (hl : Cond.fieldLink "java/lang/String" 38 "java/lang/String" "COMPACT_STRINGS" "Z" ∈ lw_g) (k : Sg C w n (pc + 3) lv (.int 1 :: st) M X K) : Sg C w n pc lv st M X K := by
  obtain ⟨⟨hC, -, rfl, -, -⟩, -⟩ := hB
  intro y hy hK H locs ls hP hD hS hv
  exact va_gets hC.1 hC.2.1 hC.2.2.2.2.2.2.1.2.2.1 hS hC.2.2.2.1 (hC.2.2.2.2.1 _ hl) (fun _ h => h) hd (k y hy hK H locs ls hP hD hS hv)
theorem r_sfmt (hB : bOK C cc nL "java/lang/String" d g l w z) (hd : decode cc pc = .ok (.getstatic 1053, 3)) (hl : Cond.fieldLink "java/lang/String" 1053 "jdk/internal/util/Preconditions" "SIOOBE_FORMATTER" "Ljava/util/function/BiFunction;" ∈ lw_g) (k : Sg C w n (pc + 3) lv (zFv g :: st) M X K) : Sg C w n pc lv st M X K := by
  obtain ⟨⟨hC, -, rfl, -, -⟩, -⟩ := hB
  intro y hy hK H locs ls hP hD hS hv
  exact va_gets hC.1 hC.2.1 hC.2.2.2.2.2.2.1.2.2.2 hS hC.2.2.2.1 (hC.2.2.2.2.1 _ hl) (fun _ h => h) hd (k y hy hK H locs ls hP hD hS hv)
theorem r_slen (hB : bOK C cc nL own d g l w z) {k0 : Nat} (hd : decode cc pc = .ok (.arraylength, 1)) (hk : k0 < 2) (k : Sg C w n (pc + 1) lv (.int (nI (zKl.getD k0 0)) :: st) M X K) : Sg C w n pc lv (.ref (g.2.2.2 (6 + k0)) :: st) M X K := by
  obtain ⟨⟨hC, -, rfl, -, -⟩, -⟩ := hB
  intro y hy hK H locs ls hP hD hS hv
  exact va_tlen hC.1 hC.2.1 (hC.2.2.2.2.2.2.1.2.1.1 k0 hk).2.2.2 hS rfl hd (k y hy hK H locs ls hP hD hS hv)
theorem r_sbal (hB : bOK C cc nL own d g l w z) {i : Int32} {k0 : Nat} (hd : decode cc pc = .ok (.baload, 1)) (hk : k0 < 2) (k : Sg C w n (pc + 1) lv (.int ((zKb.getD k0 []).getD (ix i) 0) :: st) M X K) : Sg C w n pc lv (.int i :: .ref (g.2.2.2 (6 + k0)) :: st) M (grd (inb i (zKl.getD k0 0)) X) K := by
  refine x_grd fun hi => ?_
  obtain ⟨⟨hC, -, rfl, -, -⟩, -⟩ := hB
  intro y hy hK H locs ls hP hD hS hv
  exact va_tb hC.1 hC.2.1 (hC.2.2.2.2.2.2.1.2.1.1 k0 hk).2.2.2 hS hi rfl hd (k y hy hK H locs ls hP hD hS hv)
theorem x_i2b (hC : Cok C cc nL own) {x : Int32} (hd : decode cc pc = .ok (.i2b, 1)) (k : Sg C w n (pc + 1) lv (.int x.toInt8.toInt32 :: st) M X K) : Sg C w n pc lv (.int x :: st) M X K :=
  fun a ha hK H locs ls hP hD hS hl => lv_i2b hC.1 hC.2.1 hd rfl (k a ha hK H locs ls hP hD hS hl)
def RtN (C : zC) (cc : ByteArray) (w : zW) (ty : FieldType) (v : Int32) (M : zM) : Prop := ∀ (pc : Nat) (lv : List (Nat × Value)), decode cc pc = .ok (.ireturn, 1) → narrow ty (.int v) = .int v → Zs C w (0, 0) pc lv [.int v] M
theorem r_retN {ty : FieldType} {v : Int32} {M' : zM} (hR : RtN C cc w ty v M') {a : α} {e : Int32} (hd : decode cc pc = .ok (.ireturn, 1)) (hb : narrow ty (.int e) = .int e) (hx : K a → (e, M) = (v, M')) : Sg C w (0, 0) pc lv [.int e] M (some a) K :=
  x_done fun h => by
    have h1 := hx h
    cases h1
    exact hR pc lv hd hb
theorem met_zM {y : MethodName} {zn : Nat → Bool} {M0 M' : zM} {as : List Value} {v : Int32} (hy : plainName y.cls = true) (hf : (lg_sl as).length ≤ nL)
    (h : ∀ C : zC, zBd C cc nL y.cls d g zn l → C.2.2.2.2 = M0 → RtZ C cc w v M' → Zs C w (0, 0) 0 (lv_args 0 as) [] M) : zMet l y cc nL (some .boolean) d g w zn M0 as M (some (.int v)) M' := by
  refine Met.ofW (cc := cc) (maxL := nL) (ret := some .boolean) hy rfl ?_
  intro p e s m args below meth c s₁ B hml hv
  obtain ⟨rfl, hP, hD, hK, hst, hsz, hns⟩ := hv
  have hl := lv_entry as (n := nL) hf
  rw [lg_entry_eq]
  have hts := atoms_spec (ws := wM y cc nL (some .boolean)) B.pre
  have hlocks := B.notSynchronized
  refine h ((p, l, e, (headSpec (wM y cc nL (some .boolean)) (rmd d)).room, s, m, as.toArray, below, meth, c), MQ below (zQ g w (zB zn M0 M') (some (.int v))) as.toArray s 0 0 (zA g), g, zn, M0) ⟨⟨B.exec, B.bytes, hml, findClass_of_methodNamed B.named, fun w hw => hts w (List.mem_cons_of_mem _ hw), hK, hst, hsz, hns⟩, rfl, rfl, rfl, rfl⟩ rfl ?_ s.heap [] _ hP hD va_S.rf ?_
  · intro pc lv hd hb H locs ls hP hD hS hl
    exact W.zret B.exec B.bytes B.returns (isB_nar hb) (fun t ht hW => ⟨rfl, by rw [ht]; exact hP, hD, hS.F ht⟩) hS.2.2 hd
  · show lv_has _ c.maxLocals _
    rw [hml]
    exact hl
theorem met_nF {y : MethodName} {ty : FieldType} {zn : Nat → Bool} {M0 M' : zM} {as : List Value} {v : Int32} (hy : plainFor y = true) (hf : (lg_sl as).length ≤ nL)
    (h : ∀ C : zC, zBd C cc nL y.cls d g zn l → RtN C cc w ty v M' → Zs C w (0, 0) 0 (lv_args 0 as) [] M) : zMet l y cc nL (some ty) d g w zn M0 as M (some (.int v)) M' := by
  refine va_MetF (cc := cc) (maxL := nL) (ret := some ty) hy rfl ?_
  intro p e s m args below meth c s₁ B hml hv
  obtain ⟨rfl, hP, hD, hK, hst, hsz, hns⟩ := hv
  have hl := lv_entry as (n := nL) hf
  rw [lg_entry_eq]
  have hts := atoms_spec (ws := wM y cc nL (some ty)) B.pre
  have hlocks := B.notSynchronized
  refine h ((p, l, e, (headSpec (wM y cc nL (some ty)) (rmd d)).room, s, m, as.toArray, below, meth, c), MQ below (zQ g w (zB zn M0 M') (some (.int v))) as.toArray s 0 0 (zA g), g, zn, M0) ⟨⟨B.exec, B.bytes, hml, findClass_of_methodNamed B.named, fun w hw => hts w (List.mem_cons_of_mem _ hw), hK, hst, hsz, hns⟩, rfl, rfl, rfl, rfl⟩ ?_ s.heap [] _ hP hD va_S.rf ?_
  · intro pc lv hd hb H locs ls hP hD hS hl
    exact W.zret B.exec B.bytes B.returns hb (fun t ht hW => ⟨rfl, by rw [ht]; exact hP, hD, hS.F ht⟩) hS.2.2 hd
  · show lv_has _ c.maxLocals _
    rw [hml]
    exact hl
theorem met_vF {y : MethodName} {zn : Nat → Bool} {M0 M' : zM} {as : List Value} (hy : plainFor y = true) (hf : (lg_sl as).length ≤ nL)
    (h : ∀ C : zC, zBd C cc nL y.cls d g zn l → RtV C cc w M' → Zs C w (0, 0) 0 (lv_args 0 as) [] M) : zMet l y cc nL none d g w zn M0 as M none M' := by
  refine va_MetF (cc := cc) (maxL := nL) (ret := none) hy rfl ?_
  intro p e s m args below meth c s₁ B hml hv
  obtain ⟨rfl, hP, hD, hK, hst, hsz, hns⟩ := hv
  have hl := lv_entry as (n := nL) hf
  rw [lg_entry_eq]
  have hts := atoms_spec (ws := wM y cc nL none) B.pre
  have hlocks := B.notSynchronized
  refine h ((p, l, e, (headSpec (wM y cc nL none) (rmd d)).room, s, m, as.toArray, below, meth, c), MQ below (zQ g w (zB zn M0 M') none) as.toArray s 0 0 (zA g), g, zn, M0) ⟨⟨B.exec, B.bytes, hml, findClass_of_methodNamed B.named, fun w hw => hts w (List.mem_cons_of_mem _ hw), hK, hst, hsz, hns⟩, rfl, rfl, rfl, rfl⟩ ?_ s.heap [] _ hP hD va_S.rf ?_
  · intro pc lv hd H locs ls hP hD hS hl
    exact W.vret B.exec B.bytes B.returns (fun t ht hW => ⟨rfl, by rw [ht]; exact hP, hD, hS.F ht⟩) hS.2.2 hd
  · show lv_has _ c.maxLocals _
    rw [hml]
    exact hl
/-- a call of a member of a text -/
def lkT (own : String) (i : Nat) (y : MethodName) (cc : ByteArray) (mL : Nat) (ret : Option FieldType) (na : Nat) : Prop :=
  GoodIn lw_g (wsV own i "java/lang/String" y (wM y cc mL ret)) ∧ (y.cls ≠ "java/lang/invoke/MethodHandle" ∧ y.cls ≠ "java/lang/invoke/VarHandle" ∧ (parseMethodDescriptor y.desc).map (fun d => d.parameters.length) = some na) ∧ mL ≤ 45 ∧ y.cls = "java/lang/String"
theorem lkT.of5 {own : String} {i : Nat} {y : MethodName} {cc : ByteArray} {mL : Nat} {ret : Option FieldType} {na : Nat} (h1 : Cond.methodLink own i y ∈ lw_g) (h2 : Cond.instanceMethod y ∈ lw_g) (h3 : Cond.selects "java/lang/String" y y ∈ lw_g) (h4 : Cond.initialized "java/lang/String" ∈ lw_g) (h5 : Cond.code y cc mL ret ∈ lw_g) (hd : y.cls ≠ "java/lang/invoke/MethodHandle" ∧ y.cls ≠ "java/lang/invoke/VarHandle" ∧ (parseMethodDescriptor y.desc).map (fun d => d.parameters.length) = some na) (hm : mL ≤ 45) (hc : y.cls = "java/lang/String") : lkT own i y cc mL ret na := by
  refine ⟨fun w hw => ?_, hd, hm, hc⟩
  have : w ∈ lw_g := by
    simp only [wsV, wM, List.cons_append, List.nil_append, List.mem_cons] at hw
    rcases hw with e | e | e | e | e | e
    · rw [e]; exact h1
    · rw [e]; exact h2
    · rw [e]; exact h3
    · rw [e]; exact h4
    · rw [e]; exact h5
    · exact e
  exact lw_gg w this
theorem r_cT1 (hB : bOK C cc nL own d g l w z) {i k0 na : Nat} {y : MethodName} {bc : ByteArray} {mL : Nat} {ret : Option FieldType} {as rest : List Value} {f : Option Int32} {kx : Int32 → Option α} {st0 : List Value} (hd : decode cc pc = .ok (.invokevirtual i, 3)) (lk : lkT own i y bc mL ret na) (hk : k0 < 2) (h1 : 1 ≤ d) (hn : as.length = na) (hst : st0 = as.reverse ++ .ref (g.2.2.2 (4 + k0)) :: rest) (hrm : (rest.map fun v => v.category).sum ≤ 8)
    (hM : ∀ v, f = some v → zMet l y bc mL ret (d - 1) g w (zin z) C.2.2.2.2 (.ref (g.2.2.2 (4 + k0)) :: as) M (some (.int v)) M) (k : ∀ v, Sg C w (0, 0) (pc + 3) lv (.int v :: rest) M (kx v) K) : Sg C w (0, 0) pc lv st0 M (f.bind kx) K := by
  intro b hb hK
  cases hf : f with
  | none => rw [hf] at hb; cases hb
  | some v =>
    rw [hf] at hb
    intro H locs ls hP hD hS hl
    obtain ⟨⟨hC, hR, rfl, hz, rfl⟩, hw⟩ := hB
    obtain ⟨hG, hyd, hmL, hcl⟩ := lk
    subst hst
    have hM1 := hM v hf
    rw [← hz] at hM1
    exact x_ran (va_runV (As := as) (rest := rest) (nL := nL) (C := "java/lang/String") (b := C.2.2.1.2.2.2 (4 + k0)) (ret := ret) ⟨hC.1, hC.2.1, hC.2.2.1, hC.2.2.2.1, hC.2.2.2.2.1⟩ hM1 (cwV na hC.2.2.2.2.1 hG rfl rfl rfl ⟨hcl, hyd⟩ (by rw [hR]; exact rmd_ok hmL h1)) ⟨zblind, vk_recv (i := k0) (adK := fun i => C.2.2.1.2.2.2 (4 + i)) hC.2.2.2.2.2.2.1.2.1 hk hS, fun U hU hW => zready hC hP hD hS hU hW⟩ rfl hn (by rw [hl.1]; exact hC.2.2.1) rfl (lv_room hrm) hd ⟨Nat.zero_le _, Nat.zero_le _⟩) hS hl (k v b hb hK)
theorem r_cT0 (hB : bOK C cc nL own d g l w z) {i k0 na : Nat} {y : MethodName} {bc : ByteArray} {mL : Nat} {ret : Option FieldType} {as rest : List Value} {v : Int32} {st0 : List Value} (hd : decode cc pc = .ok (.invokevirtual i, 3)) (lk : lkT own i y bc mL ret na) (hk : k0 < 2) (h1 : 1 ≤ d) (hn : as.length = na) (hst : st0 = as.reverse ++ .ref (g.2.2.2 (4 + k0)) :: rest) (hrm : (rest.map fun v => v.category).sum ≤ 8)
    (hM : zMet l y bc mL ret (d - 1) g w (zin z) C.2.2.2.2 (.ref (g.2.2.2 (4 + k0)) :: as) M (some (.int v)) M) (k : Sg C w (0, 0) (pc + 3) lv (.int v :: rest) M X K) : Sg C w (0, 0) pc lv st0 M X K := by
  intro b hb hK H locs ls hP hD hS hl
  obtain ⟨⟨hC, hR, rfl, hz, rfl⟩, hw⟩ := hB
  obtain ⟨hG, hyd, hmL, hcl⟩ := lk
  subst hst
  have hM1 := hM
  rw [← hz] at hM1
  exact x_ran (va_runV (As := as) (rest := rest) (nL := nL) (C := "java/lang/String") (b := C.2.2.1.2.2.2 (4 + k0)) (ret := ret) ⟨hC.1, hC.2.1, hC.2.2.1, hC.2.2.2.1, hC.2.2.2.2.1⟩ hM1 (cwV na hC.2.2.2.2.1 hG rfl rfl rfl ⟨hcl, hyd⟩ (by rw [hR]; exact rmd_ok hmL h1)) ⟨zblind, vk_recv (i := k0) (adK := fun i => C.2.2.1.2.2.2 (4 + i)) hC.2.2.2.2.2.2.1.2.1 hk hS, fun U hU hW => zready hC hP hD hS hU hW⟩ rfl hn (by rw [hl.1]; exact hC.2.2.1) rfl (lv_room hrm) hd ⟨Nat.zero_le _, Nat.zero_le _⟩) hS hl (k b hb hK)
theorem r_cSu (hB : bOK C cc nL own d g l w z) {i na : Nat} {y : MethodName} {bc : ByteArray} {mL : Nat} {ret : Option FieldType} {as rest : List Value} {f : Option Unit} {kx : Unit → Option α} {st0 : List Value} (hd : decode cc pc = .ok (.invokestatic i, 3)) (lk : lkS own i y bc mL ret na) (h1 : 1 ≤ d) (hn : as.length = na) (hst : st0 = as.reverse ++ rest) (hrm : (rest.map fun v => v.category).sum ≤ 8)
    (hM : ∀ v, f = some v → zMet l y bc mL ret (d - 1) g w (zin z) C.2.2.2.2 as M none M) (k : ∀ v, Sg C w (0, 0) (pc + 3) lv rest M (kx v) K) : Sg C w (0, 0) pc lv st0 M (f.bind kx) K := by
  intro b hb hK
  cases hf : f with
  | none => rw [hf] at hb; cases hb
  | some v => rw [hf] at hb; exact z_callS hB.1 hd lk h1 hn hst hrm (hM v hf) rfl (k v b hb hK)
end XS
theorem nar_c0 {x : Int32} : narrow .char (.int (i2c x)) = .int (i2c x) := pk_nc x
theorem nar_c1 {x : Int32} (h : i2c x = x) : narrow .char (.int x) = .int x := by rw [← h]; exact pk_nc x
