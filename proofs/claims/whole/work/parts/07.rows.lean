section X7
variable {α : Type} {C : zC} {w : zW} {n : Nat × Nat} {cc : ByteArray} {nL : Nat} {own : String} {d : Nat} {g : zG} {l : Launch} {z : Bool} {pc : Nat} {lv : List (Nat × Value)} {st : List Value} {M : zM} {X Y : Option α} {K : α → Prop}
theorem x_ldc_w (hC : Cok C cc nL own) {i : Nat} {v : Int32} (hd : decode cc pc = .ok (.ldc_w i, 3)) (hk : Cond.constant own i v ∈ lw_g) (k : Sg C w n (pc + 3) lv (.int v :: st) M X K) : Sg C w n pc lv st M X K :=
  fun a ha hK H locs ls hP hD hS hl => lv_ldcw hC.1 hC.2.1 hC.2.2.2.1 (hC.2.2.2.2.1 _ hk) hd (k a ha hK H locs ls hP hD hS hl)
theorem x_tsI (hC : Cok C cc nL own) {df lo hi : Int} {offs : Array Int} {len : Nat} {x : Int32} {off : Int} {tgt : Nat} (hd : decode cc pc = .ok (.tableswitch df lo hi offs, len)) (h1 : ¬ x.toInt < lo) (h2 : ¬ hi < x.toInt) (ho : offs[(x.toInt - lo).toNat]? = some off) (ht : (pc : Int) + off = (tgt : Int)) (k : Sg C w n tgt lv st M X K) : Sg C w n pc lv (.int x :: st) M X K :=
  fun a ha hK H locs ls hP hD hS hl => lv_tableIn hC.1 hC.2.1 hd h1 h2 ho ht (k a ha hK H locs ls hP hD hS hl)
theorem x_tsO (hC : Cok C cc nL own) {df lo hi : Int} {offs : Array Int} {len : Nat} {x : Int32} {tgt : Nat} (hd : decode cc pc = .ok (.tableswitch df lo hi offs, len)) (h : x.toInt < lo ∨ hi < x.toInt) (ht : (pc : Int) + df = (tgt : Int)) (k : Sg C w n tgt lv st M X K) : Sg C w n pc lv (.int x :: st) M X K :=
  fun a ha hK H locs ls hP hD hS hl => lv_tableOut hC.1 hC.2.1 hd h ht (k a ha hK H locs ls hP hD hS hl)
theorem x_lsw (hC : Cok C cc nL own) {df : Int} {ps : Array (Int × Int)} {len : Nat} {x : Int32} {off : Int} {tgt : Nat} (hd : decode cc pc = .ok (.lookupswitch df ps, len)) (hp : (ps.toList.zip (ps.toList.drop 1)).all (fun (a, next) => a.1 < next.1) = true) (ho : Op.lookupswitch.offset ps.toList df x.toInt = off) (ht : (pc : Int) + off = (tgt : Int)) (k : Sg C w n tgt lv st M X K) : Sg C w n pc lv (.int x :: st) M X K :=
  fun a ha hK H locs ls hP hD hS hl => lv_lookup hC.1 hC.2.1 hd hp ho ht (k a ha hK H locs ls hP hD hS hl)
theorem x_ne {x c : Int32} {k : Int} (h : ¬ x = c) (hc : c.toInt = k) : x.toInt ≠ k := fun e => h (Int32.toInt_inj.mp (e.trans hc.symm))
theorem ac_n : Cond.native arraycopyName ∈ lw_g := g_in (by decide +kernel) rfl
theorem ac_s : Cond.static arraycopyName ∈ lw_g := g_in (by decide +kernel) rfl
theorem ac_i : Cond.initialized "java/lang/System" ∈ lw_g := g_in (by decide +kernel) rfl
theorem mrow_ne {a : Nat} {f : Nat → Int32} {k : Nat} (h : k ≠ a) : mrow M a f k = M k := if_neg h
theorem mrow_eq {a : Nat} {f : Nat → Int32} : mrow M a f a = f := if_pos rfl
theorem r_acp (hB : bOK C cc nL own d g l w z) {i a0 a n0 n1 : Nat} {sp dp q : Int32} (hd : decode cc pc = .ok (.invokestatic i, 3)) (hk : Cond.methodLink own i arraycopyName ∈ lw_g) (h3 : 3 ≤ d) (hs : tA z n0 a0) (ht : tA z n1 a) (g1 : ¬ sp < 0) (g2 : ¬ dp < 0) (g3 : ¬ q < 0) (g4 : ix sp + ix q ≤ n0) (g5 : ix dp + ix q ≤ n1) (hrm : (st.map fun v => v.category).sum ≤ 8)
    (k : Sg C w n (pc + 3) lv st (mrow M a (va_cpy (M a0) (M a) (ix sp) (ix dp) (ix q))) X K) : Sg C w n pc lv (.int q :: .int dp :: zr w a :: .int sp :: zr w a0 :: st) M X K := by
  intro y hy hK H locs ls hP hD hS hl
  have zs := hB.zn hs.1
  have zt := hB.zn ht.1
  have l1 := hB.lt hs.1
  have l2 := hB.lt ht.1
  obtain ⟨⟨hC, hR, rfl, -, rfl⟩, hw⟩ := hB
  have e1 := zS_get (g := C.2.2.1) (M := zB C.2.2.2.1 C.2.2.2.2 M) l1
  rw [zE_arr (by rw [hw.2.1]; exact hs.2), zB_in zs] at e1
  have e2 := zS_get (g := C.2.2.1) (M := zB C.2.2.2.1 C.2.2.2.2 M) l2
  rw [zE_arr (by rw [hw.2.1]; exact ht.2), zB_in zt] at e2
  have hset : (zS C.2.2.1 w (zB C.2.2.2.1 C.2.2.2.2 M)).set a (w.2.2.2 a, .inl (C.2.2.1.2.2.1 0, n1, .inl (va_cpy (M a0) (M a) (ix sp) (ix dp) (ix q)))) = zS C.2.2.1 w (zB C.2.2.2.1 C.2.2.2.2 (mrow M a (va_cpy (M a0) (M a) (ix sp) (ix dp) (ix q)))) := by
    refine zS_set rfl rfl ?_ ?_
    · rw [zE_arr (by rw [hw.2.1]; exact ht.2), zB_in zt, mrow_eq]
    · intro j hj
      exact zE_other (by rw [← zB_row zt, mrow_ne hj])
  refine va_copyi hC.1 hC.2.1 (by rw [hl.1]) hC.2.2.2.1 (hC.2.2.2.2.1 _ hk) (hC.2.2.2.2.1 _ ac_n) (hC.2.2.2.2.1 _ ac_s) (hC.2.2.2.2.1 _ ac_i) hC.2.2.2.2.2.1 hP hD hS a0 a 0 0 e1 e2 (zT0 _) (zT0 _) rfl g1 g2 g3 g4 g5 (fun _ _ => rfl) (by rw [hR]; simp only [rmd]; omega) ?_ hd (fun H1 locs1 hP1 hD1 hS1 => ?_)
  · rw [hR]
    have hw : nativeFrameWords "java/lang/System" "arraycopy" 5 + 11 ≤ 180 := by decide +kernel
    simp only [rmd]
    omega
  · rw [hset] at hP1 hD1
    exact k y hy hK H1 locs1 ls hP1 hD1 hS1 hl
end X7
theorem lkV.of5 {own : String} {i : Nat} {y : MethodName} {cc : ByteArray} {mL : Nat} {ret : Option FieldType} {na c : Nat} (h1 : Cond.methodLink own i y ∈ lw_g) (h2 : Cond.instanceMethod y ∈ lw_g) (h3 : Cond.selects y.cls y y ∈ lw_g) (h4 : Cond.initialized y.cls ∈ lw_g) (h5 : Cond.code y cc mL ret ∈ lw_g) (hd : y.cls ≠ "java/lang/invoke/MethodHandle" ∧ y.cls ≠ "java/lang/invoke/VarHandle" ∧ (parseMethodDescriptor y.desc).map (fun d => d.parameters.length) = some na) (hm : mL ≤ 45) (hc : ∃ T N, vwCl[c]? = some (y.cls, T, N)) : lkV own i y cc mL ret na c :=
  lkV.of (by
    intro w hw
    simp only [List.mem_cons, List.not_mem_nil, or_false] at hw
    rcases hw with e | e | e | e | e <;> rw [e] <;> assumption) hd hm hc
theorem lkS.of4 {own : String} {i : Nat} {y : MethodName} {cc : ByteArray} {mL : Nat} {ret : Option FieldType} {na : Nat} (h1 : Cond.methodLink own i y ∈ lw_g) (h2 : Cond.static y ∈ lw_g) (h4 : Cond.initialized y.cls ∈ lw_g) (h5 : Cond.code y cc mL ret ∈ lw_g) (hd : y.cls ≠ "java/lang/invoke/MethodHandle" ∧ y.cls ≠ "java/lang/invoke/VarHandle" ∧ (parseMethodDescriptor y.desc).map (fun d => d.parameters.length) = some na) (hm : mL ≤ 45) : lkS own i y cc mL ret na :=
  lkS.of (by
    intro w hw
    simp only [List.mem_cons, List.not_mem_nil, or_false] at hw
    rcases hw with e | e | e | e <;> rw [e] <;> assumption) hd hm
theorem t_in {w : Cond} (i : Nat) (h : lw_tbl[i]? = some w) : w ∈ lw_tbl := List.mem_of_getElem? h
