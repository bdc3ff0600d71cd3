theorem met_iF {l : Launch} {y : MethodName} {cc : ByteArray} {nL : Nat} {ty : FieldType} {d : Nat} {g : zG} {w : zW} {zn : Nat → Bool} {M0 M M' : zM} {as : List Value} {v : Int32} (hy : plainFor y = true) (hf : (lg_sl as).length ≤ nL) (hn : narrow ty (.int v) = .int v)
    (h : ∀ C : zC, zBd C cc nL y.cls d g zn l → RtI C cc w v M' → Zs C w (0, 0) 0 (lv_args 0 as) [] M) : zMet l y cc nL (some ty) d g w zn M0 as M (some (.int v)) M' := by
  refine va_MetF (cc := cc) (maxL := nL) (ret := some ty) hy rfl ?_
  intro p e s m args below meth c s₁ B hml hv
  obtain ⟨rfl, hP, hD, hK, hst, hsz, hns⟩ := hv
  have hl := lv_entry as (n := nL) hf
  rw [lg_entry_eq]
  have hts := atoms_spec (ws := wM y cc nL (some ty)) B.pre
  have hlocks := B.notSynchronized
  refine h ((p, l, e, (headSpec (wM y cc nL (some ty)) (rmd d)).room, s, m, as.toArray, below, meth, c), MQ below (zQ g w (zB zn M0 M') (some (.int v))) as.toArray s 0 0 (zA g), g, zn, M0) ⟨⟨B.exec, B.bytes, hml, findClass_of_methodNamed B.named, fun w hw => hts w (List.mem_cons_of_mem _ hw), hK, hst, hsz, hns⟩, rfl, rfl, rfl, rfl⟩ ?_ s.heap [] _ hP hD va_S.rf ?_
  · intro pc lv hd H locs ls hP hD hS hl
    exact W.zret B.exec B.bytes B.returns hn (fun t ht hW => ⟨rfl, by rw [ht]; exact hP, hD, hS.F ht⟩) hS.2.2 hd
  · show lv_has _ c.maxLocals _
    rw [hml]
    exact hl
