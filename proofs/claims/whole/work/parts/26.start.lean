/-! THE CLAIM OUT OF ONE WALK OF THE LAW'S BODY. Your part is whole_start (and what it stands on); all else here is the same for every law, but numbers. -/
def R_law : String := "WindingSquareLaw"
def lw_P (b : Addr) (xs : List Int32) (args : Array Value) (s : State) : Prop := args = #[.ref b] ∧ s.IntsAt b xs ∧ xs.length ≤ 3072 ∧ (Jvm.Cond.and given_1 narrow_1).before args s = true
def lw_Q (_ : Array Value) (s : State) (o : Outcome) (t : State) : Prop := o = .returned (some (.int 1)) ∧ Framed s o t [] 600000 7302250
def lw_Z (below : List Frame) (a : Array Value) (s : State) : State → Prop := fun t => ∃ o, t.status = .running ∧ Ended t below o ∧ lw_Q a s o t
/-- the law's own end, with 1 on the stack, nothing written that was there before, its room as the claim has it -/
theorem lw_ret {p : Program} {l : Launch} {e : Env} {s : State} {m : MethodId} {below : List Frame} {meth : Method} {c : Code} {b : Nat} (hx : p.tables.exec = Jvm.exec) (hb : c.code = code) (hr : meth.sig.returnType = ret) (hlocks : meth.locks = false) {pc : Nat} {H : Heap} {ls : Array Slot} (hdg : decode code pc = .ok (.ireturn, 1)) : W p l e room_1 s m #[Value.ref b] below meth c H [] 600000 7302250 (lw_Z below #[Value.ref b] s) (F0 m pc ls [.int 1]) := by
  intro T hT X
  obtain ⟨fs, hret, hrun, hended, hW, hframe⟩ := X.leave (v := some (.int 1)) (hlocks := hlocks) (fun h => by rw [hr] at h; cases h)
  have hmeth' : T.vm.method? m = some meth := X.method'
  refine ⟨T.setFrames fs, ?_, .returned (some (.int 1)), hrun, hended, rfl, ⟨_, rfl⟩, hW, hframe⟩
  jvm_step X.here [X.here.top, hx, hb, hdg, hmeth', hr, ret, narrow_b1]
  (try refine ⟨rfl, ?_⟩); (try refine ⟨rfl, ?_⟩)
  first | (intro acts; rw [hret _ acts rfl rfl rfl]) | rw [hret _ _ rfl rfl rfl]
  exact Steps.refl _
/-- what holds at the law's entry: the machine, the code, the tables' words (any of lw_tbl by 'hts w (by decide +kernel)'), the script of L ints xs at the cell b, what the Statement gives of the start (any of its parts by flat_of_before) -/
def lw_At (p : Program) (s : State) (m : MethodId) (meth : Method) (c : Code) (b L : Nat) (xs : Nat → Int32) : Prop :=
  p.tables.exec = Jvm.exec ∧ c.code = code ∧ meth.sig.returnType = ret ∧ c.maxLocals = 4 ∧ s.vm.findClass R_law = some m.cls ∧ (∀ w ∈ lw_tbl, w.before #[Value.ref b] s = true) ∧ va_X b L xs s s.heap ∧ b < s.heap.size ∧ meth.locks = false ∧ (Jvm.Cond.and given_1 narrow_1).before #[Value.ref b] s = true
section XCL
variable {α : Type} {C : zC} {w : zW} {cs : Nat × Nat} {cc : ByteArray} {nL : Nat} {own : String} {pc n : Nat} {F : Nat → Nat → Bool} {lv : List (Nat × (Nat ⊕ Int32))} {st : List (Nat ⊕ Int32)} {M : zM} {X : Option α} {K : α → Prop}
theorem c_newL (lx : List (Nat × Value)) (hC : Cok C cc nL own) {i c : Nat} (hd : decode cc pc = .ok (.new i, 3)) (lk : lkC own i c) (hw : cW w n F) (hwf : wfF n F) (hn : TG0 n = (c + 3, 0)) (hF : ∀ j, F n j = false) (hz : C.2.2.2.1 n = true) (hM : M n = fun _ => 0) (hl : okC n (lv.map (·.2))) (hs : okC n st) (hr1 : cs.1 + 1 ≤ C.1.2.2.2.1.cells) (hr2 : cs.2 + zNf c ≤ C.1.2.2.2.1.slots)
    (k : ∀ w1, cW w1 (n + 1) F → adE n w w1 → Sg C w1 (cs.1 + 1, cs.2 + zNf c) (pc + 3) (lx ++ lvO w1 lv) (stO w1 (.inl n :: st)) M X K) : Sg C w cs pc (lx ++ lvO w lv) (stO w st) M X K := by
  intro y hy hK H locs ls hP hD hS hl0
  obtain ⟨Cn, T, N, ty0, h1, h2, h3, h5, h6, h7, h8, h9⟩ := lk
  subst h5
  refine va_new (fs := zF w c (fun _ => none) (fun _ => 0)) hC.1 hC.2.1 hC.2.2.2.2.1 h2 ty0 h3 hC.2.2.2.1 (hC.2.2.2.2.1 _ h6) (hC.2.2.2.2.1 _ h7) (hC.2.2.2.2.1 _ h8) hC.2.2.2.2.2.1 hP hD hS (fun q hq => Nat.le_trans hC.2.2.2.2.2.2.2.1 hq) h1 ?_ hr1 hr2 hd (fun q H1 hP1 hD1 hS1 => ?_)
  · intro j hj
    rw [h9 j hj]
    unfold vp_V
    rw [List.getD_eq_getElem?_getD]
    by_cases hi : zIf c j = true
    · rw [if_pos hi, zF_int hj hi]; rfl
    · rw [if_neg hi]
      simp [zF, hj, hi, zRf, va_rf]
  · have he : zE C.2.2.1 (n + 1, TG0, mkF F, fun k => if k = n then q else w.2.2.2 k) (zB C.2.2.2.1 C.2.2.2.2 M) n = .inr (c, zF w c (fun _ => none) (fun _ => 0)) := by
      rw [zE_obj (show (TG0 n).1 = c + 3 by rw [hn]), zB_in hz, hM]
      have e2 : mkF F n = fun _ => none := by
        funext j
        unfold mkF
        rw [if_neg (by rw [hF j]; decide)]
      show Sum.inr (c, zF _ c (mkF F n) _) = _
      rw [e2]
      congr 2
    rw [zS_grow hw hwf he] at hP1 hD1
    have := k (n + 1, TG0, mkF F, fun k => if k = n then q else w.2.2.2 k) ⟨rfl, rfl, rfl⟩ adE_new y hy hK H1 locs ls hP1 hD1 hS1 (by rw [lvO_eq adE_new hl]; exact hl0)
    have e3 : stO (n + 1, TG0, mkF F, fun k => if k = n then q else w.2.2.2 k) (.inl n :: st) = .ref q :: stO w st := by
      show (Value.ref (if n = n then q else w.2.2.2 n)) :: stO _ st = _
      rw [if_pos rfl, stO_eq adE_new hs]
    rw [e3] at this
    exact this
theorem c_callL {i a na d mc ms : Nat} {y : MethodName} {bc : ByteArray} {mL : Nat} {lv : List (Nat × (Nat ⊕ Int32))} {as st : List (Nat ⊕ Int32)} {n' : Nat} {F' : Nat → Nat → Bool} {M' : zM} (lx : List (Nat × Value)) (hC : Cok C cc nL own) (hao : zAO C.1.2.2.2.2.1) (hd : decode cc pc = .ok (.invokespecial i, 3)) (lk : lkI own i y bc mL na) (hw : cW w n F) (hf : d + 1 ≤ C.1.2.2.2.1.frames) (hlo : 64 * d + 64 ≤ C.1.2.2.2.1.locals) (hcs : cs.1 + mc ≤ C.1.2.2.2.1.cells) (hss : cs.2 + ms ≤ C.1.2.2.2.1.slots) (hn : as.length = na) (hrm : ((stO w st).map fun v => v.category).sum ≤ 8) (hl : okC n (lv.map (·.2))) (hs : okC n st)
    (hM : zMetC C.1.2.1 y bc mL d mc ms C.2.2.1 C.2.2.2.1 C.2.2.2.2 (.inl a :: as) n F M n' F' M') (k : ∀ w1, cW w1 n' F' → adE n w w1 → Sg C w1 (cs.1 + mc, cs.2 + ms) (pc + 3) (lx ++ lvO w1 lv) (stO w1 st) M' X K) : Sg C w cs pc (lx ++ lvO w lv) (stO w (as.reverse ++ .inl a :: st)) M X K := by
  intro b hb hK H locs ls hP hD hS hl0
  obtain ⟨h1, h2, h3, h4, h5, h6, h7⟩ := lk
  have hM1 := hM w hw
  have hG2 : GoodIn lw_g (wM y bc mL none) := fun w hw => (List.mem_cons.mp hw).elim (fun e => by rw [e]; exact lw_gg _ h1) (lw_gg w)
  have hR : (rmc d mc ms).frames + 1 ≤ C.1.2.2.2.1.frames ∧ 8 + (mL + 11) + (rmc d mc ms).locals ≤ C.1.2.2.2.1.locals := by
    refine ⟨hf, ?_⟩
    show 8 + (mL + 11) + 64 * d ≤ _
    omega
  have hstk : stO w (as.reverse ++ .inl a :: st) = (stO w as).reverse ++ .ref (w.2.2.2 a) :: stO w st := by
    simp [stO, cV]
  have hlen : (stO w as).length = na := by rw [← hn]; simp [stO]
  rw [hstk]
  have kk : ∀ w1, cW w1 n' F' → adE n w w1 → Zs C w1 (cs.1 + mc, cs.2 + ms) (pc + 3) (lx ++ lvO w lv) (stO w st) M' := by
    intro w1 hw1 had
    have := k w1 hw1 had b hb hK
    rw [lvO_eq had hl, stO_eq had hs] at this
    exact this
  rcases h7 with h7 | h7
  · exact x_ranC (va_runI (As := stO w as) (rest := stO w st) (b := w.2.2.2 a) (nL := nL) ⟨hC.1, hC.2.1, hC.2.2.1, hC.2.2.2.1, hC.2.2.2.2.1⟩ hM1 (cwI na hC.2.2.2.2.1 hG2 rfl rfl rfl (hC.2.2.2.2.1 _ h2) (hC.2.2.2.2.1 _ h7) (hC.2.2.2.2.1 _ h3) h4 h5 hR) ⟨zblindC, fun U hU hW => zreadyC hC hao hP hD hS hU hW⟩ rfl hlen (by rw [hl0.1]; exact hC.2.2.1) rfl (lv_room hrm) hd ⟨hcs, hss⟩) hS hl0 kk
  · exact x_ranC (va_runIN (As := stO w as) (rest := stO w st) (b := w.2.2.2 a) (nL := nL) ⟨hC.1, hC.2.1, hC.2.2.1, hC.2.2.2.1, hC.2.2.2.2.1⟩ hM1 ⟨va_cnB na hC.2.2.2.2.1 hG2 rfl rfl rfl (hC.2.2.2.2.2.2.2.2.1 _ h7) (hC.2.2.2.2.1 _ h2) h5 hR, h4, hC.2.2.2.2.1 _ h3⟩ ⟨zblindC, fun U hU hW => zreadyC hC hao hP hD hS hU hW⟩ rfl hlen (by rw [hl0.1]; exact hC.2.2.1) rfl (lv_room hrm) hd ⟨hcs, hss⟩) hS hl0 kk
end XCL
theorem vk_S.to {N : Nat} {len : List Nat} {byt : List (List Int32)} {k v k' v' : Nat → Nat} {A : Nat → Prop} {U : State} {H : Heap} (h : vk_S N len byt k v A U H) (hk : ∀ i, i < N → k' i = k i) (hv : ∀ i, i < N → v' i = v i) : vk_S N len byt k' v' A U H :=
  ⟨fun i hi => by rw [hk i hi, hv i hi]; exact h.1 i hi, fun i j hi hj e => h.2 i j hi hj (by rw [← hk i hi, ← hk j hj]; exact e)⟩
def adM (t k v : Nat → Nat) (f : Nat) : Nat → Nat := fun i => if i < 4 then t i else if i < 6 then k (i - 4) else if i < 8 then v (i - 6) else f
def lw_c : Cond := Jvm.Cond.and given_1 narrow_1
def ktm (i : Nat) : Term := Term.string "WindingSquare$Reader" (zKi.getD i 0)
theorem st_1 : ∀ i, i < 4 → ∀ j, j < 4 → Cond.eq (.elem (.static (zsC i) (zsN i) "[I") (.int (Int32.ofNat j))) (.int (zsV i j)) ∈ flatC lw_c := by decide +kernel
theorem st_2 : ∀ i, i < 4 → Cond.arrayOf (.static (zsC i) (zsN i) "[I") .int ∈ flatC lw_c := by decide +kernel
theorem st_3 : ∀ i, i < 4 → Cond.eq (.length (.static (zsC i) (zsN i) "[I")) (.int 4) ∈ flatC lw_c := by decide +kernel
theorem st_4 : ∀ i, i < 4 → Cond.laysStatic (zsC i) (zsN i) "[I" ∈ lw_tbl ∧ Cond.initialized (zsC i) ∈ lw_tbl := by decide +kernel
theorem st_5 : ∀ i, i < 2 → Cond.exactly (ktm i) "java/lang/String" ∈ flatC lw_c := by decide +kernel
theorem st_6 : ∀ i, i < 2 → Cond.eq (.field (ktm i) "java/lang/String" "coder" "B") (.int 0) ∈ flatC lw_c := by decide +kernel
theorem st_7 : ∀ i, i < 2 → Cond.arrayOf (.field (ktm i) "java/lang/String" "value" "[B") .byte ∈ flatC lw_c := by decide +kernel
theorem st_8 : ∀ i, i < 2 → Cond.eq (.length (.field (ktm i) "java/lang/String" "value" "[B")) (.int (Int32.ofNat (zKl.getD i 0))) ∈ flatC lw_c := by decide +kernel
def kel (i j : Nat) : Cond := Cond.eq (.elem (.field (ktm i) "java/lang/String" "value" "[B") (.int (Int32.ofNat j))) (.int ((zKb.getD i []).getD j 0))
theorem st_9a : ((flatC lw_c).drop 65).take 150 = (List.range 150).map (kel 0) := by decide +kernel
theorem st_9b : ((flatC lw_c).drop 219).take 10 = (List.range 10).map (kel 1) := by decide +kernel
theorem st_9 : ∀ i, i < 2 → ∀ j, j < zKl.getD i 0 → kel i j ∈ flatC lw_c := by
  intro i hi j hj
  rcases (show i = 0 ∨ i = 1 by omega) with rfl | rfl
  · have hj : j < 150 := hj
    have : kel 0 j ∈ ((flatC lw_c).drop 65).take 150 := by rw [st_9a]; exact List.mem_map.mpr ⟨j, List.mem_range.mpr hj, rfl⟩
    exact List.mem_of_mem_drop (List.mem_of_mem_take this)
  · have hj : j < 10 := hj
    have : kel 1 j ∈ ((flatC lw_c).drop 219).take 10 := by rw [st_9b]; exact List.mem_map.mpr ⟨j, List.mem_range.mpr hj, rfl⟩
    exact List.mem_of_mem_drop (List.mem_of_mem_take this)
theorem st_10 : Cond.not (Cond.eq (ktm 0) (ktm 1)) ∈ flatC lw_c := by decide +kernel
theorem st_11 : Cond.eq (.static "java/lang/String" "COMPACT_STRINGS" "Z") (.int 1) ∈ flatC lw_c ∧ Cond.isRef (.static "jdk/internal/util/Preconditions" "SIOOBE_FORMATTER" "Ljava/util/function/BiFunction;") ∈ flatC lw_c := by decide +kernel
theorem st_12 : Cond.laysStatic "java/lang/String" "COMPACT_STRINGS" "Z" ∈ lw_tbl ∧ Cond.initialized "java/lang/String" ∈ lw_tbl ∧ Cond.laysStatic "jdk/internal/util/Preconditions" "SIOOBE_FORMATTER" "Ljava/util/function/BiFunction;" ∈ lw_tbl ∧ Cond.initialized "jdk/internal/util/Preconditions" ∈ lw_tbl := by decide +kernel
theorem st_13 : ∀ i, i < 2 → Cond.stringRef "WindingSquare$Reader" (zKi.getD i 0) (zKt.getD i "") ∈ lw_tbl := by decide +kernel
theorem st_14 : Cond.arrayOver (.object "WindingSquare$Square") ∈ lw_tbl ∧ Cond.arrayOver (.object "WindingSquare$Walker") ∈ lw_tbl ∧ Cond.arrayClass .int ∈ lw_tbl := by decide +kernel
/-- the static things at the start -/
theorem start_st {s : State} {b : Nat} (hts : ∀ w ∈ lw_tbl, w.before #[Value.ref b] s = true) (hgv : lw_c.before #[Value.ref b] s = true) : ∃ ad : Nat → Nat, ∀ (D : va_G) (ac : Nat → ClassId), zSt (s.heap.size, D, ac, ad) s s.heap ∧ zNs (s.heap.size, D, ac, ad) s := by
  have hs := flat_of_before _ hgv
  have hA : ∀ a : Nat, a < s.heap.size → ¬ (fun q : Nat => s.heap.size ≤ q) a := fun a h => Nat.not_le.mpr h
  have h1 : ∀ i, ∃ t : Nat, i < 4 → va_Z (zsC i) (zsN i) "[I" (.ref t) (fun q => s.heap.size ≤ q) s s.heap ∧ va_T .int t 4 (fun j => .int (zsV i j)) (fun q => s.heap.size ≤ q) s s.heap := by
    intro i
    by_cases hi : i < 4
    · obtain ⟨t, e1, e2⟩ := va_Tof (tm := .static (zsC i) (zsN i) "[I") (ty := .int) (N := 4) (f := fun j => .int (zsV i j)) (A := fun q => s.heap.size ≤ q) (by decide) (hs _ (st_2 i hi)) (va_eqt (hs _ (st_3 i hi))) (fun j hj => va_eqt (hs _ (st_1 i hi j hj))) hA
      exact ⟨t, fun _ => ⟨va_Zof (hts _ (st_4 i hi).1) (hts _ (st_4 i hi).2) e1 hA, e2⟩⟩
    · exact ⟨0, fun h => absurd h hi⟩
  obtain ⟨t, ht⟩ := Classical.axiomOfChoice h1
  obtain ⟨adK, adV, hK, hE⟩ := vk_Sof (N := 2) (tm := ktm) (len := zKl) (byt := zKb) (A := fun q => s.heap.size ≤ q) (by decide +kernel) (fun i hi => hs _ (st_5 i hi)) (fun i hi => hs _ (st_6 i hi)) (fun i hi => hs _ (st_7 i hi)) (fun i hi => hs _ (st_8 i hi)) (fun i hi j hj => hs _ (st_9 i hi j hj)) (fun i j hi hj hne => by
    rcases (show (i = 0 ∧ j = 1) ∨ (i = 1 ∧ j = 0) by omega) with ⟨rfl, rfl⟩ | ⟨rfl, rfl⟩
    · exact Or.inl (hs _ st_10)
    · exact Or.inr (hs _ st_10)) hA
  have hC := va_Zof (A := fun q => s.heap.size ≤ q) (hts _ st_12.1) (hts _ st_12.2.1) (va_eqi (hs _ st_11.1)) hA
  have hq := va_Zqof (A := fun q => s.heap.size ≤ q) (hts _ st_12.2.2.1) (hts _ st_12.2.2.2) (hs _ st_11.2) hA
  obtain ⟨f, hf⟩ : ∃ f : Nat, va_Z "jdk/internal/util/Preconditions" "SIOOBE_FORMATTER" "Ljava/util/function/BiFunction;" (if f = 0 then .null else .ref (f - 1)) (fun q => s.heap.size ≤ q) s s.heap := by
    rcases hq with h | ⟨t, h⟩
    · exact ⟨0, h⟩
    · exact ⟨t + 1, h⟩
  refine ⟨adM t adK adV f, fun D ac => ⟨⟨fun i hi => ?_, ?_, hC, hf⟩, fun c hc => ?_, fun i hi => ?_⟩⟩
  · have e : adM t adK adV f i = t i := if_pos hi
    show va_Z _ _ _ (.ref (adM t adK adV f i)) _ _ _ ∧ va_T .int (adM t adK adV f i) _ _ _ _ _
    rw [e]
    exact ht i hi
  · refine vk_S.to hK (fun i hi => ?_) (fun i hi => ?_)
    · show adM t adK adV f (4 + i) = adK i
      unfold adM
      rw [if_neg (by omega), if_pos (by omega), Nat.add_sub_cancel_left]
    · show adM t adK adV f (6 + i) = adV i
      unfold adM
      rw [if_neg (by omega), if_neg (by omega), if_pos (by omega), Nat.add_sub_cancel_left]
  · obtain ⟨q1, q2⟩ := List.mem_filter.mp hc
    have := hts _ q1
    cases c <;> first | exact va_Nw.of rfl this | (simp [isNest] at q2)
  · show vk_R _ _ _ (adM t adK adV f (4 + i)) s
    have e : adM t adK adV f (4 + i) = adK i := by
      unfold adM
      rw [if_neg (by omega), if_pos (by omega), Nat.add_sub_cancel_left]
    rw [e]
    exact vk_R.of (A := #[Value.ref b]) (hts _ (st_13 i hi)) (hE i hi)
