/-! ===== the memory of the system: cells by number, ints by place; refs, tags and addresses apart ===== -/
abbrev zM : Type := Nat → Nat → Int32
/-- how many cells; the tag of each (0 int[], 1 Square[], 2 Walker[], 3 + c an object of class c; the length); its references; its address -/
abbrev zW : Type := Nat × (Nat → Nat × Nat) × (Nat → Nat → Option Nat) × (Nat → Nat)
/-- the first address; class numbers and slots; array classes; the static things' addresses -/
abbrev zG : Type := Nat × va_G × (Nat → ClassId) × (Nat → Nat)
def zNl : List Nat := [1, 8, 8, 7, 5, 8, 12, 7, 8, 13, 18, 40]
def zNf (c : Nat) : Nat := zNl.getD c 0
def zIl : List (List Bool) := [[false], [true, true, false, false, false, false, false, false], [false, false, false, false, false, false, false, false], [true, false, false, false, false, true, false], [false, false, false, false, true], [true, true, true, false, false, false, false, true], [false, false, false, true, false, false, true, false, false, true, true, true], [false, false, true, true, true, true, true], [false, false, false, false, false, false, false, false], [true, true, true, true, true, true, true, true, true, true, true, true, true], [false, false, false, true, true, false, false, false, false, false, false, false, false, true, false, false, false, false], [false, false, false, false, true, true, true, true, true, true, true, true, true, true, true, false, false, true, false, true, false, false, false, false, false, false, false, false, true, true, true, false, false, false, false, false, false, false, false, false]]
def zIf (c j : Nat) : Bool := (zIl.getD c []).getD j false
def zRf (w : zW) (r : Option Nat) : Option Nat := r.map w.2.2.2
def zF (w : zW) (c : Nat) (R : Nat → Option Nat) (V : Nat → Int32) : List Value := (List.range (zNf c)).map fun j => if zIf c j then .int (V j) else va_rf (zRf w (R j))
def zE (g : zG) (w : zW) (M : zM) (k : Nat) : va_E := match (w.2.1 k).1 with
  | 0 => .inl (g.2.2.1 0, (w.2.1 k).2, .inl (M k))
  | 1 => .inl (g.2.2.1 1, (w.2.1 k).2, .inr (.inr (.inr (.inr fun i => zRf w (w.2.2.1 k i)))))
  | 2 => .inl (g.2.2.1 2, (w.2.1 k).2, .inr (.inr (.inr (.inr fun i => zRf w (w.2.2.1 k i)))))
  | c + 3 => .inr (c, zF w c (w.2.2.1 k) (M k))
def zS (g : zG) (w : zW) (M : zM) : va_W := (List.range w.1).map fun k => (w.2.2.2 k, zE g w M k)
def zT (g : zG) : List (ClassId × FieldType) := [(g.2.2.1 0, .int), (g.2.2.1 1, .object "WindingSquare$Square"), (g.2.2.1 2, .object "WindingSquare$Walker")]
abbrev zr (w : zW) (k : Nat) : Value := .ref (w.2.2.2 k)
def mset (M : zM) (a j : Nat) (v : Int32) : zM := fun k => if k = a then upd (M a) j v else M k
def mrow (M : zM) (a : Nat) (f : Nat → Int32) : zM := fun k => if k = a then f else M k
abbrev ix (i : Int32) : Nat := i.toNatClampNeg
abbrev inb (i : Int32) (n : Nat) : Prop := ¬ (i < 0 ∨ n ≤ i.toNatClampNeg)
theorem zS_get {g : zG} {w : zW} {M : zM} {k : Nat} (h : k < w.1) : (zS g w M)[k]? = some (w.2.2.2 k, zE g w M k) := by
  simp [zS, h]
theorem zS_len {g : zG} {w : zW} {M : zM} : (zS g w M).length = w.1 := by simp [zS]
theorem zS_set {g : zG} {w w' : zW} {M M' : zM} {k : Nat} {E' : va_E} (h1 : w'.1 = w.1) (h2 : w'.2.2.2 = w.2.2.2) (hE : zE g w' M' k = E') (ho : ∀ j, j ≠ k → zE g w' M' j = zE g w M j) : (zS g w M).set k (w.2.2.2 k, E') = zS g w' M' := by
  apply List.ext_getElem?
  intro j
  rw [List.getElem?_set]
  by_cases hj : k = j
  · subst hj
    rw [if_pos rfl]
    rw [zS_len]
    by_cases hk : k < w.1
    · rw [if_pos hk, zS_get (by rw [h1]; exact hk), h2, hE]
    · rw [if_neg hk]
      simp [zS, h1, hk]
  · rw [if_neg hj]
    by_cases hk : j < w.1
    · rw [zS_get hk, zS_get (by rw [h1]; exact hk), h2, ho j (fun e => hj e.symm)]
    · simp [zS, h1, hk]
/-! the static things: arrays DX, DY of the square, GAME_X, GAME_Y of the plane; two texts -/
def zsC (i : Nat) : String := (["WindingSquare", "WindingSquare", "WindingSquare$Plane", "WindingSquare$Plane"] : List String).getD i ""
def zsN (i : Nat) : String := (["DX", "DY", "GAME_X", "GAME_Y"] : List String).getD i ""
def zsV (i j : Nat) : Int32 := (([[0, 1, 0, -1], [1, 0, -1, 0], [-2, -2, 1, -1], [1, -1, -2, -2]] : List (List Int32)).getD i []).getD j 0
def zA (g : zG) : Nat → Prop := fun q => g.1 ≤ q
def zKb : List (List Int32) := [[115, 108, 105, 112, 115, 32, 115, 101, 101, 115, 32, 112, 97, 121, 115, 32, 119, 104, 101, 110, 32, 111, 114, 32, 97, 110, 100, 32, 110, 111, 116, 32, 104, 97, 115, 116, 101, 32, 116, 117, 114, 110, 115, 32, 115, 105, 103, 110, 115, 32, 120, 32, 121, 32, 102, 97, 99, 105, 110, 103, 32, 115, 110, 111, 119, 32, 105, 110, 115, 105, 100, 101, 32, 119, 97, 116, 99, 104, 32, 109, 105, 110, 117, 116, 101, 32, 115, 116, 111, 110, 101, 32, 115, 105, 103, 110, 32, 98, 97, 114, 101, 32, 116, 111, 32, 119, 97, 108, 107, 101, 114, 32, 97, 104, 101, 97, 100, 32, 108, 101, 102, 116, 32, 114, 105, 103, 104, 116, 32, 98, 97, 99, 107, 32, 119, 97, 105, 116, 32, 102, 114, 111, 109, 32, 98, 108, 105, 110, 100, 32], [59, 43, 45, 42, 47, 40, 41, 60, 61, 62]]
def zKl : List Nat := [150, 10]
def zKt : List String := ["slips sees pays when or and not haste turns signs x y facing snow inside watch minute stone sign bare to walker ahead left right back wait from blind ", ";+-*/()<=>"]
def zKi : List Nat := [76, 63]
def isNest : Cond → Bool
  | .fieldLinkNest .. => true
  | .methodLinkNest .. => true
  | _ => false
def lw_nest : List Cond := lw_tbl.filter isNest
def lw_g : List Cond := lw_tbl.filter goodWord
theorem lw_g_good {w : Cond} (h : w ∈ lw_g) : w ∈ lw_tbl ∧ goodWord w = true := List.mem_filter.mp h
/-- JDK's own: the formatter of a message, null or a reference: only carried -/
def zFv (g : zG) : Value := if g.2.2.2 8 = 0 then .null else .ref (g.2.2.2 8 - 1)
/-- of the static things: what the heap holds -/
def zSt (g : zG) (U : State) (H : Heap) : Prop := (∀ i, i < 4 → va_Z (zsC i) (zsN i) "[I" (.ref (g.2.2.2 i)) (zA g) U H ∧ va_T .int (g.2.2.2 i) 4 (fun j => .int (zsV i j)) (zA g) U H) ∧ vk_S 2 zKl zKb (fun i => g.2.2.2 (4 + i)) (fun i => g.2.2.2 (6 + i)) (zA g) U H ∧ va_Z "java/lang/String" "COMPACT_STRINGS" "Z" (.int 1) (zA g) U H ∧ va_Z "jdk/internal/util/Preconditions" "SIOOBE_FORMATTER" "Ljava/util/function/BiFunction;" (zFv g) (zA g) U H
theorem zSt.moved {g : zG} {u U : State} {H : Heap} (hvm : u.vm.Alike U.vm) (h : zSt g u H) : zSt g U H := ⟨fun i hi => ⟨va_Z.moved hvm (h.1 i hi).1, va_T.moved hvm (h.1 i hi).2⟩, vk_S.moved hvm h.2.1, va_Z.moved hvm h.2.2.1, va_Z.moved hvm h.2.2.2⟩
theorem zSt.kept {g : zG} {U : State} {H H1 : Heap} (h : zSt g U H) (hq : ∀ a : Nat, a < H.size → ¬ zA g a → H1[a]? = H[a]?) : zSt g U H1 := ⟨fun i hi => ⟨(h.1 i hi).1.kept hq, (h.1 i hi).2.kept hq⟩, h.2.1.kept hq, h.2.2.1.kept hq, h.2.2.2.kept hq⟩
/-- what the tables hold beside the good words: private things of nest mates, texts -/
def zNs (g : zG) (U : State) : Prop := (∀ c ∈ lw_nest, va_Nw c U) ∧ ∀ i, i < 2 → vk_R "WindingSquare$Reader" (zKi.getD i 0) (zKt.getD i "") (g.2.2.2 (4 + i)) U
theorem zNs.warm {g : zG} {s U : State} (hW : s.WarmedH U.vm) (h : zNs g s) : zNs g U := by
  refine ⟨fun c hc => ?_, fun i hi => vk_R.warm hW (h.2 i hi)⟩
  have h1 := h.1 c hc
  have h2 := (List.mem_filter.mp hc).2
  cases c <;> first | exact va_Nw.warmF hW h1 | exact va_Nw.warmM hW h1 | (simp [isNest] at h2)
theorem zNs.same {g : zG} {s U : State} (hv : s.vm = U.vm) (h : zNs g s) : zNs g U := by
  refine ⟨fun c hc => ?_, fun i hi => vk_R.same hv.symm (h.2 i hi)⟩
  have h1 := h.1 c hc
  have h2 := (List.mem_filter.mp hc).2
  cases c <;> first | exact va_Nw.same rfl hv h1 | (simp [isNest] at h2)
/-- part of the memory is the method's own, the rest stays -/
def zB (zn : Nat → Bool) (M0 M : zM) : zM := fun k => if zn k = true then M k else M0 k
theorem zB_in {zn : Nat → Bool} {M0 M : zM} {k : Nat} (h : zn k = true) : zB zn M0 M k = M k := if_pos h
theorem zB_set {zn : Nat → Bool} {M0 M : zM} {a j : Nat} {v : Int32} (h : zn a = true) : mset (zB zn M0 M) a j v = zB zn M0 (mset M a j v) := by
  funext k
  by_cases hk : k = a
  · subst hk
    simp [mset, zB, h]
  · simp [mset, zB, hk]
theorem zB_row {zn : Nat → Bool} {M0 M : zM} {a : Nat} {f : Nat → Int32} (h : zn a = true) : mrow (zB zn M0 M) a f = zB zn M0 (mrow M a f) := by
  funext k
  by_cases hk : k = a
  · subst hk
    simp [mrow, zB, h]
  · simp [mrow, zB, hk]
/-! ===== the judgement ===== -/
abbrev zC : Type := (Program × Launch × Env × Room × State × MethodId × Array Value × List Frame × Method × Code) × (State → Prop) × zG × (Nat → Bool) × zM
def Zs (C : zC) (w : zW) (n : Nat × Nat) (pc : Nat) (lv : List (Nat × Value)) (st : List Value) (M : zM) : Prop :=
  ∀ (H : Heap) (locs : List Loc) (ls : Array Slot), va_P C.2.2.1.2.1 vwCl (zS C.2.2.1 w (zB C.2.2.2.1 C.2.2.2.2 M)) H → va_D (zA C.2.2.1) (zS C.2.2.1 w (zB C.2.2.2.1 C.2.2.2.2 M)) →
    va_S (zA C.2.2.1) C.1.2.2.2.2.1.heap H locs → lv_has ls C.1.2.2.2.2.2.2.2.2.2.maxLocals lv →
    W C.1.1 C.1.2.1 C.1.2.2.1 C.1.2.2.2.1 C.1.2.2.2.2.1 C.1.2.2.2.2.2.1 C.1.2.2.2.2.2.2.1 C.1.2.2.2.2.2.2.2.1 C.1.2.2.2.2.2.2.2.2.1 C.1.2.2.2.2.2.2.2.2.2 H locs n.1 n.2 C.2.1 (F0 C.1.2.2.2.2.2.1 pc ls st)
def Cok (C : zC) (cc : ByteArray) (nL : Nat) (own : String) : Prop :=
  C.1.1.tables.exec = Jvm.exec ∧ C.1.2.2.2.2.2.2.2.2.2.code = cc ∧ C.1.2.2.2.2.2.2.2.2.2.maxLocals = nL ∧ C.1.2.2.2.2.1.vm.findClass own = some C.1.2.2.2.2.2.1.cls ∧
  (∀ w ∈ lw_g, w.before C.1.2.2.2.2.2.2.1 C.1.2.2.2.2.1 = true) ∧ va_K C.2.2.1.2.1 vwCl (zT C.2.2.1) C.1.2.2.2.2.1 ∧ zSt C.2.2.1 C.1.2.2.2.2.1 C.1.2.2.2.2.1.heap ∧ C.2.2.1.1 ≤ C.1.2.2.2.2.1.heap.size ∧ zNs C.2.2.1 C.1.2.2.2.2.1
/-- the machine, from here on, does what x says: if x comes to a, and behind it all is well, then so it is here -/
def Sg {α : Type} (C : zC) (w : zW) (n : Nat × Nat) (pc : Nat) (lv : List (Nat × Value)) (st : List Value) (M : zM) (x : Option α) (K : α → Prop) : Prop := ∀ a, x = some a → K a → Zs C w n pc lv st M
/-- a number gets a name -/
def nm {α β : Type} (e : α) (k : α → β) : β := k e
/-- else nothing -/
def grd {α : Type} (c : Prop) [Decidable c] (x : Option α) : Option α := if c then x else none
abbrev isB (v : Int32) : Prop := v = 0 ∨ v = 1
def irem (x y : Int32) : Int32 := x - x / y * y
def iush (x y : Int32) : Int32 := (x.toUInt32 >>> (y.toUInt32 &&& Int32.toUInt32 31)).toInt32
def i2c (x : Int32) : Int32 := (x.toUInt32 % 65536).toInt32
section XR
variable {α : Type} {C : zC} {w : zW} {n : Nat × Nat} {cc : ByteArray} {nL : Nat} {own : String} {pc : Nat} {lv : List (Nat × Value)} {st : List Value} {M : zM} {X Y : Option α} {K : α → Prop}
theorem x_iconst (hC : Cok C cc nL own) {q : Int} {v : Int32} (hd : decode cc pc = .ok (.iconst q, 1)) (hv : Int32.ofInt q = v) (k : Sg C w n (pc + 1) lv (.int v :: st) M X K) : Sg C w n pc lv (st) M X K :=
  fun a ha hK H locs ls hP hD hS hl => lv_iconst hC.1 hC.2.1 hd hv (k a ha hK H locs ls hP hD hS hl)
theorem x_bipush (hC : Cok C cc nL own) {q : Int} {v : Int32} (hd : decode cc pc = .ok (.bipush q, 2)) (hv : (Int8.ofInt q).toInt32 = v) (k : Sg C w n (pc + 2) lv (.int v :: st) M X K) : Sg C w n pc lv (st) M X K :=
  fun a ha hK H locs ls hP hD hS hl => lv_bipush hC.1 hC.2.1 hd hv (k a ha hK H locs ls hP hD hS hl)
theorem x_sipush (hC : Cok C cc nL own) {q : Int} {v : Int32} (hd : decode cc pc = .ok (.sipush q, 3)) (hv : (Int16.ofInt q).toInt32 = v) (k : Sg C w n (pc + 3) lv (.int v :: st) M X K) : Sg C w n pc lv (st) M X K :=
  fun a ha hK H locs ls hP hD hS hl => lv_sipush hC.1 hC.2.1 hd hv (k a ha hK H locs ls hP hD hS hl)
theorem x_iload_n (hC : Cok C cc nL own) {f : Fin 4} {i : Nat} {x : Int32} (hd : decode cc pc = .ok (.iload_n f, 1)) (hi : (f : Nat) = i) (q : Nat) (hq : lv[q]? = some (i, .int x)) (k : Sg C w n (pc + 1) lv (.int x :: st) M X K) : Sg C w n pc lv (st) M X K :=
  fun a ha hK H locs ls hP hD hS hl => lv_iload_n hC.1 hC.2.1 hd hi (lv_at hl q hq) (k a ha hK H locs ls hP hD hS hl)
theorem x_iload (hC : Cok C cc nL own) {i : Nat} {x : Int32} (hd : decode cc pc = .ok (.iload i, 2)) (q : Nat) (hq : lv[q]? = some (i, .int x)) (k : Sg C w n (pc + 2) lv (.int x :: st) M X K) : Sg C w n pc lv (st) M X K :=
  fun a ha hK H locs ls hP hD hS hl => lv_iload hC.1 hC.2.1 hd (lv_at hl q hq) (k a ha hK H locs ls hP hD hS hl)
theorem x_aload_n (hC : Cok C cc nL own) {f : Fin 4} {i x : Nat} (hd : decode cc pc = .ok (.aload_n f, 1)) (hi : (f : Nat) = i) (q : Nat) (hq : lv[q]? = some (i, .ref x)) (k : Sg C w n (pc + 1) lv (.ref x :: st) M X K) : Sg C w n pc lv (st) M X K :=
  fun a ha hK H locs ls hP hD hS hl => lv_aload_n hC.1 hC.2.1 hd hi (lv_at hl q hq) (k a ha hK H locs ls hP hD hS hl)
theorem x_aload (hC : Cok C cc nL own) {i x : Nat} (hd : decode cc pc = .ok (.aload i, 2)) (q : Nat) (hq : lv[q]? = some (i, .ref x)) (k : Sg C w n (pc + 2) lv (.ref x :: st) M X K) : Sg C w n pc lv (st) M X K :=
  fun a ha hK H locs ls hP hD hS hl => lv_aload hC.1 hC.2.1 hd (lv_at hl q hq) (k a ha hK H locs ls hP hD hS hl)
theorem x_iadd (hC : Cok C cc nL own) {x y : Int32} (hd : decode cc pc = .ok (.iadd, 1)) (k : Sg C w n (pc + 1) lv (.int (x + y) :: st) M X K) : Sg C w n pc lv (.int y :: .int x :: st) M X K :=
  fun a ha hK H locs ls hP hD hS hl => lv_iadd hC.1 hC.2.1 hd (k a ha hK H locs ls hP hD hS hl)
theorem x_isub (hC : Cok C cc nL own) {x y : Int32} (hd : decode cc pc = .ok (.isub, 1)) (k : Sg C w n (pc + 1) lv (.int (x - y) :: st) M X K) : Sg C w n pc lv (.int y :: .int x :: st) M X K :=
  fun a ha hK H locs ls hP hD hS hl => lv_isub hC.1 hC.2.1 hd (k a ha hK H locs ls hP hD hS hl)
theorem x_imul (hC : Cok C cc nL own) {x y : Int32} (hd : decode cc pc = .ok (.imul, 1)) (k : Sg C w n (pc + 1) lv (.int (x * y) :: st) M X K) : Sg C w n pc lv (.int y :: .int x :: st) M X K :=
  fun a ha hK H locs ls hP hD hS hl => lv_imul hC.1 hC.2.1 hd (k a ha hK H locs ls hP hD hS hl)
theorem x_iand (hC : Cok C cc nL own) {x y : Int32} (hd : decode cc pc = .ok (.iand, 1)) (k : Sg C w n (pc + 1) lv (.int (x &&& y) :: st) M X K) : Sg C w n pc lv (.int y :: .int x :: st) M X K :=
  fun a ha hK H locs ls hP hD hS hl => lv_iand hC.1 hC.2.1 hd (k a ha hK H locs ls hP hD hS hl)
theorem x_ior (hC : Cok C cc nL own) {x y : Int32} (hd : decode cc pc = .ok (.ior, 1)) (k : Sg C w n (pc + 1) lv (.int (x ||| y) :: st) M X K) : Sg C w n pc lv (.int y :: .int x :: st) M X K :=
  fun a ha hK H locs ls hP hD hS hl => lv_ior hC.1 hC.2.1 hd (k a ha hK H locs ls hP hD hS hl)
theorem x_ixor (hC : Cok C cc nL own) {x y : Int32} (hd : decode cc pc = .ok (.ixor, 1)) (k : Sg C w n (pc + 1) lv (.int (x ^^^ y) :: st) M X K) : Sg C w n pc lv (.int y :: .int x :: st) M X K :=
  fun a ha hK H locs ls hP hD hS hl => lv_ixor hC.1 hC.2.1 hd (k a ha hK H locs ls hP hD hS hl)
theorem x_ishl (hC : Cok C cc nL own) {x y : Int32} (hd : decode cc pc = .ok (.ishl, 1)) (k : Sg C w n (pc + 1) lv (.int (x <<< (y &&& 31)) :: st) M X K) : Sg C w n pc lv (.int y :: .int x :: st) M X K :=
  fun a ha hK H locs ls hP hD hS hl => lv_ishl hC.1 hC.2.1 hd (k a ha hK H locs ls hP hD hS hl)
theorem x_ishr (hC : Cok C cc nL own) {x y : Int32} (hd : decode cc pc = .ok (.ishr, 1)) (k : Sg C w n (pc + 1) lv (.int (x >>> (y &&& 31)) :: st) M X K) : Sg C w n pc lv (.int y :: .int x :: st) M X K :=
  fun a ha hK H locs ls hP hD hS hl => lv_ishr hC.1 hC.2.1 hd (k a ha hK H locs ls hP hD hS hl)
theorem x_ineg (hC : Cok C cc nL own) {x : Int32} (hd : decode cc pc = .ok (.ineg, 1)) (k : Sg C w n (pc + 1) lv (.int (-x) :: st) M X K) : Sg C w n pc lv (.int x :: st) M X K :=
  fun a ha hK H locs ls hP hD hS hl => lv_ineg hC.1 hC.2.1 hd (k a ha hK H locs ls hP hD hS hl)
theorem x_iushr (hC : Cok C cc nL own) {x y : Int32} (hd : decode cc pc = .ok (.iushr, 1)) (k : Sg C w n (pc + 1) lv (.int (iush x y) :: st) M X K) : Sg C w n pc lv (.int y :: .int x :: st) M X K :=
  fun a ha hK H locs ls hP hD hS hl => lv_iushr hC.1 hC.2.1 hd rfl (k a ha hK H locs ls hP hD hS hl)
theorem x_i2c (hC : Cok C cc nL own) {x : Int32} (hd : decode cc pc = .ok (.i2c, 1)) (k : Sg C w n (pc + 1) lv (.int (i2c x) :: st) M X K) : Sg C w n pc lv (.int x :: st) M X K :=
  fun a ha hK H locs ls hP hD hS hl => lv_i2c hC.1 hC.2.1 hd rfl (k a ha hK H locs ls hP hD hS hl)
theorem x_idiv0 (hC : Cok C cc nL own) {x y : Int32} (hd : decode cc pc = .ok (.idiv, 1)) (hne : ¬ y = 0) (k : Sg C w n (pc + 1) lv (.int (x / y) :: st) M X K) : Sg C w n pc lv (.int y :: .int x :: st) M X K :=
  fun a ha hK H locs ls hP hD hS hl => lv_idiv hC.1 hC.2.1 hd hne (k a ha hK H locs ls hP hD hS hl)
theorem x_irem0 (hC : Cok C cc nL own) {x y : Int32} (hd : decode cc pc = .ok (.irem, 1)) (hne : ¬ y = 0) (k : Sg C w n (pc + 1) lv (.int (irem x y) :: st) M X K) : Sg C w n pc lv (.int y :: .int x :: st) M X K :=
  fun a ha hK H locs ls hP hD hS hl => lv_irem hC.1 hC.2.1 hd hne (k a ha hK H locs ls hP hD hS hl)
theorem x_dup (hC : Cok C cc nL own) {v : Value} (hd : decode cc pc = .ok (.dup, 1)) (hc : v.category = 1) (k : Sg C w n (pc + 1) lv (v :: v :: st) M X K) : Sg C w n pc lv (v :: st) M X K :=
  fun a ha hK H locs ls hP hD hS hl => lv_dup hC.1 hC.2.1 hd hc (k a ha hK H locs ls hP hD hS hl)
theorem x_pop (hC : Cok C cc nL own) {v : Value} (hd : decode cc pc = .ok (.pop, 1)) (hc : v.category = 1) (k : Sg C w n (pc + 1) lv (st) M X K) : Sg C w n pc lv (v :: st) M X K :=
  fun a ha hK H locs ls hP hD hS hl => lv_pop hC.1 hC.2.1 hd hc (k a ha hK H locs ls hP hD hS hl)
theorem x_dup2 (hC : Cok C cc nL own) {u v : Value} (hd : decode cc pc = .ok (.dup2, 1)) (hc : u.category = 1) (hc2 : v.category = 1) (k : Sg C w n (pc + 1) lv (u :: v :: u :: v :: st) M X K) : Sg C w n pc lv (u :: v :: st) M X K :=
  fun a ha hK H locs ls hP hD hS hl => lv_dup2_11 hC.1 hC.2.1 hd hc hc2 (k a ha hK H locs ls hP hD hS hl)
theorem x_ladd (hC : Cok C cc nL own) {x y : Int64} (hd : decode cc pc = .ok (.ladd, 1)) (k : Sg C w n (pc + 1) lv (.long (x + y) :: st) M X K) : Sg C w n pc lv (.long y :: .long x :: st) M X K :=
  fun a ha hK H locs ls hP hD hS hl => lv_ladd hC.1 hC.2.1 hd (k a ha hK H locs ls hP hD hS hl)
theorem x_lmul (hC : Cok C cc nL own) {x y : Int64} (hd : decode cc pc = .ok (.lmul, 1)) (k : Sg C w n (pc + 1) lv (.long (x * y) :: st) M X K) : Sg C w n pc lv (.long y :: .long x :: st) M X K :=
  fun a ha hK H locs ls hP hD hS hl => lv_lmul hC.1 hC.2.1 hd (k a ha hK H locs ls hP hD hS hl)
theorem x_lrem0 (hC : Cok C cc nL own) {x y : Int64} (hd : decode cc pc = .ok (.lrem, 1)) (hne : ¬ y = 0) (k : Sg C w n (pc + 1) lv (.long (x - x / y * y) :: st) M X K) : Sg C w n pc lv (.long y :: .long x :: st) M X K :=
  fun a ha hK H locs ls hP hD hS hl => lv_lrem hC.1 hC.2.1 hd hne (k a ha hK H locs ls hP hD hS hl)
theorem x_i2l (hC : Cok C cc nL own) {x : Int32} (hd : decode cc pc = .ok (.i2l, 1)) (k : Sg C w n (pc + 1) lv (.long x.toInt64 :: st) M X K) : Sg C w n pc lv (.int x :: st) M X K :=
  fun a ha hK H locs ls hP hD hS hl => lv_i2l hC.1 hC.2.1 hd rfl (k a ha hK H locs ls hP hD hS hl)
theorem x_l2i (hC : Cok C cc nL own) {x : Int64} (hd : decode cc pc = .ok (.l2i, 1)) (k : Sg C w n (pc + 1) lv (.int x.toInt32 :: st) M X K) : Sg C w n pc lv (.long x :: st) M X K :=
  fun a ha hK H locs ls hP hD hS hl => lv_l2i hC.1 hC.2.1 hd rfl (k a ha hK H locs ls hP hD hS hl)
theorem x_ldc (hC : Cok C cc nL own) {i : Nat} {v : Int32} (hd : decode cc pc = .ok (.ldc i, 2)) (hk : Cond.constant own i v ∈ lw_g) (k : Sg C w n (pc + 2) lv (.int v :: st) M X K) : Sg C w n pc lv (st) M X K :=
  fun a ha hK H locs ls hP hD hS hl => lv_ldc hC.1 hC.2.1 hC.2.2.2.1 (hC.2.2.2.2.1 _ hk) hd (k a ha hK H locs ls hP hD hS hl)
theorem x_ldc2 (hC : Cok C cc nL own) {i : Nat} {v : Int64} (hd : decode cc pc = .ok (.ldc2_w i, 3)) (hk : Cond.constantLong own i v ∈ lw_g) (k : Sg C w n (pc + 3) lv (.long v :: st) M X K) : Sg C w n pc lv (st) M X K :=
  fun a ha hK H locs ls hP hD hS hl => lv_ldc2 hC.1 hC.2.1 hC.2.2.2.1 (hC.2.2.2.2.1 _ hk) hd (k a ha hK H locs ls hP hD hS hl)
theorem x_istore_n (hC : Cok C cc nL own) {f : Fin 4} {i : Nat} {x : Int32} (hd : decode cc pc = .ok (.istore_n f, 1)) (hi : (f : Nat) = i) (lv' : List (Nat × Value)) (hn : i < nL) (hl : (i, Value.int x) :: lv.filter (fun q => !(q.1 == i) && !(q.1 + 1 == i && q.2.category == 2)) = lv') (k : Sg C w n (pc + 1) lv' st M X K) : Sg C w n pc lv (.int x :: st) M X K :=
  fun a ha hK H locs ls hP hD hS hl0 => lv_istore_n hC.1 hC.2.1 hd hi hl0 (by rw [hC.2.2.1]; exact hn) hl (fun ls' hl' => k a ha hK H locs ls' hP hD hS hl')
theorem x_istore (hC : Cok C cc nL own) {f : Fin 4} {i : Nat} {x : Int32} (hd : decode cc pc = .ok (.istore i, 2)) (lv' : List (Nat × Value)) (hn : i < nL) (hl : (i, Value.int x) :: lv.filter (fun q => !(q.1 == i) && !(q.1 + 1 == i && q.2.category == 2)) = lv') (k : Sg C w n (pc + 2) lv' st M X K) : Sg C w n pc lv (.int x :: st) M X K :=
  fun a ha hK H locs ls hP hD hS hl0 => lv_istore hC.1 hC.2.1 hd hl0 (by rw [hC.2.2.1]; exact hn) hl (fun ls' hl' => k a ha hK H locs ls' hP hD hS hl')
theorem x_astore_n (hC : Cok C cc nL own) {f : Fin 4} {i : Nat} {x : Nat} (hd : decode cc pc = .ok (.astore_n f, 1)) (hi : (f : Nat) = i) (lv' : List (Nat × Value)) (hn : i < nL) (hl : (i, Value.ref x) :: lv.filter (fun q => !(q.1 == i) && !(q.1 + 1 == i && q.2.category == 2)) = lv') (k : Sg C w n (pc + 1) lv' st M X K) : Sg C w n pc lv (.ref x :: st) M X K :=
  fun a ha hK H locs ls hP hD hS hl0 => lv_astore_n hC.1 hC.2.1 hd hi hl0 (by rw [hC.2.2.1]; exact hn) hl (fun ls' hl' => k a ha hK H locs ls' hP hD hS hl')
theorem x_astore (hC : Cok C cc nL own) {f : Fin 4} {i : Nat} {x : Nat} (hd : decode cc pc = .ok (.astore i, 2)) (lv' : List (Nat × Value)) (hn : i < nL) (hl : (i, Value.ref x) :: lv.filter (fun q => !(q.1 == i) && !(q.1 + 1 == i && q.2.category == 2)) = lv') (k : Sg C w n (pc + 2) lv' st M X K) : Sg C w n pc lv (.ref x :: st) M X K :=
  fun a ha hK H locs ls hP hD hS hl0 => lv_astore hC.1 hC.2.1 hd hl0 (by rw [hC.2.2.1]; exact hn) hl (fun ls' hl' => k a ha hK H locs ls' hP hD hS hl')
theorem x_iinc (hC : Cok C cc nL own) {i : Nat} {q : Int} {x c : Int32} (hd : decode cc pc = .ok (.iinc i q, 3)) (hc : Int32.ofInt q = c) (lv' : List (Nat × Value)) (kq : Nat) (hq : lv[kq]? = some (i, .int x)) (hn : i < nL) (hl : (i, Value.int (x + c)) :: lv.filter (fun q => !(q.1 == i) && !(q.1 + 1 == i && q.2.category == 2)) = lv') (k : Sg C w n (pc + 3) lv' st M X K) : Sg C w n pc lv st M X K :=
  fun a ha hK H locs ls hP hD hS hl0 => lv_iinc hC.1 hC.2.1 hd hl0 hq (by rw [hc]) (by rw [hC.2.2.1]; exact hn) hl (fun ls' hl' => k a ha hK H locs ls' hP hD hS hl')
theorem x_icmp_lt (hC : Cok C cc nL own) {x y : Int32} {off : Int} {tgt : Nat} [Decidable (x < y)] (hd : decode cc pc = .ok (.if_icmp .lt off, 3)) (ht : (pc : Int) + off = (tgt : Int)) (kt : Sg C w n tgt lv st M X K) (kf : Sg C w n (pc + 3) lv st M Y K) : Sg C w n pc lv (.int y :: .int x :: st) M (if x < y then X else Y) K :=
  fun a ha hK H locs ls hP hD hS hl => lv_icmp_lt hC.1 hC.2.1 hd ht (fun h => kt a (by rw [if_pos h] at ha; exact ha) hK H locs ls hP hD hS hl) (fun h => kf a (by rw [if_neg h] at ha; exact ha) hK H locs ls hP hD hS hl)
theorem x_if_lt (hC : Cok C cc nL own) {x : Int32} {off : Int} {tgt : Nat} [Decidable (x < 0)] (hd : decode cc pc = .ok (.ifCond .lt off, 3)) (ht : (pc : Int) + off = (tgt : Int)) (kt : Sg C w n tgt lv st M X K) (kf : Sg C w n (pc + 3) lv st M Y K) : Sg C w n pc lv (.int x :: st) M (if x < 0 then X else Y) K :=
  fun a ha hK H locs ls hP hD hS hl => lv_if_lt hC.1 hC.2.1 hd ht (fun h => kt a (by rw [if_pos h] at ha; exact ha) hK H locs ls hP hD hS hl) (fun h => kf a (by rw [if_neg h] at ha; exact ha) hK H locs ls hP hD hS hl)
theorem x_icmp_ge (hC : Cok C cc nL own) {x y : Int32} {off : Int} {tgt : Nat} [Decidable (y ≤ x)] (hd : decode cc pc = .ok (.if_icmp .ge off, 3)) (ht : (pc : Int) + off = (tgt : Int)) (kt : Sg C w n tgt lv st M X K) (kf : Sg C w n (pc + 3) lv st M Y K) : Sg C w n pc lv (.int y :: .int x :: st) M (if y ≤ x then X else Y) K :=
  fun a ha hK H locs ls hP hD hS hl => lv_icmp_ge hC.1 hC.2.1 hd ht (fun h => kt a (by rw [if_pos h] at ha; exact ha) hK H locs ls hP hD hS hl) (fun h => kf a (by rw [if_neg h] at ha; exact ha) hK H locs ls hP hD hS hl)
theorem x_if_ge (hC : Cok C cc nL own) {x : Int32} {off : Int} {tgt : Nat} [Decidable (0 ≤ x)] (hd : decode cc pc = .ok (.ifCond .ge off, 3)) (ht : (pc : Int) + off = (tgt : Int)) (kt : Sg C w n tgt lv st M X K) (kf : Sg C w n (pc + 3) lv st M Y K) : Sg C w n pc lv (.int x :: st) M (if 0 ≤ x then X else Y) K :=
  fun a ha hK H locs ls hP hD hS hl => lv_if_ge hC.1 hC.2.1 hd ht (fun h => kt a (by rw [if_pos h] at ha; exact ha) hK H locs ls hP hD hS hl) (fun h => kf a (by rw [if_neg h] at ha; exact ha) hK H locs ls hP hD hS hl)
theorem x_icmp_gt (hC : Cok C cc nL own) {x y : Int32} {off : Int} {tgt : Nat} [Decidable (y < x)] (hd : decode cc pc = .ok (.if_icmp .gt off, 3)) (ht : (pc : Int) + off = (tgt : Int)) (kt : Sg C w n tgt lv st M X K) (kf : Sg C w n (pc + 3) lv st M Y K) : Sg C w n pc lv (.int y :: .int x :: st) M (if y < x then X else Y) K :=
  fun a ha hK H locs ls hP hD hS hl => lv_icmp_gt hC.1 hC.2.1 hd ht (fun h => kt a (by rw [if_pos h] at ha; exact ha) hK H locs ls hP hD hS hl) (fun h => kf a (by rw [if_neg h] at ha; exact ha) hK H locs ls hP hD hS hl)
theorem x_if_gt (hC : Cok C cc nL own) {x : Int32} {off : Int} {tgt : Nat} [Decidable (0 < x)] (hd : decode cc pc = .ok (.ifCond .gt off, 3)) (ht : (pc : Int) + off = (tgt : Int)) (kt : Sg C w n tgt lv st M X K) (kf : Sg C w n (pc + 3) lv st M Y K) : Sg C w n pc lv (.int x :: st) M (if 0 < x then X else Y) K :=
  fun a ha hK H locs ls hP hD hS hl => lv_if_gt hC.1 hC.2.1 hd ht (fun h => kt a (by rw [if_pos h] at ha; exact ha) hK H locs ls hP hD hS hl) (fun h => kf a (by rw [if_neg h] at ha; exact ha) hK H locs ls hP hD hS hl)
theorem x_icmp_le (hC : Cok C cc nL own) {x y : Int32} {off : Int} {tgt : Nat} [Decidable (x ≤ y)] (hd : decode cc pc = .ok (.if_icmp .le off, 3)) (ht : (pc : Int) + off = (tgt : Int)) (kt : Sg C w n tgt lv st M X K) (kf : Sg C w n (pc + 3) lv st M Y K) : Sg C w n pc lv (.int y :: .int x :: st) M (if x ≤ y then X else Y) K :=
  fun a ha hK H locs ls hP hD hS hl => lv_icmp_le hC.1 hC.2.1 hd ht (fun h => kt a (by rw [if_pos h] at ha; exact ha) hK H locs ls hP hD hS hl) (fun h => kf a (by rw [if_neg h] at ha; exact ha) hK H locs ls hP hD hS hl)
theorem x_if_le (hC : Cok C cc nL own) {x : Int32} {off : Int} {tgt : Nat} [Decidable (x ≤ 0)] (hd : decode cc pc = .ok (.ifCond .le off, 3)) (ht : (pc : Int) + off = (tgt : Int)) (kt : Sg C w n tgt lv st M X K) (kf : Sg C w n (pc + 3) lv st M Y K) : Sg C w n pc lv (.int x :: st) M (if x ≤ 0 then X else Y) K :=
  fun a ha hK H locs ls hP hD hS hl => lv_if_le hC.1 hC.2.1 hd ht (fun h => kt a (by rw [if_pos h] at ha; exact ha) hK H locs ls hP hD hS hl) (fun h => kf a (by rw [if_neg h] at ha; exact ha) hK H locs ls hP hD hS hl)
theorem x_icmp_eq (hC : Cok C cc nL own) {x y : Int32} {off : Int} {tgt : Nat} [Decidable (x = y)] (hd : decode cc pc = .ok (.if_icmp .eq off, 3)) (ht : (pc : Int) + off = (tgt : Int)) (kt : Sg C w n tgt lv st M X K) (kf : Sg C w n (pc + 3) lv st M Y K) : Sg C w n pc lv (.int y :: .int x :: st) M (if x = y then X else Y) K :=
  fun a ha hK H locs ls hP hD hS hl => lv_icmp_eq hC.1 hC.2.1 hd ht (fun h => kt a (by rw [if_pos h] at ha; exact ha) hK H locs ls hP hD hS hl) (fun h => kf a (by rw [if_neg h] at ha; exact ha) hK H locs ls hP hD hS hl)
theorem x_if_eq (hC : Cok C cc nL own) {x : Int32} {off : Int} {tgt : Nat} [Decidable (x = 0)] (hd : decode cc pc = .ok (.ifCond .eq off, 3)) (ht : (pc : Int) + off = (tgt : Int)) (kt : Sg C w n tgt lv st M X K) (kf : Sg C w n (pc + 3) lv st M Y K) : Sg C w n pc lv (.int x :: st) M (if x = 0 then X else Y) K :=
  fun a ha hK H locs ls hP hD hS hl => lv_if_eq hC.1 hC.2.1 hd ht (fun h => kt a (by rw [if_pos h] at ha; exact ha) hK H locs ls hP hD hS hl) (fun h => kf a (by rw [if_neg h] at ha; exact ha) hK H locs ls hP hD hS hl)
theorem x_icmp_ne (hC : Cok C cc nL own) {x y : Int32} {off : Int} {tgt : Nat} [Decidable (x = y)] (hd : decode cc pc = .ok (.if_icmp .ne off, 3)) (ht : (pc : Int) + off = (tgt : Int)) (kf : Sg C w n (pc + 3) lv st M X K) (kt : Sg C w n tgt lv st M Y K) : Sg C w n pc lv (.int y :: .int x :: st) M (if x = y then X else Y) K :=
  fun a ha hK H locs ls hP hD hS hl => lv_icmp_ne hC.1 hC.2.1 hd ht (fun h => kt a (by rw [if_neg h] at ha; exact ha) hK H locs ls hP hD hS hl) (fun h => kf a (by rw [if_pos h] at ha; exact ha) hK H locs ls hP hD hS hl)
theorem x_if_ne (hC : Cok C cc nL own) {x : Int32} {off : Int} {tgt : Nat} [Decidable (x = 0)] (hd : decode cc pc = .ok (.ifCond .ne off, 3)) (ht : (pc : Int) + off = (tgt : Int)) (kf : Sg C w n (pc + 3) lv st M X K) (kt : Sg C w n tgt lv st M Y K) : Sg C w n pc lv (.int x :: st) M (if x = 0 then X else Y) K :=
  fun a ha hK H locs ls hP hD hS hl => lv_if_ne hC.1 hC.2.1 hd ht (fun h => kt a (by rw [if_neg h] at ha; exact ha) hK H locs ls hP hD hS hl) (fun h => kf a (by rw [if_pos h] at ha; exact ha) hK H locs ls hP hD hS hl)
theorem x_goto (hC : Cok C cc nL own) {off : Int} {tgt : Nat} (hd : decode cc pc = .ok (.goto off, 3)) (ht : (pc : Int) + off = (tgt : Int)) (k : Sg C w n tgt lv st M X K) : Sg C w n pc lv st M X K :=
  fun a ha hK H locs ls hP hD hS hl => lv_goto hC.1 hC.2.1 hd ht (k a ha hK H locs ls hP hD hS hl)
theorem x_sub (ks : List Nat) {lv' : List (Nat × Value)} (h : lv_pick lv ks = lv') (k : Sg C w n pc lv' st M X K) : Sg C w n pc lv st M X K :=
  fun a ha hK H locs ls hP hD hS hl => k a ha hK H locs ls hP hD hS (lv_sub hl ks h)
theorem x_at {pc' : Nat} (h : pc = pc') (k : Sg C w n pc' lv st M X K) : Sg C w n pc lv st M X K := h ▸ k
theorem x_nm {β : Type} {e : β} {kx : β → Option α} (k : Sg C w n pc lv st M (kx e) K) : Sg C w n pc lv st M (nm e kx) K := k
theorem x_ite {c : Prop} [Decidable c] (kt : c → Sg C w n pc lv st M X K) (kf : ¬ c → Sg C w n pc lv st M Y K) : Sg C w n pc lv st M (if c then X else Y) K := by
  intro a ha hK
  by_cases h : c
  · rw [if_pos h] at ha; exact kt h a ha hK
  · rw [if_neg h] at ha; exact kf h a ha hK
theorem x_grd {c : Prop} [Decidable c] (k : c → Sg C w n pc lv st M X K) : Sg C w n pc lv st M (grd c X) K := by
  intro a ha hK
  unfold grd at ha
  by_cases h : c
  · rw [if_pos h] at ha; exact k h a ha hK
  · rw [if_neg h] at ha; cases ha
/-- the number on top, given a name -/
theorem x_top {e : Int32} {kx : Int32 → Option α} (k : ∀ y : Int32, Sg C w n pc lv (.int y :: st) M (kx y) K) : Sg C w n pc lv (.int e :: st) M (nm e kx) K := k e
theorem x_mem {M' : zM} {kx : zM → Option α} (k : ∀ M1 : zM, Sg C w n pc lv st M1 (kx M1) K) : Sg C w n pc lv st M' (nm M' kx) K := k M'
/-- here it ends: what comes behind is known to be well -/
theorem x_done {a : α} (h : K a → Zs C w n pc lv st M) : Sg C w n pc lv st M (some a) K := by
  intro b hb hK
  cases hb
  exact h hK
theorem x_bind {β : Type} {x : Option β} {f : β → Option α} {K' : β → Prop} (h1 : Sg C w n pc lv st M x K') (h2 : ∀ b, x = some b → ∀ a, f b = some a → K a → K' b) : Sg C w n pc lv st M (x.bind f) K := by
  intro a ha hK
  cases hx : x with
  | none => rw [hx] at ha; cases ha
  | some b => rw [hx] at ha; exact h1 b hx (h2 b hx a ha hK)
theorem zW.pz {g : zG} {w : zW} {H : Heap} {M0 M M1 : zM} {zn : Nat → Bool} (h : M = M1) (hP : va_P g.2.1 vwCl (zS g w (zB zn M0 M)) H) : va_P g.2.1 vwCl (zS g w (zB zn M0 M1)) H := h ▸ hP
/-! fields -/
/-- the field j of class c, by the pool's entry i of a class -/
def lkF (own : String) (i c j : Nat) (fin : Bool) (ty : FieldType) : Prop := ∃ (Cn : String) (T : u_T) (N : Nat) (ty0 : Nat → FieldType), vwCl[c]? = some (Cn, T, N) ∧ (∀ w ∈ u_ws Cn T N, w ∈ lw_g) ∧ (∀ k, k < N → parseFieldDescriptor (T k).2.2.1 = some (ty0 k)) ∧ (∀ a, a < N → ∀ b, b < N → a ≠ b → (T a).2.1 ≠ (T b).2.1) ∧ zNf c = N ∧ j < N ∧ Cond.fieldLink own i (T j).1 (T j).2.1 (T j).2.2.1 ∈ lw_g ∧ (T j).2.2.2 = fin ∧ ty0 j = ty
theorem zF_int {w : zW} {c j : Nat} {R : Nat → Option Nat} {V : Nat → Int32} (h : j < zNf c) (hi : zIf c j = true) : (zF w c R V)[j]? = some (.int (V j)) := by
  simp [zF, h, hi]
theorem zF_ref {w : zW} {c j : Nat} {R : Nat → Option Nat} {V : Nat → Int32} {r : Nat} (h : j < zNf c) (hi : zIf c j = false) (hr : R j = some r) : (zF w c R V)[j]? = some (zr w r) := by
  simp [zF, h, hi, hr, zRf, va_rf]
theorem zF_len {w : zW} {c : Nat} {R : Nat → Option Nat} {V : Nat → Int32} : (zF w c R V).length = zNf c := by simp [zF]
theorem zF_set {w : zW} {c j : Nat} {R : Nat → Option Nat} {V : Nat → Int32} {v : Int32} (hi : zIf c j = true) : (zF w c R V).set j (.int v) = zF w c R (upd V j v) := by
  apply List.ext_getElem?
  intro k
  rw [List.getElem?_set]
  by_cases hk : j = k
  · subst hk
    rw [if_pos rfl, zF_len]
    by_cases h : j < zNf c
    · rw [if_pos h, zF_int h hi]; simp [upd]
    · rw [if_neg h]; simp [zF, h]
  · rw [if_neg hk]
    by_cases h : k < zNf c
    · have hk' : ¬ k = j := fun e => hk e.symm
      simp [zF, h, upd, hk']
    · simp [zF, h]
theorem zE_obj {g : zG} {w : zW} {M : zM} {a c : Nat} (h : (w.2.1 a).1 = c + 3) : zE g w M a = .inr (c, zF w c (w.2.2.1 a) (M a)) := by
  unfold zE
  rw [h]
theorem zE_arr {g : zG} {w : zW} {M : zM} {a n : Nat} (h : w.2.1 a = (0, n)) : zE g w M a = .inl (g.2.2.1 0, n, .inl (M a)) := by
  unfold zE
  rw [h]
theorem zE_arS {g : zG} {w : zW} {M : zM} {a n : Nat} (h : w.2.1 a = (1, n)) : zE g w M a = .inl (g.2.2.1 1, n, .inr (.inr (.inr (.inr fun i => zRf w (w.2.2.1 a i))))) := by
  unfold zE
  rw [h]
theorem zE_arW {g : zG} {w : zW} {M : zM} {a n : Nat} (h : w.2.1 a = (2, n)) : zE g w M a = .inl (g.2.2.1 2, n, .inr (.inr (.inr (.inr fun i => zRf w (w.2.2.1 a i))))) := by
  unfold zE
  rw [h]
theorem zE_other {g : zG} {w : zW} {M M' : zM} {j : Nat} (h : M' j = M j) : zE g w M' j = zE g w M j := by
  unfold zE
  rw [h]
theorem mset_ne {M : zM} {a j : Nat} {v : Int32} {k : Nat} (h : k ≠ a) : mset M a j v k = M k := if_neg h
theorem mset_eq {M : zM} {a j : Nat} {v : Int32} : mset M a j v a = upd (M a) j v := if_pos rfl
theorem x_getI (hC : Cok C cc nL own) {i c j a : Nat} {fin : Bool} {ty : FieldType} (hd : decode cc pc = .ok (.getfield i, 3)) (lk : lkF own i c j fin ty) (hi : zIf c j = true) (ha : a < w.1) (hT : (w.2.1 a).1 = c + 3) (hz : C.2.2.2.1 a = true) (k : Sg C w n (pc + 3) lv (.int (M a j) :: st) M X K) : Sg C w n pc lv (zr w a :: st) M X K := by
  intro y hy hK H locs ls hP hD hS hl
  obtain ⟨Cn, T, N, ty0, h1, h2, h3, h4, h5, h6, h7, h8, h9⟩ := lk
  have e := zS_get (g := C.2.2.1) (M := zB C.2.2.2.1 C.2.2.2.2 M) ha
  rw [zE_obj hT] at e
  refine va_get hC.1 hC.2.1 hC.2.2.2.2.1 h2 hC.2.2.2.1 hC.2.2.2.2.2.1 hP a e h1 j h6 (hC.2.2.2.2.1 _ h7) (fun _ h => h) (v := .int (M a j)) ?_ hd (k y hy hK H locs ls hP hD hS hl)
  rw [zF_int (by rw [h5]; exact h6) hi, zB_in hz]
theorem x_getR (hC : Cok C cc nL own) {i c j a r : Nat} {fin : Bool} {ty : FieldType} (hd : decode cc pc = .ok (.getfield i, 3)) (lk : lkF own i c j fin ty) (hi : zIf c j = false) (ha : a < w.1) (hT : (w.2.1 a).1 = c + 3) (hr : w.2.2.1 a j = some r) (k : Sg C w n (pc + 3) lv (zr w r :: st) M X K) : Sg C w n pc lv (zr w a :: st) M X K := by
  intro y hy hK H locs ls hP hD hS hl
  obtain ⟨Cn, T, N, ty0, h1, h2, h3, h4, h5, h6, h7, h8, h9⟩ := lk
  have e := zS_get (g := C.2.2.1) (M := zB C.2.2.2.1 C.2.2.2.2 M) ha
  rw [zE_obj hT] at e
  exact va_get hC.1 hC.2.1 hC.2.2.2.2.1 h2 hC.2.2.2.1 hC.2.2.2.2.2.1 hP a e h1 j h6 (hC.2.2.2.2.1 _ h7) (fun _ h => h) (v := zr w r) (zF_ref (by rw [h5]; exact h6) hi hr) hd (k y hy hK H locs ls hP hD hS hl)
theorem x_putI (hC : Cok C cc nL own) {i c j a : Nat} {v : Int32} {ty : FieldType} (hd : decode cc pc = .ok (.putfield i, 3)) (lk : lkF own i c j false ty) (hi : zIf c j = true) (ha : a < w.1) (hT : (w.2.1 a).1 = c + 3) (hz : C.2.2.2.1 a = true) (hn : narrow ty (.int v) = .int v) (hf : fits ty (.int v) = true) (k : Sg C w n (pc + 3) lv st (mset M a j v) X K) : Sg C w n pc lv (.int v :: zr w a :: st) M X K := by
  intro y hy hK H locs ls hP hD hS hl
  obtain ⟨Cn, T, N, ty0, h1, h2, h3, h4, h5, h6, h7, h8, h9⟩ := lk
  have e := zS_get (g := C.2.2.1) (M := zB C.2.2.2.1 C.2.2.2.2 M) ha
  rw [zE_obj hT] at e
  have hset : (zS C.2.2.1 w (zB C.2.2.2.1 C.2.2.2.2 M)).set a (w.2.2.2 a, .inr (c, (zF w c (w.2.2.1 a) (zB C.2.2.2.1 C.2.2.2.2 M a)).set j (.int v))) = zS C.2.2.1 w (zB C.2.2.2.1 C.2.2.2.2 (mset M a j v)) := by
    refine zS_set rfl rfl ?_ ?_
    · rw [zE_obj hT, zF_set hi, ← zB_set hz, mset_eq]
    · intro q hq
      exact zE_other (by rw [← zB_set hz, mset_ne hq])
  refine va_put hC.1 hC.2.1 hC.2.2.2.2.1 h2 ty0 h3 h4 hC.2.2.2.1 hC.2.2.2.2.2.1 hP hD hS a e h1 j h6 (hC.2.2.2.2.1 _ h7) (fun _ h => h) h8 (ty := ty) (v := .int v) (by rw [← h9]; exact h3 j h6) hn hf (by rw [zF_len, h5]; exact h6) hd (fun H1 locs1 hP1 hD1 hS1 => ?_)
  rw [hset] at hP1 hD1
  exact k y hy hK H1 locs1 ls hP1 hD1 hS1 hl
/-! arrays of ints -/
theorem zT0 (g : zG) : (zT g)[0]? = some (g.2.2.1 0, .int) := rfl
theorem x_iald0 (hC : Cok C cc nL own) {a len : Nat} {i : Int32} (hd : decode cc pc = .ok (.iaload, 1)) (ha : a < w.1) (hT : w.2.1 a = (0, len)) (hz : C.2.2.2.1 a = true) (hi : inb i len) (k : Sg C w n (pc + 1) lv (.int (M a (ix i)) :: st) M X K) : Sg C w n pc lv (.int i :: zr w a :: st) M X K := by
  intro y hy hK H locs ls hP hD hS hl
  have e := zS_get (g := C.2.2.1) (M := zB C.2.2.2.1 C.2.2.2.2 M) ha
  rw [zE_arr hT, zB_in hz] at e
  exact va_iald hC.1 hC.2.1 hC.2.2.2.2.2.1 hP a 0 e (zT0 _) hi hd (k y hy hK H locs ls hP hD hS hl)
theorem x_iast0 (hC : Cok C cc nL own) {a len : Nat} {i v : Int32} (hd : decode cc pc = .ok (.iastore, 1)) (ha : a < w.1) (hT : w.2.1 a = (0, len)) (hz : C.2.2.2.1 a = true) (hi : inb i len) (k : Sg C w n (pc + 1) lv st (mset M a (ix i) v) X K) : Sg C w n pc lv (.int v :: .int i :: zr w a :: st) M X K := by
  intro y hy hK H locs ls hP hD hS hl
  have e := zS_get (g := C.2.2.1) (M := zB C.2.2.2.1 C.2.2.2.2 M) ha
  rw [zE_arr hT, zB_in hz] at e
  have hset : (zS C.2.2.1 w (zB C.2.2.2.1 C.2.2.2.2 M)).set a (w.2.2.2 a, .inl (C.2.2.1.2.2.1 0, len, .inl (upd (M a) (ix i) v))) = zS C.2.2.1 w (zB C.2.2.2.1 C.2.2.2.2 (mset M a (ix i) v)) := by
    refine zS_set rfl rfl ?_ ?_
    · rw [zE_arr hT, zB_in hz, mset_eq]
    · intro q hq
      exact zE_other (by rw [← zB_set hz, mset_ne hq])
  refine va_iast hC.1 hC.2.1 hC.2.2.2.2.2.1 hP hD hS a 0 e (zT0 _) hi hd (fun H1 locs1 hP1 hD1 hS1 => ?_)
  rw [hset] at hP1 hD1
  exact k y hy hK H1 locs1 ls hP1 hD1 hS1 hl
theorem x_iald (hC : Cok C cc nL own) {a len : Nat} {i : Int32} (hd : decode cc pc = .ok (.iaload, 1)) (ha : a < w.1) (hT : w.2.1 a = (0, len)) (hz : C.2.2.2.1 a = true) (k : Sg C w n (pc + 1) lv (.int (M a (ix i)) :: st) M X K) : Sg C w n pc lv (.int i :: zr w a :: st) M (grd (inb i len) X) K :=
  x_grd fun h => x_iald0 hC hd ha hT hz h k
theorem x_iast (hC : Cok C cc nL own) {a len : Nat} {i v : Int32} (hd : decode cc pc = .ok (.iastore, 1)) (ha : a < w.1) (hT : w.2.1 a = (0, len)) (hz : C.2.2.2.1 a = true) (k : Sg C w n (pc + 1) lv st (mset M a (ix i) v) X K) : Sg C w n pc lv (.int v :: .int i :: zr w a :: st) M (grd (inb i len) X) K :=
  x_grd fun h => x_iast0 hC hd ha hT hz h k
theorem x_alen (hC : Cok C cc nL own) {a len : Nat} (hd : decode cc pc = .ok (.arraylength, 1)) (ha : a < w.1) (hT : w.2.1 a = (0, len)) (k : Sg C w n (pc + 1) lv (.int (nI len) :: st) M X K) : Sg C w n pc lv (zr w a :: st) M X K := by
  intro y hy hK H locs ls hP hD hS hl
  have e := zS_get (g := C.2.2.1) (M := zB C.2.2.2.1 C.2.2.2.2 M) ha
  rw [zE_arr hT] at e
  exact va_alen hC.1 hC.2.1 hC.2.2.2.2.2.1 hP a 0 e (zT0 _) rfl hd (k y hy hK H locs ls hP hD hS hl)
theorem x_aaldS (hC : Cok C cc nL own) {a len r : Nat} {i : Int32} (hd : decode cc pc = .ok (.aaload, 1)) (ha : a < w.1) (hT : w.2.1 a = (1, len)) (hi : inb i len) (hr : w.2.2.1 a (ix i) = some r) (k : Sg C w n (pc + 1) lv (zr w r :: st) M X K) : Sg C w n pc lv (.int i :: zr w a :: st) M X K := by
  intro y hy hK H locs ls hP hD hS hl
  have e := zS_get (g := C.2.2.1) (M := zB C.2.2.2.1 C.2.2.2.2 M) ha
  rw [zE_arS hT] at e
  refine va_aldq hC.1 hC.2.1 hC.2.2.2.2.2.1 hP a 1 e (show (zT C.2.2.1)[1]? = _ from rfl) hi hd ?_
  have e2 : va_rf (zRf w (w.2.2.1 a i.toNatClampNeg)) = zr w r := by rw [hr]; rfl
  rw [e2]
  exact k y hy hK H locs ls hP hD hS hl
theorem x_aaldW (hC : Cok C cc nL own) {a len r : Nat} {i : Int32} (hd : decode cc pc = .ok (.aaload, 1)) (ha : a < w.1) (hT : w.2.1 a = (2, len)) (hi : inb i len) (hr : w.2.2.1 a (ix i) = some r) (k : Sg C w n (pc + 1) lv (zr w r :: st) M X K) : Sg C w n pc lv (.int i :: zr w a :: st) M X K := by
  intro y hy hK H locs ls hP hD hS hl
  have e := zS_get (g := C.2.2.1) (M := zB C.2.2.2.1 C.2.2.2.2 M) ha
  rw [zE_arW hT] at e
  refine va_aldq hC.1 hC.2.1 hC.2.2.2.2.2.1 hP a 2 e (show (zT C.2.2.1)[2]? = _ from rfl) hi hd ?_
  have e2 : va_rf (zRf w (w.2.2.1 a i.toNatClampNeg)) = zr w r := by rw [hr]; rfl
  rw [e2]
  exact k y hy hK H locs ls hP hD hS hl

end XR
