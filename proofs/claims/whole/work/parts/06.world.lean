def tgL : List (Nat × Nat) := [(13, 0), (10, 0), (2, 16), (0, 144), (12, 0), (12, 0), (12, 0), (12, 0), (12, 0), (12, 0), (12, 0), (12, 0), (12, 0), (12, 0), (12, 0), (12, 0), (12, 0), (12, 0), (12, 0), (12, 0), (10, 0), (2, 16), (0, 144), (12, 0), (12, 0), (12, 0), (12, 0), (12, 0), (12, 0), (12, 0), (12, 0), (12, 0), (12, 0), (12, 0), (12, 0), (12, 0), (12, 0), (12, 0), (12, 0), (1, 6), (11, 0), (6, 0), (0, 16), (0, 16), (0, 16), (0, 400), (0, 64), (0, 4), (0, 144), (0, 16), (0, 192), (0, 192), (0, 16), (0, 16), (11, 0), (6, 0), (0, 16), (0, 16), (0, 16), (0, 400), (0, 64), (0, 4), (0, 144), (0, 16), (0, 192), (0, 192), (0, 16), (0, 16), (3, 0), (0, 600), (9, 0), (0, 24), (0, 2), (0, 24), (0, 8), (0, 8), (0, 8), (0, 25), (8, 0), (0, 400), (0, 401), (0, 401), (0, 401), (4, 0), (0, 10), (12, 0), (12, 0), (5, 0), (0, 576), (0, 576), (0, 576), (0, 4032), (0, 4032), (0, 4), (0, 4), (7, 0), (0, 6561), (0, 6561), (0, 41), (0, 3721), (10, 0), (2, 16), (0, 144), (12, 0), (12, 0), (12, 0), (12, 0), (12, 0), (12, 0), (12, 0), (12, 0), (12, 0), (12, 0), (12, 0), (12, 0), (12, 0), (12, 0), (12, 0), (12, 0), (11, 0), (6, 0), (0, 16), (0, 16), (0, 16), (0, 400), (0, 64), (0, 4), (0, 144), (0, 16), (0, 192), (0, 192), (0, 16), (0, 16), (3, 0), (0, 600), (9, 0), (0, 24), (0, 2), (0, 24), (0, 8), (0, 8), (0, 8), (0, 25), (10, 0), (2, 16), (0, 144), (12, 0), (12, 0), (12, 0), (12, 0), (12, 0), (12, 0), (12, 0), (12, 0), (12, 0), (12, 0), (12, 0), (12, 0), (12, 0), (12, 0), (12, 0), (12, 0), (10, 0), (2, 16), (0, 144), (12, 0), (12, 0), (12, 0), (12, 0), (12, 0), (12, 0), (12, 0), (12, 0), (12, 0), (12, 0), (12, 0), (12, 0), (12, 0), (12, 0), (12, 0), (12, 0), (10, 0), (2, 16), (0, 144), (12, 0), (12, 0), (12, 0), (12, 0), (12, 0), (12, 0), (12, 0), (12, 0), (12, 0), (12, 0), (12, 0), (12, 0), (12, 0), (12, 0), (12, 0), (12, 0), (10, 0), (2, 16), (0, 144), (12, 0), (12, 0), (12, 0), (12, 0), (12, 0), (12, 0), (12, 0), (12, 0), (12, 0), (12, 0), (12, 0), (12, 0), (12, 0), (12, 0), (12, 0), (12, 0), (10, 0), (2, 16), (0, 144), (12, 0), (12, 0), (12, 0), (12, 0), (12, 0), (12, 0), (12, 0), (12, 0), (12, 0), (12, 0), (12, 0), (12, 0), (12, 0), (12, 0), (12, 0), (12, 0), (10, 0), (2, 16), (0, 144), (12, 0), (12, 0), (12, 0), (12, 0), (12, 0), (12, 0), (12, 0), (12, 0), (12, 0), (12, 0), (12, 0), (12, 0), (12, 0), (12, 0), (12, 0), (12, 0), (14, 0), (0, 2425), (0, 2425), (0, 2425), (0, 5640), (0, 400), (0, 2425), (0, 420), (0, 10), (0, 420), (0, 4032), (0, 576), (0, 12096), (0, 12096), (0, 25), (0, 25), (0, 31), (0, 31), (0, 14641), (0, 16384), (0, 4), (0, 4), (0, 144), (0, 144), (0, 3721)]
def rfL : List (List (Option Nat)) := [[some 1, some 20, some 39, none, none, some 40, some 54, some 68, some 70, some 78, some 83, some 87, some 95, none, some 100, some 119, some 133, some 135], [some 2, some 3], [some 4, some 5, some 6, some 7, some 8, some 9, some 10, some 11, some 12, some 13, some 14, some 15, some 16, some 17, some 18, some 19], [], [], [], [], [], [], [], [], [], [], [], [], [], [], [], [], [], [some 21, some 22], [some 23, some 24, some 25, some 26, some 27, some 28, some 29, some 30, some 31, some 32, some 33, some 34, some 35, some 36, some 37, some 38], [], [], [], [], [], [], [], [], [], [], [], [], [], [], [], [], [], [some 143, some 162, some 181, some 200, some 219, some 238], [some 41, some 47, some 48, some 49, some 50, some 51, some 52, some 53], [none, some 42, some 43, some 44, some 45, none, some 46], [], [], [], [], [], [], [], [], [], [], [], [], [some 55, some 61, some 62, some 63, some 64, some 65, some 66, some 67], [none, some 56, some 57, some 58, some 59, none, some 60], [], [], [], [], [], [], [], [], [], [], [], [], [some 69], [], [some 71, some 72, some 73, none, some 74, some 75, none, some 76, some 77], [], [], [], [], [], [], [], [none, none, none, some 79, some 80, some 81, some 82], [], [], [], [], [none, none, some 1, some 40, some 68, some 84, some 85, some 86], [], [], [], [some 3, some 88, some 89, some 90, some 91, some 92, some 93, some 94], [], [], [], [], [], [], [], [some 96, some 97, some 98, some 99], [], [], [], [], [some 101, some 102], [some 103, some 104, some 105, some 106, some 107, some 108, some 109, some 110, some 111, some 112, some 113, some 114, some 115, some 116, some 117, some 118], [], [], [], [], [], [], [], [], [], [], [], [], [], [], [], [], [], [some 120, some 126, some 127, some 128, some 129, some 130, some 131, some 132], [none, some 121, some 122, some 123, some 124, none, some 125], [], [], [], [], [], [], [], [], [], [], [], [], [some 134], [], [some 136, some 137, some 138, none, some 139, some 140, none, some 141, some 142], [], [], [], [], [], [], [], [some 144, some 145], [some 146, some 147, some 148, some 149, some 150, some 151, some 152, some 153, some 154, some 155, some 156, some 157, some 158, some 159, some 160, some 161], [], [], [], [], [], [], [], [], [], [], [], [], [], [], [], [], [], [some 163, some 164], [some 165, some 166, some 167, some 168, some 169, some 170, some 171, some 172, some 173, some 174, some 175, some 176, some 177, some 178, some 179, some 180], [], [], [], [], [], [], [], [], [], [], [], [], [], [], [], [], [], [some 182, some 183], [some 184, some 185, some 186, some 187, some 188, some 189, some 190, some 191, some 192, some 193, some 194, some 195, some 196, some 197, some 198, some 199], [], [], [], [], [], [], [], [], [], [], [], [], [], [], [], [], [], [some 201, some 202], [some 203, some 204, some 205, some 206, some 207, some 208, some 209, some 210, some 211, some 212, some 213, some 214, some 215, some 216, some 217, some 218], [], [], [], [], [], [], [], [], [], [], [], [], [], [], [], [], [], [some 220, some 221], [some 222, some 223, some 224, some 225, some 226, some 227, some 228, some 229, some 230, some 231, some 232, some 233, some 234, some 235, some 236, some 237], [], [], [], [], [], [], [], [], [], [], [], [], [], [], [], [], [], [some 239, some 240], [some 241, some 242, some 243, some 244, some 245, some 246, some 247, some 248, some 249, some 250, some 251, some 252, some 253, some 254, some 255, some 256], [], [], [], [], [], [], [], [], [], [], [], [], [], [], [], [], [], [some 258, some 259, some 260, some 261, none, none, none, none, none, none, none, none, none, none, none, some 262, some 263, none, some 264, none, some 265, some 266, some 267, some 268, some 269, some 270, some 271, some 272, none, none, none, some 273, some 274, some 275, some 276, some 277, some 278, some 279, some 280, some 281], [], [], [], [], [], [], [], [], [], [], [], [], [], [], [], [], [], [], [], [], [], [], [], []]
def TG0 (k : Nat) : Nat × Nat := tgL.getD k (0, 0)
def RF0 (k j : Nat) : Option Nat := (rfL.getD k []).getD j none
/-- the class's own cells, or the reference's -/
def zin (z : Bool) (k : Nat) : Bool := if z = true then decide (k < 257) else decide (257 ≤ k ∧ k < 282)
theorem zin_lt {z : Bool} {k : Nat} (h : zin z k = true) : k < 282 := by
  unfold zin at h
  cases z with
  | true => simp at h; omega
  | false => simp at h; omega
def wS (w : zW) : Prop := w.1 = 282 ∧ w.2.1 = TG0 ∧ w.2.2.1 = RF0
def bOK (C : zC) (cc : ByteArray) (nL : Nat) (own : String) (d : Nat) (g : zG) (l : Launch) (w : zW) (z : Bool) : Prop := zBd C cc nL own d g (zin z) l ∧ wS w
abbrev tO (z : Bool) (c a : Nat) : Prop := zin z a = true ∧ (TG0 a).1 = c + 3
abbrev tA (z : Bool) (n a : Nat) : Prop := zin z a = true ∧ TG0 a = (0, n)
abbrev tI (z : Bool) (a : Nat) : Prop := zin z a = true ∧ (TG0 a).1 = 0
abbrev tW (a : Nat) : Prop := zin true a = true ∧ TG0 a = (2, 16)
def LN (a : Nat) : Nat := (TG0 a).2
theorem tI.of {z : Bool} {a : Nat} (h : tI z a) : tA z (LN a) a := ⟨h.1, by rw [← h.2]; rfl⟩
theorem tA.toI {z : Bool} {n a : Nat} (h : tA z n a) : tI z a := ⟨h.1, by rw [h.2]⟩
theorem nv_0_0 {a : Nat} (h : tO true 0 a) : RF0 a 0 = some (a + 1) ∧ tA true 600 (a + 1) := by
  have hk : ∀ a, a < 257 → (TG0 a).1 = 3 → RF0 a 0 = some (a + 1) ∧ tA true 600 (a + 1) := by decide +kernel
  exact hk a (by have := h.1; simp [zin] at this; exact this) h.2
theorem nv_3_1 {a : Nat} (h : tO true 3 a) : RF0 a 1 = some (a + 1) ∧ tA true 16 (a + 1) := by
  have hk : ∀ a, a < 257 → (TG0 a).1 = 6 → RF0 a 1 = some (a + 1) ∧ tA true 16 (a + 1) := by decide +kernel
  exact hk a (by have := h.1; simp [zin] at this; exact this) h.2
theorem nv_3_2 {a : Nat} (h : tO true 3 a) : RF0 a 2 = some (a + 2) ∧ tA true 16 (a + 2) := by
  have hk : ∀ a, a < 257 → (TG0 a).1 = 6 → RF0 a 2 = some (a + 2) ∧ tA true 16 (a + 2) := by decide +kernel
  exact hk a (by have := h.1; simp [zin] at this; exact this) h.2
theorem nv_3_3 {a : Nat} (h : tO true 3 a) : RF0 a 3 = some (a + 3) ∧ tA true 16 (a + 3) := by
  have hk : ∀ a, a < 257 → (TG0 a).1 = 6 → RF0 a 3 = some (a + 3) ∧ tA true 16 (a + 3) := by decide +kernel
  exact hk a (by have := h.1; simp [zin] at this; exact this) h.2
theorem nv_3_4 {a : Nat} (h : tO true 3 a) : RF0 a 4 = some (a + 4) ∧ tA true 400 (a + 4) := by
  have hk : ∀ a, a < 257 → (TG0 a).1 = 6 → RF0 a 4 = some (a + 4) ∧ tA true 400 (a + 4) := by decide +kernel
  exact hk a (by have := h.1; simp [zin] at this; exact this) h.2
theorem nv_3_6 {a : Nat} (h : tO true 3 a) : RF0 a 6 = some (a + 5) ∧ tA true 64 (a + 5) := by
  have hk : ∀ a, a < 257 → (TG0 a).1 = 6 → RF0 a 6 = some (a + 5) ∧ tA true 64 (a + 5) := by decide +kernel
  exact hk a (by have := h.1; simp [zin] at this; exact this) h.2
theorem nv_6_0 {a : Nat} (h : tO true 6 a) : RF0 a 0 = some (a + 1) ∧ tA true 24 (a + 1) := by
  have hk : ∀ a, a < 257 → (TG0 a).1 = 9 → RF0 a 0 = some (a + 1) ∧ tA true 24 (a + 1) := by decide +kernel
  exact hk a (by have := h.1; simp [zin] at this; exact this) h.2
theorem nv_6_1 {a : Nat} (h : tO true 6 a) : RF0 a 1 = some (a + 2) ∧ tA true 2 (a + 2) := by
  have hk : ∀ a, a < 257 → (TG0 a).1 = 9 → RF0 a 1 = some (a + 2) ∧ tA true 2 (a + 2) := by decide +kernel
  exact hk a (by have := h.1; simp [zin] at this; exact this) h.2
theorem nv_6_2 {a : Nat} (h : tO true 6 a) : RF0 a 2 = some (a + 3) ∧ tA true 24 (a + 3) := by
  have hk : ∀ a, a < 257 → (TG0 a).1 = 9 → RF0 a 2 = some (a + 3) ∧ tA true 24 (a + 3) := by decide +kernel
  exact hk a (by have := h.1; simp [zin] at this; exact this) h.2
theorem nv_6_4 {a : Nat} (h : tO true 6 a) : RF0 a 4 = some (a + 4) ∧ tA true 8 (a + 4) := by
  have hk : ∀ a, a < 257 → (TG0 a).1 = 9 → RF0 a 4 = some (a + 4) ∧ tA true 8 (a + 4) := by decide +kernel
  exact hk a (by have := h.1; simp [zin] at this; exact this) h.2
theorem nv_6_5 {a : Nat} (h : tO true 6 a) : RF0 a 5 = some (a + 5) ∧ tA true 8 (a + 5) := by
  have hk : ∀ a, a < 257 → (TG0 a).1 = 9 → RF0 a 5 = some (a + 5) ∧ tA true 8 (a + 5) := by decide +kernel
  exact hk a (by have := h.1; simp [zin] at this; exact this) h.2
theorem nv_6_7 {a : Nat} (h : tO true 6 a) : RF0 a 7 = some (a + 6) ∧ tA true 8 (a + 6) := by
  have hk : ∀ a, a < 257 → (TG0 a).1 = 9 → RF0 a 7 = some (a + 6) ∧ tA true 8 (a + 6) := by decide +kernel
  exact hk a (by have := h.1; simp [zin] at this; exact this) h.2
theorem nv_6_8 {a : Nat} (h : tO true 6 a) : RF0 a 8 = some (a + 7) ∧ tA true 25 (a + 7) := by
  have hk : ∀ a, a < 257 → (TG0 a).1 = 9 → RF0 a 8 = some (a + 7) ∧ tA true 25 (a + 7) := by decide +kernel
  exact hk a (by have := h.1; simp [zin] at this; exact this) h.2
theorem nv_7_0 {a : Nat} (h : tO true 7 a) : RF0 a 0 = some (a + 1) ∧ tW (a + 1) := by
  have hk : ∀ a, a < 257 → (TG0 a).1 = 10 → RF0 a 0 = some (a + 1) ∧ tW (a + 1) := by decide +kernel
  exact hk a (by have := h.1; simp [zin] at this; exact this) h.2
theorem nv_7_1 {a : Nat} (h : tO true 7 a) : RF0 a 1 = some (a + 2) ∧ tA true 144 (a + 2) := by
  have hk : ∀ a, a < 257 → (TG0 a).1 = 10 → RF0 a 1 = some (a + 2) ∧ tA true 144 (a + 2) := by decide +kernel
  exact hk a (by have := h.1; simp [zin] at this; exact this) h.2
theorem nv_8_0 {a : Nat} (h : tO true 8 a) : RF0 a 0 = some (a + 1) ∧ tO true 3 (a + 1) := by
  have hk : ∀ a, a < 257 → (TG0 a).1 = 11 → RF0 a 0 = some (a + 1) ∧ tO true 3 (a + 1) := by decide +kernel
  exact hk a (by have := h.1; simp [zin] at this; exact this) h.2
theorem nv_8_1 {a : Nat} (h : tO true 8 a) : RF0 a 1 = some (a + 7) ∧ tA true 4 (a + 7) := by
  have hk : ∀ a, a < 257 → (TG0 a).1 = 11 → RF0 a 1 = some (a + 7) ∧ tA true 4 (a + 7) := by decide +kernel
  exact hk a (by have := h.1; simp [zin] at this; exact this) h.2
theorem nv_8_2 {a : Nat} (h : tO true 8 a) : RF0 a 2 = some (a + 8) ∧ tA true 144 (a + 8) := by
  have hk : ∀ a, a < 257 → (TG0 a).1 = 11 → RF0 a 2 = some (a + 8) ∧ tA true 144 (a + 8) := by decide +kernel
  exact hk a (by have := h.1; simp [zin] at this; exact this) h.2
theorem nv_8_3 {a : Nat} (h : tO true 8 a) : RF0 a 3 = some (a + 9) ∧ tA true 16 (a + 9) := by
  have hk : ∀ a, a < 257 → (TG0 a).1 = 11 → RF0 a 3 = some (a + 9) ∧ tA true 16 (a + 9) := by decide +kernel
  exact hk a (by have := h.1; simp [zin] at this; exact this) h.2
theorem nv_8_4 {a : Nat} (h : tO true 8 a) : RF0 a 4 = some (a + 10) ∧ tA true 192 (a + 10) := by
  have hk : ∀ a, a < 257 → (TG0 a).1 = 11 → RF0 a 4 = some (a + 10) ∧ tA true 192 (a + 10) := by decide +kernel
  exact hk a (by have := h.1; simp [zin] at this; exact this) h.2
theorem nv_8_5 {a : Nat} (h : tO true 8 a) : RF0 a 5 = some (a + 11) ∧ tA true 192 (a + 11) := by
  have hk : ∀ a, a < 257 → (TG0 a).1 = 11 → RF0 a 5 = some (a + 11) ∧ tA true 192 (a + 11) := by decide +kernel
  exact hk a (by have := h.1; simp [zin] at this; exact this) h.2
theorem nv_8_6 {a : Nat} (h : tO true 8 a) : RF0 a 6 = some (a + 12) ∧ tA true 16 (a + 12) := by
  have hk : ∀ a, a < 257 → (TG0 a).1 = 11 → RF0 a 6 = some (a + 12) ∧ tA true 16 (a + 12) := by decide +kernel
  exact hk a (by have := h.1; simp [zin] at this; exact this) h.2
theorem nv_8_7 {a : Nat} (h : tO true 8 a) : RF0 a 7 = some (a + 13) ∧ tA true 16 (a + 13) := by
  have hk : ∀ a, a < 257 → (TG0 a).1 = 11 → RF0 a 7 = some (a + 13) ∧ tA true 16 (a + 13) := by decide +kernel
  exact hk a (by have := h.1; simp [zin] at this; exact this) h.2
theorem nv_wk {a : Nat} {i : Int32} (h : tO true 7 a) (hi : inb i 16) : RF0 (a + 1) (ix i) = some (a + 3 + ix i) ∧ tO true 9 (a + 3 + ix i) := by
  have hk : ∀ a, a < 257 → (TG0 a).1 = 10 → ∀ k, k < 16 → RF0 (a + 1) k = some (a + 3 + k) ∧ tO true 9 (a + 3 + k) := by decide +kernel
  exact hk a (by have := h.1; simp [zin] at this; exact this) h.2 (ix i) (Nat.not_le.mp fun q => hi (Or.inr q))
theorem nv_kp {i : Int32} (hi : inb i 6) : RF0 39 (ix i) = some (143 + 19 * ix i) ∧ tO true 7 (143 + 19 * ix i) := by
  have hk : ∀ k, k < 6 → RF0 39 k = some (143 + 19 * k) ∧ tO true 7 (143 + 19 * k) := by decide +kernel
  exact hk (ix i) (Nat.not_le.mp fun q => hi (Or.inr q))
def bnd2 {α : Type} (x : Option (Int32 × zM)) (k : Int32 → zM → Option α) : Option α := x.bind fun q => k q.1 q.2
section XW
variable {α : Type} {C : zC} {w : zW} {cc : ByteArray} {nL : Nat} {own : String} {d : Nat} {g : zG} {l : Launch} {z : Bool} {pc : Nat} {lv : List (Nat × Value)} {st : List Value} {M : zM} {X Y : Option α} {K : α → Prop}
theorem x_si {n : Nat × Nat} {c : Prop} [Decidable c] {x y : α} (k : Sg C w n pc lv st M (if c then some x else some y) K) : Sg C w n pc lv st M (some (if c then x else y)) K := by
  intro a ha hK
  refine k a ?_ hK
  by_cases h : c
  · rw [if_pos h] at ha ⊢; exact ha
  · rw [if_neg h] at ha ⊢; exact ha
theorem x_sn {n : Nat × Nat} {β : Type} {e : β} {kx : β → α} (k : Sg C w n pc lv st M (nm e fun y => some (kx y)) K) : Sg C w n pc lv st M (some (nm e kx)) K := k
theorem bOK.lt (hB : bOK C cc nL own d g l w z) {a : Nat} (h : zin z a = true) : a < w.1 := by rw [hB.2.1]; exact zin_lt h
theorem bOK.zn (hB : bOK C cc nL own d g l w z) {a : Nat} (h : zin z a = true) : C.2.2.2.1 a = true := by rw [hB.1.2.2.2.1]; exact h
theorem r_getI (hB : bOK C cc nL own d g l w z) {n : Nat × Nat} {i c j a : Nat} {fin : Bool} {ty : FieldType} (hd : decode cc pc = .ok (.getfield i, 3)) (lk : lkF own i c j fin ty) (hi : zIf c j = true) (h : tO z c a) (k : Sg C w n (pc + 3) lv (.int (M a j) :: st) M X K) : Sg C w n pc lv (zr w a :: st) M X K :=
  x_getI hB.1.1 hd lk hi (hB.lt h.1) (by rw [hB.2.2.1]; exact h.2) (hB.zn h.1) k
theorem r_getR (hB : bOK C cc nL own d g l w z) {n : Nat × Nat} {i c j a r : Nat} {fin : Bool} {ty : FieldType} (hd : decode cc pc = .ok (.getfield i, 3)) (lk : lkF own i c j fin ty) (hi : zIf c j = false) (h : tO z c a) (hr : RF0 a j = some r) (k : Sg C w n (pc + 3) lv (zr w r :: st) M X K) : Sg C w n pc lv (zr w a :: st) M X K :=
  x_getR hB.1.1 hd lk hi (hB.lt h.1) (by rw [hB.2.2.1]; exact h.2) (by rw [hB.2.2.2]; exact hr) k
theorem r_putI (hB : bOK C cc nL own d g l w z) {n : Nat × Nat} {i c j a : Nat} {v : Int32} (hd : decode cc pc = .ok (.putfield i, 3)) (lk : lkF own i c j false .int) (hi : zIf c j = true) (h : tO z c a) (k : Sg C w n (pc + 3) lv st (mset M a j v) X K) : Sg C w n pc lv (.int v :: zr w a :: st) M X K :=
  x_putI hB.1.1 hd lk hi (hB.lt h.1) (by rw [hB.2.2.1]; exact h.2) (hB.zn h.1) rfl rfl k
theorem isB_nar {v : Int32} (h : isB v) : narrow .boolean (.int v) = .int v := by
  rcases h with rfl | rfl <;> decide
theorem isB_fit {v : Int32} (h : isB v) : fits .boolean (.int v) = true := by
  rcases h with rfl | rfl <;> decide
theorem r_putZ (hB : bOK C cc nL own d g l w z) {n : Nat × Nat} {i c j a : Nat} {v : Int32} (hd : decode cc pc = .ok (.putfield i, 3)) (lk : lkF own i c j false .boolean) (hi : zIf c j = true) (h : tO z c a) (hv : isB v) (k : Sg C w n (pc + 3) lv st (mset M a j v) X K) : Sg C w n pc lv (.int v :: zr w a :: st) M X K :=
  x_putI hB.1.1 hd lk hi (hB.lt h.1) (by rw [hB.2.2.1]; exact h.2) (hB.zn h.1) (isB_nar hv) (isB_fit hv) k
theorem r_iald0 (hB : bOK C cc nL own d g l w z) {n : Nat × Nat} {a len : Nat} {i : Int32} (hd : decode cc pc = .ok (.iaload, 1)) (h : tA z len a) (hi : inb i len) (k : Sg C w n (pc + 1) lv (.int (M a (ix i)) :: st) M X K) : Sg C w n pc lv (.int i :: zr w a :: st) M X K :=
  x_iald0 hB.1.1 hd (hB.lt h.1) (by rw [hB.2.2.1]; exact h.2) (hB.zn h.1) hi k
theorem r_iast0 (hB : bOK C cc nL own d g l w z) {n : Nat × Nat} {a len : Nat} {i v : Int32} (hd : decode cc pc = .ok (.iastore, 1)) (h : tA z len a) (hi : inb i len) (k : Sg C w n (pc + 1) lv st (mset M a (ix i) v) X K) : Sg C w n pc lv (.int v :: .int i :: zr w a :: st) M X K :=
  x_iast0 hB.1.1 hd (hB.lt h.1) (by rw [hB.2.2.1]; exact h.2) (hB.zn h.1) hi k
theorem r_iald (hB : bOK C cc nL own d g l w z) {n : Nat × Nat} {a len : Nat} {i : Int32} (hd : decode cc pc = .ok (.iaload, 1)) (h : tA z len a) (k : Sg C w n (pc + 1) lv (.int (M a (ix i)) :: st) M X K) : Sg C w n pc lv (.int i :: zr w a :: st) M (grd (inb i len) X) K :=
  x_grd fun hi => r_iald0 hB hd h hi k
theorem r_iast (hB : bOK C cc nL own d g l w z) {n : Nat × Nat} {a len : Nat} {i v : Int32} (hd : decode cc pc = .ok (.iastore, 1)) (h : tA z len a) (k : Sg C w n (pc + 1) lv st (mset M a (ix i) v) X K) : Sg C w n pc lv (.int v :: .int i :: zr w a :: st) M (grd (inb i len) X) K :=
  x_grd fun hi => r_iast0 hB hd h hi k
theorem r_alen (hB : bOK C cc nL own d g l w z) {n : Nat × Nat} {a len : Nat} (hd : decode cc pc = .ok (.arraylength, 1)) (h : tA z len a) (k : Sg C w n (pc + 1) lv (.int (nI len) :: st) M X K) : Sg C w n pc lv (zr w a :: st) M X K :=
  x_alen hB.1.1 hd (hB.lt h.1) (by rw [hB.2.2.1]; exact h.2) k
theorem r_aaW (hB : bOK C cc nL own d g l w true) {n : Nat × Nat} {a : Nat} {i : Int32} (hd : decode cc pc = .ok (.aaload, 1)) (h : tO true 7 a) (k : inb i 16 → Sg C w n (pc + 1) lv (zr w (a + 3 + ix i) :: st) M X K) : Sg C w n pc lv (.int i :: zr w (a + 1) :: st) M (grd (inb i 16) X) K :=
  x_grd fun hi => x_aaldW hB.1.1 hd (hB.lt (nv_7_0 h).2.1) (by rw [hB.2.2.1]; exact (nv_7_0 h).2.2) hi (by rw [hB.2.2.2]; exact (nv_wk h hi).1) (k hi)
theorem r_aaK (hB : bOK C cc nL own d g l w true) {n : Nat × Nat} {i : Int32} (hd : decode cc pc = .ok (.aaload, 1)) (k : inb i 6 → Sg C w n (pc + 1) lv (zr w (143 + 19 * ix i) :: st) M X K) : Sg C w n pc lv (.int i :: zr w 39 :: st) M (grd (inb i 6) X) K :=
  x_grd fun hi => x_aaldS hB.1.1 hd (hB.lt (rfl : zin true 39 = true)) (by rw [hB.2.2.1]; rfl) hi (by rw [hB.2.2.2]; exact (nv_kp hi).1) (k hi)
/-! static arrays -/
theorem r_gets (hB : bOK C cc nL own d g l w z) {n : Nat × Nat} {i k0 : Nat} (hd : decode cc pc = .ok (.getstatic i, 3)) (hk : k0 < 4) (hl : Cond.fieldLink own i (zsC k0) (zsN k0) "[I" ∈ lw_g) (k : Sg C w n (pc + 3) lv (.ref (g.2.2.2 k0) :: st) M X K) : Sg C w n pc lv st M X K := by
  obtain ⟨⟨hC, -, rfl, -, -⟩, -⟩ := hB
  intro y hy hK H locs ls hP hD hS hv
  exact va_gets hC.1 hC.2.1 (hC.2.2.2.2.2.2.1.1 k0 hk).1 hS hC.2.2.2.1 (hC.2.2.2.2.1 _ hl) (fun _ h => h) hd (k y hy hK H locs ls hP hD hS hv)
theorem r_getsN (hB : bOK C cc nL own d g l w z) {n : Nat × Nat} {i k0 : Nat} {host : String} (hd : decode cc pc = .ok (.getstatic i, 3)) (hk : k0 < 4) (hl : Cond.fieldLinkNest own i (zsC k0) (zsN k0) "[I" host ∈ lw_nest) (k : Sg C w n (pc + 3) lv (.ref (g.2.2.2 k0) :: st) M X K) : Sg C w n pc lv st M X K := by
  obtain ⟨⟨hC, -, rfl, -, -⟩, -⟩ := hB
  intro y hy hK H locs ls hP hD hS hv
  exact va_getsN hC.1 hC.2.1 (hC.2.2.2.2.2.2.1.1 k0 hk).1 hS hC.2.2.2.1 (va_Nw.use rfl (hC.2.2.2.2.2.2.2.2.1 _ hl)) (fun _ h => h) hd (k y hy hK H locs ls hP hD hS hv)
theorem r_stld (hB : bOK C cc nL own d g l w z) {n : Nat × Nat} {i : Int32} {k0 : Nat} (hd : decode cc pc = .ok (.iaload, 1)) (hk : k0 < 4) (k : Sg C w n (pc + 1) lv (.int (zsV k0 (ix i)) :: st) M X K) : Sg C w n pc lv (.int i :: .ref (g.2.2.2 k0) :: st) M (grd (inb i 4) X) K := by
  refine x_grd fun hi => ?_
  obtain ⟨⟨hC, -, rfl, -, -⟩, -⟩ := hB
  intro y hy hK H locs ls hP hD hS hv
  exact va_ti hC.1 hC.2.1 (hC.2.2.2.2.2.2.1.1 k0 hk).2 hS hi rfl hd (k y hy hK H locs ls hP hD hS hv)
/-! returns -/
theorem r_retI {v : Int32} {M' : zM} (hR : RtI C cc w v M') {a : α} {e : Int32} (hd : decode cc pc = .ok (.ireturn, 1)) (hx : K a → (e, M) = (v, M')) : Sg C w (0, 0) pc lv [.int e] M (some a) K :=
  x_done fun h => by
    have h1 := hx h
    cases h1
    exact hR pc lv hd
def RtZ (C : zC) (cc : ByteArray) (w : zW) (v : Int32) (M : zM) : Prop := ∀ (pc : Nat) (lv : List (Nat × Value)), decode cc pc = .ok (.ireturn, 1) → isB v → Zs C w (0, 0) pc lv [.int v] M
theorem r_retZ {v : Int32} {M' : zM} (hR : RtZ C cc w v M') {a : α} {e : Int32} (hd : decode cc pc = .ok (.ireturn, 1)) (hb : isB e) (hx : K a → (e, M) = (v, M')) : Sg C w (0, 0) pc lv [.int e] M (some a) K :=
  x_done fun h => by
    have h1 := hx h
    cases h1
    exact hR pc lv hd hb
theorem r_retV {M' : zM} (hR : RtV C cc w M') {a : α} (hd : decode cc pc = .ok (.return_, 1)) (hx : K a → M = M') : Sg C w (0, 0) pc lv [] M (some a) K :=
  x_done fun h => by
    have h1 := hx h
    subst h1
    exact hR pc lv hd
theorem met_z {y : MethodName} {zn : Nat → Bool} {M0 M' : zM} {as : List Value} {v : Int32} (hy : plainName y.cls = true) (hf : (lg_sl as).length ≤ nL)
    (h : ∀ C : zC, zBd C cc nL y.cls d g zn l → RtZ C cc w v M' → Zs C w (0, 0) 0 (lv_args 0 as) [] M) : zMet l y cc nL (some .boolean) d g w zn M0 as M (some (.int v)) M' := by
  refine Met.ofW (cc := cc) (maxL := nL) (ret := some .boolean) hy rfl ?_
  intro p e s m args below meth c s₁ B hml hv
  obtain ⟨rfl, hP, hD, hK, hst, hsz, hns⟩ := hv
  have hl := lv_entry as (n := nL) hf
  rw [lg_entry_eq]
  have hts := atoms_spec (ws := wM y cc nL (some .boolean)) B.pre
  have hlocks := B.notSynchronized
  refine h ((p, l, e, (headSpec (wM y cc nL (some .boolean)) (rmd d)).room, s, m, as.toArray, below, meth, c), MQ below (zQ g w (zB zn M0 M') (some (.int v))) as.toArray s 0 0 (zA g), g, zn, M0) ⟨⟨B.exec, B.bytes, hml, findClass_of_methodNamed B.named, fun w hw => hts w (List.mem_cons_of_mem _ hw), hK, hst, hsz, hns⟩, rfl, rfl, rfl, rfl⟩ ?_ s.heap [] _ hP hD va_S.rf ?_
  · intro pc lv hd hb H locs ls hP hD hS hl
    exact W.zret B.exec B.bytes B.returns (isB_nar hb) (fun t ht hW => ⟨rfl, by rw [ht]; exact hP, hD, hS.F ht⟩) hS.2.2 hd
  · show lv_has _ c.maxLocals _
    rw [hml]
    exact hl
/-! calls: of a method that answers by a plain function (0), that may fail (1), that changes the memory too (2), that answers nothing (v) -/
theorem r_cV0 (hB : bOK C cc nL own d g l w z) {i a c na : Nat} {y : MethodName} {bc : ByteArray} {mL : Nat} {ret : Option FieldType} {as rest : List Value} {v : Int32} {st0 : List Value} (hd : decode cc pc = .ok (.invokevirtual i, 3)) (lk : lkV own i y bc mL ret na c) (h : tO z c a) (h1 : 1 ≤ d) (hn : as.length = na) (hst : st0 = as.reverse ++ zr w a :: rest) (hrm : (rest.map fun v => v.category).sum ≤ 8)
    (hM : zMet l y bc mL ret (d - 1) g w (zin z) C.2.2.2.2 (zr w a :: as) M (some (.int v)) M) (k : Sg C w (0, 0) (pc + 3) lv (.int v :: rest) M X K) : Sg C w (0, 0) pc lv st0 M X K :=
  fun b hb hK => z_callV hB.1 hd lk (hB.lt h.1) (by rw [hB.2.2.1]; exact h.2) h1 hn hst hrm hM rfl (k b hb hK)
theorem r_cV1 (hB : bOK C cc nL own d g l w z) {i a c na : Nat} {y : MethodName} {bc : ByteArray} {mL : Nat} {ret : Option FieldType} {as rest : List Value} {f : Option Int32} {kx : Int32 → Option α} {st0 : List Value} (hd : decode cc pc = .ok (.invokevirtual i, 3)) (lk : lkV own i y bc mL ret na c) (h : tO z c a) (h1 : 1 ≤ d) (hn : as.length = na) (hst : st0 = as.reverse ++ zr w a :: rest) (hrm : (rest.map fun v => v.category).sum ≤ 8)
    (hM : ∀ v, f = some v → zMet l y bc mL ret (d - 1) g w (zin z) C.2.2.2.2 (zr w a :: as) M (some (.int v)) M) (k : ∀ v, Sg C w (0, 0) (pc + 3) lv (.int v :: rest) M (kx v) K) : Sg C w (0, 0) pc lv st0 M (f.bind kx) K := by
  intro b hb hK
  cases hf : f with
  | none => rw [hf] at hb; cases hb
  | some v => rw [hf] at hb; exact z_callV hB.1 hd lk (hB.lt h.1) (by rw [hB.2.2.1]; exact h.2) h1 hn hst hrm (hM v hf) rfl (k v b hb hK)
theorem r_cV2 (hB : bOK C cc nL own d g l w z) {i a c na : Nat} {y : MethodName} {bc : ByteArray} {mL : Nat} {ret : Option FieldType} {as rest : List Value} {f : Option (Int32 × zM)} {kx : Int32 → zM → Option α} {st0 : List Value} (hd : decode cc pc = .ok (.invokevirtual i, 3)) (lk : lkV own i y bc mL ret na c) (h : tO z c a) (h1 : 1 ≤ d) (hn : as.length = na) (hst : st0 = as.reverse ++ zr w a :: rest) (hrm : (rest.map fun v => v.category).sum ≤ 8)
    (hM : ∀ v M', f = some (v, M') → zMet l y bc mL ret (d - 1) g w (zin z) C.2.2.2.2 (zr w a :: as) M (some (.int v)) M') (k : ∀ v M', Sg C w (0, 0) (pc + 3) lv (.int v :: rest) M' (kx v M') K) : Sg C w (0, 0) pc lv st0 M (bnd2 f kx) K := by
  intro b hb hK
  cases hf : f with
  | none => rw [hf] at hb; cases hb
  | some q => rw [hf] at hb; exact z_callV hB.1 hd lk (hB.lt h.1) (by rw [hB.2.2.1]; exact h.2) h1 hn hst hrm (hM q.1 q.2 hf) rfl (k q.1 q.2 b hb hK)
theorem r_cVv (hB : bOK C cc nL own d g l w z) {i a c na : Nat} {y : MethodName} {bc : ByteArray} {mL : Nat} {ret : Option FieldType} {as rest : List Value} {f : Option zM} {kx : zM → Option α} {st0 : List Value} (hd : decode cc pc = .ok (.invokevirtual i, 3)) (lk : lkV own i y bc mL ret na c) (h : tO z c a) (h1 : 1 ≤ d) (hn : as.length = na) (hst : st0 = as.reverse ++ zr w a :: rest) (hrm : (rest.map fun v => v.category).sum ≤ 8)
    (hM : ∀ M', f = some M' → zMet l y bc mL ret (d - 1) g w (zin z) C.2.2.2.2 (zr w a :: as) M none M') (k : ∀ M', Sg C w (0, 0) (pc + 3) lv rest M' (kx M') K) : Sg C w (0, 0) pc lv st0 M (f.bind kx) K := by
  intro b hb hK
  cases hf : f with
  | none => rw [hf] at hb; cases hb
  | some M' => rw [hf] at hb; exact z_callV hB.1 hd lk (hB.lt h.1) (by rw [hB.2.2.1]; exact h.2) h1 hn hst hrm (hM M' hf) rfl (k M' b hb hK)
theorem r_cS0 (hB : bOK C cc nL own d g l w z) {i na : Nat} {y : MethodName} {bc : ByteArray} {mL : Nat} {ret : Option FieldType} {as rest : List Value} {v : Int32} {st0 : List Value} (hd : decode cc pc = .ok (.invokestatic i, 3)) (lk : lkS own i y bc mL ret na) (h1 : 1 ≤ d) (hn : as.length = na) (hst : st0 = as.reverse ++ rest) (hrm : (rest.map fun v => v.category).sum ≤ 8)
    (hM : zMet l y bc mL ret (d - 1) g w (zin z) C.2.2.2.2 as M (some (.int v)) M) (k : Sg C w (0, 0) (pc + 3) lv (.int v :: rest) M X K) : Sg C w (0, 0) pc lv st0 M X K :=
  fun b hb hK => z_callS hB.1 hd lk h1 hn hst hrm hM rfl (k b hb hK)
theorem r_cS1 (hB : bOK C cc nL own d g l w z) {i na : Nat} {y : MethodName} {bc : ByteArray} {mL : Nat} {ret : Option FieldType} {as rest : List Value} {f : Option Int32} {kx : Int32 → Option α} {st0 : List Value} (hd : decode cc pc = .ok (.invokestatic i, 3)) (lk : lkS own i y bc mL ret na) (h1 : 1 ≤ d) (hn : as.length = na) (hst : st0 = as.reverse ++ rest) (hrm : (rest.map fun v => v.category).sum ≤ 8)
    (hM : ∀ v, f = some v → zMet l y bc mL ret (d - 1) g w (zin z) C.2.2.2.2 as M (some (.int v)) M) (k : ∀ v, Sg C w (0, 0) (pc + 3) lv (.int v :: rest) M (kx v) K) : Sg C w (0, 0) pc lv st0 M (f.bind kx) K := by
  intro b hb hK
  cases hf : f with
  | none => rw [hf] at hb; cases hb
  | some v => rw [hf] at hb; exact z_callS hB.1 hd lk h1 hn hst hrm (hM v hf) rfl (k v b hb hK)
theorem r_cSv (hB : bOK C cc nL own d g l w z) {i na : Nat} {y : MethodName} {bc : ByteArray} {mL : Nat} {ret : Option FieldType} {as rest : List Value} {f : Option zM} {kx : zM → Option α} {st0 : List Value} (hd : decode cc pc = .ok (.invokestatic i, 3)) (lk : lkS own i y bc mL ret na) (h1 : 1 ≤ d) (hn : as.length = na) (hst : st0 = as.reverse ++ rest) (hrm : (rest.map fun v => v.category).sum ≤ 8)
    (hM : ∀ M', f = some M' → zMet l y bc mL ret (d - 1) g w (zin z) C.2.2.2.2 as M none M') (k : ∀ M', Sg C w (0, 0) (pc + 3) lv rest M' (kx M') K) : Sg C w (0, 0) pc lv st0 M (f.bind kx) K := by
  intro b hb hK
  cases hf : f with
  | none => rw [hf] at hb; cases hb
  | some M' => rw [hf] at hb; exact z_callS hB.1 hd lk h1 hn hst hrm (hM M' hf) rfl (k M' b hb hK)
/-- a private static method of a nest mate -/
def lkN (own : String) (i : Nat) (y : MethodName) (host : String) (cc : ByteArray) (mL : Nat) (ret : Option FieldType) (na : Nat) : Prop :=
  (∀ w ∈ wM y cc mL ret, w ∈ lw_g) ∧ (y.cls ≠ "java/lang/invoke/MethodHandle" ∧ y.cls ≠ "java/lang/invoke/VarHandle" ∧ (parseMethodDescriptor y.desc).map (fun d => d.parameters.length) = some na) ∧ mL ≤ 45 ∧ Cond.methodLinkNest own i y host ∈ lw_nest ∧ Cond.initialized y.cls ∈ lw_g ∧ Cond.static y ∈ lw_g
theorem r_cN0 (hB : bOK C cc nL own d g l w z) {i na : Nat} {y : MethodName} {host : String} {bc : ByteArray} {mL : Nat} {ret : Option FieldType} {as rest : List Value} {v : Int32} {st0 : List Value} (hd : decode cc pc = .ok (.invokestatic i, 3)) (lk : lkN own i y host bc mL ret na) (h1 : 1 ≤ d) (hn : as.length = na) (hst : st0 = as.reverse ++ rest) (hrm : (rest.map fun v => v.category).sum ≤ 8)
    (hM : zMet l y bc mL ret (d - 1) g w (zin z) C.2.2.2.2 as M (some (.int v)) M) (k : Sg C w (0, 0) (pc + 3) lv (.int v :: rest) M X K) : Sg C w (0, 0) pc lv st0 M X K := by
  intro b hb hK H locs ls hP hD hS hl
  obtain ⟨⟨hC, hR, rfl, hz, rfl⟩, hw⟩ := hB
  obtain ⟨hG, hyd, hmL, hlk, hini, hstt⟩ := lk
  subst hst
  have hG2 : GoodIn lw_g (wM y bc mL ret) := fun w hw => ⟨hG w hw, good_of_word (lw_g_good (hG w hw)).2⟩
  rw [← hz] at hM
  exact x_ran (va_runSN (As := as) (rest := rest) (nL := nL) (ret := ret) ⟨hC.1, hC.2.1, hC.2.2.1, hC.2.2.2.1, hC.2.2.2.2.1⟩ hM ⟨va_cnB na hC.2.2.2.2.1 hG2 rfl rfl rfl (hC.2.2.2.2.2.2.2.2.1 _ hlk) (hC.2.2.2.2.1 _ hini) hyd (by rw [hR]; exact rmd_ok hmL h1), hC.2.2.2.2.1 _ hstt, trivial⟩ ⟨zblind, fun U hU hW => zready hC hP hD hS hU hW⟩ rfl hn (by rw [hl.1]; exact hC.2.2.1) rfl (lv_room hrm) hd ⟨Nat.zero_le _, Nat.zero_le _⟩) hS hl (k b hb hK)
end XW
theorem lw_gg : GoodIn lw_g lw_g := fun w hw => ⟨hw, good_of_word (lw_g_good hw).2⟩
theorem lkV.of {own : String} {i : Nat} {y : MethodName} {cc : ByteArray} {mL : Nat} {ret : Option FieldType} {na c : Nat} (h : ∀ w ∈ ([.methodLink own i y, .instanceMethod y, .selects y.cls y y, .initialized y.cls, .code y cc mL ret] : List Cond), w ∈ lw_g) (hd : y.cls ≠ "java/lang/invoke/MethodHandle" ∧ y.cls ≠ "java/lang/invoke/VarHandle" ∧ (parseMethodDescriptor y.desc).map (fun d => d.parameters.length) = some na) (hm : mL ≤ 45) (hc : ∃ T N, vwCl[c]? = some (y.cls, T, N)) : lkV own i y cc mL ret na c := by
  refine ⟨fun w hw => ?_, hd, hm, hc⟩
  have : w ∈ lw_g := by
    simp only [wsV, wM, List.cons_append, List.nil_append, List.mem_cons] at hw
    rcases hw with e | e | e | e | e | e
    · exact h w (by rw [e]; simp)
    · exact h w (by rw [e]; simp)
    · exact h w (by rw [e]; simp)
    · exact h w (by rw [e]; simp)
    · exact h w (by rw [e]; simp)
    · exact e
  exact lw_gg w this
theorem lkS.of {own : String} {i : Nat} {y : MethodName} {cc : ByteArray} {mL : Nat} {ret : Option FieldType} {na : Nat} (h : ∀ w ∈ ([.methodLink own i y, .static y, .initialized y.cls, .code y cc mL ret] : List Cond), w ∈ lw_g) (hd : y.cls ≠ "java/lang/invoke/MethodHandle" ∧ y.cls ≠ "java/lang/invoke/VarHandle" ∧ (parseMethodDescriptor y.desc).map (fun d => d.parameters.length) = some na) (hm : mL ≤ 45) : lkS own i y cc mL ret na := by
  refine ⟨fun w hw => ?_, hd, hm⟩
  have : w ∈ lw_g := by
    simp only [va_wsS, wM, List.cons_append, List.nil_append, List.mem_cons] at hw
    rcases hw with e | e | e | e | e
    · exact h w (by rw [e]; simp)
    · exact h w (by rw [e]; simp)
    · exact h w (by rw [e]; simp)
    · exact h w (by rw [e]; simp)
    · exact e
  exact lw_gg w this
theorem lkF.of {own : String} {i c j : Nat} {fin : Bool} {ty : FieldType} (Cn : String) (T : u_T) (N : Nat) (ty0 : Nat → FieldType) (h1 : vwCl[c]? = some (Cn, T, N)) (h2 : ∀ w ∈ u_ws Cn T N, w ∈ lw_g) (h3 : ∀ k, k < N → parseFieldDescriptor (T k).2.2.1 = some (ty0 k)) (h4 : ∀ a, a < N → ∀ b, b < N → a ≠ b → (T a).2.1 ≠ (T b).2.1) (h5 : zNf c = N) (h6 : j < N) (h7 : Cond.fieldLink own i (T j).1 (T j).2.1 (T j).2.2.1 ∈ lw_g) (h8 : (T j).2.2.2 = fin) (h9 : ty0 j = ty) : lkF own i c j fin ty :=
  ⟨Cn, T, N, ty0, h1, h2, h3, h4, h5, h6, h7, h8, h9⟩
theorem g_in {w : Cond} (h : w ∈ lw_tbl) (hg : goodWord w = true) : w ∈ lw_g := List.mem_filter.mpr ⟨h, hg⟩
theorem n_in {w : Cond} (h : w ∈ lw_tbl) (hg : isNest w = true) : w ∈ lw_nest := List.mem_filter.mpr ⟨h, hg⟩
theorem u_good {C : String} {T : u_T} {N : Nat} : ∀ w ∈ u_ws C T N, goodWord w = true := by
  intro w hw
  obtain ⟨k, -, rfl⟩ := List.mem_map.mp hw
  unfold u_lay
  split <;> rfl

