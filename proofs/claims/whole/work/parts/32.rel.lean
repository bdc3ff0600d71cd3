/-! ===== what holds between the class's memory M and the reference's row ρ ===== -/
/-- a number below n -/
def Lt (v : Int32) (n : Nat) : Prop := ∃ x : Nat, x < n ∧ v = J x
/-- the amount of the i-th word of w's way, and the sum of the first n -/
def amt (ρ : Nat → Int32) (w i : Nat) : Nat := (ρ (1927 + 25 * w + 2 * i)).toInt.toNat
def smA (ρ : Nat → Int32) (w : Nat) : Nat → Nat
  | 0 => 0
  | n + 1 => smA ρ w n + amt ρ w n
def StR (r : Nat → Int32) (ρ : Nat → Int32) (w m : Nat) : Prop :=
  ∃ st dn S L : Nat, r 8 = J st ∧ r 9 = J dn ∧ ρ (152 + 12 * w) = J S ∧ S ≤ m ∧ ρ (1925 + 25 * w) = J L ∧ L ≤ 12 ∧ (st < L ∧ dn < amt ρ w st ∧ S = smA ρ w st + dn ∨ st = L ∧ smA ρ w L ≤ S)
/-- a walker at a, and his fields in the row -/
def WkR (r : Nat → Int32) (ρ : Nat → Int32) (w m : Nat) : Prop :=
  r 0 = ρ (144 + 12 * w) ∧ r 1 = ρ (145 + 12 * w) ∧ (r 1 = 0 ∨ r 1 = 1) ∧ r 10 = ρ (153 + 12 * w) ∧ r 11 = ρ (154 + 12 * w) ∧ r 12 = ρ (155 + 12 * w) ∧
  (r 1 = 1 → r 2 = ρ (146 + 12 * w) ∧ r 3 = ρ (147 + 12 * w) ∧ r 4 = ρ (148 + 12 * w) ∧ r 5 = ρ (149 + 12 * w) ∧ r 6 = ρ (150 + 12 * w) ∧ r 7 = ρ (151 + 12 * w) ∧
    Lt (r 2) 12 ∧ Lt (r 3) 12 ∧ Lt (r 4) 4 ∧ Lt (r 7) 4 ∧ StR r ρ w m)
/-- where one stands by his row -/
def atR (r : Nat → Int32) : Int32 := (12 : Int32) * r 3 + r 2
/-- no two stand on one cell -/
def Ds (M : zM) (a n : Nat) : Prop := ∀ v w, v < n → w < n → v ≠ w → M (a + 3 + v) 1 = 1 → M (a + 3 + w) 1 = 1 → atR (M (a + 3 + v)) ≠ atR (M (a + 3 + w))
/-- a square at a: n walkers, minute m, k lines of the book -/
def SqB (M : zM) (a : Nat) (ρ : Nat → Int32) (n m b k : Nat) : Prop :=
  (n ≤ 16 ∧ m ≤ 10100 ∧ k ≤ 150) ∧ (M a 2 = J n ∧ M a 3 = J m ∧ M a 6 = J k ∧ M a 4 = ρ 937 ∧ M a 5 = ρ 938) ∧ (ρ 940 = J n ∧ ρ 936 = J m ∧ ρ 939 = J k) ∧
  (∀ i, i < 144 → M (a + 2) i = ρ i ∧ Lt (ρ i) 4) ∧ (∀ w, w < n → WkR (M (a + 3 + w)) ρ w b) ∧ (∀ w, n ≤ w → w < 16 → ∀ i, i < 12 → ρ (144 + 12 * w + i) = 0) ∧ Ds M a n
abbrev Sq (M : zM) (a : Nat) (ρ : Nat → Int32) (n m k : Nat) : Prop := SqB M a ρ n m m k
def Bk (r : Nat → Int32) (ρ : Nat → Int32) (k : Nat) : Prop := ∀ i, i < 4 * k → r i = ρ (336 + i)
/-! the law as codes -/
def encC (q : Nat × Int32) : List Int32 := match q.1 with
  | 0 => [q.2]
  | 1 => [J 10135 + q.2]
  | 2 => [J 10043]
  | 3 => [J 10045]
  | 4 => [J 10042]
  | 5 => [q.2, J 10047]
  | 6 => [J 10060]
  | 7 => [J 10061]
  | 8 => [J 10062]
  | 9 => [J 10134]
  | 10 => [J 10133]
  | _ => [J 10132]
def encL : List (Nat × Int32) → List Int32
  | [] => []
  | q :: l => encC q ++ encL l
/-- what a code makes of what lies (the top first; true: is or is not) -/
def tyC (q : Nat × Int32) (s : List Bool) : Option (List Bool) := match q.1, s with
  | 0, s => if s.length < 63 then some (false :: s) else none
  | 1, s => if s.length < 63 then some (false :: s) else none
  | 2, false :: false :: r => some (false :: r)
  | 3, false :: false :: r => some (false :: r)
  | 4, false :: false :: r => some (false :: r)
  | 5, false :: r => if r.length < 62 then some (false :: r) else none
  | 6, false :: false :: r => some (true :: r)
  | 7, false :: false :: r => some (true :: r)
  | 8, false :: false :: r => some (true :: r)
  | 9, true :: r => some (true :: r)
  | 10, true :: true :: r => some (true :: r)
  | 11, true :: true :: r => some (true :: r)
  | _, _ => none
def tyL : List (Nat × Int32) → List Bool → Option (List Bool)
  | [], s => some s
  | q :: l, s => (tyC q s).bind (tyL l)
def okQ (q : Nat × Int32) : Prop := q.1 ≤ 11 ∧ (q.1 = 0 → Lt q.2 10000) ∧ (q.1 = 1 → Lt q.2 10) ∧ (q.1 = 5 → Lt q.2 10000 ∧ q.2 ≠ 0)
def RdR (ρ : Nat → Int32) (fr : Nat) (l : List (Nat × Int32)) : Prop := ∀ i q, l[i]? = some q → ρ (1025 + 2 * (fr + i)) = J q.1 ∧ ρ (1026 + 2 * (fr + i)) = q.2
def RdC (f : Nat → Int32) (c : Nat) (l : List Int32) : Prop := ∀ i v, l[i]? = some v → f (c + i) = v
/-- one line of the law: the class's at l, its codes from c0 to c1 -/
def LnR (r1 r2 r3 r4 : Nat → Int32) (ρ : Nat → Int32) (k c0 c1 : Nat) : Prop :=
  ∃ (kind fr : Nat) (L1 : List (Nat × Int32)), kind < 3 ∧ r1 k = J (128 + kind) ∧ ρ (945 + 5 * k) = J kind ∧ ρ (946 + 5 * k) = J fr ∧ ρ (947 + 5 * k) = J (fr + L1.length) ∧ ρ (948 + 5 * k) = J (fr + L1.length) ∧
    RdR ρ fr L1 ∧ RdC r4 c0 (encL L1) ∧ r2 k = J (c0 + (encL L1).length) ∧ tyL L1 [] = some [false] ∧ (∀ q ∈ L1, okQ q) ∧ r3 k = J c1 ∧ c1 ≤ 400 ∧
    (ρ (949 + 5 * k) = J (-1) ∧ c1 = c0 + (encL L1).length ∧ fr + L1.length ≤ 450 ∨ ∃ L2 : List (Nat × Int32), ρ (949 + 5 * k) = J (fr + L1.length + L2.length) ∧ RdR ρ (fr + L1.length) L2 ∧ RdC r4 (c0 + (encL L1).length) (encL L2) ∧
      c1 = c0 + (encL L1).length + (encL L2).length ∧ tyL L2 [] = some [true] ∧ (∀ q ∈ L2, okQ q) ∧ fr + L1.length + L2.length ≤ 450)
def LwR (r0 r1 r2 r3 r4 : Nat → Int32) (ρ : Nat → Int32) : Prop := ∃ (nl : Nat) (c : Nat → Nat), nl ≤ 16 ∧ r0 0 = J nl ∧ ρ 941 = J nl ∧ c 0 = 0 ∧ ∀ k, k < nl → LnR r1 r2 r3 r4 ρ k (c k) (c (k + 1))
/-- a word of a way: the class's number, the reference's -/
def WdR (u v : Int32) : Prop := u = 150 ∧ v = 3 ∨ u = 151 ∧ v = 0 ∨ u = 152 ∧ v = 1 ∨ u = 153 ∧ v = 2 ∨ u = 154 ∧ v = 4
def WyR (r9 r10 r11 : Nat → Int32) (ρ : Nat → Int32) : Prop := ∀ w, w < 16 → ∃ L : Nat, L ≤ 12 ∧ r9 w = J L ∧ ρ (1925 + 25 * w) = J L ∧
  ∀ i, i < L → WdR (r10 (12 * w + i)) (ρ (1926 + 25 * w + 2 * i)) ∧ r11 (12 * w + i) = ρ (1927 + 25 * w + 2 * i) ∧ ∃ A : Nat, 1 ≤ A ∧ A ≤ 11 ∧ ρ (1927 + 25 * w + 2 * i) = J A
def HrR (r7 r12 r13 : Nat → Int32) (ρ : Nat → Int32) : Prop := ∃ nh : Nat, nh ≤ 16 ∧ r7 3 = J nh ∧ ∀ i, i < nh → r12 i = ρ (2325 + 2 * i) ∧ r13 i = ρ (2326 + 2 * i)
/-- the texts at t -/
def Tx (M : zM) (t : Nat) (ρ : Nat → Int32) : Prop := (∀ k, k < 4 → M (t + 7) k = ρ (941 + k)) ∧ LwR (M (t + 1)) (M (t + 2)) (M (t + 3)) (M (t + 4)) (M (t + 5)) ρ ∧ WyR (M (t + 9)) (M (t + 10)) (M (t + 11)) ρ ∧ HrR (M (t + 7)) (M (t + 12)) (M (t + 13)) ρ
/-- the rows for thought at a -/
def Rw (M : zM) (a : Nat) (ρ : Nat → Int32) : Prop :=
  (∀ r, r < 2 → ∃ n : Nat, n ≤ 12 ∧ M (a + 2) r = J n ∧ ρ (2357 + 13 * r) = J n ∧ ∀ i, i < n → M (a + 1) (12 * r + i) = ρ (2358 + 13 * r + i) ∧ Lt (M (a + 1) (12 * r + i)) 3) ∧
  (∃ n : Nat, n ≤ 24 ∧ M a 3 = J n ∧ ρ 2383 = J n ∧ ∀ i, i < n → M (a + 3) i = ρ (2384 + i) ∧ Lt (M (a + 3) i) 3) ∧
  (∃ n : Nat, n ≤ 8 ∧ M a 6 = J n ∧ ρ 2408 = J n ∧ ∀ i, i < n → M (a + 4) i = ρ (2409 + 2 * i) ∧ Lt (M (a + 4) i) 8 ∧ M (a + 5) i = ρ (2410 + 2 * i) ∧ Lt (M (a + 5) i) 31)
/-- the tape and its fault -/
def Tp (M N : zM) : Prop := ∃ n : Nat, n ≤ 400 ∧ M 78 0 = J n ∧ N 257 7 = J n ∧ (∀ i, i < n → M 79 i = N 262 i ∧ Lt (M 79 i) 256) ∧ M 78 1 = N 257 13 ∧ M 78 2 = N 257 14
/-- the row of a past -/
def mix (N : zM) (p : Nat) : Nat → Int32 := fun i => if i < 940 then N 261 (940 * p + i) else N 258 i
/-- what can be undone: u of them, from o on; ks p: the lines of the book then -/
def Un (M N : zM) (n k u o : Nat) (ks : Nat → Nat) : Prop := u ≤ 6 ∧ o < 6 ∧ M 0 3 = J o ∧ M 0 4 = J u ∧ N 257 4 = J u ∧
  (∀ p, p < u → ks p ≤ k ∧ (∃ mp : Nat, mp < 10000 ∧ Sq M (143 + 19 * ((o + p) % 6)) (mix N p) n mp (ks p)) ∧ Bk (M 69) (mix N p) (ks p)) ∧ (∀ p q, p ≤ q → q < u → ks p ≤ ks q)
def Im (M N : zM) : Prop := M 0 13 = N 257 5 ∧ (M 0 13 = 0 ∨ M 0 13 = 1 ∧ ∃ n m k : Nat, m < 10000 ∧ Sq M 100 (N 260) n m k ∧ Tx M 119 (N 260) ∧ Bk (M 134) (N 260) k ∧ Rw M 135 (N 260))
/-! the values of the game -/
def gmv (x y k : Nat) : Option Nat := match k with
  | 0 => if 2 ≤ x then some (61 * (y + 1) + (x - 2)) else none
  | 1 => if 2 ≤ x ∧ 1 ≤ y then some (61 * (y - 1) + (x - 2)) else none
  | 2 => if 2 ≤ y then some (61 * (y - 2) + (x + 1)) else none
  | _ => if 1 ≤ x ∧ 2 ≤ y then some (61 * (y - 2) + (x - 1)) else none
def hit (f : Nat → Int32) (x y v : Nat) : Prop := ∃ k, k < 4 ∧ ∃ q, gmv x y k = some q ∧ f q = J v
def isV (f : Nat → Int32) (x y : Nat) : Prop := ∃ v : Nat, v ≤ 4 ∧ f (61 * y + x) = J v ∧ ¬ hit f x y v ∧ ∀ u, u < v → hit f x y u
def Vl (M : zM) : Prop := M 95 4 = 0 ∨ M 95 4 = 1 ∧ ∀ x y, x + y ≤ 60 → isV (M 99) x y
/-- all that stands between two calls -/
def IC (M N : zM) : Prop := ∃ (n m k u o : Nat) (ks : Nat → Nat), m < 10000 ∧ Sq M 1 (N 258) n m k ∧ Tx M 40 (N 258) ∧ Bk (M 69) (N 258) k ∧ Rw M 70 (N 258) ∧ Tp M N ∧ Un M N n k u o ks ∧ Im M N ∧ Vl M ∧ M 83 0 = 0
