/-! MEMORY: a slot k of the cell number a (cells are numbered in the order in which the constructors make them) holds an integer: an int, a long, a boolean, or the number of a cell (below 0: null). -/
abbrev Mem : Type := Int → Int → Int
def mset (μ : Mem) (a k v : Int) : Mem := fun b j => if b = a ∧ j = k then v else μ b j
def mcpy (μ : Mem) (a sp b dp n : Int) : Mem := fun c j => if c = b ∧ dp ≤ j ∧ j < dp + n then μ a (sp + (j - dp)) else μ c j
def inR (x : Int) : Prop := -2147483648 ≤ x ∧ x < 2147483648
def inL (x : Int) : Prop := -9223372036854775808 ≤ x ∧ x < 9223372036854775808
def w32 (x : Int) : Int := (Int32.ofInt x).toInt
def w64 (x : Int) : Int := (Int64.ofInt x).toInt
def d32 (x y : Int) : Int := (Int32.ofInt x / Int32.ofInt y).toInt
def r32 (x y : Int) : Int := (Int32.ofInt x - Int32.ofInt x / Int32.ofInt y * Int32.ofInt y).toInt
def a32 (x y : Int) : Int := (Int32.ofInt x &&& Int32.ofInt y).toInt
def o32 (x y : Int) : Int := (Int32.ofInt x ||| Int32.ofInt y).toInt
def shl32 (x y : Int) : Int := (Int32.ofInt x <<< (Int32.ofInt y &&& 31)).toInt
def shr32 (x y : Int) : Int := (Int32.ofInt x >>> (Int32.ofInt y &&& 31)).toInt
def c16 (x : Int) : Int := (((Int32.ofInt x).toUInt32 % 65536).toInt32).toInt
def d64 (x y : Int) : Int := (Int64.ofInt x / Int64.ofInt y).toInt
def r64 (x y : Int) : Int := (Int64.ofInt x - Int64.ofInt x / Int64.ofInt y * Int64.ofInt y).toInt
def a64 (x y : Int) : Int := (Int64.ofInt x &&& Int64.ofInt y).toInt
def o64 (x y : Int) : Int := (Int64.ofInt x ||| Int64.ofInt y).toInt
def x64 (x y : Int) : Int := (Int64.ofInt x ^^^ Int64.ofInt y).toInt
def shl64 (x y : Int) : Int := (Int64.ofInt x <<< ((Int32.ofInt y).toInt64 &&& 63)).toInt
def shr64 (x y : Int) : Int := (Int64.ofInt x >>> ((Int32.ofInt y).toInt64 &&& 63)).toInt
theorem inR_32 (z : Int32) : inR z.toInt := ⟨z.le_toInt, z.toInt_lt⟩
theorem inL_64 (z : Int64) : inL z.toInt := ⟨z.le_toInt, z.toInt_lt⟩
theorem of32 (z : Int32) : Int32.ofInt z.toInt = z := Int32.ofInt_toInt z
theorem of64 (z : Int64) : Int64.ofInt z.toInt = z := Int64.ofInt_toInt z
theorem to32 {x : Int} (h : inR x) : (Int32.ofInt x).toInt = x := Int32.toInt_ofInt_of_le h.1 h.2
theorem to64 {x : Int} (h : inL x) : (Int64.ofInt x).toInt = x := Int64.toInt_ofInt_of_le h.1 h.2
theorem w32_id {x : Int} (h : inR x) : w32 x = x := to32 h
theorem w64_id {x : Int} (h : inL x) : w64 x = x := to64 h
theorem inR_ite {c : Prop} [Decidable c] {x y : Int} (hx : inR x) (hy : inR y) : inR (if c then x else y) := by split <;> assumption
theorem inL_of {x : Int} (h : inR x) : inL x := ⟨Int.le_trans (by decide) h.1, Int.lt_trans h.2 (by decide)⟩
theorem inL_ite {c : Prop} [Decidable c] {x y : Int} (hx : inL x) (hy : inL y) : inL (if c then x else y) := by split <;> assumption
theorem inR_01 {x : Int} (h : x = 0 ∨ x = 1) : inR x := by rcases h with rfl | rfl <;> exact ⟨by decide, by decide⟩
theorem lt32 {x y : Int} (hx : inR x) (hy : inR y) : Int32.ofInt x < Int32.ofInt y ↔ x < y := by rw [Int32.lt_iff_toInt_lt, to32 hx, to32 hy]
theorem le32 {x y : Int} (hx : inR x) (hy : inR y) : Int32.ofInt x ≤ Int32.ofInt y ↔ x ≤ y := by rw [Int32.le_iff_toInt_le, to32 hx, to32 hy]
theorem eq32 {x y : Int} (hx : inR x) (hy : inR y) : Int32.ofInt x = Int32.ofInt y ↔ x = y := ⟨fun h => by rw [← to32 hx, ← to32 hy, h], fun h => by rw [h]⟩
theorem lt64 {x y : Int} (hx : inL x) (hy : inL y) : Int64.ofInt x < Int64.ofInt y ↔ x < y := by rw [Int64.lt_iff_toInt_lt, to64 hx, to64 hy]
theorem eq64 {x y : Int} (hx : inL x) (hy : inL y) : Int64.ofInt x = Int64.ofInt y ↔ x = y := ⟨fun h => by rw [← to64 hx, ← to64 hy, h], fun h => by rw [h]⟩

/-! THE LAYOUT: cell by cell its type (1 .. 13 an object of the class of that place in vwCl, less one; 20 int[], 21 boolean[], 22 long[], 23 int[][], 24 State[], 25 Walk[]) and an array's length -/
def nCells : Nat := 523
def tyL : List Nat := [12, 20, 4, 20, 20, 20, 20, 20, 20, 7, 20, 20, 7, 20, 20, 7, 20, 20, 5, 4, 20, 20, 20, 20, 20, 20, 7, 20, 20, 7, 20, 20, 7, 20, 20, 20, 20, 20, 6, 20, 20, 20, 20, 20, 20, 6, 20, 20, 20, 20, 20, 20, 1, 24, 6, 20, 20, 20, 20, 20, 20, 6, 20, 20, 20, 20, 20, 20, 6, 20, 20, 20, 20, 20, 20, 6, 20, 20, 20, 20, 20, 20, 6, 20, 20, 20, 20, 20, 20, 6, 20, 20, 20, 20, 20, 20, 6, 20, 20, 20, 20, 20, 20, 6, 20, 20, 20, 20, 20, 20, 6, 20, 20, 20, 20, 20, 20, 6, 20, 20, 20, 20, 20, 20, 6, 20, 20, 20, 20, 20, 20, 6, 20, 20, 20, 20, 20, 20, 6, 20, 20, 20, 20, 20, 20, 6, 20, 20, 20, 20, 20, 20, 6, 20, 20, 20, 20, 20, 20, 6, 20, 20, 20, 20, 20, 20, 6, 20, 20, 20, 20, 20, 20, 6, 20, 20, 20, 20, 20, 20, 6, 20, 20, 20, 20, 20, 20, 6, 20, 20, 20, 20, 20, 20, 9, 20, 20, 20, 20, 20, 20, 8, 23, 20, 20, 20, 20, 20, 20, 20, 20, 20, 23, 20, 20, 20, 20, 20, 20, 20, 20, 20, 23, 20, 20, 20, 20, 20, 20, 20, 20, 20, 20, 20, 20, 20, 9, 20, 20, 20, 20, 20, 20, 9, 20, 20, 20, 20, 20, 20, 11, 25, 20, 20, 9, 20, 20, 20, 20, 20, 20, 9, 20, 20, 20, 20, 20, 20, 9, 20, 20, 20, 20, 20, 20, 9, 20, 20, 20, 20, 20, 20, 9, 20, 20, 20, 20, 20, 20, 9, 20, 20, 20, 20, 20, 20, 2, 6, 20, 20, 20, 20, 20, 20, 23, 20, 20, 20, 20, 20, 20, 20, 20, 20, 20, 20, 20, 20, 20, 20, 20, 20, 20, 20, 20, 20, 20, 20, 20, 20, 20, 20, 20, 20, 20, 20, 20, 20, 20, 20, 20, 20, 20, 20, 20, 20, 23, 20, 20, 20, 20, 20, 20, 20, 20, 20, 20, 20, 20, 20, 20, 20, 20, 20, 20, 20, 20, 20, 20, 20, 20, 20, 20, 20, 20, 20, 20, 20, 20, 20, 20, 20, 20, 20, 20, 20, 20, 20, 20, 9, 20, 20, 20, 20, 20, 20, 10, 20, 23, 20, 20, 20, 20, 20, 20, 20, 20, 20, 20, 20, 20, 20, 20, 20, 20, 20, 20, 20, 20, 20, 20, 20, 20, 20, 20, 20, 20, 20, 20, 20, 20, 20, 20, 20, 20, 20, 20, 20, 20, 20, 20, 20, 20, 20, 20, 20, 20, 20, 20, 20, 20, 20, 20, 20, 20, 20, 20, 20, 20, 20, 20, 20, 20, 20, 20, 9, 20, 20, 20, 20, 20, 20, 3, 20, 20, 13, 20, 20, 20, 20, 20, 20, 20, 20, 20, 20, 20, 20, 20, 20, 22, 20, 20, 21, 20, 20, 20, 20, 20, 20, 20, 20, 20, 20, 20, 20, 22, 20, 20, 20, 20, 20, 20, 20, 20, 20, 20, 20, 20, 20, 20, 20, 20]
def lnL : List Nat := [0, 1600, 0, 64, 36, 6, 6, 6, 6, 0, 1600, 64, 0, 1600, 64, 0, 1600, 64, 0, 0, 64, 36, 6, 6, 6, 6, 0, 1600, 64, 0, 1600, 64, 0, 1600, 64, 1601, 1601, 1601, 0, 64, 6, 6, 6, 6, 120, 0, 64, 6, 6, 6, 6, 120, 0, 20, 0, 64, 6, 6, 6, 6, 120, 0, 64, 6, 6, 6, 6, 120, 0, 64, 6, 6, 6, 6, 120, 0, 64, 6, 6, 6, 6, 120, 0, 64, 6, 6, 6, 6, 120, 0, 64, 6, 6, 6, 6, 120, 0, 64, 6, 6, 6, 6, 120, 0, 64, 6, 6, 6, 6, 120, 0, 64, 6, 6, 6, 6, 120, 0, 64, 6, 6, 6, 6, 120, 0, 64, 6, 6, 6, 6, 120, 0, 64, 6, 6, 6, 6, 120, 0, 64, 6, 6, 6, 6, 120, 0, 64, 6, 6, 6, 6, 120, 0, 64, 6, 6, 6, 6, 120, 0, 64, 6, 6, 6, 6, 120, 0, 64, 6, 6, 6, 6, 120, 0, 64, 6, 6, 6, 6, 120, 0, 64, 6, 6, 6, 6, 120, 0, 64, 6, 6, 6, 6, 120, 0, 64, 6, 6, 6, 6, 7, 0, 9, 64, 64, 64, 64, 64, 64, 64, 64, 64, 9, 6, 6, 6, 6, 6, 6, 6, 6, 6, 9, 6, 6, 6, 6, 6, 6, 6, 6, 6, 6, 6, 6, 6, 0, 64, 6, 6, 6, 6, 7, 0, 64, 6, 6, 6, 6, 7, 0, 6, 5, 5, 0, 64, 6, 6, 6, 6, 7, 0, 64, 6, 6, 6, 6, 7, 0, 64, 6, 6, 6, 6, 7, 0, 64, 6, 6, 6, 6, 7, 0, 64, 6, 6, 6, 6, 7, 0, 64, 6, 6, 6, 6, 7, 0, 0, 64, 6, 6, 6, 6, 120, 41, 64, 64, 64, 64, 64, 64, 64, 64, 64, 64, 64, 64, 64, 64, 64, 64, 64, 64, 64, 64, 64, 64, 64, 64, 64, 64, 64, 64, 64, 64, 64, 64, 64, 64, 64, 64, 64, 64, 64, 64, 64, 41, 6, 6, 6, 6, 6, 6, 6, 6, 6, 6, 6, 6, 6, 6, 6, 6, 6, 6, 6, 6, 6, 6, 6, 6, 6, 6, 6, 6, 6, 6, 6, 6, 6, 6, 6, 6, 6, 6, 6, 6, 6, 6, 0, 64, 6, 6, 6, 6, 7, 0, 64, 64, 576, 576, 576, 576, 576, 576, 576, 576, 576, 576, 576, 576, 576, 576, 576, 576, 576, 576, 576, 576, 576, 576, 576, 576, 576, 576, 576, 576, 576, 576, 576, 576, 576, 576, 576, 576, 576, 576, 576, 576, 576, 576, 576, 576, 576, 576, 576, 576, 576, 576, 576, 576, 576, 576, 576, 576, 576, 576, 576, 576, 576, 576, 576, 576, 64, 100, 0, 64, 6, 6, 6, 6, 7, 0, 103, 6, 0, 1800, 2, 2, 128, 2, 12, 12, 12, 12, 2, 6, 6, 3200, 3200, 12, 20, 20, 20, 20, 20, 500, 6, 22, 1408, 132, 132, 132, 132, 22, 2640, 500, 10, 64, 6, 6, 640, 54, 54, 5, 5, 16, 16, 16, 36864, 64, 100, 110]
def ty (a : Int) : Nat := if a < 0 then 0 else (tyL[a.toNat]?).getD 0
def ln (a : Int) : Int := if a < 0 then 0 else (((lnL[a.toNat]?).getD 0 : Nat) : Int)
def fk1 : List Nat := [2, 0, 0]
def fk2 : List Nat := [2, 2, 2, 2, 2, 2, 4]
def fk3 : List Nat := [2, 0]
def fk4 : List Nat := [0, 0, 0, 0, 0, 0, 2, 2, 2, 2, 2, 2, 2, 2, 2]
def fk5 : List Nat := [2, 0, 0, 2, 2, 2, 0, 0, 0, 0, 3]
def fk6 : List Nat := [0, 2, 2, 2, 2, 2, 2, 0]
def fk7 : List Nat := [2, 2, 0]
def fk8 : List Nat := [2, 2, 2, 2, 2, 2, 2, 2, 2, 2, 0, 0, 0, 4, 4]
def fk9 : List Nat := [2, 2, 2, 2, 2, 2, 2, 0, 0, 0]
def fk10 : List Nat := [2, 2, 2, 0, 2, 2, 0, 2, 0, 0, 0, 4, 4]
def fk11 : List Nat := [2, 2, 2, 2, 0, 0, 0]
def fk12 : List Nat := [2, 0, 2, 2, 2, 2, 2, 2, 2, 2, 2, 2, 2, 2, 0]
def fk13 : List Nat := [2, 0, 0, 0, 0, 0, 0, 1, 0, 0, 0, 0, 0, 0, 2, 2, 2, 2, 2, 2, 2, 2, 2, 2, 2, 2, 2, 2, 0, 0, 0, 2, 2, 2, 2, 2, 0, 0, 2, 0, 4, 4, 2, 2, 2, 2, 2, 2, 2, 2, 2, 0, 0, 1, 2, 2, 2, 2, 2, 2, 2, 2, 0, 0, 0, 2, 0, 2, 0, 2, 2, 2, 2, 2, 2, 2, 0]
def fk (t : Nat) : List Nat := match t with
  | 1 => fk1
  | 2 => fk2
  | 3 => fk3
  | 4 => fk4
  | 5 => fk5
  | 6 => fk6
  | 7 => fk7
  | 8 => fk8
  | 9 => fk9
  | 10 => fk10
  | 11 => fk11
  | 12 => fk12
  | 13 => fk13
  | _ => []
/-- the static reference in slot k of the cell a of type t -/
def sl (t : Nat) (a k : Int) : Int := match t with
  | 23 => a + 1 + k
  | 24 => 54 + 7 * k
  | 25 => 254 + 7 * k
  | 1 => if k = 0 then 53 else 0
  | 2 => if k = 0 then 389 else if k = 1 then 2 else if k = 2 then 297 else if k = 3 then 304 else if k = 4 then 346 else if k = 5 then 388 else 0
  | 3 => if k = 0 then 473 else 0
  | 4 => if k = 6 then a + 1 else if k = 7 then a + 2 else if k = 8 then a + 3 else if k = 9 then a + 4 else if k = 10 then a + 5 else if k = 11 then a + 6 else if k = 12 then a + 7 else if k = 13 then a + 10 else if k = 14 then a + 13 else 0
  | 5 => if k = 0 then 19 else if k = 3 then 35 else if k = 4 then 36 else if k = 5 then 37 else 0
  | 6 => if k = 1 then a + 1 else if k = 2 then a + 2 else if k = 3 then a + 3 else if k = 4 then a + 4 else if k = 5 then a + 5 else if k = 6 then a + 6 else 0
  | 7 => if k = 0 then a + 1 else if k = 1 then a + 2 else 0
  | 8 => if k = 0 then 2 else if k = 1 then 236 else if k = 2 then 243 else if k = 3 then 202 else if k = 4 then 212 else if k = 5 then 222 else if k = 6 then 232 else if k = 7 then 233 else if k = 8 then 234 else if k = 9 then 235 else 0
  | 9 => if k = 0 then 2 else if k = 1 then a + 1 else if k = 2 then a + 2 else if k = 3 then a + 3 else if k = 4 then a + 4 else if k = 5 then a + 5 else if k = 6 then a + 6 else 0
  | 10 => if k = 0 then 2 else if k = 1 then 465 else if k = 2 then 397 else if k = 4 then 398 else if k = 5 then 463 else if k = 7 then 464 else 0
  | 11 => if k = 0 then 2 else if k = 1 then 251 else if k = 2 then 252 else if k = 3 then 253 else 0
  | 12 => if k = 0 then 1 else if k = 2 then 2 else if k = 3 then 18 else if k = 4 then 38 else if k = 5 then 45 else if k = 6 then 52 else if k = 7 then 194 else if k = 8 then 201 else if k = 9 then 250 else if k = 10 then 296 else if k = 11 then 396 else if k = 12 then 472 else if k = 13 then 474 else 0
  | 13 => if k = 0 then 476 else if k = 14 then 477 else if k = 15 then 478 else if k = 16 then 479 else if k = 17 then 480 else if k = 18 then 481 else if k = 19 then 482 else if k = 20 then 483 else if k = 21 then 484 else if k = 22 then 485 else if k = 23 then 486 else if k = 24 then 487 else if k = 25 then 488 else if k = 26 then 489 else if k = 27 then 490 else if k = 31 then 491 else if k = 32 then 492 else if k = 33 then 493 else if k = 34 then 494 else if k = 35 then 495 else if k = 38 then 496 else if k = 42 then 497 else if k = 43 then 498 else if k = 44 then 499 else if k = 45 then 500 else if k = 46 then 501 else if k = 47 then 502 else if k = 48 then 503 else if k = 49 then 504 else if k = 50 then 505 else if k = 54 then 506 else if k = 55 then 507 else if k = 56 then 508 else if k = 57 then 509 else if k = 58 then 510 else if k = 59 then 511 else if k = 60 then 512 else if k = 61 then 513 else if k = 65 then 514 else if k = 67 then 515 else if k = 69 then 516 else if k = 70 then 517 else if k = 71 then 518 else if k = 72 then 519 else if k = 73 then 520 else if k = 74 then 521 else if k = 75 then 522 else 0
  | _ => 0
/-- the kind of slot k of a cell of type t: 0 int, 1 long, 2 static reference, 3 a Sum, 4 boolean -/
def kd (t : Nat) (k : Int) : Nat := match t with
  | 20 => 0
  | 21 => 4
  | 22 => 1
  | 23 => 2
  | 24 => 2
  | 25 => 2
  | t => if k < 0 then 0 else (fk t).getD k.toNat 0
/-- what a slot of a kind may hold -/
def okV (t : Nat) (a k v : Int) : Prop := match kd t k with
  | 0 => inR v
  | 1 => inL v
  | 2 => 0 ≤ k → v = sl t a k
  | 3 => ty v = 7
  | _ => v = 0 ∨ v = 1
def VT (μ : Mem) : Prop := ∀ a k : Int, okV (ty a) a k (μ a k)

theorem VT.int {μ : Mem} (h : VT μ) {a k : Int} {t : Nat} (ha : ty a = t) (hk : kd t k = 0) : inR (μ a k) := by
  have h1 := h a k
  rw [ha] at h1
  unfold okV at h1
  rw [hk] at h1
  exact h1
theorem VT.long {μ : Mem} (h : VT μ) {a k : Int} {t : Nat} (ha : ty a = t) (hk : kd t k = 1) : inL (μ a k) := by
  have h1 := h a k
  rw [ha] at h1
  unfold okV at h1
  rw [hk] at h1
  exact h1
theorem VT.ref {μ : Mem} (h : VT μ) {a k : Int} {t : Nat} (ha : ty a = t) (hk : kd t k = 2) (h0 : 0 ≤ k) : μ a k = sl t a k := by
  have h1 := h a k
  rw [ha] at h1
  unfold okV at h1
  rw [hk] at h1
  exact h1 h0
theorem VT.sum {μ : Mem} (h : VT μ) {a k : Int} {t : Nat} (ha : ty a = t) (hk : kd t k = 3) : ty (μ a k) = 7 := by
  have h1 := h a k
  rw [ha] at h1
  unfold okV at h1
  rw [hk] at h1
  exact h1
theorem VT.bool {μ : Mem} (h : VT μ) {a k : Int} {t : Nat} (ha : ty a = t) (hk : kd t k = 4) : μ a k = 0 ∨ μ a k = 1 := by
  have h1 := h a k
  rw [ha] at h1
  unfold okV at h1
  rw [hk] at h1
  exact h1
theorem VT.set {μ : Mem} (h : VT μ) {a k v : Int} {t : Nat} (ha : ty a = t) (hv : okV t a k v) : VT (mset μ a k v) := by
  intro b j
  unfold mset
  by_cases e : b = a ∧ j = k
  · rw [if_pos e, e.1, e.2, ha]; exact hv
  · rw [if_neg e]; exact h b j
theorem VT.setI {μ : Mem} (h : VT μ) {a k v : Int} {t : Nat} (ha : ty a = t) (hk : kd t k = 0) (hv : inR v) : VT (mset μ a k v) := h.set ha (by unfold okV; rw [hk]; exact hv)
theorem VT.setJ {μ : Mem} (h : VT μ) {a k v : Int} {t : Nat} (ha : ty a = t) (hk : kd t k = 1) (hv : inL v) : VT (mset μ a k v) := h.set ha (by unfold okV; rw [hk]; exact hv)
theorem VT.setZ {μ : Mem} (h : VT μ) {a k v : Int} {t : Nat} (ha : ty a = t) (hk : kd t k = 4) (hv : v = 0 ∨ v = 1) : VT (mset μ a k v) := h.set ha (by unfold okV; rw [hk]; exact hv)
theorem VT.setS {μ : Mem} (h : VT μ) {a k v : Int} {t : Nat} (ha : ty a = t) (hk : kd t k = 3) (hv : ty v = 7) : VT (mset μ a k v) := h.set ha (by unfold okV; rw [hk]; exact hv)
theorem kd20 (k : Int) : kd 20 k = 0 := rfl
theorem kd21 (k : Int) : kd 21 k = 4 := rfl
theorem kd22 (k : Int) : kd 22 k = 1 := rfl
theorem kd23 (k : Int) : kd 23 k = 2 := rfl
theorem VT.cpy {μ : Mem} (h : VT μ) {a sp b dp n : Int} (ha : ty a = 20) (hb : ty b = 20) : VT (mcpy μ a sp b dp n) := by
  intro c j
  unfold mcpy
  by_cases e : c = b ∧ dp ≤ j ∧ j < dp + n
  · rw [if_pos e, e.1, hb]
    exact h.int ha (kd20 _)
  · rw [if_neg e]; exact h c j
theorem ty_in {a : Int} (h : ty a ≠ 0) : 0 ≤ a ∧ a < nCells ∧ tyL[a.toNat]? = some (ty a) := by
  unfold ty at h ⊢
  by_cases h0 : a < 0
  · rw [if_pos h0] at h; exact absurd rfl h
  · rw [if_neg h0] at h ⊢
    cases h1 : tyL[a.toNat]? with
    | none => rw [h1] at h; exact absurd rfl h
    | some t =>
      refine ⟨by omega, ?_, rfl⟩
      have h2 := (List.getElem?_eq_some_iff.mp h1).1
      have h3 : tyL.length = nCells := by decide +kernel
      omega
/-- the cells of a type -/
theorem ty_mem {t : Nat} {l : List Nat} (h : tyL.zipIdx.all (fun q => q.1 != t || decide (q.2 ∈ l)) = true) (ht : t ≠ 0) {a : Int} (ha : ty a = t) : a.toNat ∈ l ∧ 0 ≤ a := by
  have h1 := ty_in (a := a) (by rw [ha]; exact ht)
  have h2 := List.all_eq_true.mp h _ ((List.mem_zipIdx_iff_getElem? (x := (ty a, a.toNat))).mpr h1.2.2)
  refine ⟨?_, h1.1⟩
  rw [ha] at h2
  simpa using h2
theorem ln_ok (a : Int) : 0 ≤ ln a ∧ ln a < 65536 := by
  unfold ln
  by_cases h0 : a < 0
  · rw [if_pos h0]; decide
  · rw [if_neg h0]
    cases h1 : lnL[a.toNat]? with
    | none => decide
    | some n =>
      have h2 : lnL.all (fun n => n < 65536) = true := by decide +kernel
      have h3 := List.all_eq_true.mp h2 _ (List.mem_of_getElem? h1)
      simp only [decide_eq_true_eq] at h3
      simp only [Option.getD_some]
      omega
theorem inR_ln (a : Int) : inR (ln a) := ⟨by have := (ln_ok a).1; omega, by have := (ln_ok a).2; omega⟩

def in4 : List Nat := [2, 19]
theorem in4_ok {a : Int} (h : ty a = 4) : a.toNat ∈ in4 ∧ 0 ≤ a := ty_mem (by decide +kernel) (by decide) h
theorem tn4_6 {a : Int} (h : ty a = 4) : ty (a + 1) = 20 ∧ ln (a + 1) = 64 := by
  have h0 := in4_ok h
  have h1 : ∀ n ∈ in4, ty ((n : Int) + 1) = 20 ∧ ln ((n : Int) + 1) = 64 := by decide +kernel
  have h2 := h1 _ h0.1
  rwa [Int.toNat_of_nonneg h0.2] at h2
theorem tn4_7 {a : Int} (h : ty a = 4) : ty (a + 2) = 20 ∧ ln (a + 2) = 36 := by
  have h0 := in4_ok h
  have h1 : ∀ n ∈ in4, ty ((n : Int) + 2) = 20 ∧ ln ((n : Int) + 2) = 36 := by decide +kernel
  have h2 := h1 _ h0.1
  rwa [Int.toNat_of_nonneg h0.2] at h2
theorem tn4_8 {a : Int} (h : ty a = 4) : ty (a + 3) = 20 ∧ ln (a + 3) = 6 := by
  have h0 := in4_ok h
  have h1 : ∀ n ∈ in4, ty ((n : Int) + 3) = 20 ∧ ln ((n : Int) + 3) = 6 := by decide +kernel
  have h2 := h1 _ h0.1
  rwa [Int.toNat_of_nonneg h0.2] at h2
theorem tn4_9 {a : Int} (h : ty a = 4) : ty (a + 4) = 20 ∧ ln (a + 4) = 6 := by
  have h0 := in4_ok h
  have h1 : ∀ n ∈ in4, ty ((n : Int) + 4) = 20 ∧ ln ((n : Int) + 4) = 6 := by decide +kernel
  have h2 := h1 _ h0.1
  rwa [Int.toNat_of_nonneg h0.2] at h2
theorem tn4_10 {a : Int} (h : ty a = 4) : ty (a + 5) = 20 ∧ ln (a + 5) = 6 := by
  have h0 := in4_ok h
  have h1 : ∀ n ∈ in4, ty ((n : Int) + 5) = 20 ∧ ln ((n : Int) + 5) = 6 := by decide +kernel
  have h2 := h1 _ h0.1
  rwa [Int.toNat_of_nonneg h0.2] at h2
theorem tn4_11 {a : Int} (h : ty a = 4) : ty (a + 6) = 20 ∧ ln (a + 6) = 6 := by
  have h0 := in4_ok h
  have h1 : ∀ n ∈ in4, ty ((n : Int) + 6) = 20 ∧ ln ((n : Int) + 6) = 6 := by decide +kernel
  have h2 := h1 _ h0.1
  rwa [Int.toNat_of_nonneg h0.2] at h2
theorem tn4_12 {a : Int} (h : ty a = 4) : ty (a + 7) = 7 := by
  have h0 := in4_ok h
  have h1 : ∀ n ∈ in4, ty ((n : Int) + 7) = 7 := by decide +kernel
  have h2 := h1 _ h0.1
  rwa [Int.toNat_of_nonneg h0.2] at h2
theorem tn4_13 {a : Int} (h : ty a = 4) : ty (a + 10) = 7 := by
  have h0 := in4_ok h
  have h1 : ∀ n ∈ in4, ty ((n : Int) + 10) = 7 := by decide +kernel
  have h2 := h1 _ h0.1
  rwa [Int.toNat_of_nonneg h0.2] at h2
theorem tn4_14 {a : Int} (h : ty a = 4) : ty (a + 13) = 7 := by
  have h0 := in4_ok h
  have h1 : ∀ n ∈ in4, ty ((n : Int) + 13) = 7 := by decide +kernel
  have h2 := h1 _ h0.1
  rwa [Int.toNat_of_nonneg h0.2] at h2
def in6 : List Nat := [38, 45, 54, 61, 68, 75, 82, 89, 96, 103, 110, 117, 124, 131, 138, 145, 152, 159, 166, 173, 180, 187, 297]
theorem in6_ok {a : Int} (h : ty a = 6) : a.toNat ∈ in6 ∧ 0 ≤ a := ty_mem (by decide +kernel) (by decide) h
theorem tn6_1 {a : Int} (h : ty a = 6) : ty (a + 1) = 20 ∧ ln (a + 1) = 64 := by
  have h0 := in6_ok h
  have h1 : ∀ n ∈ in6, ty ((n : Int) + 1) = 20 ∧ ln ((n : Int) + 1) = 64 := by decide +kernel
  have h2 := h1 _ h0.1
  rwa [Int.toNat_of_nonneg h0.2] at h2
theorem tn6_2 {a : Int} (h : ty a = 6) : ty (a + 2) = 20 ∧ ln (a + 2) = 6 := by
  have h0 := in6_ok h
  have h1 : ∀ n ∈ in6, ty ((n : Int) + 2) = 20 ∧ ln ((n : Int) + 2) = 6 := by decide +kernel
  have h2 := h1 _ h0.1
  rwa [Int.toNat_of_nonneg h0.2] at h2
theorem tn6_3 {a : Int} (h : ty a = 6) : ty (a + 3) = 20 ∧ ln (a + 3) = 6 := by
  have h0 := in6_ok h
  have h1 : ∀ n ∈ in6, ty ((n : Int) + 3) = 20 ∧ ln ((n : Int) + 3) = 6 := by decide +kernel
  have h2 := h1 _ h0.1
  rwa [Int.toNat_of_nonneg h0.2] at h2
theorem tn6_4 {a : Int} (h : ty a = 6) : ty (a + 4) = 20 ∧ ln (a + 4) = 6 := by
  have h0 := in6_ok h
  have h1 : ∀ n ∈ in6, ty ((n : Int) + 4) = 20 ∧ ln ((n : Int) + 4) = 6 := by decide +kernel
  have h2 := h1 _ h0.1
  rwa [Int.toNat_of_nonneg h0.2] at h2
theorem tn6_5 {a : Int} (h : ty a = 6) : ty (a + 5) = 20 ∧ ln (a + 5) = 6 := by
  have h0 := in6_ok h
  have h1 : ∀ n ∈ in6, ty ((n : Int) + 5) = 20 ∧ ln ((n : Int) + 5) = 6 := by decide +kernel
  have h2 := h1 _ h0.1
  rwa [Int.toNat_of_nonneg h0.2] at h2
theorem tn6_6 {a : Int} (h : ty a = 6) : ty (a + 6) = 20 ∧ ln (a + 6) = 120 := by
  have h0 := in6_ok h
  have h1 : ∀ n ∈ in6, ty ((n : Int) + 6) = 20 ∧ ln ((n : Int) + 6) = 120 := by decide +kernel
  have h2 := h1 _ h0.1
  rwa [Int.toNat_of_nonneg h0.2] at h2
def in7 : List Nat := [9, 12, 15, 26, 29, 32]
theorem in7_ok {a : Int} (h : ty a = 7) : a.toNat ∈ in7 ∧ 0 ≤ a := ty_mem (by decide +kernel) (by decide) h
theorem tn7_0 {a : Int} (h : ty a = 7) : ty (a + 1) = 20 ∧ ln (a + 1) = 1600 := by
  have h0 := in7_ok h
  have h1 : ∀ n ∈ in7, ty ((n : Int) + 1) = 20 ∧ ln ((n : Int) + 1) = 1600 := by decide +kernel
  have h2 := h1 _ h0.1
  rwa [Int.toNat_of_nonneg h0.2] at h2
theorem tn7_1 {a : Int} (h : ty a = 7) : ty (a + 2) = 20 ∧ ln (a + 2) = 64 := by
  have h0 := in7_ok h
  have h1 : ∀ n ∈ in7, ty ((n : Int) + 2) = 20 ∧ ln ((n : Int) + 2) = 64 := by decide +kernel
  have h2 := h1 _ h0.1
  rwa [Int.toNat_of_nonneg h0.2] at h2
def in9 : List Nat := [194, 236, 243, 254, 261, 268, 275, 282, 289, 389, 465]
theorem in9_ok {a : Int} (h : ty a = 9) : a.toNat ∈ in9 ∧ 0 ≤ a := ty_mem (by decide +kernel) (by decide) h
theorem tn9_1 {a : Int} (h : ty a = 9) : ty (a + 1) = 20 ∧ ln (a + 1) = 64 := by
  have h0 := in9_ok h
  have h1 : ∀ n ∈ in9, ty ((n : Int) + 1) = 20 ∧ ln ((n : Int) + 1) = 64 := by decide +kernel
  have h2 := h1 _ h0.1
  rwa [Int.toNat_of_nonneg h0.2] at h2
theorem tn9_2 {a : Int} (h : ty a = 9) : ty (a + 2) = 20 ∧ ln (a + 2) = 6 := by
  have h0 := in9_ok h
  have h1 : ∀ n ∈ in9, ty ((n : Int) + 2) = 20 ∧ ln ((n : Int) + 2) = 6 := by decide +kernel
  have h2 := h1 _ h0.1
  rwa [Int.toNat_of_nonneg h0.2] at h2
theorem tn9_3 {a : Int} (h : ty a = 9) : ty (a + 3) = 20 ∧ ln (a + 3) = 6 := by
  have h0 := in9_ok h
  have h1 : ∀ n ∈ in9, ty ((n : Int) + 3) = 20 ∧ ln ((n : Int) + 3) = 6 := by decide +kernel
  have h2 := h1 _ h0.1
  rwa [Int.toNat_of_nonneg h0.2] at h2
theorem tn9_4 {a : Int} (h : ty a = 9) : ty (a + 4) = 20 ∧ ln (a + 4) = 6 := by
  have h0 := in9_ok h
  have h1 : ∀ n ∈ in9, ty ((n : Int) + 4) = 20 ∧ ln ((n : Int) + 4) = 6 := by decide +kernel
  have h2 := h1 _ h0.1
  rwa [Int.toNat_of_nonneg h0.2] at h2
theorem tn9_5 {a : Int} (h : ty a = 9) : ty (a + 5) = 20 ∧ ln (a + 5) = 6 := by
  have h0 := in9_ok h
  have h1 : ∀ n ∈ in9, ty ((n : Int) + 5) = 20 ∧ ln ((n : Int) + 5) = 6 := by decide +kernel
  have h2 := h1 _ h0.1
  rwa [Int.toNat_of_nonneg h0.2] at h2
theorem tn9_6 {a : Int} (h : ty a = 9) : ty (a + 6) = 20 ∧ ln (a + 6) = 7 := by
  have h0 := in9_ok h
  have h1 : ∀ n ∈ in9, ty ((n : Int) + 6) = 20 ∧ ln ((n : Int) + 6) = 7 := by decide +kernel
  have h2 := h1 _ h0.1
  rwa [Int.toNat_of_nonneg h0.2] at h2
theorem t0 : ty 0 = 12 := by decide +kernel
theorem t1 : ty 1 = 20 := by decide +kernel
theorem l1 : ln 1 = 1600 := by decide +kernel
theorem t2 : ty 2 = 4 := by decide +kernel
theorem t3 : ty 3 = 20 := by decide +kernel
theorem l3 : ln 3 = 64 := by decide +kernel
theorem t4 : ty 4 = 20 := by decide +kernel
theorem l4 : ln 4 = 36 := by decide +kernel
theorem t5 : ty 5 = 20 := by decide +kernel
theorem l5 : ln 5 = 6 := by decide +kernel
theorem t6 : ty 6 = 20 := by decide +kernel
theorem l6 : ln 6 = 6 := by decide +kernel
theorem t7 : ty 7 = 20 := by decide +kernel
theorem l7 : ln 7 = 6 := by decide +kernel
theorem t8 : ty 8 = 20 := by decide +kernel
theorem l8 : ln 8 = 6 := by decide +kernel
theorem t9 : ty 9 = 7 := by decide +kernel
theorem t10 : ty 10 = 20 := by decide +kernel
theorem l10 : ln 10 = 1600 := by decide +kernel
theorem t11 : ty 11 = 20 := by decide +kernel
theorem l11 : ln 11 = 64 := by decide +kernel
theorem t12 : ty 12 = 7 := by decide +kernel
theorem t13 : ty 13 = 20 := by decide +kernel
theorem l13 : ln 13 = 1600 := by decide +kernel
theorem t14 : ty 14 = 20 := by decide +kernel
theorem l14 : ln 14 = 64 := by decide +kernel
theorem t15 : ty 15 = 7 := by decide +kernel
theorem t16 : ty 16 = 20 := by decide +kernel
theorem l16 : ln 16 = 1600 := by decide +kernel
theorem t17 : ty 17 = 20 := by decide +kernel
theorem l17 : ln 17 = 64 := by decide +kernel
theorem t18 : ty 18 = 5 := by decide +kernel
theorem t19 : ty 19 = 4 := by decide +kernel
theorem t20 : ty 20 = 20 := by decide +kernel
theorem l20 : ln 20 = 64 := by decide +kernel
theorem t21 : ty 21 = 20 := by decide +kernel
theorem l21 : ln 21 = 36 := by decide +kernel
theorem t22 : ty 22 = 20 := by decide +kernel
theorem l22 : ln 22 = 6 := by decide +kernel
theorem t23 : ty 23 = 20 := by decide +kernel
theorem l23 : ln 23 = 6 := by decide +kernel
theorem t24 : ty 24 = 20 := by decide +kernel
theorem l24 : ln 24 = 6 := by decide +kernel
theorem t25 : ty 25 = 20 := by decide +kernel
theorem l25 : ln 25 = 6 := by decide +kernel
theorem t26 : ty 26 = 7 := by decide +kernel
theorem t27 : ty 27 = 20 := by decide +kernel
theorem l27 : ln 27 = 1600 := by decide +kernel
theorem t28 : ty 28 = 20 := by decide +kernel
theorem l28 : ln 28 = 64 := by decide +kernel
theorem t29 : ty 29 = 7 := by decide +kernel
theorem t30 : ty 30 = 20 := by decide +kernel
theorem l30 : ln 30 = 1600 := by decide +kernel
theorem t31 : ty 31 = 20 := by decide +kernel
theorem l31 : ln 31 = 64 := by decide +kernel
theorem t32 : ty 32 = 7 := by decide +kernel
theorem t33 : ty 33 = 20 := by decide +kernel
theorem l33 : ln 33 = 1600 := by decide +kernel
theorem t34 : ty 34 = 20 := by decide +kernel
theorem l34 : ln 34 = 64 := by decide +kernel
theorem t35 : ty 35 = 20 := by decide +kernel
theorem l35 : ln 35 = 1601 := by decide +kernel
theorem t36 : ty 36 = 20 := by decide +kernel
theorem l36 : ln 36 = 1601 := by decide +kernel
theorem t37 : ty 37 = 20 := by decide +kernel
theorem l37 : ln 37 = 1601 := by decide +kernel
theorem t38 : ty 38 = 6 := by decide +kernel
theorem t39 : ty 39 = 20 := by decide +kernel
theorem l39 : ln 39 = 64 := by decide +kernel
theorem t40 : ty 40 = 20 := by decide +kernel
theorem l40 : ln 40 = 6 := by decide +kernel
theorem t41 : ty 41 = 20 := by decide +kernel
theorem l41 : ln 41 = 6 := by decide +kernel
theorem t42 : ty 42 = 20 := by decide +kernel
theorem l42 : ln 42 = 6 := by decide +kernel
theorem t43 : ty 43 = 20 := by decide +kernel
theorem l43 : ln 43 = 6 := by decide +kernel
theorem t44 : ty 44 = 20 := by decide +kernel
theorem l44 : ln 44 = 120 := by decide +kernel
theorem t45 : ty 45 = 6 := by decide +kernel
theorem t46 : ty 46 = 20 := by decide +kernel
theorem l46 : ln 46 = 64 := by decide +kernel
theorem t47 : ty 47 = 20 := by decide +kernel
theorem l47 : ln 47 = 6 := by decide +kernel
theorem t48 : ty 48 = 20 := by decide +kernel
theorem l48 : ln 48 = 6 := by decide +kernel
theorem t49 : ty 49 = 20 := by decide +kernel
theorem l49 : ln 49 = 6 := by decide +kernel
theorem t50 : ty 50 = 20 := by decide +kernel
theorem l50 : ln 50 = 6 := by decide +kernel
theorem t51 : ty 51 = 20 := by decide +kernel
theorem l51 : ln 51 = 120 := by decide +kernel
theorem t52 : ty 52 = 1 := by decide +kernel
theorem t53 : ty 53 = 24 := by decide +kernel
theorem l53 : ln 53 = 20 := by decide +kernel
theorem t54 : ty 54 = 6 := by decide +kernel
theorem t55 : ty 55 = 20 := by decide +kernel
theorem l55 : ln 55 = 64 := by decide +kernel
theorem t56 : ty 56 = 20 := by decide +kernel
theorem l56 : ln 56 = 6 := by decide +kernel
theorem t57 : ty 57 = 20 := by decide +kernel
theorem l57 : ln 57 = 6 := by decide +kernel
theorem t58 : ty 58 = 20 := by decide +kernel
theorem l58 : ln 58 = 6 := by decide +kernel
theorem t59 : ty 59 = 20 := by decide +kernel
theorem l59 : ln 59 = 6 := by decide +kernel
theorem t60 : ty 60 = 20 := by decide +kernel
theorem l60 : ln 60 = 120 := by decide +kernel
theorem t61 : ty 61 = 6 := by decide +kernel
theorem t62 : ty 62 = 20 := by decide +kernel
theorem l62 : ln 62 = 64 := by decide +kernel
theorem t63 : ty 63 = 20 := by decide +kernel
theorem l63 : ln 63 = 6 := by decide +kernel
theorem t64 : ty 64 = 20 := by decide +kernel
theorem l64 : ln 64 = 6 := by decide +kernel
theorem t65 : ty 65 = 20 := by decide +kernel
theorem l65 : ln 65 = 6 := by decide +kernel
theorem t66 : ty 66 = 20 := by decide +kernel
theorem l66 : ln 66 = 6 := by decide +kernel
theorem t67 : ty 67 = 20 := by decide +kernel
theorem l67 : ln 67 = 120 := by decide +kernel
theorem t68 : ty 68 = 6 := by decide +kernel
theorem t69 : ty 69 = 20 := by decide +kernel
theorem l69 : ln 69 = 64 := by decide +kernel
theorem t70 : ty 70 = 20 := by decide +kernel
theorem l70 : ln 70 = 6 := by decide +kernel
theorem t71 : ty 71 = 20 := by decide +kernel
theorem l71 : ln 71 = 6 := by decide +kernel
theorem t72 : ty 72 = 20 := by decide +kernel
theorem l72 : ln 72 = 6 := by decide +kernel
theorem t73 : ty 73 = 20 := by decide +kernel
theorem l73 : ln 73 = 6 := by decide +kernel
theorem t74 : ty 74 = 20 := by decide +kernel
theorem l74 : ln 74 = 120 := by decide +kernel
theorem t75 : ty 75 = 6 := by decide +kernel
theorem t76 : ty 76 = 20 := by decide +kernel
theorem l76 : ln 76 = 64 := by decide +kernel
theorem t77 : ty 77 = 20 := by decide +kernel
theorem l77 : ln 77 = 6 := by decide +kernel
theorem t78 : ty 78 = 20 := by decide +kernel
theorem l78 : ln 78 = 6 := by decide +kernel
theorem t79 : ty 79 = 20 := by decide +kernel
theorem l79 : ln 79 = 6 := by decide +kernel
theorem t80 : ty 80 = 20 := by decide +kernel
theorem l80 : ln 80 = 6 := by decide +kernel
theorem t81 : ty 81 = 20 := by decide +kernel
theorem l81 : ln 81 = 120 := by decide +kernel
theorem t82 : ty 82 = 6 := by decide +kernel
theorem t83 : ty 83 = 20 := by decide +kernel
theorem l83 : ln 83 = 64 := by decide +kernel
theorem t84 : ty 84 = 20 := by decide +kernel
theorem l84 : ln 84 = 6 := by decide +kernel
theorem t85 : ty 85 = 20 := by decide +kernel
theorem l85 : ln 85 = 6 := by decide +kernel
theorem t86 : ty 86 = 20 := by decide +kernel
theorem l86 : ln 86 = 6 := by decide +kernel
theorem t87 : ty 87 = 20 := by decide +kernel
theorem l87 : ln 87 = 6 := by decide +kernel
theorem t88 : ty 88 = 20 := by decide +kernel
theorem l88 : ln 88 = 120 := by decide +kernel
theorem t89 : ty 89 = 6 := by decide +kernel
theorem t90 : ty 90 = 20 := by decide +kernel
theorem l90 : ln 90 = 64 := by decide +kernel
theorem t91 : ty 91 = 20 := by decide +kernel
theorem l91 : ln 91 = 6 := by decide +kernel
theorem t92 : ty 92 = 20 := by decide +kernel
theorem l92 : ln 92 = 6 := by decide +kernel
theorem t93 : ty 93 = 20 := by decide +kernel
theorem l93 : ln 93 = 6 := by decide +kernel
theorem t94 : ty 94 = 20 := by decide +kernel
theorem l94 : ln 94 = 6 := by decide +kernel
theorem t95 : ty 95 = 20 := by decide +kernel
theorem l95 : ln 95 = 120 := by decide +kernel
theorem t96 : ty 96 = 6 := by decide +kernel
theorem t97 : ty 97 = 20 := by decide +kernel
theorem l97 : ln 97 = 64 := by decide +kernel
theorem t98 : ty 98 = 20 := by decide +kernel
theorem l98 : ln 98 = 6 := by decide +kernel
theorem t99 : ty 99 = 20 := by decide +kernel
theorem l99 : ln 99 = 6 := by decide +kernel
theorem t100 : ty 100 = 20 := by decide +kernel
theorem l100 : ln 100 = 6 := by decide +kernel
theorem t101 : ty 101 = 20 := by decide +kernel
theorem l101 : ln 101 = 6 := by decide +kernel
theorem t102 : ty 102 = 20 := by decide +kernel
theorem l102 : ln 102 = 120 := by decide +kernel
theorem t103 : ty 103 = 6 := by decide +kernel
theorem t104 : ty 104 = 20 := by decide +kernel
theorem l104 : ln 104 = 64 := by decide +kernel
theorem t105 : ty 105 = 20 := by decide +kernel
theorem l105 : ln 105 = 6 := by decide +kernel
theorem t106 : ty 106 = 20 := by decide +kernel
theorem l106 : ln 106 = 6 := by decide +kernel
theorem t107 : ty 107 = 20 := by decide +kernel
theorem l107 : ln 107 = 6 := by decide +kernel
theorem t108 : ty 108 = 20 := by decide +kernel
theorem l108 : ln 108 = 6 := by decide +kernel
theorem t109 : ty 109 = 20 := by decide +kernel
theorem l109 : ln 109 = 120 := by decide +kernel
theorem t110 : ty 110 = 6 := by decide +kernel
theorem t111 : ty 111 = 20 := by decide +kernel
theorem l111 : ln 111 = 64 := by decide +kernel
theorem t112 : ty 112 = 20 := by decide +kernel
theorem l112 : ln 112 = 6 := by decide +kernel
theorem t113 : ty 113 = 20 := by decide +kernel
theorem l113 : ln 113 = 6 := by decide +kernel
theorem t114 : ty 114 = 20 := by decide +kernel
theorem l114 : ln 114 = 6 := by decide +kernel
theorem t115 : ty 115 = 20 := by decide +kernel
theorem l115 : ln 115 = 6 := by decide +kernel
theorem t116 : ty 116 = 20 := by decide +kernel
theorem l116 : ln 116 = 120 := by decide +kernel
theorem t117 : ty 117 = 6 := by decide +kernel
theorem t118 : ty 118 = 20 := by decide +kernel
theorem l118 : ln 118 = 64 := by decide +kernel
theorem t119 : ty 119 = 20 := by decide +kernel
theorem l119 : ln 119 = 6 := by decide +kernel
theorem t120 : ty 120 = 20 := by decide +kernel
theorem l120 : ln 120 = 6 := by decide +kernel
theorem t121 : ty 121 = 20 := by decide +kernel
theorem l121 : ln 121 = 6 := by decide +kernel
theorem t122 : ty 122 = 20 := by decide +kernel
theorem l122 : ln 122 = 6 := by decide +kernel
theorem t123 : ty 123 = 20 := by decide +kernel
theorem l123 : ln 123 = 120 := by decide +kernel
theorem t124 : ty 124 = 6 := by decide +kernel
theorem t125 : ty 125 = 20 := by decide +kernel
theorem l125 : ln 125 = 64 := by decide +kernel
theorem t126 : ty 126 = 20 := by decide +kernel
theorem l126 : ln 126 = 6 := by decide +kernel
theorem t127 : ty 127 = 20 := by decide +kernel
theorem l127 : ln 127 = 6 := by decide +kernel
theorem t128 : ty 128 = 20 := by decide +kernel
theorem l128 : ln 128 = 6 := by decide +kernel
theorem t129 : ty 129 = 20 := by decide +kernel
theorem l129 : ln 129 = 6 := by decide +kernel
theorem t130 : ty 130 = 20 := by decide +kernel
theorem l130 : ln 130 = 120 := by decide +kernel
theorem t131 : ty 131 = 6 := by decide +kernel
theorem t132 : ty 132 = 20 := by decide +kernel
theorem l132 : ln 132 = 64 := by decide +kernel
theorem t133 : ty 133 = 20 := by decide +kernel
theorem l133 : ln 133 = 6 := by decide +kernel
theorem t134 : ty 134 = 20 := by decide +kernel
theorem l134 : ln 134 = 6 := by decide +kernel
theorem t135 : ty 135 = 20 := by decide +kernel
theorem l135 : ln 135 = 6 := by decide +kernel
theorem t136 : ty 136 = 20 := by decide +kernel
theorem l136 : ln 136 = 6 := by decide +kernel
theorem t137 : ty 137 = 20 := by decide +kernel
theorem l137 : ln 137 = 120 := by decide +kernel
theorem t138 : ty 138 = 6 := by decide +kernel
theorem t139 : ty 139 = 20 := by decide +kernel
theorem l139 : ln 139 = 64 := by decide +kernel
theorem t140 : ty 140 = 20 := by decide +kernel
theorem l140 : ln 140 = 6 := by decide +kernel
theorem t141 : ty 141 = 20 := by decide +kernel
theorem l141 : ln 141 = 6 := by decide +kernel
theorem t142 : ty 142 = 20 := by decide +kernel
theorem l142 : ln 142 = 6 := by decide +kernel
theorem t143 : ty 143 = 20 := by decide +kernel
theorem l143 : ln 143 = 6 := by decide +kernel
theorem t144 : ty 144 = 20 := by decide +kernel
theorem l144 : ln 144 = 120 := by decide +kernel
theorem t145 : ty 145 = 6 := by decide +kernel
theorem t146 : ty 146 = 20 := by decide +kernel
theorem l146 : ln 146 = 64 := by decide +kernel
theorem t147 : ty 147 = 20 := by decide +kernel
theorem l147 : ln 147 = 6 := by decide +kernel
theorem t148 : ty 148 = 20 := by decide +kernel
theorem l148 : ln 148 = 6 := by decide +kernel
theorem t149 : ty 149 = 20 := by decide +kernel
theorem l149 : ln 149 = 6 := by decide +kernel
theorem t150 : ty 150 = 20 := by decide +kernel
theorem l150 : ln 150 = 6 := by decide +kernel
theorem t151 : ty 151 = 20 := by decide +kernel
theorem l151 : ln 151 = 120 := by decide +kernel
theorem t152 : ty 152 = 6 := by decide +kernel
theorem t153 : ty 153 = 20 := by decide +kernel
theorem l153 : ln 153 = 64 := by decide +kernel
theorem t154 : ty 154 = 20 := by decide +kernel
theorem l154 : ln 154 = 6 := by decide +kernel
theorem t155 : ty 155 = 20 := by decide +kernel
theorem l155 : ln 155 = 6 := by decide +kernel
theorem t156 : ty 156 = 20 := by decide +kernel
theorem l156 : ln 156 = 6 := by decide +kernel
theorem t157 : ty 157 = 20 := by decide +kernel
theorem l157 : ln 157 = 6 := by decide +kernel
theorem t158 : ty 158 = 20 := by decide +kernel
theorem l158 : ln 158 = 120 := by decide +kernel
theorem t159 : ty 159 = 6 := by decide +kernel
theorem t160 : ty 160 = 20 := by decide +kernel
theorem l160 : ln 160 = 64 := by decide +kernel
theorem t161 : ty 161 = 20 := by decide +kernel
theorem l161 : ln 161 = 6 := by decide +kernel
theorem t162 : ty 162 = 20 := by decide +kernel
theorem l162 : ln 162 = 6 := by decide +kernel
theorem t163 : ty 163 = 20 := by decide +kernel
theorem l163 : ln 163 = 6 := by decide +kernel
theorem t164 : ty 164 = 20 := by decide +kernel
theorem l164 : ln 164 = 6 := by decide +kernel
theorem t165 : ty 165 = 20 := by decide +kernel
theorem l165 : ln 165 = 120 := by decide +kernel
theorem t166 : ty 166 = 6 := by decide +kernel
theorem t167 : ty 167 = 20 := by decide +kernel
theorem l167 : ln 167 = 64 := by decide +kernel
theorem t168 : ty 168 = 20 := by decide +kernel
theorem l168 : ln 168 = 6 := by decide +kernel
theorem t169 : ty 169 = 20 := by decide +kernel
theorem l169 : ln 169 = 6 := by decide +kernel
theorem t170 : ty 170 = 20 := by decide +kernel
theorem l170 : ln 170 = 6 := by decide +kernel
theorem t171 : ty 171 = 20 := by decide +kernel
theorem l171 : ln 171 = 6 := by decide +kernel
theorem t172 : ty 172 = 20 := by decide +kernel
theorem l172 : ln 172 = 120 := by decide +kernel
theorem t173 : ty 173 = 6 := by decide +kernel
theorem t174 : ty 174 = 20 := by decide +kernel
theorem l174 : ln 174 = 64 := by decide +kernel
theorem t175 : ty 175 = 20 := by decide +kernel
theorem l175 : ln 175 = 6 := by decide +kernel
theorem t176 : ty 176 = 20 := by decide +kernel
theorem l176 : ln 176 = 6 := by decide +kernel
theorem t177 : ty 177 = 20 := by decide +kernel
theorem l177 : ln 177 = 6 := by decide +kernel
theorem t178 : ty 178 = 20 := by decide +kernel
theorem l178 : ln 178 = 6 := by decide +kernel
theorem t179 : ty 179 = 20 := by decide +kernel
theorem l179 : ln 179 = 120 := by decide +kernel
theorem t180 : ty 180 = 6 := by decide +kernel
theorem t181 : ty 181 = 20 := by decide +kernel
theorem l181 : ln 181 = 64 := by decide +kernel
theorem t182 : ty 182 = 20 := by decide +kernel
theorem l182 : ln 182 = 6 := by decide +kernel
theorem t183 : ty 183 = 20 := by decide +kernel
theorem l183 : ln 183 = 6 := by decide +kernel
theorem t184 : ty 184 = 20 := by decide +kernel
theorem l184 : ln 184 = 6 := by decide +kernel
theorem t185 : ty 185 = 20 := by decide +kernel
theorem l185 : ln 185 = 6 := by decide +kernel
theorem t186 : ty 186 = 20 := by decide +kernel
theorem l186 : ln 186 = 120 := by decide +kernel
theorem t187 : ty 187 = 6 := by decide +kernel
theorem t188 : ty 188 = 20 := by decide +kernel
theorem l188 : ln 188 = 64 := by decide +kernel
theorem t189 : ty 189 = 20 := by decide +kernel
theorem l189 : ln 189 = 6 := by decide +kernel
theorem t190 : ty 190 = 20 := by decide +kernel
theorem l190 : ln 190 = 6 := by decide +kernel
theorem t191 : ty 191 = 20 := by decide +kernel
theorem l191 : ln 191 = 6 := by decide +kernel
theorem t192 : ty 192 = 20 := by decide +kernel
theorem l192 : ln 192 = 6 := by decide +kernel
theorem t193 : ty 193 = 20 := by decide +kernel
theorem l193 : ln 193 = 120 := by decide +kernel
theorem t194 : ty 194 = 9 := by decide +kernel
theorem t195 : ty 195 = 20 := by decide +kernel
theorem l195 : ln 195 = 64 := by decide +kernel
theorem t196 : ty 196 = 20 := by decide +kernel
theorem l196 : ln 196 = 6 := by decide +kernel
theorem t197 : ty 197 = 20 := by decide +kernel
theorem l197 : ln 197 = 6 := by decide +kernel
theorem t198 : ty 198 = 20 := by decide +kernel
theorem l198 : ln 198 = 6 := by decide +kernel
theorem t199 : ty 199 = 20 := by decide +kernel
theorem l199 : ln 199 = 6 := by decide +kernel
theorem t200 : ty 200 = 20 := by decide +kernel
theorem l200 : ln 200 = 7 := by decide +kernel
theorem t201 : ty 201 = 8 := by decide +kernel
theorem t202 : ty 202 = 23 := by decide +kernel
theorem l202 : ln 202 = 9 := by decide +kernel
theorem t212 : ty 212 = 23 := by decide +kernel
theorem l212 : ln 212 = 9 := by decide +kernel
theorem t222 : ty 222 = 23 := by decide +kernel
theorem l222 : ln 222 = 9 := by decide +kernel
theorem t232 : ty 232 = 20 := by decide +kernel
theorem l232 : ln 232 = 6 := by decide +kernel
theorem t233 : ty 233 = 20 := by decide +kernel
theorem l233 : ln 233 = 6 := by decide +kernel
theorem t234 : ty 234 = 20 := by decide +kernel
theorem l234 : ln 234 = 6 := by decide +kernel
theorem t235 : ty 235 = 20 := by decide +kernel
theorem l235 : ln 235 = 6 := by decide +kernel
theorem t236 : ty 236 = 9 := by decide +kernel
theorem t237 : ty 237 = 20 := by decide +kernel
theorem l237 : ln 237 = 64 := by decide +kernel
theorem t238 : ty 238 = 20 := by decide +kernel
theorem l238 : ln 238 = 6 := by decide +kernel
theorem t239 : ty 239 = 20 := by decide +kernel
theorem l239 : ln 239 = 6 := by decide +kernel
theorem t240 : ty 240 = 20 := by decide +kernel
theorem l240 : ln 240 = 6 := by decide +kernel
theorem t241 : ty 241 = 20 := by decide +kernel
theorem l241 : ln 241 = 6 := by decide +kernel
theorem t242 : ty 242 = 20 := by decide +kernel
theorem l242 : ln 242 = 7 := by decide +kernel
theorem t243 : ty 243 = 9 := by decide +kernel
theorem t244 : ty 244 = 20 := by decide +kernel
theorem l244 : ln 244 = 64 := by decide +kernel
theorem t245 : ty 245 = 20 := by decide +kernel
theorem l245 : ln 245 = 6 := by decide +kernel
theorem t246 : ty 246 = 20 := by decide +kernel
theorem l246 : ln 246 = 6 := by decide +kernel
theorem t247 : ty 247 = 20 := by decide +kernel
theorem l247 : ln 247 = 6 := by decide +kernel
theorem t248 : ty 248 = 20 := by decide +kernel
theorem l248 : ln 248 = 6 := by decide +kernel
theorem t249 : ty 249 = 20 := by decide +kernel
theorem l249 : ln 249 = 7 := by decide +kernel
theorem t250 : ty 250 = 11 := by decide +kernel
theorem t251 : ty 251 = 25 := by decide +kernel
theorem l251 : ln 251 = 6 := by decide +kernel
theorem t252 : ty 252 = 20 := by decide +kernel
theorem l252 : ln 252 = 5 := by decide +kernel
theorem t253 : ty 253 = 20 := by decide +kernel
theorem l253 : ln 253 = 5 := by decide +kernel
theorem t254 : ty 254 = 9 := by decide +kernel
theorem t255 : ty 255 = 20 := by decide +kernel
theorem l255 : ln 255 = 64 := by decide +kernel
theorem t256 : ty 256 = 20 := by decide +kernel
theorem l256 : ln 256 = 6 := by decide +kernel
theorem t257 : ty 257 = 20 := by decide +kernel
theorem l257 : ln 257 = 6 := by decide +kernel
theorem t258 : ty 258 = 20 := by decide +kernel
theorem l258 : ln 258 = 6 := by decide +kernel
theorem t259 : ty 259 = 20 := by decide +kernel
theorem l259 : ln 259 = 6 := by decide +kernel
theorem t260 : ty 260 = 20 := by decide +kernel
theorem l260 : ln 260 = 7 := by decide +kernel
theorem t261 : ty 261 = 9 := by decide +kernel
theorem t262 : ty 262 = 20 := by decide +kernel
theorem l262 : ln 262 = 64 := by decide +kernel
theorem t263 : ty 263 = 20 := by decide +kernel
theorem l263 : ln 263 = 6 := by decide +kernel
theorem t264 : ty 264 = 20 := by decide +kernel
theorem l264 : ln 264 = 6 := by decide +kernel
theorem t265 : ty 265 = 20 := by decide +kernel
theorem l265 : ln 265 = 6 := by decide +kernel
theorem t266 : ty 266 = 20 := by decide +kernel
theorem l266 : ln 266 = 6 := by decide +kernel
theorem t267 : ty 267 = 20 := by decide +kernel
theorem l267 : ln 267 = 7 := by decide +kernel
theorem t268 : ty 268 = 9 := by decide +kernel
theorem t269 : ty 269 = 20 := by decide +kernel
theorem l269 : ln 269 = 64 := by decide +kernel
theorem t270 : ty 270 = 20 := by decide +kernel
theorem l270 : ln 270 = 6 := by decide +kernel
theorem t271 : ty 271 = 20 := by decide +kernel
theorem l271 : ln 271 = 6 := by decide +kernel
theorem t272 : ty 272 = 20 := by decide +kernel
theorem l272 : ln 272 = 6 := by decide +kernel
theorem t273 : ty 273 = 20 := by decide +kernel
theorem l273 : ln 273 = 6 := by decide +kernel
theorem t274 : ty 274 = 20 := by decide +kernel
theorem l274 : ln 274 = 7 := by decide +kernel
theorem t275 : ty 275 = 9 := by decide +kernel
theorem t276 : ty 276 = 20 := by decide +kernel
theorem l276 : ln 276 = 64 := by decide +kernel
theorem t277 : ty 277 = 20 := by decide +kernel
theorem l277 : ln 277 = 6 := by decide +kernel
theorem t278 : ty 278 = 20 := by decide +kernel
theorem l278 : ln 278 = 6 := by decide +kernel
theorem t279 : ty 279 = 20 := by decide +kernel
theorem l279 : ln 279 = 6 := by decide +kernel
theorem t280 : ty 280 = 20 := by decide +kernel
theorem l280 : ln 280 = 6 := by decide +kernel
theorem t281 : ty 281 = 20 := by decide +kernel
theorem l281 : ln 281 = 7 := by decide +kernel
theorem t282 : ty 282 = 9 := by decide +kernel
theorem t283 : ty 283 = 20 := by decide +kernel
theorem l283 : ln 283 = 64 := by decide +kernel
theorem t284 : ty 284 = 20 := by decide +kernel
theorem l284 : ln 284 = 6 := by decide +kernel
theorem t285 : ty 285 = 20 := by decide +kernel
theorem l285 : ln 285 = 6 := by decide +kernel
theorem t286 : ty 286 = 20 := by decide +kernel
theorem l286 : ln 286 = 6 := by decide +kernel
theorem t287 : ty 287 = 20 := by decide +kernel
theorem l287 : ln 287 = 6 := by decide +kernel
theorem t288 : ty 288 = 20 := by decide +kernel
theorem l288 : ln 288 = 7 := by decide +kernel
theorem t289 : ty 289 = 9 := by decide +kernel
theorem t290 : ty 290 = 20 := by decide +kernel
theorem l290 : ln 290 = 64 := by decide +kernel
theorem t291 : ty 291 = 20 := by decide +kernel
theorem l291 : ln 291 = 6 := by decide +kernel
theorem t292 : ty 292 = 20 := by decide +kernel
theorem l292 : ln 292 = 6 := by decide +kernel
theorem t293 : ty 293 = 20 := by decide +kernel
theorem l293 : ln 293 = 6 := by decide +kernel
theorem t294 : ty 294 = 20 := by decide +kernel
theorem l294 : ln 294 = 6 := by decide +kernel
theorem t295 : ty 295 = 20 := by decide +kernel
theorem l295 : ln 295 = 7 := by decide +kernel
theorem t296 : ty 296 = 2 := by decide +kernel
theorem t297 : ty 297 = 6 := by decide +kernel
theorem t298 : ty 298 = 20 := by decide +kernel
theorem l298 : ln 298 = 64 := by decide +kernel
theorem t299 : ty 299 = 20 := by decide +kernel
theorem l299 : ln 299 = 6 := by decide +kernel
theorem t300 : ty 300 = 20 := by decide +kernel
theorem l300 : ln 300 = 6 := by decide +kernel
theorem t301 : ty 301 = 20 := by decide +kernel
theorem l301 : ln 301 = 6 := by decide +kernel
theorem t302 : ty 302 = 20 := by decide +kernel
theorem l302 : ln 302 = 6 := by decide +kernel
theorem t303 : ty 303 = 20 := by decide +kernel
theorem l303 : ln 303 = 120 := by decide +kernel
theorem t304 : ty 304 = 23 := by decide +kernel
theorem l304 : ln 304 = 41 := by decide +kernel
theorem t346 : ty 346 = 23 := by decide +kernel
theorem l346 : ln 346 = 41 := by decide +kernel
theorem t388 : ty 388 = 20 := by decide +kernel
theorem l388 : ln 388 = 6 := by decide +kernel
theorem t389 : ty 389 = 9 := by decide +kernel
theorem t390 : ty 390 = 20 := by decide +kernel
theorem l390 : ln 390 = 64 := by decide +kernel
theorem t391 : ty 391 = 20 := by decide +kernel
theorem l391 : ln 391 = 6 := by decide +kernel
theorem t392 : ty 392 = 20 := by decide +kernel
theorem l392 : ln 392 = 6 := by decide +kernel
theorem t393 : ty 393 = 20 := by decide +kernel
theorem l393 : ln 393 = 6 := by decide +kernel
theorem t394 : ty 394 = 20 := by decide +kernel
theorem l394 : ln 394 = 6 := by decide +kernel
theorem t395 : ty 395 = 20 := by decide +kernel
theorem l395 : ln 395 = 7 := by decide +kernel
theorem t396 : ty 396 = 10 := by decide +kernel
theorem t397 : ty 397 = 20 := by decide +kernel
theorem l397 : ln 397 = 64 := by decide +kernel
theorem t398 : ty 398 = 23 := by decide +kernel
theorem l398 : ln 398 = 64 := by decide +kernel
theorem t463 : ty 463 = 20 := by decide +kernel
theorem l463 : ln 463 = 64 := by decide +kernel
theorem t464 : ty 464 = 20 := by decide +kernel
theorem l464 : ln 464 = 100 := by decide +kernel
theorem t465 : ty 465 = 9 := by decide +kernel
theorem t466 : ty 466 = 20 := by decide +kernel
theorem l466 : ln 466 = 64 := by decide +kernel
theorem t467 : ty 467 = 20 := by decide +kernel
theorem l467 : ln 467 = 6 := by decide +kernel
theorem t468 : ty 468 = 20 := by decide +kernel
theorem l468 : ln 468 = 6 := by decide +kernel
theorem t469 : ty 469 = 20 := by decide +kernel
theorem l469 : ln 469 = 6 := by decide +kernel
theorem t470 : ty 470 = 20 := by decide +kernel
theorem l470 : ln 470 = 6 := by decide +kernel
theorem t471 : ty 471 = 20 := by decide +kernel
theorem l471 : ln 471 = 7 := by decide +kernel
theorem t472 : ty 472 = 3 := by decide +kernel
theorem t473 : ty 473 = 20 := by decide +kernel
theorem l473 : ln 473 = 103 := by decide +kernel
theorem t474 : ty 474 = 20 := by decide +kernel
theorem l474 : ln 474 = 6 := by decide +kernel
theorem t475 : ty 475 = 13 := by decide +kernel
theorem t476 : ty 476 = 20 := by decide +kernel
theorem l476 : ln 476 = 1800 := by decide +kernel
theorem t477 : ty 477 = 20 := by decide +kernel
theorem l477 : ln 477 = 2 := by decide +kernel
theorem t478 : ty 478 = 20 := by decide +kernel
theorem l478 : ln 478 = 2 := by decide +kernel
theorem t479 : ty 479 = 20 := by decide +kernel
theorem l479 : ln 479 = 128 := by decide +kernel
theorem t480 : ty 480 = 20 := by decide +kernel
theorem l480 : ln 480 = 2 := by decide +kernel
theorem t481 : ty 481 = 20 := by decide +kernel
theorem l481 : ln 481 = 12 := by decide +kernel
theorem t482 : ty 482 = 20 := by decide +kernel
theorem l482 : ln 482 = 12 := by decide +kernel
theorem t483 : ty 483 = 20 := by decide +kernel
theorem l483 : ln 483 = 12 := by decide +kernel
theorem t484 : ty 484 = 20 := by decide +kernel
theorem l484 : ln 484 = 12 := by decide +kernel
theorem t485 : ty 485 = 20 := by decide +kernel
theorem l485 : ln 485 = 2 := by decide +kernel
theorem t486 : ty 486 = 20 := by decide +kernel
theorem l486 : ln 486 = 6 := by decide +kernel
theorem t487 : ty 487 = 20 := by decide +kernel
theorem l487 : ln 487 = 6 := by decide +kernel
theorem t488 : ty 488 = 20 := by decide +kernel
theorem l488 : ln 488 = 3200 := by decide +kernel
theorem t489 : ty 489 = 20 := by decide +kernel
theorem l489 : ln 489 = 3200 := by decide +kernel
theorem t490 : ty 490 = 22 := by decide +kernel
theorem l490 : ln 490 = 12 := by decide +kernel
theorem t491 : ty 491 = 20 := by decide +kernel
theorem l491 : ln 491 = 20 := by decide +kernel
theorem t492 : ty 492 = 20 := by decide +kernel
theorem l492 : ln 492 = 20 := by decide +kernel
theorem t493 : ty 493 = 21 := by decide +kernel
theorem l493 : ln 493 = 20 := by decide +kernel
theorem t494 : ty 494 = 20 := by decide +kernel
theorem l494 : ln 494 = 20 := by decide +kernel
theorem t495 : ty 495 = 20 := by decide +kernel
theorem l495 : ln 495 = 20 := by decide +kernel
theorem t496 : ty 496 = 20 := by decide +kernel
theorem l496 : ln 496 = 500 := by decide +kernel
theorem t497 : ty 497 = 20 := by decide +kernel
theorem l497 : ln 497 = 6 := by decide +kernel
theorem t498 : ty 498 = 20 := by decide +kernel
theorem l498 : ln 498 = 22 := by decide +kernel
theorem t499 : ty 499 = 20 := by decide +kernel
theorem l499 : ln 499 = 1408 := by decide +kernel
theorem t500 : ty 500 = 20 := by decide +kernel
theorem l500 : ln 500 = 132 := by decide +kernel
theorem t501 : ty 501 = 20 := by decide +kernel
theorem l501 : ln 501 = 132 := by decide +kernel
theorem t502 : ty 502 = 20 := by decide +kernel
theorem l502 : ln 502 = 132 := by decide +kernel
theorem t503 : ty 503 = 20 := by decide +kernel
theorem l503 : ln 503 = 132 := by decide +kernel
theorem t504 : ty 504 = 20 := by decide +kernel
theorem l504 : ln 504 = 22 := by decide +kernel
theorem t505 : ty 505 = 20 := by decide +kernel
theorem l505 : ln 505 = 2640 := by decide +kernel
theorem t506 : ty 506 = 22 := by decide +kernel
theorem l506 : ln 506 = 500 := by decide +kernel
theorem t507 : ty 507 = 20 := by decide +kernel
theorem l507 : ln 507 = 10 := by decide +kernel
theorem t508 : ty 508 = 20 := by decide +kernel
theorem l508 : ln 508 = 64 := by decide +kernel
theorem t509 : ty 509 = 20 := by decide +kernel
theorem l509 : ln 509 = 6 := by decide +kernel
theorem t510 : ty 510 = 20 := by decide +kernel
theorem l510 : ln 510 = 6 := by decide +kernel
theorem t511 : ty 511 = 20 := by decide +kernel
theorem l511 : ln 511 = 640 := by decide +kernel
theorem t512 : ty 512 = 20 := by decide +kernel
theorem l512 : ln 512 = 54 := by decide +kernel
theorem t513 : ty 513 = 20 := by decide +kernel
theorem l513 : ln 513 = 54 := by decide +kernel
theorem t514 : ty 514 = 20 := by decide +kernel
theorem l514 : ln 514 = 5 := by decide +kernel
theorem t515 : ty 515 = 20 := by decide +kernel
theorem l515 : ln 515 = 5 := by decide +kernel
theorem t516 : ty 516 = 20 := by decide +kernel
theorem l516 : ln 516 = 16 := by decide +kernel
theorem t517 : ty 517 = 20 := by decide +kernel
theorem l517 : ln 517 = 16 := by decide +kernel
theorem t518 : ty 518 = 20 := by decide +kernel
theorem l518 : ln 518 = 16 := by decide +kernel
theorem t519 : ty 519 = 20 := by decide +kernel
theorem l519 : ln 519 = 36864 := by decide +kernel
theorem t520 : ty 520 = 20 := by decide +kernel
theorem l520 : ln 520 = 64 := by decide +kernel
theorem t521 : ty 521 = 20 := by decide +kernel
theorem l521 : ln 521 = 100 := by decide +kernel
theorem t522 : ty 522 = 20 := by decide +kernel
theorem l522 : ln 522 = 110 := by decide +kernel
theorem g53 {k : Int} (h : 0 ≤ k ∧ k < 20) : ty (54 + 7 * k) = 6 := by
  have h0 : ∀ j : Nat, j < 20 → ty (54 + 7 * (j : Int)) = 6 := by decide +kernel
  have h1 := h0 k.toNat (by omega)
  rwa [Int.toNat_of_nonneg h.1] at h1
theorem g202 {k : Int} (h : 0 ≤ k ∧ k < 9) : ty (202 + 1 + k) = 20 ∧ ln (202 + 1 + k) = 64 := by
  have h0 : ∀ j : Nat, j < 9 → ty (202 + 1 + (j : Int)) = 20 ∧ ln (202 + 1 + (j : Int)) = 64 := by decide +kernel
  have h1 := h0 k.toNat (by omega)
  rwa [Int.toNat_of_nonneg h.1] at h1
theorem g212 {k : Int} (h : 0 ≤ k ∧ k < 9) : ty (212 + 1 + k) = 20 ∧ ln (212 + 1 + k) = 6 := by
  have h0 : ∀ j : Nat, j < 9 → ty (212 + 1 + (j : Int)) = 20 ∧ ln (212 + 1 + (j : Int)) = 6 := by decide +kernel
  have h1 := h0 k.toNat (by omega)
  rwa [Int.toNat_of_nonneg h.1] at h1
theorem g222 {k : Int} (h : 0 ≤ k ∧ k < 9) : ty (222 + 1 + k) = 20 ∧ ln (222 + 1 + k) = 6 := by
  have h0 : ∀ j : Nat, j < 9 → ty (222 + 1 + (j : Int)) = 20 ∧ ln (222 + 1 + (j : Int)) = 6 := by decide +kernel
  have h1 := h0 k.toNat (by omega)
  rwa [Int.toNat_of_nonneg h.1] at h1
theorem g251 {k : Int} (h : 0 ≤ k ∧ k < 6) : ty (254 + 7 * k) = 9 := by
  have h0 : ∀ j : Nat, j < 6 → ty (254 + 7 * (j : Int)) = 9 := by decide +kernel
  have h1 := h0 k.toNat (by omega)
  rwa [Int.toNat_of_nonneg h.1] at h1
theorem g304 {k : Int} (h : 0 ≤ k ∧ k < 41) : ty (304 + 1 + k) = 20 ∧ ln (304 + 1 + k) = 64 := by
  have h0 : ∀ j : Nat, j < 41 → ty (304 + 1 + (j : Int)) = 20 ∧ ln (304 + 1 + (j : Int)) = 64 := by decide +kernel
  have h1 := h0 k.toNat (by omega)
  rwa [Int.toNat_of_nonneg h.1] at h1
theorem g346 {k : Int} (h : 0 ≤ k ∧ k < 41) : ty (346 + 1 + k) = 20 ∧ ln (346 + 1 + k) = 6 := by
  have h0 : ∀ j : Nat, j < 41 → ty (346 + 1 + (j : Int)) = 20 ∧ ln (346 + 1 + (j : Int)) = 6 := by decide +kernel
  have h1 := h0 k.toNat (by omega)
  rwa [Int.toNat_of_nonneg h.1] at h1
theorem g398 {k : Int} (h : 0 ≤ k ∧ k < 64) : ty (398 + 1 + k) = 20 ∧ ln (398 + 1 + k) = 576 := by
  have h0 : ∀ j : Nat, j < 64 → ty (398 + 1 + (j : Int)) = 20 ∧ ln (398 + 1 + (j : Int)) = 576 := by decide +kernel
  have h1 := h0 k.toNat (by omega)
  rwa [Int.toNat_of_nonneg h.1] at h1
