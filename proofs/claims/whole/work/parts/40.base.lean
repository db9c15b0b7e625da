/-! PURE PART: a run of a pure function comes to an answer with Q -/
def Rn {α : Type} (x : Option α) (Q : α → Prop) : Prop := ∃ a, x = some a ∧ Q a
theorem rn_s {α : Type} {a : α} {Q : α → Prop} (h : Q a) : Rn (some a) Q := ⟨a, rfl, h⟩
theorem rn_b {α β : Type} {x : Option α} {f : α → Option β} {P : α → Prop} {Q : β → Prop} (h : Rn x P) (k : ∀ a, P a → Rn (f a) Q) : Rn (x.bind f) Q := by
  obtain ⟨a, rfl, h⟩ := h
  exact k a h
theorem rn_e {α β : Type} {x : Option α} {a : α} {f : α → Option β} {Q : β → Prop} (h : x = some a) (k : Rn (f a) Q) : Rn (x.bind f) Q := by
  subst h
  exact k
theorem rn_v {α β : Type} {a : α} {f : α → Option β} {Q : β → Prop} (k : Rn (f a) Q) : Rn ((some a).bind f) Q := k
theorem rn_l {α β : Type} {a : α} {f : α → Option β} {Q : β → Prop} (k : ∀ m, m = a → Rn (f m) Q) : Rn ((some a).bind f) Q := k a rfl
theorem rn_t {α : Type} {c : Prop} [Decidable c] {x y : Option α} {Q : α → Prop} (hc : c) (h : Rn x Q) : Rn (if c then x else y) Q := by rwa [if_pos hc]
theorem rn_f {α : Type} {c : Prop} [Decidable c] {x y : Option α} {Q : α → Prop} (hc : ¬ c) (h : Rn y Q) : Rn (if c then x else y) Q := by rwa [if_neg hc]
theorem rn_i {α : Type} {c : Prop} [Decidable c] {x y : Option α} {Q : α → Prop} (h1 : c → Rn x Q) (h2 : ¬ c → Rn y Q) : Rn (if c then x else y) Q := by
  by_cases hc : c
  · rw [if_pos hc]; exact h1 hc
  · rw [if_neg hc]; exact h2 hc
theorem rn_q {α : Type} {x : Option α} {P Q : α → Prop} (h : Rn x P) (k : ∀ a, P a → Q a) : Rn x Q := by
  obtain ⟨a, e, h⟩ := h
  exact ⟨a, e, k a h⟩
theorem rn_j {α β : Type} {k : α} {f : α → Option β} {Q : β → Prop} (h : Rn (f k) Q) : Rn (jn k f) Q := h
theorem rn_jl {α β : Type} {k : α} {f : α → Option β} {Q : β → Prop} (h : ∀ J, J = k → Rn (f J) Q) : Rn (jn k f) Q := h k rfl
theorem rn_eq {α : Type} {x : Option α} {a : α} (h : Rn x (fun b => b = a)) : x = some a := by
  obtain ⟨b, e, rfl⟩ := h
  exact e
theorem rn_is {α : Type} {x : Option α} {a : α} {Q : α → Prop} (h : x = some a) (q : Q a) : Rn x Q := ⟨a, h, q⟩
theorem rn_ap {α : Type} {x : Option α} {Q : α → Prop} (h : Rn x Q) : ∃ a, x = some a ∧ Q a := h
theorem rl_M {R : Type} {Q : R → Prop} {bo : Mem → Option R} {F : (Mem → Option R) → Mem → Option R} (I : Mem → Prop) (v : Mem → Nat) (step : ∀ (self : Mem → Option R) (x0 : Mem), I x0 → (∀ (y0 : Mem), I y0 → v y0 < v x0 → Rn (self y0) Q) → Rn (F self x0) Q) : ∀ (n : Nat) (x0 : Mem), I x0 → v x0 < n → Rn (lpF bo F n x0) Q := by
  intro n
  induction n with
  | zero => intro x0 h hn; exact absurd hn (Nat.not_lt_zero _)
  | succ n ih =>
    intro x0 h hn
    exact step (lpF bo F n) x0 h (fun y0 h' hv => ih y0 h' (by omega))
theorem rl_I {R : Type} {Q : R → Prop} {bo : Int → Option R} {F : (Int → Option R) → Int → Option R} (I : Int → Prop) (v : Int → Nat) (step : ∀ (self : Int → Option R) (x0 : Int), I x0 → (∀ (y0 : Int), I y0 → v y0 < v x0 → Rn (self y0) Q) → Rn (F self x0) Q) : ∀ (n : Nat) (x0 : Int), I x0 → v x0 < n → Rn (lpF bo F n x0) Q := by
  intro n
  induction n with
  | zero => intro x0 h hn; exact absurd hn (Nat.not_lt_zero _)
  | succ n ih =>
    intro x0 h hn
    exact step (lpF bo F n) x0 h (fun y0 h' hv => ih y0 h' (by omega))
theorem rl_IM {R : Type} {Q : R → Prop} {bo : Int → Mem → Option R} {F : (Int → Mem → Option R) → Int → Mem → Option R} (I : Int → Mem → Prop) (v : Int → Mem → Nat) (step : ∀ (self : Int → Mem → Option R) (x0 : Int) (x1 : Mem), I x0 x1 → (∀ (y0 : Int) (y1 : Mem), I y0 y1 → v y0 y1 < v x0 x1 → Rn (self y0 y1) Q) → Rn (F self x0 x1) Q) : ∀ (n : Nat) (x0 : Int) (x1 : Mem), I x0 x1 → v x0 x1 < n → Rn (lpF bo F n x0 x1) Q := by
  intro n
  induction n with
  | zero => intro x0 x1 h hn; exact absurd hn (Nat.not_lt_zero _)
  | succ n ih =>
    intro x0 x1 h hn
    exact step (lpF bo F n) x0 x1 h (fun y0 y1 h' hv => ih y0 y1 h' (by omega))
theorem rl_II {R : Type} {Q : R → Prop} {bo : Int → Int → Option R} {F : (Int → Int → Option R) → Int → Int → Option R} (I : Int → Int → Prop) (v : Int → Int → Nat) (step : ∀ (self : Int → Int → Option R) (x0 : Int) (x1 : Int), I x0 x1 → (∀ (y0 : Int) (y1 : Int), I y0 y1 → v y0 y1 < v x0 x1 → Rn (self y0 y1) Q) → Rn (F self x0 x1) Q) : ∀ (n : Nat) (x0 : Int) (x1 : Int), I x0 x1 → v x0 x1 < n → Rn (lpF bo F n x0 x1) Q := by
  intro n
  induction n with
  | zero => intro x0 x1 h hn; exact absurd hn (Nat.not_lt_zero _)
  | succ n ih =>
    intro x0 x1 h hn
    exact step (lpF bo F n) x0 x1 h (fun y0 y1 h' hv => ih y0 y1 h' (by omega))
theorem rl_IIM {R : Type} {Q : R → Prop} {bo : Int → Int → Mem → Option R} {F : (Int → Int → Mem → Option R) → Int → Int → Mem → Option R} (I : Int → Int → Mem → Prop) (v : Int → Int → Mem → Nat) (step : ∀ (self : Int → Int → Mem → Option R) (x0 : Int) (x1 : Int) (x2 : Mem), I x0 x1 x2 → (∀ (y0 : Int) (y1 : Int) (y2 : Mem), I y0 y1 y2 → v y0 y1 y2 < v x0 x1 x2 → Rn (self y0 y1 y2) Q) → Rn (F self x0 x1 x2) Q) : ∀ (n : Nat) (x0 : Int) (x1 : Int) (x2 : Mem), I x0 x1 x2 → v x0 x1 x2 < n → Rn (lpF bo F n x0 x1 x2) Q := by
  intro n
  induction n with
  | zero => intro x0 x1 x2 h hn; exact absurd hn (Nat.not_lt_zero _)
  | succ n ih =>
    intro x0 x1 x2 h hn
    exact step (lpF bo F n) x0 x1 x2 h (fun y0 y1 y2 h' hv => ih y0 y1 y2 h' (by omega))
theorem rl_IIIM {R : Type} {Q : R → Prop} {bo : Int → Int → Int → Mem → Option R} {F : (Int → Int → Int → Mem → Option R) → Int → Int → Int → Mem → Option R} (I : Int → Int → Int → Mem → Prop) (v : Int → Int → Int → Mem → Nat) (step : ∀ (self : Int → Int → Int → Mem → Option R) (x0 : Int) (x1 : Int) (x2 : Int) (x3 : Mem), I x0 x1 x2 x3 → (∀ (y0 : Int) (y1 : Int) (y2 : Int) (y3 : Mem), I y0 y1 y2 y3 → v y0 y1 y2 y3 < v x0 x1 x2 x3 → Rn (self y0 y1 y2 y3) Q) → Rn (F self x0 x1 x2 x3) Q) : ∀ (n : Nat) (x0 : Int) (x1 : Int) (x2 : Int) (x3 : Mem), I x0 x1 x2 x3 → v x0 x1 x2 x3 < n → Rn (lpF bo F n x0 x1 x2 x3) Q := by
  intro n
  induction n with
  | zero => intro x0 x1 x2 x3 h hn; exact absurd hn (Nat.not_lt_zero _)
  | succ n ih =>
    intro x0 x1 x2 x3 h hn
    exact step (lpF bo F n) x0 x1 x2 x3 h (fun y0 y1 y2 y3 h' hv => ih y0 y1 y2 y3 h' (by omega))
theorem rl_IIII {R : Type} {Q : R → Prop} {bo : Int → Int → Int → Int → Option R} {F : (Int → Int → Int → Int → Option R) → Int → Int → Int → Int → Option R} (I : Int → Int → Int → Int → Prop) (v : Int → Int → Int → Int → Nat) (step : ∀ (self : Int → Int → Int → Int → Option R) (x0 : Int) (x1 : Int) (x2 : Int) (x3 : Int), I x0 x1 x2 x3 → (∀ (y0 : Int) (y1 : Int) (y2 : Int) (y3 : Int), I y0 y1 y2 y3 → v y0 y1 y2 y3 < v x0 x1 x2 x3 → Rn (self y0 y1 y2 y3) Q) → Rn (F self x0 x1 x2 x3) Q) : ∀ (n : Nat) (x0 : Int) (x1 : Int) (x2 : Int) (x3 : Int), I x0 x1 x2 x3 → v x0 x1 x2 x3 < n → Rn (lpF bo F n x0 x1 x2 x3) Q := by
  intro n
  induction n with
  | zero => intro x0 x1 x2 x3 h hn; exact absurd hn (Nat.not_lt_zero _)
  | succ n ih =>
    intro x0 x1 x2 x3 h hn
    exact step (lpF bo F n) x0 x1 x2 x3 h (fun y0 y1 y2 y3 h' hv => ih y0 y1 y2 y3 h' (by omega))
theorem w32_eq {x : Int} (h1 : -2147483648 ≤ x) (h2 : x < 2147483648) : w32 x = x := w32_id ⟨h1, h2⟩
theorem w64_eq {x : Int} (h1 : -9223372036854775808 ≤ x) (h2 : x < 9223372036854775808) : w64 x = x := w64_id ⟨h1, h2⟩
theorem mset_s {μ : Mem} {a k v b j : Int} (h : b = a) (h2 : j = k) : mset μ a k v b j = v := if_pos ⟨h, h2⟩
theorem mset_o {μ : Mem} {a k v b j : Int} (h : ¬ (b = a ∧ j = k)) : mset μ a k v b j = μ b j := if_neg h
theorem mcpy_i {μ : Mem} {a sp b dp n c j : Int} (h : c = b ∧ dp ≤ j ∧ j < dp + n) : mcpy μ a sp b dp n c j = μ a (sp + (j - dp)) := if_pos h
theorem mcpy_o {μ : Mem} {a sp b dp n c j : Int} (h : ¬ (c = b ∧ dp ≤ j ∧ j < dp + n)) : mcpy μ a sp b dp n c j = μ c j := if_neg h
theorem nI_ofInt (n : Nat) : Int32.ofInt (n : Int) = nI n := Int32.ofInt_eq_ofNat
theorem d32_eq {x y : Int} (h0 : 0 ≤ x) (h1 : x < 2147483648) (h2 : 0 < y) (h3 : y < 2147483648) : d32 x y = x / y := by
  obtain ⟨a, rfl⟩ := Int.eq_ofNat_of_zero_le h0
  obtain ⟨b, rfl⟩ := Int.eq_ofNat_of_zero_le (Int.le_of_lt h2)
  unfold d32
  rw [nI_ofInt, nI_ofInt, pk_div (by omega) (by omega) (by omega), nI_toInt (by have := Nat.div_le_self a b; omega)]
  exact Int.natCast_ediv a b
theorem r32_eq {x y : Int} (h0 : 0 ≤ x) (h1 : x < 2147483648) (h2 : 0 < y) (h3 : y < 2147483648) : r32 x y = x % y := by
  obtain ⟨a, rfl⟩ := Int.eq_ofNat_of_zero_le h0
  obtain ⟨b, rfl⟩ := Int.eq_ofNat_of_zero_le (Int.le_of_lt h2)
  unfold r32
  rw [nI_ofInt, nI_ofInt, pk_rem (by omega) (by omega) (by omega), nI_toInt (by have := Nat.mod_le a b; omega)]
  exact Int.natCast_emod a b
theorem a32_255 (x : Int) : 0 ≤ a32 x 255 ∧ a32 x 255 ≤ 255 := by
  obtain ⟨j, hj, e⟩ := pk_andE (Int32.ofInt x) (m := Int32.ofInt 255) 8 rfl
  unfold a32
  rw [e, nI_toInt (by omega)]
  omega
theorem a32_255n {x : Int} (h0 : 0 ≤ x) (h1 : x < 2147483648) : a32 x 255 = x % 256 := by
  obtain ⟨a, rfl⟩ := Int.eq_ofNat_of_zero_le h0
  unfold a32
  rw [nI_ofInt, pk_andN (by omega) (m := Int32.ofInt 255) 8 rfl, nI_toInt (by omega)]
  omega
theorem shr32_8 {x : Int} (h0 : 0 ≤ x) (h1 : x < 2147483648) : shr32 x 8 = x / 256 := by
  obtain ⟨a, rfl⟩ := Int.eq_ofNat_of_zero_le h0
  unfold shr32
  rw [nI_ofInt, pk_shrN (by omega) (Int32.ofInt 8 &&& 31) 8 (by decide), nI_toInt (by omega)]
  omega
/-- a frame: outside S nothing changes -/
def Fr (S : Int → Int → Prop) (m m' : Mem) : Prop := ∀ b j, ¬ S b j → m' b j = m b j
theorem Fr.rfl' {S : Int → Int → Prop} {m : Mem} : Fr S m m := fun _ _ _ => rfl
theorem Fr.trans {S : Int → Int → Prop} {m m1 m2 : Mem} (h : Fr S m m1) (h2 : Fr S m1 m2) : Fr S m m2 := fun b j q => (h2 b j q).trans (h b j q)
theorem Fr.mono {S T : Int → Int → Prop} {m m1 : Mem} (h : Fr S m m1) (hs : ∀ b j, S b j → T b j) : Fr T m m1 := fun b j q => h b j (fun r => q (hs b j r))
theorem Fr.set {S : Int → Int → Prop} {m m1 : Mem} {a k v : Int} (h : Fr S m m1) (hs : S a k) : Fr S m (mset m1 a k v) := fun b j q => by
  rw [mset_o (fun e => q (by rw [e.1, e.2]; exact hs))]
  exact h b j q
theorem Fr.cpy {S : Int → Int → Prop} {m m1 : Mem} {a sp b dp n : Int} (h : Fr S m m1) (hs : ∀ j, dp ≤ j → j < dp + n → S b j) : Fr S m (mcpy m1 a sp b dp n) := fun c j q => by
  rw [mcpy_o (fun e => q (by rw [e.1]; exact hs j e.2.1 e.2.2))]
  exact h c j q
/-- a truth as a number -/
def b01 (p : Prop) [Decidable p] : Int := if p then 1 else 0
theorem b01_0 {p : Prop} [Decidable p] : b01 p = 0 ↔ ¬ p := by unfold b01; split <;> simp_all
theorem b01_1 {p : Prop} [Decidable p] : b01 p = 1 ↔ p := by unfold b01; split <;> simp_all
theorem b01_t {p : Prop} [Decidable p] (h : p) : b01 p = 1 := if_pos h
theorem b01_f {p : Prop} [Decidable p] (h : ¬ p) : b01 p = 0 := if_neg h
