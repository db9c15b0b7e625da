/-! VALLEY: signs out of bytes; the reference looks at the next one -/
def isLt (c : Int) : Prop := 97 ≤ c ∧ c ≤ 122
def isDg (c : Int) : Prop := 48 ≤ c ∧ c ≤ 57
def SKP (T : Int → Int) (L e s : Int) : Prop := e ≤ s ∧ (∀ j, e ≤ j → j < s → j < L ∧ (T j = 32 ∨ T j = 10)) ∧ ¬ (s < L ∧ (T s = 32 ∨ T s = 10))
def RUNp (P : Int → Prop) (T : Int → Int) (L s x : Int) : Prop := s ≤ x ∧ (∀ j, s ≤ j → j < x → j < L ∧ P (T j)) ∧ ¬ (x < L ∧ P (T x))
def numV (T : Int → Int) (s : Int) : Nat → Int
  | 0 => 0
  | n + 1 => numV T s n * 10 + (T (s + n) - 48)
def WORDp (T : Int → Int) (s : Int) (n : Nat) (c : Int) : Prop := (0 ≤ c ∧ c ≤ 24) ∧ ∀ i : Nat, i < 24 → (packW (fun j => T (s + j)) n = ownW i ↔ c = i)
def adjP (T : Int → Int) (s : Int) : Prop := 0 < s ∧ (isLt (T (s - 1)) ∨ isDg (T (s - 1)))
def TOKp (T : Int → Int) (L e c s v x : Int) : Prop := SKP T L e s ∧ ((L ≤ s ∧ c = 26 ∧ v = 0) ∨ (s < L ∧ (isLt (T s) ∨ isDg (T s)) ∧ adjP T s ∧ c = 27 ∧ v = s) ∨ (s < L ∧ isLt (T s) ∧ ¬ adjP T s ∧ RUNp isLt T L s x ∧ ((6 < x - s ∧ c = 27 ∧ v = s + 6) ∨ (x - s ≤ 6 ∧ v = x - s ∧ WORDp T s (x - s).toNat c))) ∨ (s < L ∧ isDg (T s) ∧ ¬ adjP T s ∧ RUNp isDg T L s x ∧ ((4 < x - s ∧ c = 27 ∧ v = s + 4) ∨ (x - s ≤ 4 ∧ c = 25 ∧ v = numV T s (x - s).toNat))) ∨ (s < L ∧ ¬ isLt (T s) ∧ ¬ isDg (T s) ∧ x = s + 1 ∧ ((isSg (T s) ∧ c = T s) ∨ (¬ isSg (T s) ∧ c = 27 ∧ v = s))))
def RTc (m : Mem) (c s v : Int) : Prop := m 475 4 = s ∧ ((c = 27 ∧ ((m 475 12 = v ∧ 0 ≤ v) ∨ (m 475 12 = -1 ∧ v = s ∧ m 475 3 = 3 ∧ ¬ isSg (m 475 6)))) ∨ (c ≠ 27 ∧ m 475 12 = -1 ∧ ((c = 26 ∧ m 475 3 = 0) ∨ (c = 25 ∧ m 475 3 = 2 ∧ m 475 6 = v) ∨ (0 ≤ c ∧ c ≤ 24 ∧ m 475 3 = 1 ∧ ∀ i : Nat, i < 24 → (m 475 7 = ownW i ↔ c = i)) ∨ (isSg c ∧ m 475 3 = 3 ∧ m 475 6 = c))))
theorem e_lett (m : Mem) (c : Int) : ∃ y, pM_isLetter m c = some y ∧ ((y = 1 ∧ isLt c) ∨ (y = 0 ∧ ¬ isLt c)) := by
  unfold pM_isLetter isLt
  by_cases q : c < 97
  · rw [if_pos q]; exact ⟨0, rfl, Or.inr ⟨rfl, by omega⟩⟩
  · rw [if_neg q]
    by_cases q2 : 122 < c
    · rw [if_pos q2]; exact ⟨0, rfl, Or.inr ⟨rfl, by omega⟩⟩
    · rw [if_neg q2]; exact ⟨1, rfl, Or.inl ⟨rfl, by omega⟩⟩
theorem e_digi (m : Mem) (c : Int) : ∃ y, pM_isDigit m c = some y ∧ ((y = 1 ∧ isDg c) ∨ (y = 0 ∧ ¬ isDg c)) := by
  unfold pM_isDigit isDg
  by_cases q : c < 48
  · rw [if_pos q]; exact ⟨0, rfl, Or.inr ⟨rfl, by omega⟩⟩
  · rw [if_neg q]
    by_cases q2 : 57 < c
    · rw [if_pos q2]; exact ⟨0, rfl, Or.inr ⟨rfl, by omega⟩⟩
    · rw [if_neg q2]; exact ⟨1, rfl, Or.inl ⟨rfl, by omega⟩⟩
theorem r_skip {N : Nat} {m : Mem} {T : Int → Int} {L s : Int} {kk : Int → Option Mem} {bo : Int → Option Mem} (h2 : m 475 2 = L) (hT : ∀ j, 0 ≤ j → j < L → m 476 j = T j) (hL : L ≤ 1600) : ∀ (k nn : Nat) (e : Int), k < nn → 0 ≤ e → e + k = s → SKP T L e s → lpF bo (pM_ahead_L5b N m kk) nn e = kk s := by
  intro k
  induction k with
  | zero =>
    intro nn e hn h0 hk h
    obtain ⟨nn, rfl⟩ : ∃ n', nn = n' + 1 := ⟨nn - 1, by omega⟩
    have hes : e = s := by omega
    subst hes
    show pM_ahead_L5b N m kk (lpF bo (pM_ahead_L5b N m kk) nn) e = _
    generalize lpF bo (pM_ahead_L5b N m kk) nn = self
    unfold pM_ahead_L5b
    have hb := h.2.2
    rw [h2]
    by_cases q : e < L
    · rw [if_pos q, if_pos (by omega), hT e h0 q, if_neg (fun c => hb ⟨q, Or.inl c⟩), if_pos (by omega), if_neg (fun c => hb ⟨q, Or.inr c⟩)]
    · rw [if_neg q]
  | succ k ih =>
    intro nn e hn h0 hk h
    obtain ⟨nn, rfl⟩ : ∃ n', nn = n' + 1 := ⟨nn - 1, by omega⟩
    have he := h.2.1 e (Int.le_refl _) (by omega)
    have ih' := ih nn (e + 1) (by omega) (by omega) (by omega) ⟨by omega, fun j h1 h3 => h.2.1 j (by omega) h3, h.2.2⟩
    show pM_ahead_L5b N m kk (lpF bo (pM_ahead_L5b N m kk) nn) e = _
    generalize lpF bo (pM_ahead_L5b N m kk) nn = self at ih' ⊢
    unfold pM_ahead_L5b
    rw [h2, if_pos he.1, if_pos (by omega), hT e h0 he.1, w32_eq (x := e + 1) (by omega) (by omega)]
    by_cases q : T e = 32
    · rw [if_pos q]; exact ih'
    · rw [if_neg q, if_pos (by omega), if_pos (by omega)]; exact ih'
theorem o64_8 {w c : Int} (hw : 0 ≤ w ∧ w < 1099511627776) (hc : 0 ≤ c ∧ c ≤ 255) : o64 (shl64 w 8) c = w * 256 + c := by
  obtain ⟨x, rfl⟩ := Int.eq_ofNat_of_zero_le hw.1
  obtain ⟨y, rfl⟩ := Int.eq_ofNat_of_zero_le hc.1
  have e1 : shl64 (x : Int) 8 = ((x * 256 : Nat) : Int) := by
    unfold shl64
    have hs : (((Int32.ofInt 8).toInt64 &&& 63).toBitVec.smod 64).toNat = 8 := by decide
    have h1 : (Int64.ofInt (x : Int) <<< ((Int32.ofInt 8).toInt64 &&& 63)).toBitVec = BitVec.ofNat 64 (x * 256) := by
      show (BitVec.ofInt 64 (x : Int)) <<< ((((Int32.ofInt 8).toInt64 &&& 63).toBitVec.smod 64)) = _
      rw [BitVec.shiftLeft_eq', hs, BitVec.ofInt_natCast]
      apply BitVec.eq_of_toNat_eq
      rw [BitVec.toNat_shiftLeft, BitVec.toNat_ofNat, BitVec.toNat_ofNat, Nat.shiftLeft_eq]
      omega
    show (Int64.ofInt (x : Int) <<< ((Int32.ofInt 8).toInt64 &&& 63)).toBitVec.toInt = _
    rw [h1, BitVec.toInt_eq_toNat_cond, BitVec.toNat_ofNat]
    omega
  have e2 : BitVec.ofInt 64 ((x * 256 : Nat) : Int) ||| BitVec.ofInt 64 (y : Int) = BitVec.ofNat 64 (x * 256 + y) := by
    have h1 : x * 256 + y = x * 256 ||| y := by
      have := Nat.shiftLeft_add_eq_or_of_lt (b := y) (i := 8) (by omega) x
      rw [Nat.shiftLeft_eq] at this
      exact this
    rw [h1, BitVec.ofInt_natCast, BitVec.ofInt_natCast, BitVec.ofNat_or]
  rw [e1]
  unfold o64
  show (BitVec.ofInt 64 ((x * 256 : Nat) : Int) ||| BitVec.ofInt 64 (y : Int)).toInt = _
  rw [e2, BitVec.toInt_eq_toNat_cond, BitVec.toNat_ofNat]
  omega
theorem packW_snoc (f : Int → Int) (n : Nat) : packW f (n + 1) = packW f n * 256 + f n := by
  show 256 * packW f n + f n = _
  omega
theorem packW_bd {T : Int → Int} {s : Int} : ∀ n : Nat, (∀ j : Nat, j < n → 0 ≤ T (s + j) ∧ T (s + j) ≤ 255) → 0 ≤ packW (fun j => T (s + j)) n ∧ packW (fun j => T (s + j)) n < 256 ^ n
  | 0, _ => by
    show (0 : Int) ≤ 0 ∧ (0 : Int) < 256 ^ 0
    decide
  | n + 1, h => by
    have h1 := packW_bd n (fun j hj => h j (by omega))
    have h2 := h n (by omega)
    have e : packW (fun j => T (s + j)) (n + 1) = packW (fun j => T (s + j)) n * 256 + T (s + n) := packW_snoc _ _
    rw [e, Int.pow_succ]
    omega
