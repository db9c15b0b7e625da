/-! VALLEY: statements side by side: PERSON, is the name there already -/
def rowE (m : Mem) (a i : Int) : Prop := ∀ j : Int, 0 ≤ j → j < 6 → m 21 (6 * a + j) = m 21 (6 * i + j)
theorem c_sameL {N : Nat} {m : Mem} {a i : Int} {kk : Int → Option Int} {bo : Int → Int → Option Int} (hi : 0 ≤ i ∧ i < 6) (ha : 0 ≤ a ∧ a < 6) : ∀ (k nn : Nat) (fl x : Int), k < nn → 0 ≤ x → x + k = 6 → ((fl = 1 ∧ ∀ j : Int, 0 ≤ j → j < x → m 21 (6 * a + j) = m 21 (6 * i + j)) ∨ (fl = 0 ∧ ¬ rowE m a i)) → ∃ y, lpF bo (pR_isThereAlready_L12b N m i a kk) nn fl x = kk y ∧ ((y = 1 ∧ rowE m a i) ∨ (y = 0 ∧ ¬ rowE m a i)) := by
  intro k
  induction k with
  | zero =>
    intro nn fl x hn h0 hx h
    obtain ⟨nn, rfl⟩ : ∃ n', nn = n' + 1 := ⟨nn - 1, by omega⟩
    show ∃ y, pR_isThereAlready_L12b N m i a kk (lpF bo (pR_isThereAlready_L12b N m i a kk) nn) fl x = kk y ∧ _
    generalize lpF bo (pR_isThereAlready_L12b N m i a kk) nn = self
    unfold pR_isThereAlready_L12b
    rw [if_neg (by omega)]
    refine ⟨fl, rfl, ?_⟩
    rcases h with ⟨h1, h2⟩ | h
    · exact Or.inl ⟨h1, fun j j0 j1 => h2 j j0 (by omega)⟩
    · exact Or.inr h
  | succ k ih =>
    intro nn fl x hn h0 hx h
    obtain ⟨nn, rfl⟩ : ∃ n', nn = n' + 1 := ⟨nn - 1, by omega⟩
    have ih' := fun fl => ih nn fl (x + 1) (by omega) (by omega) (by omega)
    show ∃ y, pR_isThereAlready_L12b N m i a kk (lpF bo (pR_isThereAlready_L12b N m i a kk) nn) fl x = kk y ∧ _
    generalize lpF bo (pR_isThereAlready_L12b N m i a kk) nn = self at ih' ⊢
    unfold pR_isThereAlready_L12b
    rw [if_pos (by omega), w32_eq (x := a * 6) (by omega) (by omega), w32_eq (x := i * 6) (by omega) (by omega), w32_eq (x := a * 6 + x) (by omega) (by omega), w32_eq (x := i * 6 + x) (by omega) (by omega), w32_eq (x := x + 1) (by omega) (by omega), show a * 6 + x = 6 * a + x by omega, show i * 6 + x = 6 * i + x by omega]
    rcases h with ⟨rfl, h2⟩ | ⟨rfl, h2⟩
    · rw [if_neg (by decide), if_pos (by omega), if_pos (by omega)]
      by_cases q : m 21 (6 * a + x) = m 21 (6 * i + x)
      · rw [if_pos q]
        refine ih' 1 (Or.inl ⟨rfl, fun j j0 j1 => ?_⟩)
        by_cases q2 : j = x
        · subst q2; exact q
        · exact h2 j j0 (by omega)
      · rw [if_neg q]
        exact ih' 0 (Or.inr ⟨rfl, fun c => q (c x h0 (by omega))⟩)
    · rw [if_pos rfl]
      exact ih' 0 (Or.inr ⟨rfl, h2⟩)
theorem c_thereL {N : Nat} {m : Mem} {i : Int} {bo : Int → Option Int} (hN : 2000 ≤ N) (hi : 0 ≤ i ∧ i < 6) : ∀ (k nn : Nat) (x : Int), k < nn → 0 ≤ x → x + k = i → (∀ a, 0 ≤ a → a < x → ¬ rowE m a i) → ∃ y, lpF bo (pR_isThereAlready_L2b N m i (fun (_ : Unit) => some 0)) nn x = some y ∧ ((y = 1 ∧ ∃ a, 0 ≤ a ∧ a < i ∧ rowE m a i) ∨ (y = 0 ∧ ∀ a, 0 ≤ a → a < i → ¬ rowE m a i)) := by
  intro k
  induction k with
  | zero =>
    intro nn x hn h0 hx h
    obtain ⟨nn, rfl⟩ : ∃ n', nn = n' + 1 := ⟨nn - 1, by omega⟩
    show ∃ y, pR_isThereAlready_L2b N m i (fun (_ : Unit) => some 0) (lpF bo (pR_isThereAlready_L2b N m i (fun (_ : Unit) => some 0)) nn) x = some y ∧ _
    generalize lpF bo (pR_isThereAlready_L2b N m i (fun (_ : Unit) => some 0)) nn = self
    unfold pR_isThereAlready_L2b
    rw [if_neg (by omega)]
    exact ⟨0, rfl, Or.inr ⟨rfl, fun a a0 a1 => h a a0 (by omega)⟩⟩
  | succ k ih =>
    intro nn x hn h0 hx h
    obtain ⟨nn, rfl⟩ : ∃ n', nn = n' + 1 := ⟨nn - 1, by omega⟩
    have ih' := ih nn (x + 1) (by omega) (by omega) (by omega)
    show ∃ y, pR_isThereAlready_L2b N m i (fun (_ : Unit) => some 0) (lpF bo (pR_isThereAlready_L2b N m i (fun (_ : Unit) => some 0)) nn) x = some y ∧ _
    generalize lpF bo (pR_isThereAlready_L2b N m i (fun (_ : Unit) => some 0)) nn = self at ih' ⊢
    unfold pR_isThereAlready_L2b pR_isThereAlready_L12
    rw [if_pos (by omega)]
    obtain ⟨y, ey, hy⟩ := c_sameL (N := N) (m := m) (a := x) (i := i) (kk := fun z3_68 => if z3_68 = 0 then (some (w32 (x + 1) : Int)).bind fun x2_74 => self x2_74 else some (1)) (bo := fun _ _ => none) hi ⟨h0, by omega⟩ 6 N 1 0 (by omega) (by omega) (by omega) (Or.inl ⟨rfl, fun j j0 j1 => absurd j0 (by omega)⟩)
    rw [ey]
    rcases hy with ⟨rfl, hr⟩ | ⟨rfl, hr⟩
    · exact ⟨1, rfl, Or.inl ⟨rfl, x, h0, by omega, hr⟩⟩
    · rw [w32_eq (x := x + 1) (by omega) (by omega)]
      refine ih' (fun a a0 a1 => ?_)
      by_cases q : a = x
      · subst q; exact hr
      · exact h a a0 (by omega)
theorem c_there {N : Nat} {m : Mem} {i : Int} (hN : 2000 ≤ N) (hi : 0 ≤ i ∧ i < 6) : ∃ y, pR_isThereAlready N m i = some y ∧ ((y = 1 ∧ ∃ a, 0 ≤ a ∧ a < i ∧ rowE m a i) ∨ (y = 0 ∧ ∀ a, 0 ≤ a → a < i → ¬ rowE m a i)) := by
  unfold pR_isThereAlready pR_isThereAlready_L2
  exact c_thereL hN hi i.toNat N 0 (by omega) (by omega) (by omega) (fun a a0 a1 => absurd a0 (by omega))
theorem r_namedL {N : Nat} {m : Mem} {ib i v : Int} {bo : Int → Option Int} (hib : ib = 0 ∨ ib = 1) (hi : 0 ≤ i ∧ i ≤ 6) (h29 : m 475 29 = ib) (h480 : m 480 ib = i) : ∀ (k nn : Nat) (x : Int), k < nn → 0 ≤ x → x + k = i → (∀ a, 0 ≤ a → a < x → m 490 (6 * ib + a) ≠ v) → ∃ y, lpF bo (pM_named_L2b N m v (fun (_ : Unit) => some (-1))) nn x = some y ∧ ((y ≠ -1 ∧ ∃ a, 0 ≤ a ∧ a < i ∧ m 490 (6 * ib + a) = v) ∨ (y = -1 ∧ ∀ a, 0 ≤ a → a < i → m 490 (6 * ib + a) ≠ v)) := by
  intro k
  induction k with
  | zero =>
    intro nn x hn h0 hx h
    obtain ⟨nn, rfl⟩ : ∃ n', nn = n' + 1 := ⟨nn - 1, by omega⟩
    show ∃ y, pM_named_L2b N m v (fun (_ : Unit) => some (-1)) (lpF bo (pM_named_L2b N m v (fun (_ : Unit) => some (-1))) nn) x = some y ∧ _
    generalize lpF bo (pM_named_L2b N m v (fun (_ : Unit) => some (-1))) nn = self
    unfold pM_named_L2b
    rw [h29, if_pos (by omega), h480, if_neg (by omega)]
    exact ⟨-1, rfl, Or.inr ⟨rfl, fun a a0 a1 => h a a0 (by omega)⟩⟩
  | succ k ih =>
    intro nn x hn h0 hx h
    obtain ⟨nn, rfl⟩ : ∃ n', nn = n' + 1 := ⟨nn - 1, by omega⟩
    have ih' := ih nn (x + 1) (by omega) (by omega) (by omega)
    show ∃ y, pM_named_L2b N m v (fun (_ : Unit) => some (-1)) (lpF bo (pM_named_L2b N m v (fun (_ : Unit) => some (-1))) nn) x = some y ∧ _
    generalize lpF bo (pM_named_L2b N m v (fun (_ : Unit) => some (-1))) nn = self at ih' ⊢
    unfold pM_named_L2b
    rw [h29, if_pos (by omega), h480, if_pos (by omega), w32_eq (x := 6 * ib) (by omega) (by omega), w32_eq (x := 6 * ib + x) (by omega) (by omega), if_pos (by omega)]
    by_cases q : m 490 (6 * ib + x) = v
    · rw [if_pos q]
      exact ⟨x, rfl, Or.inl ⟨by omega, x, h0, by omega, q⟩⟩
    · rw [if_neg q, w32_eq (x := x + 1) (by omega) (by omega)]
      refine ih' (fun a a0 a1 => ?_)
      by_cases q2 : a = x
      · subst q2; exact q
      · exact h a a0 (by omega)
theorem r_named {N : Nat} {m : Mem} {ib i v : Int} (hN : 2000 ≤ N) (hib : ib = 0 ∨ ib = 1) (hi : 0 ≤ i ∧ i ≤ 6) (h29 : m 475 29 = ib) (h480 : m 480 ib = i) : ∃ y, pM_named N m v = some y ∧ ((y ≠ -1 ∧ ∃ a, 0 ≤ a ∧ a < i ∧ m 490 (6 * ib + a) = v) ∨ (y = -1 ∧ ∀ a, 0 ≤ a → a < i → m 490 (6 * ib + a) ≠ v)) := by
  unfold pM_named pM_named_L2
  exact r_namedL hib hi h29 h480 i.toNat N 0 (by omega) (by omega) (by omega) (fun a a0 a1 => absurd a0 (by omega))
