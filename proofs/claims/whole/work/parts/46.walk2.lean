/-! the component's Walk: steps, whom they lead where -/
theorem e_bsd {pl m : Mem} {p st : Int} (hg : PG pl) (he : PE pl m) (hp : 0 ≤ p ∧ p < pl 2 2) (hs : 0 ≤ st ∧ st ≤ 4) : pP_beside m 2 p st = some (bsd pl p st) ∧ (bsd pl p st = -1 ∨ (0 ≤ bsd pl p st ∧ bsd pl p st < pl 2 2)) := by
  have hn := hg.num
  have hc := hg.pos hp
  have hcr := pl_cell hc.1 hc.2.1 (by rw [← hc.2.2]; exact hp)
  have h0 := he.d 0
  have h2 := he.d 2
  have ec := e_col (m := m) (p := p) (by rw [h0]; omega) (by omega)
  rw [h0] at ec
  have hx : p % pl 2 0 ≤ p := by
    have h3 : 0 ≤ p / pl 2 0 * pl 2 0 := Int.mul_nonneg hcr.2.1.1 (by omega)
    omega
  have hy : p % pl 2 0 + 1 < pl 2 0 → p + 1 < pl 2 2 := by
    intro q
    rw [hc.2.2]
    have h3 : p / pl 2 0 * pl 2 0 + pl 2 0 ≤ pl 2 0 * pl 2 1 := by
      have h4 : p / pl 2 0 + 1 ≤ pl 2 1 := by omega
      have h5 := Int.mul_le_mul_of_nonneg_left h4 (show 0 ≤ pl 2 0 by omega)
      rw [Int.mul_add, Int.mul_one, Int.mul_comm (pl 2 0) (p / pl 2 0)] at h5
      exact h5
    omega
  unfold pP_beside bsd
  rw [ec, h0, h2]
  rcases (show st = 0 ∨ st = 1 ∨ st = 2 ∨ st = 3 ∨ st = 4 by omega) with rfl | rfl | rfl | rfl | rfl
  · simp; omega
  · simp only [show ¬ ((1 : Int) = 0) by omega, if_false, if_true, Option.bind_some]
    by_cases q : 0 < p % pl 2 0
    · rw [if_pos q, if_pos q, w32_eq (by omega) (by omega)]; exact ⟨rfl, Or.inr (by omega)⟩
    · rw [if_neg q, if_neg q]; exact ⟨rfl, Or.inl rfl⟩
  · simp only [show ¬ ((2 : Int) = 0) by omega, show ¬ ((2 : Int) = 1) by omega, if_false, if_true, Option.bind_some]
    rw [w32_eq (x := p % pl 2 0 + 1) (by omega) (by omega)]
    by_cases q : p % pl 2 0 + 1 < pl 2 0
    · rw [if_pos q, if_pos q, w32_eq (by omega) (by omega)]; exact ⟨rfl, Or.inr ⟨by omega, hy q⟩⟩
    · rw [if_neg q, if_neg q]; exact ⟨rfl, Or.inl rfl⟩
  · simp only [show ¬ ((3 : Int) = 0) by omega, show ¬ ((3 : Int) = 1) by omega, show ¬ ((3 : Int) = 2) by omega, if_false, if_true]
    by_cases q : p < pl 2 0
    · rw [if_pos q, if_pos q]; exact ⟨rfl, Or.inl rfl⟩
    · rw [if_neg q, if_neg q, w32_eq (by omega) (by omega)]; exact ⟨rfl, Or.inr (by omega)⟩
  · simp only [show ¬ ((4 : Int) = 0) by omega, show ¬ ((4 : Int) = 1) by omega, show ¬ ((4 : Int) = 2) by omega, show ¬ ((4 : Int) = 3) by omega, if_false, if_true]
    rw [w32_eq (x := p + pl 2 0) (by omega) (by omega)]
    by_cases q : p + pl 2 0 < pl 2 2
    · rw [if_pos q, if_pos q]; exact ⟨rfl, Or.inr (by omega)⟩
    · rw [if_neg q, if_neg q]; exact ⟨rfl, Or.inl rfl⟩
theorem pick_in {d : Int → Int} {b x n : Int} (hb : 0 ≤ b ∧ b < n) (hx : x = -1 ∨ (0 ≤ x ∧ x < n)) : 0 ≤ pick d b x ∧ pick d b x < n := by
  unfold pick
  split
  · exact hb
  split
  · omega
  · exact hb
theorem c_wet {N : Nat} {pl m : Mem} {a p : Int} (hN : 2000 ≤ N) (hg : PG pl) (he : PE pl m) (hp : 0 ≤ p ∧ p < pl 2 2) : pW_wettest N m a p = some (wetS pl (m (a + 1)) p) ∧ 0 ≤ wetS pl (m (a + 1)) p ∧ wetS pl (m (a + 1)) p < pl 2 2 := by
  have hn := hg.num
  obtain ⟨e1, b1⟩ := e_bsd hg he hp (st := 1) (by omega)
  obtain ⟨e2, b2⟩ := e_bsd hg he hp (st := 2) (by omega)
  obtain ⟨e3, b3⟩ := e_bsd hg he hp (st := 3) (by omega)
  obtain ⟨e4, b4⟩ := e_bsd hg he hp (st := 4) (by omega)
  have i1 := pick_in (d := m (a + 1)) hp b1
  have i2 := pick_in (d := m (a + 1)) i1 b2
  have i3 := pick_in (d := m (a + 1)) i2 b3
  have i4 := pick_in (d := m (a + 1)) i3 b4
  refine ⟨?_, i4⟩
  obtain ⟨n, rfl⟩ : ∃ n, N = n + 5 := ⟨N - 5, by omega⟩
  have step : ∀ (k : Int → Option Int) (self : Int → Int → Option Int) (b st x : Int), 0 ≤ b ∧ b < pl 2 2 → (1 ≤ st ∧ st ≤ 4) → pP_beside m 2 p st = some x → (x = -1 ∨ (0 ≤ x ∧ x < pl 2 2)) → pW_wettest_L4b (n + 5) m a p k self b st = self (pick (m (a + 1)) b x) (st + 1) := by
    intro k self b st x hb hst hx hxi
    unfold pW_wettest_L4b pick
    rw [if_pos (by omega), hx]
    show (if x = -1 then self b (w32 (st + 1)) else if 0 ≤ x ∧ x < 64 then if 0 ≤ b ∧ b < 64 then if m (a + 1) b < m (a + 1) x then self x (w32 (st + 1)) else self b (w32 (st + 1)) else none else none) = _
    rw [w32_eq (by omega) (by omega)]
    by_cases q : x = -1
    · rw [if_pos q, if_pos q]
    · rw [if_neg q, if_neg q, if_pos (by omega), if_pos (by omega)]
      split <;> rfl
  unfold pW_wettest pW_wettest_L4
  show pW_wettest_L4b _ m a p _ (lpF _ _ (n + 4)) p 1 = _
  rw [step _ _ p 1 _ hp (by omega) e1 b1]
  show pW_wettest_L4b _ m a p _ (lpF _ _ (n + 3)) _ 2 = _
  rw [step _ _ _ 2 _ i1 (by omega) e2 b2]
  show pW_wettest_L4b _ m a p _ (lpF _ _ (n + 2)) _ 3 = _
  rw [step _ _ _ 3 _ i2 (by omega) e3 b3]
  show pW_wettest_L4b _ m a p _ (lpF _ _ (n + 1)) _ 4 = _
  rw [step _ _ _ 4 _ i3 (by omega) e4 b4]
  show pW_wettest_L4b _ m a p _ (lpF _ _ n) _ 5 = _
  unfold pW_wettest_L4b
  rw [if_neg (by omega)]
  rfl
