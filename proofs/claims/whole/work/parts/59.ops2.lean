/-! SMALL CALLS: letter, has, feed, end, seed -/
theorem packW_in {f : Int → Int} : ∀ n : Nat, (∀ k : Int, 0 ≤ k → k < n → 97 ≤ f k ∧ f k ≤ 122) → 0 ≤ packW f n ∧ packW f n < 256 ^ n
  | 0, _ => by unfold packW; omega
  | n + 1, h => by
    have h1 := packW_in n (fun k h0 h1 => h k h0 (by omega))
    have h2 := h n (by omega) (by omega)
    unfold packW
    have e : (256 : Int) ^ (n + 1) = 256 * 256 ^ n := by rw [Int.pow_succ]; omega
    rw [e]
    omega
theorem packW_pos {f : Int → Int} (n : Nat) (h : ∀ k : Int, 0 ≤ k → k < ((n + 1 : Nat) : Int) → 97 ≤ f k ∧ f k ≤ 122) : 0 < packW f (n + 1) := by
  have h1 := packW_in n (fun k h0 h1 => h k h0 (by omega))
  have h2 := h n (by omega) (by omega)
  unfold packW
  omega
theorem packW_L (f : Int → Int) {n : Nat} (hn : n ≤ 6) (h : ∀ k : Int, 0 ≤ k → k < n → 97 ≤ f k ∧ f k ≤ 122) : packW f n < 281474976710656 := by
  have h1 := (packW_in n h).2
  have h2 : (256 : Int) ^ n ≤ 256 ^ 6 := by
    rcases (show n = 0 ∨ n = 1 ∨ n = 2 ∨ n = 3 ∨ n = 4 ∨ n = 5 ∨ n = 6 by omega) with rfl | rfl | rfl | rfl | rfl | rfl | rfl <;> decide
  omega
theorem packW_div (f : Int → Int) {n : Nat} (h : ∀ k : Int, 0 ≤ k → k < ((n + 1 : Nat) : Int) → 97 ≤ f k ∧ f k ≤ 122) : packW f (n + 1) / 256 = packW f n ∧ packW f (n + 1) % 256 = f n := by
  have h2 := h n (by omega) (by omega)
  show (256 * packW f n + f n) / 256 = packW f n ∧ (256 * packW f n + f n) % 256 = f n
  omega
theorem packW_dig (f : Int → Int) {n : Nat} (hn : n ≤ 6) (h : ∀ k : Int, 0 ≤ k → k < n → 97 ≤ f k ∧ f k ≤ 122) : ∀ k : Nat, k < n → packW f n / 256 ^ (n - 1 - k) % 256 = f k := by
  intro k hk
  have key : ∀ j : Nat, j ≤ n → packW f n / 256 ^ j = packW f (n - j) := by
    intro j
    induction j with
    | zero => intro _; simp
    | succ j ih =>
      intro hj
      rw [show (256 : Int) ^ (j + 1) = 256 ^ j * 256 by rw [Int.pow_succ], ← Int.ediv_ediv_of_nonneg (by exact Int.le_of_lt (Int.pow_pos (by decide))), ih (by omega), show n - j = (n - (j + 1)) + 1 by omega]
      exact (packW_div f (fun k h0 h1 => h k h0 (by omega))).1
  rw [key (n - 1 - k) (by omega), show n - (n - 1 - k) = k + 1 by omega]
  exact (packW_div f (fun k' h0 h1 => h k' h0 (by omega))).2
theorem r_lett_L {N : Nat} {m : Mem} {c2 c3 : Int} {kk : Int → Option Int} {bo : Int → Int → Option Int} (f : Int → Int) : ∀ (j n : Nat) (x : Int), j < n → j ≤ 6 → 0 ≤ x → x + j ≤ 6 → (∀ k : Int, 0 ≤ k → k < j → 97 ≤ f k ∧ f k ≤ 122) → lpF bo (pM_letter_L40b N m c2 c3 kk) n x (packW f j) = kk (x + j) := by
  intro j
  induction j with
  | zero =>
    intro n x hn hj h0 h6 hf
    obtain ⟨n, rfl⟩ : ∃ n', n = n' + 1 := ⟨n - 1, by omega⟩
    show pM_letter_L40b N m c2 c3 kk (lpF bo (pM_letter_L40b N m c2 c3 kk) n) x 0 = _
    unfold pM_letter_L40b
    rw [if_neg (by omega)]
    simp
  | succ j ih =>
    intro n x hn hj h0 h6 hf
    obtain ⟨n, rfl⟩ : ∃ n', n = n' + 1 := ⟨n - 1, by omega⟩
    have hp := packW_pos j hf
    have hl := packW_L f (n := j + 1) (by omega) hf
    have ih' := ih n (x + 1) (by omega) (by omega) (by omega)
    show pM_letter_L40b N m c2 c3 kk (lpF bo (pM_letter_L40b N m c2 c3 kk) n) x (packW f (j + 1)) = _
    generalize lpF bo (pM_letter_L40b N m c2 c3 kk) n = self at ih' ⊢
    unfold pM_letter_L40b
    rw [if_pos hp, shr64_k ⟨by omega, by omega⟩ 8 8 (by decide), w32_eq (x := x + 1) (by omega) (by omega), show packW f (j + 1) / 2 ^ 8 = packW f j from (packW_div f hf).1]
    show self (x + 1) (packW f j) = _
    rw [ih' (by omega) (fun k h0 h1 => hf k h0 (by omega))]
    congr 1
    omega
theorem sh8 : ∀ j : Nat, j < 6 → (((Int32.ofInt (8 * (j : Int))).toInt64 &&& 63).toBitVec.smod 64).toNat = 8 * j := by decide +kernel
theorem e_letter {N : Nat} {m : Mem} (hN : 2000 ≤ N) (h : Core m) (i k : Int) : ∃ r, pD_letter m i k = some r ∧ pM_letter N m i k = some r := by
  obtain ⟨-, -, -, -, ⟨hg, hr, hnm⟩, -⟩ := h
  have hn := hg.num
  have hbk := (vP_PQ m).bk
  have b13 := hr.1
  have hD : pD_letter m i k = if (0 ≤ i ∧ i < vP m 2 3) ∧ (0 ≤ k ∧ k < 6) then some (m 4 (6 * i + k)) else some (-1) := by
    unfold pD_letter
    rw [e_hasP (vP_PE m)]
    simp only [Option.bind_some]
    by_cases q : 0 ≤ i ∧ i < vP m 2 3
    · rw [if_pos q, if_neg (show ¬ ((1 : Int) = 0) by omega)]
      by_cases q1 : k < 0
      · rw [if_pos q1, if_neg (by omega)]
      rw [if_neg q1]
      by_cases q2 : k < 6
      · rw [if_pos q2, w32_eq (x := i * 6) (by omega) (by omega), w32_eq (x := i * 6 + k) (by omega) (by omega), if_pos (by omega), if_pos (by omega), show i * 6 + k = 6 * i + k by omega]
      · rw [if_neg q2, if_neg (by omega)]
    · rw [if_neg q, if_pos rfl, if_neg (fun c => q c.1)]
  have hM : pM_letter N m i k = if (0 ≤ i ∧ i < vP m 2 3) ∧ (0 ≤ k ∧ k < 6) then some (m 4 (6 * i + k)) else some (-1) := by
    unfold pM_letter
    rw [e_isP hr (vP_PQ m), e_is]
    simp only [Option.bind_some]
    by_cases q : 0 ≤ i ∧ i < vP m 2 3
    · rw [if_pos q, if_neg (show ¬ ((1 : Int) = 0) by omega)]
      by_cases q1 : 0 ≤ k ∧ k < 6
      · obtain ⟨n, hn6, hl, hz, hp⟩ := (hnm i q.1 q.2).2
        rw [vP_in (by omega), ← hbk] at hp
        have hf : ∀ j : Int, 0 ≤ j → j < (n : Int) → 97 ≤ vP m 4 (6 * i + j) + 96 ∧ vP m 4 (6 * i + j) + 96 ≤ 122 := fun j h0 h1 => by have := hl j h0 h1; omega
        have hL := packW_L (fun j => vP m 4 (6 * i + j) + 96) hn6.2 hf
        have hP := (packW_in (f := fun j => vP m 4 (6 * i + j) + 96) n hf).1
        have e4 : vP m 4 (6 * i + k) = m 4 (6 * i + k) := vP_in (by omega)
        rw [if_pos (show 0 ≤ k ∧ k ≤ 5 by omega), if_neg (show ¬ ((1 : Int) = 0) by omega), hbk, w32_eq (x := 6 * vP m 475 13) (by omega) (by omega), w32_eq (x := 6 * vP m 475 13 + i) (by omega) (by omega), if_pos (by omega), ← hbk, hp, if_pos ⟨q, q1⟩]
        unfold pM_letter_L40
        rw [r_lett_L (fun j => vP m 4 (6 * i + j) + 96) n N 0 (by omega) (by omega) (by omega) (by omega) hf]
        show (if k < 0 + (n : Int) then _ else _) = _
        by_cases q2 : k < (n : Int)
        · rw [if_pos (by omega)]
          obtain ⟨kn, rfl⟩ := Int.eq_ofNat_of_zero_le q1.1
          have hdig := packW_dig (fun j => vP m 4 (6 * i + j) + 96) hn6.2 hf kn (by omega)
          have hw : w32 (8 * w32 (w32 (0 + (n : Int) - 1) - (kn : Int))) = 8 * ((n - 1 - kn : Nat) : Int) := by
            rw [w32_eq (x := 0 + (n : Int) - 1) (by omega) (by omega), w32_eq (x := 0 + (n : Int) - 1 - (kn : Int)) (by omega) (by omega), w32_eq (by omega) (by omega)]
            omega
          have hdv : (2 : Int) ^ (8 * (n - 1 - kn)) = 256 ^ (n - 1 - kn) := by rw [Int.pow_mul]; rfl
          have hq0 : 0 ≤ packW (fun j => vP m 4 (6 * i + j) + 96) n / 256 ^ (n - 1 - kn) := Int.ediv_nonneg hP (Int.le_of_lt (Int.pow_pos (by decide)))
          have hq1 : packW (fun j => vP m 4 (6 * i + j) + 96) n / 256 ^ (n - 1 - kn) ≤ packW (fun j => vP m 4 (6 * i + j) + 96) n := Int.ediv_le_self _ hP
          have hlk := hl kn (by omega) (by omega)
          rw [hw, shr64_k ⟨by omega, by omega⟩ _ _ (sh8 (n - 1 - kn) (by omega)), hdv, a64_255 hq0 (by omega), hdig, w32_eq (x := vP m 4 (6 * i + (kn : Int)) + 96) (by omega) (by omega), w32_eq (x := vP m 4 (6 * i + (kn : Int)) + 96 - 97) (by omega) (by omega), w32_eq (by omega) (by omega), ← e4]
          congr 1
          omega
        · rw [if_neg (by omega), ← e4, hz k (by omega) (by omega)]
      · rw [if_neg (show ¬ (0 ≤ k ∧ k ≤ 5) by omega), if_pos rfl, if_neg (fun c => q1 c.2)]
    · rw [if_neg q, if_pos rfl, if_neg (fun c => q c.1)]
  rw [hD, hM]
  by_cases q : (0 ≤ i ∧ i < vP m 2 3) ∧ (0 ≤ k ∧ k < 6)
  · exact ⟨_, if_pos q, if_pos q⟩
  · exact ⟨_, if_neg q, if_neg q⟩
/-! all CELLS' dew together -/
def cn (C R c : Int) : Int := if c / 8 < R then c / 8 * C + min (c % 8) C else C * R
theorem cn_step {C R c : Int} (hC : 0 ≤ C ∧ C ≤ 8) (hR : 0 ≤ R ∧ R ≤ 8) (hc : 0 ≤ c ∧ c < 64) : ((c % 8 < C ∧ c / 8 < R) → cn C R (c + 1) = cn C R c + 1 ∧ cn C R c = c / 8 * C + c % 8) ∧ (¬ (c % 8 < C ∧ c / 8 < R) → cn C R (c + 1) = cn C R c) := by
  unfold cn
  rcases (show C = 0 ∨ C = 1 ∨ C = 2 ∨ C = 3 ∨ C = 4 ∨ C = 5 ∨ C = 6 ∨ C = 7 ∨ C = 8 by omega) with rfl | rfl | rfl | rfl | rfl | rfl | rfl | rfl | rfl <;> (refine ⟨fun h => ?_, fun h => ?_⟩ <;> (repeat' split) <;> omega)
theorem cn_end {C R : Int} (hC : 0 ≤ C ∧ C ≤ 8) (hR : 0 ≤ R ∧ R ≤ 8) : cn C R 64 = C * R ∧ cn C R 0 = 0 := by
  unfold cn
  refine ⟨?_, ?_⟩
  · split
    · omega
    · rfl
  · split
    · rw [show (0 : Int) / 8 = 0 from rfl, show (0 : Int) % 8 = 0 from rfl]; omega
    · rw [show R = 0 by omega]; omega
