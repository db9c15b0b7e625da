/-! SMALL CALLS: has, feed, end, seed -/
theorem r_has95 {N : Nat} {pl m : Mem} {d : Int → Int} {kk : Int → Option Int} {bo : Int → Int → Option Int} (hg : PG pl) (hd : ∀ p, 0 ≤ p → p < pl 2 2 → m 499 (ph pl p) = d p ∧ (0 ≤ d p ∧ d p ≤ 99)) (hz : ∀ c, 0 ≤ c → c < 64 → ¬ cellC pl c → m 499 c = 0) : ∀ (k n : Nat) (x : Int), k < n → 0 ≤ x → x + k = 64 → lpF bo (pM_has_L95b N m kk) n (sumR d (cn (pl 2 0) (pl 2 1) x).toNat) x = kk (sumR d (pl 2 2).toNat) := by
  intro k
  have hn := hg.num
  have h22 := hg.2.1
  have hce := cn_end hn.1 hn.2.1
  induction k with
  | zero =>
    intro n x hkn h0 hx
    obtain ⟨n, rfl⟩ : ∃ n', n = n' + 1 := ⟨n - 1, by omega⟩
    show pM_has_L95b N m kk (lpF bo (pM_has_L95b N m kk) n) _ x = _
    generalize lpF bo (pM_has_L95b N m kk) n = self
    unfold pM_has_L95b
    rw [if_neg (by omega), show x = 64 by omega, hce.1, h22]
  | succ k ih =>
    intro n x hkn h0 hx
    obtain ⟨n, rfl⟩ : ∃ n', n = n' + 1 := ⟨n - 1, by omega⟩
    have ih' := ih n (x + 1) (by omega) (by omega) (by omega)
    have hcs := cn_step (c := x) hn.1 hn.2.1 (by omega)
    show pM_has_L95b N m kk (lpF bo (pM_has_L95b N m kk) n) _ x = _
    generalize lpF bo (pM_has_L95b N m kk) n = self at ih' ⊢
    unfold pM_has_L95b
    rw [if_pos (by omega), if_pos (by omega)]
    show self (w32 (sumR d (cn (pl 2 0) (pl 2 1) x).toNat + m 499 x)) (w32 (x + 1)) = _
    rw [w32_eq (x := x + 1) (by omega) (by omega)]
    by_cases hc : cellC pl x
    · obtain ⟨p, hp, hpx, hpe⟩ := ph_sur hg hc
      have h1 := hcs.1 ⟨hc.1.2, hc.2.2⟩
      have hcp : cn (pl 2 0) (pl 2 1) x = p := by rw [h1.2, hpe]
      have hdp := hd p hp.1 hp.2
      rw [hpx] at hdp
      have hsm := sumR_in (row := d) (P := (pl 2 2).toNat) (fun i h0 h1 => by have := (hd i h0 (by omega)).2; omega) p.toNat (by omega)
      have e : sumR d (cn (pl 2 0) (pl 2 1) x).toNat + m 499 x = sumR d (cn (pl 2 0) (pl 2 1) (x + 1)).toNat := by
        rw [h1.1, hcp, hdp.1, show (p + 1).toNat = p.toNat + 1 by omega]
        show _ = sumR d p.toNat + d ((p.toNat : Nat) : Int)
        rw [show ((p.toNat : Nat) : Int) = p by omega]
      have e2 : sumR d (cn (pl 2 0) (pl 2 1) x).toNat + m 499 x = sumR d p.toNat + d p := by rw [hcp, hdp.1]
      rw [w32_eq (x := sumR d (cn (pl 2 0) (pl 2 1) x).toNat + m 499 x) (by rw [e2]; omega) (by rw [e2]; omega), e]
      exact ih'
    · have hcc : ¬ (x % 8 < pl 2 0 ∧ x / 8 < pl 2 1) := fun q => hc (by unfold cellC; omega)
      have h1 := hcs.2 hcc
      have hcr : 0 ≤ cn (pl 2 0) (pl 2 1) x ∧ cn (pl 2 0) (pl 2 1) x ≤ pl 2 2 := by
        rw [h22]
        unfold cn
        generalize pl 2 0 = C at *
        rcases (show C = 0 ∨ C = 1 ∨ C = 2 ∨ C = 3 ∨ C = 4 ∨ C = 5 ∨ C = 6 ∨ C = 7 ∨ C = 8 by omega) with rfl | rfl | rfl | rfl | rfl | rfl | rfl | rfl | rfl <;> split <;> omega
      have hsm := sumR_in (row := d) (P := (pl 2 2).toNat) (fun i h0 h1 => by have := (hd i h0 (by omega)).2; omega) (cn (pl 2 0) (pl 2 1) x).toNat (by omega)
      rw [hz x h0 (by omega) hc, Int.add_zero, w32_eq (by omega) (by omega), ← h1]
      exact ih'
theorem r_has120 {N : Nat} {pl m : Mem} {d : Int → Int} {kk : Int → Option Int} {bo : Int → Int → Option Int} (hg : PG pl) (hr : PR pl) (hq : PQ pl m) (hd : ∀ i, 0 ≤ i → i < pl 2 3 → m 503 i = d i ∧ (0 ≤ d i ∧ d i ≤ 999)) : ∀ (k n : Nat) (x : Int), k < n → 0 ≤ x → x + k = pl 2 3 → lpF bo (pM_has_L120b N m kk) n (sumR d x.toNat) x = kk (sumR d (pl 2 3).toNat) := by
  intro k
  have hn := hg.num
  obtain ⟨h1, h2, h3, h4, -⟩ := hr
  induction k with
  | zero =>
    intro n x hkn h0 hx
    obtain ⟨n, rfl⟩ : ∃ n', n = n' + 1 := ⟨n - 1, by omega⟩
    show pM_has_L120b N m kk (lpF bo (pM_has_L120b N m kk) n) _ x = _
    generalize lpF bo (pM_has_L120b N m kk) n = self
    unfold pM_has_L120b
    rw [hq.bk, hq 480 _ (by unfold prc; omega), h4, if_pos h1, if_neg (by omega), show pl 2 3 = x by omega]
  | succ k ih =>
    intro n x hkn h0 hx
    obtain ⟨n, rfl⟩ : ∃ n', n = n' + 1 := ⟨n - 1, by omega⟩
    have ih' := ih n (x + 1) (by omega) (by omega) (by omega)
    show pM_has_L120b N m kk (lpF bo (pM_has_L120b N m kk) n) _ x = _
    generalize lpF bo (pM_has_L120b N m kk) n = self at ih' ⊢
    unfold pM_has_L120b
    have hs := sumR_in (row := d) (P := (pl 2 3).toNat) (fun i h0 h1 => by have := (hd i h0 (by omega)).2; omega) x.toNat (by omega)
    have hx1 := hd x h0 (by omega)
    rw [hq.bk, hq 480 _ (by unfold prc; omega), h4, if_pos h1, if_pos (by omega), if_pos (by omega), hx1.1]
    show self (w32 (sumR d x.toNat + d x)) (w32 (x + 1)) = _
    rw [w32_eq (x := sumR d x.toNat + d x) (by omega) (by omega), w32_eq (x := x + 1) (by omega) (by omega)]
    have e : sumR d x.toNat + d x = sumR d (x + 1).toNat := by
      rw [show (x + 1).toNat = x.toNat + 1 by omega]
      show _ = sumR d x.toNat + d ((x.toNat : Nat) : Int)
      rw [show ((x.toNat : Nat) : Int) = x by omega]
    rw [e]
    exact ih'
theorem e_has {N : Nat} {m : Mem} (hN : 2000 ≤ N) (h : Core m) (x : Int) : ∃ r, pD_has N m x = some r ∧ pM_has N m x = some r := by
  obtain ⟨-, -, h3, -, ⟨hg, hr, hnm⟩, hst, hac, hse, him, -⟩ := h
  have hn := hg.num
  have hbk := (vP_PQ m).bk
  have hq := vP_PQ m
  have he := vP_PE m
  have l39 : ln 39 = 64 := by decide +kernel
  have l43 : ln 43 = 6 := by decide +kernel
  have b13 : 0 ≤ m 475 13 ∧ m 475 13 < 2 := by rw [hbk]; exact hr.1
  unfold pD_has pM_has
  by_cases q0 : x = 0
  · simp (disch := omega) only [if_pos, if_neg]
    exact ⟨_, rfl, by rw [hbk, hq 477 _ (by unfold prc; omega), hr.2.1, he.d]⟩
  by_cases q1 : x = 1
  · simp (disch := omega) only [if_pos, if_neg]
    exact ⟨_, rfl, by rw [hbk, hq 478 _ (by unfold prc; omega), hr.2.2.1, he.d]⟩
  by_cases q2 : x = 2
  · simp (disch := omega) only [if_pos, if_neg]
    exact ⟨_, rfl, by rw [hbk, hq 480 _ (by unfold prc; omega), hr.2.2.2.1, he.d]⟩
  by_cases q3 : x = 3
  · simp (disch := omega) only [if_pos, if_neg]
    exact ⟨_, rfl, by rw [hst.2.1]; rfl⟩
  by_cases q4 : x = 4
  · simp (disch := omega) only [if_pos, if_neg]
    have hv : ∀ p, 0 ≤ p → p < vP m 2 2 → vS m 38 1 p = m 39 p := fun p h0 h1 => vS_in (by omega)
    refine ⟨sumR (m 39) (vP m 2 2).toNat, ?_, ?_⟩
    · rw [he.d 2, c_tot hN (by rw [l39]; omega) (by omega) (fun i h0 h1 => by have := hst.1.1 i h0 h1; rw [hv i h0 h1] at this; omega)]
      rfl
    · unfold pM_has_L95
      have h := r_has95 (N := N) (m := m) (d := m 39) (bo := fun _ _ => none) (kk := fun z2_116 => some z2_116) hg (fun p h0 h1 => by
        have a := hst.2.2.1 p h0 h1
        have b := hst.1.1 p h0 h1
        rw [hv p h0 h1] at a b
        rw [show 64 * 0 + ph (vP m) p = ph (vP m) p by omega] at a
        exact ⟨a, b⟩) (fun c h0 h1 h2 => by
        have a := hst.2.2.2.1 c h0 h1 h2
        rw [show 64 * 0 + c = c by omega] at a
        exact a) 64 N 0 (by omega) (by omega) (by omega)
      rw [(cn_end hn.1 hn.2.1).2] at h
      exact h
  by_cases q5 : x = 5
  · simp (disch := omega) only [if_pos, if_neg]
    have hv : ∀ p, 0 ≤ p → p < vP m 2 3 → vS m 38 5 p = m 43 p := fun p h0 h1 => vS_in (by omega)
    refine ⟨sumR (m 43) (vP m 2 3).toNat, ?_, ?_⟩
    · rw [he.d 3, c_tot hN (by rw [l43]; omega) (by omega) (fun i h0 h1 => by have := (hst.1.2.1 i h0 h1).2.2.2; rw [hv i h0 h1] at this; omega)]
      rfl
    · unfold pM_has_L120
      exact r_has120 (N := N) (m := m) (d := m 43) hg hr hq (fun p h0 h1 => by
        have a := (hst.2.2.2.2.1 p h0 h1).2.2.2
        have b := (hst.1.2.1 p h0 h1).2.2.2
        rw [hv p h0 h1] at a b
        rw [show 6 * 0 + p = p by omega] at a
        exact ⟨a, b⟩) (vP m 2 3).toNat N 0 (by omega) (by omega) (by omega)
  by_cases q6 : x = 6
  · simp (disch := omega) only [if_pos, if_neg]
    exact ⟨_, rfl, by rw [hst.2.2.2.2.2.1]; rfl⟩
  by_cases q7 : x = 7
  · simp (disch := omega) only [if_pos, if_neg]
    exact ⟨_, rfl, by rw [hse.1]⟩
  by_cases q8 : x = 8
  · simp (disch := omega) only [if_pos, if_neg]
    exact ⟨_, rfl, by rw [hac.2.1]⟩
  by_cases q9 : x = 9
  · simp (disch := omega) only [if_pos, if_neg]
    exact ⟨_, rfl, by rw [h3.1, w32_eq (by have := h3.2; omega) (by have := h3.2; omega)]⟩
  · simp (disch := omega) only [if_neg]
    exact ⟨_, rfl, rfl⟩
/-! the tape -/
def FT (o t : Int) (k : Int) (g : Int → Int) (m : Mem) : Mem := fun b j => if b = o ∧ j = 1 then m o 1 + 4 * k else if b = t ∧ m o 1 ≤ j ∧ j < m o 1 + 4 * k then a32 (shr32 (g ((j - m o 1) / 4)) (24 - 8 * ((j - m o 1) % 4))) 255 else m b j
def putP (o t c i : Int) (m : Mem) : Mem := fun b j => if b = o ∧ j = 1 then m o 1 + i else if b = t ∧ m o 1 ≤ j ∧ j < m o 1 + i then a32 (shr32 c (24 - 8 * (j - m o 1))) 255 else m b j
theorem FT_next {o t k : Int} {g : Int → Int} {m : Mem} (hot : o ≠ t) (hk : 0 ≤ k) : putP o t (g k) 4 (FT o t k g m) = FT o t (k + 1) g m := by
  have e : FT o t k g m o 1 = m o 1 + 4 * k := if_pos ⟨rfl, rfl⟩
  funext b j
  unfold putP
  rw [e]
  unfold FT
  by_cases q1 : b = o ∧ j = 1
  · rw [if_pos q1, if_pos q1]; omega
  · rw [if_neg q1, if_neg q1, if_neg q1]
    by_cases q2 : b = t ∧ m o 1 + 4 * k ≤ j ∧ j < m o 1 + 4 * k + 4
    · rw [if_pos q2, if_pos (by omega), show (j - m o 1) / 4 = k by omega, show j - (m o 1 + 4 * k) = (j - m o 1) % 4 by omega]
    · rw [if_neg q2]
      by_cases q3 : b = t ∧ m o 1 ≤ j ∧ j < m o 1 + 4 * k
      · rw [if_pos q3, if_pos (by omega)]
      · rw [if_neg q3, if_neg (by omega)]
theorem putP_next {o t c i : Int} {m : Mem} (hot : o ≠ t) (hi : 0 ≤ i) : mset (mset (putP o t c i m) t (m o 1 + i) (a32 (shr32 c (24 - 8 * i)) 255)) o 1 (m o 1 + i + 1) = putP o t c (i + 1) m := by
  funext b j
  unfold mset putP
  by_cases q1 : b = o ∧ j = 1
  · simp only [if_pos q1]; omega
  · simp only [if_neg q1]
    by_cases q2 : b = t ∧ j = m o 1 + i
    · rw [if_pos q2, if_pos (by omega), q2.2, show m o 1 + i - m o 1 = i by omega]
    · rw [if_neg q2]
      by_cases q3 : b = t ∧ m o 1 ≤ j ∧ j < m o 1 + i
      · rw [if_pos q3, if_pos (by omega)]
      · rw [if_neg q3, if_neg (by omega)]
theorem c_put {N : Nat} {m : Mem} {c : Int} (hN : 2000 ≤ N) (h : 0 ≤ m 0 1 ∧ m 0 1 + 4 ≤ 1600) : pD_put N m c = some (putP 0 1 c 4 m) := by
  have step : ∀ (k n : Nat) (i : Int), k < n → 0 ≤ i → i + k = 4 → lpF (fun _ _ => none) (pD_put_L3b N c (fun n49 => some n49)) n (24 - 8 * i) (putP 0 1 c i m) = some (putP 0 1 c 4 m) := by
    intro k
    induction k with
    | zero =>
      intro n i hn h0 hi
      obtain ⟨n, rfl⟩ : ∃ n', n = n' + 1 := ⟨n - 1, by omega⟩
      show pD_put_L3b N c _ (lpF _ _ n) _ _ = _
      unfold pD_put_L3b
      rw [if_pos (by omega), show i = 4 by omega]
    | succ k ih =>
      intro n i hn h0 hi
      obtain ⟨n, rfl⟩ : ∃ n', n = n' + 1 := ⟨n - 1, by omega⟩
      have ih' := ih n (i + 1) (by omega) (by omega) (by omega)
      show pD_put_L3b N c _ (lpF _ (pD_put_L3b N c (fun n49 => some n49)) n) _ _ = _
      generalize lpF _ (pD_put_L3b N c (fun n49 => some n49)) n = self at ih' ⊢
      unfold pD_put_L3b
      have e : putP 0 1 c i m 0 1 = m 0 1 + i := if_pos ⟨rfl, rfl⟩
      rw [e, if_neg (by omega), if_pos (by omega), if_pos (by omega)]
      show self (w32 (24 - 8 * i + -8)) (mset (mset (putP 0 1 c i m) 1 (m 0 1 + i) (a32 (shr32 c (24 - 8 * i)) 255)) 0 1 (w32 (mset (putP 0 1 c i m) 1 (m 0 1 + i) (a32 (shr32 c (24 - 8 * i)) 255) 0 1 + 1))) = _
      rw [mset_o (by omega), e, w32_eq (x := m 0 1 + i + 1) (by omega) (by omega), w32_eq (x := 24 - 8 * i + -8) (by omega) (by omega), putP_next (by decide) h0, show 24 - 8 * i + -8 = 24 - 8 * (i + 1) by omega]
      exact ih'
  have e0 : putP 0 1 c 0 m = m := by
    funext b j
    unfold putP
    by_cases q : b = 0 ∧ j = 1
    · rw [if_pos q, q.1, q.2]; omega
    · rw [if_neg q, if_neg (by omega)]
  have h := step 4 N 0 (by omega) (by omega) (by omega)
  rw [e0] at h
  exact h
theorem r_put {N : Nat} {m : Mem} {c : Int} (hN : 2000 ≤ N) (h : 0 ≤ m 475 1 ∧ m 475 1 + 4 ≤ 1600) : pM_put N m c = some (putP 475 476 c 4 m) := by
  have step : ∀ (k n : Nat) (i : Int), k < n → 0 ≤ i → i + k = 4 → lpF (fun _ _ => none) (pM_put_L3b N c (fun n39 => some n39)) n (24 - 8 * i) (putP 475 476 c i m) = some (putP 475 476 c 4 m) := by
    intro k
    induction k with
    | zero =>
      intro n i hn h0 hi
      obtain ⟨n, rfl⟩ : ∃ n', n = n' + 1 := ⟨n - 1, by omega⟩
      show pM_put_L3b N c _ (lpF _ _ n) _ _ = _
      unfold pM_put_L3b
      rw [if_pos (by omega), show i = 4 by omega]
    | succ k ih =>
      intro n i hn h0 hi
      obtain ⟨n, rfl⟩ : ∃ n', n = n' + 1 := ⟨n - 1, by omega⟩
      have ih' := ih n (i + 1) (by omega) (by omega) (by omega)
      show pM_put_L3b N c _ (lpF _ (pM_put_L3b N c (fun n39 => some n39)) n) _ _ = _
      generalize lpF _ (pM_put_L3b N c (fun n39 => some n39)) n = self at ih' ⊢
      unfold pM_put_L3b
      have e : putP 475 476 c i m 475 1 = m 475 1 + i := if_pos ⟨rfl, rfl⟩
      rw [e, if_neg (by omega), if_pos (by omega)]
      show self (w32 (24 - 8 * i + -8)) (mset (mset (putP 475 476 c i m) 476 (m 475 1 + i) (a32 (shr32 c (24 - 8 * i)) 255)) 475 1 (w32 (mset (putP 475 476 c i m) 476 (m 475 1 + i) (a32 (shr32 c (24 - 8 * i)) 255) 475 1 + 1))) = _
      rw [mset_o (by omega), e, w32_eq (x := m 475 1 + i + 1) (by omega) (by omega), w32_eq (x := 24 - 8 * i + -8) (by omega) (by omega), putP_next (by decide) h0, show 24 - 8 * i + -8 = 24 - 8 * (i + 1) by omega]
      exact ih'
  have e0 : putP 475 476 c 0 m = m := by
    funext b j
    unfold putP
    by_cases q : b = 475 ∧ j = 1
    · rw [if_pos q, q.1, q.2]; omega
    · rw [if_neg q, if_neg (by omega)]
  have h := step 4 N 0 (by omega) (by omega) (by omega)
  rw [e0] at h
  exact h
def five (a b c d e : Int) : Int → Int := fun k => if k = 0 then a else if k = 1 then b else if k = 2 then c else if k = 3 then d else e
theorem FT_0 (o t : Int) (g : Int → Int) (m : Mem) : FT o t 0 g m = m := by
  funext b j
  unfold FT
  by_cases q : b = o ∧ j = 1
  · rw [if_pos q, q.1, q.2]; omega
  · rw [if_neg q, if_neg (by omega)]
theorem c_feed {N : Nat} {m : Mem} {a b c d e : Int} (hN : 2000 ≤ N) (h0 : 0 ≤ m 0 1) (h : m 0 1 + 20 ≤ 1600) : pD_feed N m a b c d e = some (m 0 1 + 20, FT 0 1 5 (five a b c d e) m) := by
  have st : ∀ k : Int, 0 ≤ k → k ≤ 4 → pD_put N (FT 0 1 k (five a b c d e) m) (five a b c d e k) = some (FT 0 1 (k + 1) (five a b c d e) m) := fun k h1 h2 => by
    have e1 : FT 0 1 k (five a b c d e) m 0 1 = m 0 1 + 4 * k := if_pos ⟨rfl, rfl⟩
    rw [c_put hN (by rw [e1]; omega), FT_next (by decide) h1]
  unfold pD_feed
  rw [w32_eq (x := m 0 1 + 20) (by omega) (by omega), if_neg (by omega)]
  have s0 := st 0 (by omega) (by omega)
  rw [FT_0] at s0
  rw [show a = five a b c d e 0 from rfl, s0]
  show (pD_put N (FT 0 1 (0 + 1) (five a b c d e) m) (five a b c d e 1)).bind _ = _
  rw [show (0 : Int) + 1 = 1 from rfl, st 1 (by omega) (by omega)]
  show (pD_put N (FT 0 1 (1 + 1) (five a b c d e) m) (five a b c d e 2)).bind _ = _
  rw [show (1 : Int) + 1 = 2 from rfl, st 2 (by omega) (by omega)]
  show (pD_put N (FT 0 1 (2 + 1) (five a b c d e) m) (five a b c d e 3)).bind _ = _
  rw [show (2 : Int) + 1 = 3 from rfl, st 3 (by omega) (by omega)]
  show (pD_put N (FT 0 1 (3 + 1) (five a b c d e) m) (five a b c d e 4)).bind _ = _
  rw [show (3 : Int) + 1 = 4 from rfl, st 4 (by omega) (by omega)]
  have e1 : FT 0 1 (4 + 1) (five a b c d e) m 0 1 = m 0 1 + 20 := (if_pos ⟨rfl, rfl⟩ : _ = m 0 1 + 4 * (4 + 1)).trans (by omega)
  show some (FT 0 1 (4 + 1) (five a b c d e) m 0 1, _) = _
  rw [e1]
  rfl
theorem r_feed {N : Nat} {m : Mem} {a b c d e : Int} (hN : 2000 ≤ N) (h0 : 0 ≤ m 475 1) (h : m 475 1 + 20 ≤ 1600) : pM_feed N m a b c d e = some (m 475 1 + 20, FT 475 476 5 (five a b c d e) m) := by
  have st : ∀ k : Int, 0 ≤ k → k ≤ 4 → pM_put N (FT 475 476 k (five a b c d e) m) (five a b c d e k) = some (FT 475 476 (k + 1) (five a b c d e) m) := fun k h1 h2 => by
    have e1 : FT 475 476 k (five a b c d e) m 475 1 = m 475 1 + 4 * k := if_pos ⟨rfl, rfl⟩
    rw [r_put hN (by rw [e1]; omega), FT_next (by decide) h1]
  unfold pM_feed
  rw [w32_eq (x := m 475 1 + 20) (by omega) (by omega), if_neg (by omega)]
  have s0 := st 0 (by omega) (by omega)
  rw [FT_0] at s0
  rw [show a = five a b c d e 0 from rfl, s0]
  show (pM_put N (FT 475 476 (0 + 1) (five a b c d e) m) (five a b c d e 1)).bind _ = _
  rw [show (0 : Int) + 1 = 1 from rfl, st 1 (by omega) (by omega)]
  show (pM_put N (FT 475 476 (1 + 1) (five a b c d e) m) (five a b c d e 2)).bind _ = _
  rw [show (1 : Int) + 1 = 2 from rfl, st 2 (by omega) (by omega)]
  show (pM_put N (FT 475 476 (2 + 1) (five a b c d e) m) (five a b c d e 3)).bind _ = _
  rw [show (2 : Int) + 1 = 3 from rfl, st 3 (by omega) (by omega)]
  show (pM_put N (FT 475 476 (3 + 1) (five a b c d e) m) (five a b c d e 4)).bind _ = _
  rw [show (3 : Int) + 1 = 4 from rfl, st 4 (by omega) (by omega)]
  have e1 : FT 475 476 (4 + 1) (five a b c d e) m 475 1 = m 475 1 + 20 := (if_pos ⟨rfl, rfl⟩ : _ = m 475 1 + 4 * (4 + 1)).trans (by omega)
  show some (FT 475 476 (4 + 1) (five a b c d e) m 475 1, _) = _
  rw [e1]
  rfl
