/-! SEE -/
def rowOK (pl : Mem) (g : Int → Int) (r : Int) : Prop := ((0 ≤ g (4 * r + 1) ∧ g (4 * r + 1) < pl 2 0) ∧ (0 ≤ g (4 * r + 2) ∧ g (4 * r + 2) < pl 2 1)) ∧ g (4 * r) ≤ 8 ∧ g (4 * r + 3) ≤ 99
def seeL (L : Int) : Prop := 0 < L ∧ L % 4 = 0 ∧ L ≤ 64
def seeR (pl : Mem) (g : Int → Int) (L : Int) : Prop := ∀ r, 0 ≤ r → 4 * r < L → rowOK pl g r
def seeOK (pl : Mem) (g : Int → Int) (L : Int) : Prop := seeL L ∧ seeR pl g L
theorem c_lk33 {N : Nat} {Q : Int × Mem → Prop} {kk : Unit → Option (Int × Mem)} {bo : Int → Option (Int × Mem)} {pl m : Mem} {g : Int → Int} {L c3 : Int} (hg : PG pl) (he : PE pl m) (hL : L ≤ 64) (hB : gB g L) (hm : ∀ j, 0 ≤ j → j < L → m 1 j = g j) (hk : seeR pl g L → Rn (kk ()) Q) (hbad : ¬ seeR pl g L → Q (0, m)) :
    ∀ (k n : Nat) (r : Int), k < n → 0 ≤ r → 4 * r + 4 * k = L → (∀ r', 0 ≤ r' → r' < r → rowOK pl g r') → Rn (lpF bo (pK_look_L33b N m L c3 kk) n (4 * r)) Q := by
  have hn := hg.num
  intro k
  induction k with
  | zero =>
    intro n r hkn h0 hx ho
    obtain ⟨n, rfl⟩ : ∃ n', n = n' + 1 := ⟨n - 1, by omega⟩
    show Rn (pK_look_L33b N m L c3 kk (lpF bo (pK_look_L33b N m L c3 kk) n) (4 * r)) Q
    generalize lpF bo (pK_look_L33b N m L c3 kk) n = self
    unfold pK_look_L33b
    refine rn_f (by omega) ?_
    exact hk (fun r' q0 q1 => ho r' q0 (by omega))
  | succ k ih =>
    intro n r hkn h0 hx ho
    obtain ⟨n, rfl⟩ : ∃ n', n = n' + 1 := ⟨n - 1, by omega⟩
    have ih' := ih n (r + 1) (by omega) (by omega) (by omega)
    rw [show 4 * (r + 1) = 4 * r + 4 by omega] at ih'
    have g0 := hm (4 * r) (by omega) (by omega)
    have g1 := hm (4 * r + 1) (by omega) (by omega)
    have g2 := hm (4 * r + 2) (by omega) (by omega)
    have g3 := hm (4 * r + 3) (by omega) (by omega)
    have bad : ¬ rowOK pl g r → Rn (some ((0 : Int), m)) Q := fun c => rn_s (hbad (fun d => c (d r h0 (by omega))))
    show Rn (pK_look_L33b N m L c3 kk (lpF bo (pK_look_L33b N m L c3 kk) n) (4 * r)) Q
    generalize lpF bo (pK_look_L33b N m L c3 kk) n = self at ih' ⊢
    unfold pK_look_L33b
    rw [w32_eq (x := 4 * r + 1) (by omega) (by omega), w32_eq (x := 4 * r + 2) (by omega) (by omega), w32_eq (x := 4 * r + 3) (by omega) (by omega), w32_eq (x := 4 * r + 4) (by omega) (by omega), g0, g1, g2, g3]
    refine rn_t (by omega) (rn_t (by omega) (rn_t (by omega) ?_))
    refine rn_e (e_cellAt hg he _ _) ?_
    by_cases q1 : (0 ≤ g (4 * r + 1) ∧ g (4 * r + 1) < pl 2 0) ∧ (0 ≤ g (4 * r + 2) ∧ g (4 * r + 2) < pl 2 1)
    · have hat := at_ph hg q1
      rw [if_pos q1, if_neg (show ¬ g (4 * r + 2) * pl 2 0 + g (4 * r + 1) = -1 by omega)]
      refine rn_v (rn_f (show ¬ ((1 : Int) = 0) by omega) (rn_t (by omega) ?_))
      refine rn_i (fun q2 => bad (fun c => by have := c.2.1; omega)) (fun q2 => rn_t (by omega) ?_)
      refine rn_i (fun q3 => bad (fun c => by have := c.2.2; omega)) (fun q3 => rn_v ?_)
      refine ih' (fun r' q4 q5 => ?_)
      by_cases q6 : r' = r
      · rw [q6]; exact ⟨q1, by omega, by omega⟩
      · exact ho r' q4 (by omega)
    · rw [if_neg q1, if_pos rfl]
      refine rn_v (rn_t rfl (bad (fun c => q1 c.1)))
def LkQ (pl : Mem) (g : Int → Int) (L : Int) (m : Mem) (r : Int × Mem) : Prop := (seeOK pl g L ∧ r.1 = 1 ∧ r.2 396 3 = L / 4 ∧ (∀ j, 0 ≤ j → j < L → r.2 397 j = g j) ∧ (r.2 396 11 = 0 ∧ r.2 396 12 = 0) ∧ Fr (fun b j => (b = 396 ∧ (j = 3 ∨ j = 11 ∨ j = 12)) ∨ b = 397) m r.2) ∨ (¬ seeOK pl g L ∧ r.1 = 0 ∧ r.2 = m)
theorem c_look {N : Nat} {pl m : Mem} {g : Int → Int} {L : Int} (hN : 2000 ≤ N) (hg : PG pl) (he : PE pl m) (hL : 0 ≤ L ∧ L ≤ 1600) (hB : gB g L) (hm : ∀ j, 0 ≤ j → j < L → m 1 j = g j) : Rn (pK_look N m L) (LkQ pl g L m) := by
  unfold pK_look
  rw [d32_eq (by omega) (by omega) (by omega) (by omega)]
  refine rn_v ?_
  rw [w32_eq (x := L / 4 * 4) (by omega) (by omega)]
  have bad : ¬ seeOK pl g L → Rn (some ((0 : Int), m)) (LkQ pl g L m) := fun c => rn_s (Or.inr ⟨c, rfl, rfl⟩)
  refine rn_i (fun q1 => bad (fun c => by have := c.1; unfold seeL at this; omega)) (fun q1 => ?_)
  refine rn_i (fun q2 => bad (fun c => by have := c.1; unfold seeL at this; omega)) (fun q2 => ?_)
  refine rn_i (fun q3 => ?_) (fun q3 => bad (fun c => by have := c.1; unfold seeL at this; omega))
  refine rn_f (by omega) ?_
  have hl : seeL L := by unfold seeL; omega
  unfold pK_look_L33
  refine c_lk33 (g := g) hg he hl.2.2 hB hm (fun hr => ?_) (fun hr => Or.inr ⟨fun c => hr c.2, rfl, rfl⟩) (L / 4).toNat N 0 (by omega) (by omega) (by omega) (fun r' _ _ => by omega)
  refine rn_t (by omega) ?_
  refine rn_l (fun m1 hm1 => ?_)
  have e1 : ∀ j, 0 ≤ j → j < L → m1 397 j = g j := fun j h0 h1 => by
    rw [hm1, mcpy_i (by omega), show (0 : Int) + (j - 0) = j by omega]
    exact hm j h0 h1
  have f1 : Fr (fun b j => (b = 396 ∧ (j = 3 ∨ j = 11 ∨ j = 12)) ∨ b = 397) m m1 := by rw [hm1]; exact Fr.rfl'.cpy (fun j _ _ => Or.inr rfl)
  clear hm1
  unfold pK_forget
  refine rn_l (fun m2 hm2 => ?_)
  have e2 : m2 396 3 = L / 4 := by rw [hm2, mset_s rfl rfl]
  have f2 : Fr (fun b j => b = 396 ∧ j = 3) m1 m2 := by rw [hm2]; exact Fr.rfl'.set ⟨rfl, rfl⟩
  clear hm2
  refine rn_b (P := fun m3 => m3 = mset (mset m2 396 11 0) 396 12 0) (rn_v (rn_v (rn_s rfl))) (fun m3 h3 => rn_s (Or.inl ⟨⟨hl, hr⟩, rfl, ?_, fun j h0 h1 => ?_, ⟨?_, ?_⟩, ?_⟩))
  · dsimp only
    rw [h3, mset_o (by omega), mset_o (by omega)]; exact e2
  · dsimp only
    rw [h3, mset_o (by omega), mset_o (by omega), f2 _ _ (by omega)]
    exact e1 j h0 h1
  · dsimp only
    rw [h3, mset_o (by omega), mset_s rfl rfl]
  · dsimp only
    rw [h3, mset_s rfl rfl]
  · dsimp only
    rw [h3]
    exact ((f1.trans (f2.mono (fun b j q => Or.inl ⟨q.1, Or.inl q.2⟩))).set (Or.inl ⟨rfl, Or.inr (Or.inl rfl)⟩)).set (Or.inl ⟨rfl, Or.inr (Or.inr rfl)⟩)
theorem r_se0 {N : Nat} {m : Mem} {L : Int} {kk : Int → Option (Int × Mem)} {bo : Int → Int → Option (Int × Mem)} {n : Nat} {x : Int} (hn : 0 < n) : lpF bo (pM_see_L34b N m L kk) n 0 x = kk 0 := by
  obtain ⟨n, rfl⟩ : ∃ n', n = n' + 1 := ⟨n - 1, by omega⟩
  show pM_see_L34b N m L kk (lpF bo (pM_see_L34b N m L kk) n) 0 x = _
  generalize lpF bo (pM_see_L34b N m L kk) n = self
  unfold pM_see_L34b
  by_cases q : x < L
  · rw [if_pos q, if_pos rfl]
  · rw [if_neg q]
theorem r_se34 {N : Nat} {Q : Int × Mem → Prop} {kk : Int → Option (Int × Mem)} {bo : Int → Int → Option (Int × Mem)} {pl m : Mem} {g : Int → Int} {L : Int} (hg : PG pl) (hr : PR pl) (hq : PQ pl m) (hL : L ≤ 64) (hB : gB g L) (hm : ∀ j, 0 ≤ j → j < L → m 476 j = g j) (hk : seeR pl g L → Rn (kk 1) Q) (hbad : ¬ seeR pl g L → Rn (kk 0) Q) :
    ∀ (k n : Nat) (r : Int), k + 1 < n → 0 ≤ r → 4 * r + 4 * k = L → (∀ r', 0 ≤ r' → r' < r → rowOK pl g r') → Rn (lpF bo (pM_see_L34b N m L kk) n 1 (4 * r)) Q := by
  have hn := hg.num
  intro k
  induction k with
  | zero =>
    intro n r hkn h0 hx ho
    obtain ⟨n, rfl⟩ : ∃ n', n = n' + 1 := ⟨n - 1, by omega⟩
    show Rn (pM_see_L34b N m L kk (lpF bo (pM_see_L34b N m L kk) n) 1 (4 * r)) Q
    generalize lpF bo (pM_see_L34b N m L kk) n = self
    unfold pM_see_L34b
    refine rn_f (by omega) ?_
    exact hk (fun r' q0 q1 => ho r' q0 (by omega))
  | succ k ih =>
    intro n r hkn h0 hx ho
    obtain ⟨n, rfl⟩ : ∃ n', n = n' + 1 := ⟨n - 1, by omega⟩
    have ih' := ih n (r + 1) (by omega) (by omega) (by omega)
    rw [show 4 * (r + 1) = 4 * r + 4 by omega] at ih'
    have g0 := hm (4 * r) (by omega) (by omega)
    have g1 := hm (4 * r + 1) (by omega) (by omega)
    have g2 := hm (4 * r + 2) (by omega) (by omega)
    have g3 := hm (4 * r + 3) (by omega) (by omega)
    have b3 := hB (4 * r + 3) (by omega) (by omega)
    have hz : ∀ y, lpF bo (pM_see_L34b N m L kk) n 0 y = kk 0 := fun y => r_se0 (by omega)
    show Rn (pM_see_L34b N m L kk (lpF bo (pM_see_L34b N m L kk) n) 1 (4 * r)) Q
    generalize lpF bo (pM_see_L34b N m L kk) n = self at ih' hz ⊢
    have bad : ¬ rowOK pl g r → Rn (self 0 (4 * r + 4)) Q := fun c => by rw [hz]; exact hbad (fun d => c (d r h0 (by omega)))
    unfold pM_see_L34b
    rw [w32_eq (x := 4 * r + 1) (by omega) (by omega), w32_eq (x := 4 * r + 2) (by omega) (by omega), w32_eq (x := 4 * r + 3) (by omega) (by omega), w32_eq (x := 4 * r + 4) (by omega) (by omega), g0, g1, g2, g3]
    refine rn_t (by omega) (rn_f (show ¬ ((1 : Int) = 0) by omega) (rn_t (by omega) ?_))
    refine rn_i (fun q2 => ?_) (fun q2 => rn_v (bad (fun c => by have := c.2.1; omega)))
    refine rn_t (by omega) (rn_t (by omega) ?_)
    refine rn_e (e_isCell hg hr hq _ _) ?_
    by_cases q1 : (0 ≤ g (4 * r + 1) ∧ g (4 * r + 1) < pl 2 0) ∧ (0 ≤ g (4 * r + 2) ∧ g (4 * r + 2) < pl 2 1)
    · rw [if_pos q1]
      refine rn_f (show ¬ ((1 : Int) = 0) by omega) (rn_t (by omega) ?_)
      refine rn_i (fun q3 => rn_v (bad (fun c => by have := c.2.2; omega))) (fun q3 => rn_v ?_)
      refine ih' (fun r' q4 q5 => ?_)
      by_cases q6 : r' = r
      · rw [q6]; exact ⟨q1, by omega, by omega⟩
      · exact ho r' q4 (by omega)
    · rw [if_neg q1]
      exact rn_t rfl (rn_v (bad (fun c => q1 c.1)))
def SQ (g : Int → Int) (m : Mem) (x : Int) : Prop := m 516 x = g (4 * x) ∧ m 517 x = 8 * g (4 * x + 2) + g (4 * x + 1) ∧ m 518 x = g (4 * x + 3)
theorem r_se121 {N : Nat} {Q : Int × Mem → Prop} {kk : Mem → Option (Int × Mem)} {bo : Int → Mem → Option (Int × Mem)} {m0 : Mem} {g : Int → Int} {K : Int} (hK : 0 ≤ K ∧ K ≤ 16) (h68 : m0 475 68 = K) (hm : ∀ j, 0 ≤ j → j < 4 * K → m0 476 j = g j ∧ (0 ≤ g j ∧ g j ≤ 255)) (hk : ∀ m', (∀ x, 0 ≤ x → x < K → SQ g m' x) → Fr (fun b _ => 516 ≤ b ∧ b ≤ 518) m0 m' → Rn (kk m') Q) :
    ∀ (k n : Nat) (x : Int) (m : Mem), k < n → 0 ≤ x → x + k = K → (∀ y, 0 ≤ y → y < x → SQ g m y) → Fr (fun b _ => 516 ≤ b ∧ b ≤ 518) m0 m → Rn (lpF bo (pM_see_L121b N kk) n x m) Q := by
  intro k
  induction k with
  | zero =>
    intro n x m hkn h0 hx hs hf
    obtain ⟨n, rfl⟩ : ∃ n', n = n' + 1 := ⟨n - 1, by omega⟩
    show Rn (pM_see_L121b N kk (lpF bo (pM_see_L121b N kk) n) x m) Q
    generalize lpF bo (pM_see_L121b N kk) n = self
    unfold pM_see_L121b
    have e : m 475 68 = K := (hf _ _ (by omega)).trans h68
    rw [e]
    refine rn_f (by omega) ?_
    exact hk m (fun y q0 q1 => hs y q0 (by omega)) hf
  | succ k ih =>
    intro n x m hkn h0 hx hs hf
    obtain ⟨n, rfl⟩ : ∃ n', n = n' + 1 := ⟨n - 1, by omega⟩
    have ih' := ih n (x + 1)
    show Rn (pM_see_L121b N kk (lpF bo (pM_see_L121b N kk) n) x m) Q
    generalize lpF bo (pM_see_L121b N kk) n = self at ih' ⊢
    unfold pM_see_L121b
    have e : m 475 68 = K := (hf _ _ (by omega)).trans h68
    have e4 : ∀ j, 0 ≤ j → j < 4 * K → m 476 j = g j := fun j q0 q1 => (hf _ _ (by omega)).trans (hm j q0 q1).1
    have b1 := (hm (4 * x + 1) (by omega) (by omega)).2
    have b2 := (hm (4 * x + 2) (by omega) (by omega)).2
    rw [e, w32_eq (x := 4 * x) (by omega) (by omega), w32_eq (x := 4 * x + 1) (by omega) (by omega), w32_eq (x := 4 * x + 2) (by omega) (by omega), w32_eq (x := 4 * x + 3) (by omega) (by omega), w32_eq (x := x + 1) (by omega) (by omega), e4 (4 * x) (by omega) (by omega)]
    refine rn_t (by omega) (rn_t (by omega) (rn_t (by omega) (rn_l (fun m1 hm1 => ?_))))
    have o1 : ∀ j, m1 476 j = m 476 j := fun j => by rw [hm1, mset_o (by omega)]
    rw [o1, o1, e4 (4 * x + 2) (by omega) (by omega), e4 (4 * x + 1) (by omega) (by omega), w32_eq (x := 8 * g (4 * x + 2)) (by omega) (by omega), w32_eq (x := 8 * g (4 * x + 2) + g (4 * x + 1)) (by omega) (by omega)]
    refine rn_t (by omega) (rn_t (by omega) (rn_t (by omega) (rn_l (fun m2 hm2 => ?_))))
    have o2 : ∀ j, m2 476 j = m 476 j := fun j => by rw [hm2, mset_o (by omega)]; exact o1 j
    rw [o2, e4 (4 * x + 3) (by omega) (by omega)]
    refine rn_t (by omega) (rn_t (by omega) (rn_l (fun m3 hm3 => rn_v ?_)))
    refine ih' m3 (by omega) (by omega) (by omega) (fun y q0 q1 => ?_) ?_
    · by_cases q : y = x
      · rw [q]
        unfold SQ
        rw [hm3, mset_o (by omega), mset_o (by omega), mset_s rfl rfl, hm2, mset_o (by omega), mset_s rfl rfl, hm1, mset_s rfl rfl]
        exact ⟨rfl, rfl, rfl⟩
      · have h5 := hs y q0 (by omega)
        unfold SQ
        rw [hm3, mset_o (by omega), mset_o (by omega), mset_o (by omega), hm2, mset_o (by omega), mset_o (by omega), mset_o (by omega), hm1, mset_o (by omega), mset_o (by omega), mset_o (by omega)]
        exact h5
    · rw [hm3, hm2, hm1]
      exact ((hf.set (by omega)).set (by omega)).set (by omega)
theorem r_see {N : Nat} {pl m : Mem} {g : Int → Int} {L : Int} (hN : 2000 ≤ N) (hg : PG pl) (hr : PR pl) (hq : PQ pl m) (hL : 0 ≤ L ∧ L ≤ 1600) (hB : gB g L) (hm : ∀ j, 0 ≤ j → j < L → m 476 j = g j) (h1 : m 475 1 = L) : Rn (pM_see N m) (fun r => (seeOK pl g L ∧ r.1 = L / 4 ∧ r.2 475 1 = 0 ∧ r.2 475 68 = L / 4 ∧ (∀ x, 0 ≤ x → x < L / 4 → SQ g r.2 x) ∧ Fr (fun b j => (b = 475 ∧ (j = 1 ∨ j = 68)) ∨ (516 ≤ b ∧ b ≤ 518)) m r.2) ∨ (¬ seeOK pl g L ∧ r = (-1, mset (mset m 475 1 0) 497 5 (w32 (m 497 5 + 1))))) := by
  unfold pM_see
  rw [h1]
  refine rn_v (rn_l (fun m1 hm1 => ?_))
  rw [r32_eq (by omega) (by omega) (by omega) (by omega), d32_eq (by omega) (by omega) (by omega) (by omega)]
  have fin0 : ¬ seeOK pl g L → Rn ((fun z2_102 : Int => if z2_102 = 0 then (pM_refuses m1 5).bind fun (r108, m108) => some (r108, m108) else (some (mset m1 475 68 (L / 4))).bind fun m116 => pM_see_L121 N (fun n195 => some (n195 475 68, n195)) N 0 m116) (0 : Int)) (fun r => (seeOK pl g L ∧ r.1 = L / 4 ∧ r.2 475 1 = 0 ∧ r.2 475 68 = L / 4 ∧ (∀ x, 0 ≤ x → x < L / 4 → SQ g r.2 x) ∧ Fr (fun b j => (b = 475 ∧ (j = 1 ∨ j = 68)) ∨ (516 ≤ b ∧ b ≤ 518)) m r.2) ∨ (¬ seeOK pl g L ∧ r = (-1, mset (mset m 475 1 0) 497 5 (w32 (m 497 5 + 1))))) := fun c => by
    dsimp only
    rw [if_pos rfl, e_refM (by omega)]
    refine rn_v (rn_s (Or.inr ⟨c, ?_⟩))
    rw [hm1, mset_o (by omega)]
  have q1 : PQ pl m1 := hq.fr (S := fun b j => b = 475 ∧ j = 1) (by rw [hm1]; exact Fr.rfl'.set ⟨rfl, rfl⟩) (fun b j q => by unfold prc at q; omega)
  have k1 : ∀ j, 0 ≤ j → j < L → m1 476 j = g j := fun j h0 h1 => by rw [hm1, mset_o (by omega)]; exact hm j h0 h1
  by_cases hl : seeL L
  · have hl' := hl
    unfold seeL at hl'
    rw [if_pos (show 0 < L by omega), if_pos (show L % 4 = 0 by omega), if_neg (show ¬ 64 < L by omega)]
    refine rn_v ?_
    unfold pM_see_L34
    refine r_se34 (g := g) hg hr q1 hl'.2.2 hB k1 (fun hR => ?_) (fun hR => fin0 (fun c => hR c.2)) (L / 4).toNat N 0 (by omega) (by omega) (by omega) (fun r' _ _ => by omega)
    dsimp only
    rw [if_neg (show ¬ ((1 : Int) = 0) by omega)]
    refine rn_l (fun m2 hm2 => ?_)
    have k68 : m2 475 68 = L / 4 := by rw [hm2, mset_s rfl rfl]
    have k01 : m2 475 1 = 0 := by rw [hm2, mset_o (by omega), hm1, mset_s rfl rfl]
    have k476 : ∀ j, m2 476 j = m1 476 j := fun j => by rw [hm2, mset_o (by omega)]
    have f2 : Fr (fun b j => (b = 475 ∧ (j = 1 ∨ j = 68)) ∨ (516 ≤ b ∧ b ≤ 518)) m m2 := by
      rw [hm2, hm1]
      exact (Fr.rfl'.set (by omega)).set (by omega)
    clear hm2
    unfold pM_see_L121
    refine r_se121 (m0 := m2) (g := g) (K := L / 4) (by omega) k68 (fun j h0 h1 => ⟨by rw [k476]; exact k1 j h0 (by omega), hB j h0 (by omega)⟩) (fun m3 h3 f3 => rn_s (Or.inl ⟨⟨hl, hR⟩, ?_, ?_, ?_, h3, f2.trans (f3.mono (fun b j q => Or.inr q))⟩)) (L / 4).toNat N 0 m2 (by omega) (by omega) (by omega) (fun y _ _ => by omega) Fr.rfl'
    · dsimp only
      rw [f3 _ _ (by omega)]; exact k68
    · dsimp only
      rw [f3 _ _ (by omega)]; exact k01
    · dsimp only
      rw [f3 _ _ (by omega)]; exact k68
  · have e0 : (if 0 < L then if L % 4 = 0 then if 64 < L then (0 : Int) else 1 else 0 else 0) = 0 := by
      by_cases a1 : 0 < L
      · rw [if_pos a1]
        by_cases a2 : L % 4 = 0
        · rw [if_pos a2]
          by_cases a3 : 64 < L
          · rw [if_pos a3]
          · exact absurd ⟨a1, a2, by omega⟩ hl
        · rw [if_neg a2]
      · rw [if_neg a1]
    rw [e0]
    refine rn_v ?_
    unfold pM_see_L34
    rw [r_se0 (by omega)]
    exact fin0 (fun c => hl c.1)
