/-! ACTS: chance, the call -/
theorem o_chance {N : Nat} {m : Mem} (hN : 2000 ≤ N) (h : Core m) (x : Int) : ∃ z m1 m2, pD_chance N m x = some (z, m1) ∧ pM_chance N m1 x = some (z, m2) ∧ OkA m m2 := by
  obtain ⟨-, -, h3, -, ⟨hg, hr, hnm⟩, hst, hac, -, -, hwk⟩ := id h
  obtain ⟨a1, a2, a3, a4, -⟩ := id hac
  have ho : ∀ i, 0 ≤ i → i < vP m 2 3 → 0 ≤ vP m 8 i ∧ vP m 8 i ≤ 99 := fun i h0 h1 => (hnm i h0 h1).1
  have d0 : vS m 38 0 0 = m 38 0 := rfl
  have dr := hst.1.2.2.1
  rw [d0] at dr
  have wl : w32 (999 - m 38 0) = 999 - m 38 0 := w32_eq (by omega) (by omega)
  by_cases q : 1 ≤ x ∧ x ≤ 40 ∧ m 38 0 + x ≤ 999
  · have hs' : 0 ≤ (m 52 1 + m 52 2) % 20 ∧ (m 52 1 + m 52 2) % 20 < 20 := by omega
    have hD : Rn (pD_chance N m x) (fun p => p.1 = (chK (vP m) x.toNat (0, m 0 14, vS m 38)).1 ∧ p.2 0 14 = (chK (vP m) x.toNat (0, m 0 14, vS m 38)).2.1 ∧ (0 ≤ (chK (vP m) x.toNat (0, m 0 14, vS m 38)).2.1 ∧ (chK (vP m) x.toNat (0, m 0 14, vS m 38)).2.1 < 2147483648) ∧ vS p.2 38 = (chK (vP m) x.toNat (0, m 0 14, vS m 38)).2.2 ∧ SB (vP m) (chK (vP m) x.toNat (0, m 0 14, vS m 38)).2.2 ∧ vS p.2 (54 + 7 * ((m 52 1 + m 52 2) % 20)) = vS m 38 ∧ p.2 52 1 = (if m 52 2 = 20 then (m 52 1 + 1) % 20 else m 52 1) ∧ p.2 52 2 = (if m 52 2 = 20 then 20 else m 52 2 + 1) ∧ NoC p.2 ∧ Fr (fun b j => (b = 52 ∧ (j = 1 ∨ j = 2)) ∨ FS (54 + 7 * ((m 52 1 + m 52 2) % 20)) b j ∨ FGc b j ∨ FLv 194 38 b j ∨ (b = 0 ∧ j = 14)) m p.2) := by
      unfold pD_chance jn
      dsimp only
      refine rn_f (by omega) ?_
      unfold pD_daysLeft
      rw [wl]
      refine rn_v (rn_f (by omega) ?_)
      refine rn_b (c_act a3 a4) (fun mA hA => ?_)
      obtain ⟨vA, eA1, eA2, nA, fA⟩ := hA
      generalize (m 52 1 + m 52 2) % 20 = s at *
      have vA38 : vS mA 38 = vS m 38 := vS_fr (fun b j q1 q2 _ => fA b j (by unfold FS FGc; omega))
      have peA : PE (vP m) mA := (vP_PE m).fr fA (fun b j q => by unfold plc at q; unfold FS FGc; omega)
      unfold pD_chance_L27
      refine c_ch_L (m0 := mA) (pl := vP m) hN hg ho peA q.2.1 x.toNat N 0 (0, m 0 14, vS m 38) mA (by omega) (by omega) (by omega) (fA _ _ (by unfold FS FGc; omega)) h3.2 vA38 hst.1 (by dsimp only; omega) Fr.rfl' (fun m1 sd1 sr1 v1 sb1 f1 => rn_s ⟨rfl, sd1, sr1, v1, sb1, ?_, ?_, ?_, ?_, ?_⟩)
      · dsimp only
        rw [← vA]
        exact vS_fr (fun b j q1 q2 _ => f1 b j (by unfold FLv; omega))
      · dsimp only
        rw [f1 _ _ (by unfold FLv; omega)]; exact eA1
      · dsimp only
        rw [f1 _ _ (by unfold FLv; omega)]; exact eA2
      · exact nA.fr (fun b j q => f1 b j (by unfold FGc at q; unfold FLv; omega))
      · exact (fA.mono (fun b j q => by rcases q with q | q | q; exact Or.inl q; exact Or.inr (Or.inl q); exact Or.inr (Or.inr (Or.inl q)))).trans (f1.mono (fun b j q => Or.inr (Or.inr (Or.inr q))))
    obtain ⟨⟨r, m1⟩, eD, hr1, sd1, sr1, hv, hsb, gV, eA1, eA2, n1, f1⟩ := hD
    dsimp only at hr1 sd1 hv gV eA1 eA2 n1 f1
    generalize hs : (m 52 1 + m 52 2) % 20 = s at *
    have q1 : PQ (vP m) m1 := (vP_PQ m).fr f1 (fun b j q => by unfold prc at q; unfold FS FGc FLv; omega)
    have s1 : SR (vP m) m1 0 (vS m 38) := hst.2.eq hg hst.1.2.2.2.2 (fun b j q => f1 b j (by have := FLy_b q; unfold FS FGc FLv; omega))
    have k51 : m1 475 51 = m 52 1 := by rw [f1 _ _ (by unfold FS FGc FLv; omega)]; exact a1
    have k52 : m1 475 52 = m 52 2 := by rw [f1 _ _ (by unfold FS FGc FLv; omega)]; exact a2
    have k62 : m1 475 62 = -1 := by rw [f1 _ _ (by unfold FS FGc FLv; omega)]; exact hwk
    have k53 : m1 475 53 = m 475 53 := f1 _ _ (by unfold FS FGc FLv; omega)
    have hM : Rn (pM_chance N m1 x) (fun p => p.1 = (chK (vP m) x.toNat (0, m 0 14, vS m 38)).1 ∧ p.2 475 53 = (chK (vP m) x.toNat (0, m 0 14, vS m 38)).2.1 ∧ SR (vP m) p.2 0 (chK (vP m) x.toNat (0, m 0 14, vS m 38)).2.2 ∧ SR (vP m) p.2 (2 + s) (vS m 38) ∧ p.2 475 51 = (if m 52 2 = 20 then (m 52 1 + 1) % 20 else m 52 1) ∧ p.2 475 52 = (if m 52 2 = 20 then 20 else m 52 2 + 1) ∧ Fr (fun b j => (b = 475 ∧ (j = 51 ∨ j = 52)) ∨ FLy (2 + s) b j ∨ FRp 0 b j ∨ (b = 475 ∧ j = 53)) m1 p.2) := by
      unfold pM_chance
      have e498 : m1 498 0 = m 38 0 := s1.1
      have ei : pM_isAhead m1 x 1 40 = some 1 := by
        rw [e_isAhead, if_pos ⟨⟨q.1, q.2.1⟩, by rw [e498, w32_eq (by omega) (by omega)]; omega⟩]
      refine rn_e ei ?_
      refine rn_f (show ¬ ((1 : Int) = 0) by omega) ?_
      refine rn_b (r_keeps hN hg (F := m 52 1) (n := m 52 2) k51 k52 a3 a4 s1 hst.1.2.2.2) (fun mB hB => ?_)
      rw [hs] at hB
      obtain ⟨sB, b1, b2, fB⟩ := hB
      have s0 : SR (vP m) mB 0 (vS m 38) := s1.eq hg hst.1.2.2.2.2 (fun b j z => fB b j (by
        have h1 := FLy_b z
        have h2 := FLy_x (w := 2 + s) (by omega) z
        intro c
        rcases c with c | c
        · omega
        · exact h2 c))
      have qB : PQ (vP m) mB := q1.fr fB (fun b j z c => by
        unfold prc at z
        rcases c with c | c
        · omega
        · have := FLy_b c; omega)
      have wB : mB 475 62 = -1 := by rw [fB _ _ (by unfold FLy; omega)]; exact k62
      have kB53 : mB 475 53 = m 0 14 := by rw [fB _ _ (by unfold FLy; omega), k53]; exact h3.1
      unfold pM_chance_L25
      refine r_ch_L (m0 := mB) (pl := vP m) hN hg ho hr qB wB q.2.1 x.toNat N 0 (0, m 0 14, vS m 38) mB (by omega) (by omega) (by omega) kB53 h3.2 s0 hst.1 (by dsimp only; rw [d0]; omega) (by dsimp only; omega) Fr.rfl' (fun m2 sd2 s2 f2 => rn_s ⟨rfl, sd2, s2, ?_, ?_, ?_, ?_⟩)
      · exact sB.eq hg hst.1.2.2.2.2 (fun b j z => f2 b j (by
          have h1 := FLy_b z
          have h2 := FLy_x (w := 0) (by omega) z
          intro c
          unfold FRp at c
          rcases c with (c | c | c) | c
          · omega
          · omega
          · exact h2 c
          · omega))
      · dsimp only
        rw [f2 _ _ (by unfold FRp FLy; omega)]; exact b1
      · dsimp only
        rw [f2 _ _ (by unfold FRp FLy; omega)]; exact b2
      · exact (fB.mono (fun b j q => by rcases q with q | q; exact Or.inl q; exact Or.inr (Or.inl q))).trans (f2.mono (fun b j q => Or.inr (Or.inr q)))
    obtain ⟨⟨r2, m2⟩, eM, hr2, sd2, c0, cS, b1, b2, f2⟩ := hM
    dsimp only at hr2 sd2 c0 cS b1 b2 f2
    refine ⟨_, m1, m2, by rw [eD, hr1], by rw [eM, hr2], act_core h hs f1 eA1 eA2 gV n1 hv hsb f2 b1 b2 cS c0 ?_⟩
    have j2 : m2 0 14 = m1 0 14 := f2 _ _ (by unfold FRp FLy; omega)
    unfold ISeed
    rw [sd2, j2, sd1]
    exact ⟨rfl, sr1⟩
  · refine ⟨-1, R1 m 2, R2 m 2, ?_, ?_, (R2_ok h (by omega)).a⟩
    · unfold pD_chance jn
      dsimp only
      by_cases q1 : x < 1
      · rw [if_pos q1, R1_e (by omega)]
        rfl
      · unfold pD_daysLeft
        rw [if_neg q1, wl, Option.bind_some, if_pos (by omega), R1_e (by omega)]
        rfl
    · have e498 : R1 m 2 498 0 = m 38 0 := by rw [R1_o (by omega)]; exact hst.2.1
      unfold pM_chance
      rw [e_isAhead, if_neg (fun c => q ⟨c.1.1, c.1.2, by have := c.2; rw [e498, w32_eq (by omega) (by omega)] at this; omega⟩), Option.bind_some, if_pos rfl, R2_e (by omega)]
      rfl
