/-! ACTS: rise, move, weave, undo -/
def OkA (m m2 : Mem) : Prop := Core m2 ∧ (Fr FSm m m2 ∨ NoC m2)
theorem OkS.a {m m2 : Mem} (h : OkS m m2) : OkA m m2 := ⟨h.1, Or.inl h.2⟩
/-- where acts write -/
def FAc : Int → Int → Prop := fun b j => (b = 52 ∧ (j = 1 ∨ j = 2)) ∨ (54 ≤ b ∧ b ≤ 193) ∨ FGc b j ∨ (38 ≤ b ∧ b ≤ 44) ∨ (b = 475 ∧ (j = 51 ∨ j = 52)) ∨ (498 ≤ b ∧ b ≤ 505)
theorem FAc_CA {b j : Int} (h : CA b j) : ¬ FAc b j := by
  unfold FAc FGc
  rcases h with h | h | h | h | h | h | h
  · unfold A1 at h; omega
  · unfold A2 at h; omega
  · unfold A4 at h; omega
  · unfold A5 plc prc at h; omega
  · unfold A8 at h; omega
  · unfold A9 at h; omega
  · unfold A10 at h; omega
theorem FAc_A3 {b j : Int} (h : A3 b j) : ¬ FAc b j := by
  unfold A3 at h
  unfold FAc FGc
  omega
theorem FLy_b {v b j : Int} (h : FLy v b j) : 498 ≤ b ∧ b ≤ 505 := by
  unfold FLy at h
  omega
theorem FLy_x {v w b j : Int} (hvw : v ≠ w) (h : FLy v b j) : ¬ FLy w b j := by
  unfold FLy at *
  omega
theorem vS_set {m : Mem} {s k0 j0 v : Int} (h : (2 ≤ k0 ∧ k0 ≤ 5) ∧ 0 ≤ j0 ∧ j0 < 6) : vS (mset m (s + k0) j0 v) s = mset (vS m s) k0 j0 v := by
  funext k j
  unfold vS mset
  by_cases hk : (k = 1 ∧ 0 ≤ j ∧ j < 64) ∨ ((2 ≤ k ∧ k ≤ 5) ∧ 0 ≤ j ∧ j < 6) ∨ (k = 6 ∧ 0 ≤ j ∧ j < 120)
  · have e : (s + k = s + k0 ∧ j = j0) ↔ (k = k0 ∧ j = j0) := by omega
    simp only [if_pos hk, e]
  · rw [if_neg hk, if_neg (show ¬ (s = s + k0 ∧ j = j0) by omega), if_neg (show ¬ (k = k0 ∧ j = j0) by omega)]
    dsimp only
    rw [if_neg hk]
theorem o_actset {N : Nat} {m : Mem} (hN : 2000 ≤ N) (h : Core m) {k0 i x y : Int} (hk : 2 ≤ k0 ∧ k0 ≤ 4) (hi : 0 ≤ i ∧ i < 6) (hSB : SB (vP m) (mset (vS m 38) k0 i x)) (hSR : ∀ m', SR (vP m) m' 0 (vS m 38) → SR (vP m) (mset m' (498 + k0) i y) 0 (mset (vS m 38) k0 i x)) : ∃ mA mB, pD_beginAct m = some mA ∧ PQ (vP m) (mset mA (38 + k0) i x) ∧ SR (vP m) (mset mA (38 + k0) i x) 0 (vS m 38) ∧ pM_keeps N (mset mA (38 + k0) i x) = some mB ∧ OkA m (mset mB (498 + k0) i y) := by
  obtain ⟨-, -, h3, -, ⟨hg, hr, hnm⟩, hst, hac, -, -, -⟩ := id h
  obtain ⟨a1, a2, a3, a4, -⟩ := id hac
  obtain ⟨mA, eA, vA, eA1, eA2, nA, fA⟩ := c_act a3 a4
  generalize hs : (m 52 1 + m 52 2) % 20 = s at vA fA
  have hs' : 0 ≤ s ∧ s < 20 := by omega
  have f1 : Fr (fun b j => (b = 52 ∧ (j = 1 ∨ j = 2)) ∨ FS (54 + 7 * s) b j ∨ FGc b j ∨ (b = 38 + k0)) m (mset mA (38 + k0) i x) := (fA.mono (fun b j q => by rcases q with q | q | q; exact Or.inl q; exact Or.inr (Or.inl q); exact Or.inr (Or.inr (Or.inl q)))).set (Or.inr (Or.inr (Or.inr rfl)))
  have g1 : mset mA (38 + k0) i x 52 1 = mA 52 1 := mset_o (by omega)
  have g2 : mset mA (38 + k0) i x 52 2 = mA 52 2 := mset_o (by omega)
  have gS : vS (mset mA (38 + k0) i x) 38 = mset (vS m 38) k0 i x := by
    rw [vS_set (by omega), show vS mA 38 = vS m 38 from vS_fr (fun b j q1 q2 _ => fA b j (by unfold FS FGc; omega))]
  have gV : vS (mset mA (38 + k0) i x) (54 + 7 * s) = vS m 38 := by
    rw [show vS (mset mA (38 + k0) i x) (54 + 7 * s) = vS mA (54 + 7 * s) from vS_fr (fun b j q1 q2 _ => mset_o (by omega))]
    exact vA
  have n1 : NoC (mset mA (38 + k0) i x) := nA.fr (fun b j q => mset_o (by unfold FGc at q; omega))
  generalize hm1 : mset mA (38 + k0) i x = m1 at f1 g1 g2 gS gV n1
  have q1 : PQ (vP m) m1 := (vP_PQ m).fr f1 (fun b j q => by unfold prc at q; unfold FS FGc; omega)
  have s1 : SR (vP m) m1 0 (vS m 38) := hst.2.eq hg hst.1.2.2.2.2 (fun b j q => f1 b j (by have := FLy_b q; unfold FS FGc; omega))
  obtain ⟨mB, eB, sB, b1, b2, fB⟩ := r_keeps hN hg (F := m 52 1) (n := m 52 2) (by rw [f1 _ _ (by unfold FS FGc; omega)]; exact a1) (by rw [f1 _ _ (by unfold FS FGc; omega)]; exact a2) a3 a4 s1 hst.1.2.2.2
  rw [hs] at sB fB
  have s0 : SR (vP m) mB 0 (vS m 38) := s1.eq hg hst.1.2.2.2.2 (fun b j q => fB b j (by
    have h1 := FLy_b q
    have h2 := FLy_x (w := 2 + s) (by omega) q
    intro c
    rcases c with c | c
    · omega
    · exact h2 c))
  refine ⟨mA, mB, eA, by rw [hm1]; exact q1, by rw [hm1]; exact s1, by rw [hm1]; exact eB, ?_⟩
  have fB2 : Fr (fun b j => (b = 475 ∧ (j = 51 ∨ j = 52)) ∨ FLy (2 + s) b j ∨ (b = 498 + k0 ∧ j = i)) m1 (mset mB (498 + k0) i y) := (fB.mono (fun b j q => by rcases q with q | q; exact Or.inl q; exact Or.inr (Or.inl q))).set (Or.inr (Or.inr ⟨rfl, rfl⟩))
  have lo : ∀ b j, b < 475 → mset mB (498 + k0) i y b j = m1 b j := fun b j q => fB2 b j (by
    intro c
    rcases c with c | c | c
    · omega
    · have := FLy_b c; omega
    · omega)
  have F : Fr FAc m (mset mB (498 + k0) i y) := (f1.mono (T := FAc) (fun b j q => by unfold FS FGc at q; unfold FAc FGc; omega)).trans (fB2.mono (fun b j q => by
    unfold FAc
    rcases q with q | q | q
    · omega
    · have := FLy_b q; omega
    · omega))
  have c1 : mset mB (498 + k0) i y 475 51 = mB 475 51 := mset_o (by omega)
  have c2 : mset mB (498 + k0) i y 475 52 = mB 475 52 := mset_o (by omega)
  have cS : SR (vP m) (mset mB (498 + k0) i y) (2 + s) (vS m 38) := sB.eq hg hst.1.2.2.2.2 (fun b j q => mset_o (by unfold FLy at q; omega))
  have c0 := hSR mB s0
  generalize hm2 : mset mB (498 + k0) i y = m2 at fB2 lo F c1 c2 cS c0
  have v38 : vS m2 38 = mset (vS m 38) k0 i x := by
    rw [← gS]
    exact vS_fr (fun b j q1 q2 _ => lo b j (by omega))
  refine ⟨h.act (fun b j q => F b j (FAc_CA q)) (h3.fr (fun b j q => F b j (FAc_A3 q))) ⟨by rw [v38]; exact hSB, by rw [v38]; exact c0⟩ ?_, Or.inr (n1.fr (fun b j q => lo b j (by unfold FGc at q; omega)))⟩
  have k1 : m2 52 1 = (if m 52 2 = 20 then (m 52 1 + 1) % 20 else m 52 1) := by rw [lo _ _ (by omega), g1]; exact eA1
  have k2 : m2 52 2 = (if m 52 2 = 20 then 20 else m 52 2 + 1) := by rw [lo _ _ (by omega), g2]; exact eA2
  refine hac.push hst.1 k1 k2 (by rw [c1, b1, k1]) (by rw [c2, b2, k2]) ?_ (by rw [hs]; exact cS) hg (fun b j q1 q2 q3 => ?_) (fun v b j q1 q2 q3 q4 => ?_)
  · rw [hs, ← gV]
    exact vS_fr (fun b j q1 q2 _ => lo b j (by omega))
  · rw [hs] at q3
    rw [lo b j (by omega)]
    exact f1 b j (by unfold FS at q3; unfold FS FGc; omega)
  · rw [hs] at q3
    have h1 := FLy_b q4
    rw [fB2 b j (by
      intro c
      rcases c with c | c | c
      · omega
      · exact FLy_x q3 q4 c
      · unfold FLy at q4; omega)]
    exact f1 b j (by unfold FS FGc; omega)
theorem R1_PQ {pl m : Mem} (h : PQ pl m) {k : Int} : PQ pl (R1 m k) := fun b j q => (mset_o (by unfold prc at q; omega)).trans (h b j q)
theorem R1_o {m : Mem} {k b j : Int} (h : b ≠ 474) : R1 m k b j = m b j := mset_o (by omega)
theorem o_rise {N : Nat} {m : Mem} (hN : 2000 ≤ N) (h : Core m) (i x : Int) : ∃ r m1 m2, pD_rise m i x = some (r, m1) ∧ pM_rise N m1 i x = some (r, m2) ∧ OkA m m2 := by
  obtain ⟨-, -, -, -, ⟨hg, hr, hnm⟩, hst, -⟩ := id h
  have hn := hg.num
  have hv : ∀ j, 0 ≤ j → j < 6 → vS m 38 3 j = m 41 j := fun j h0 h1 => vS_in (by omega)
  have same : ∀ m' : Mem, SR (vP m) m' 0 (vS m 38) → 0 ≤ i → i < vP m 2 3 → m' 501 i = m 41 i := fun m' s i0 i1 => by
    have e := (s.2.2.2.1 i i0 i1).2.1
    rw [show 6 * 0 + i = i by omega, hv i i0 (by omega)] at e
    exact e
  by_cases q : (0 ≤ i ∧ i < vP m 2 3) ∧ (0 ≤ x ∧ x ≤ 8) ∧ ¬ m 41 i = x
  · obtain ⟨mA, mB, eA, pq, sr, eB, ok⟩ := o_actset (N := N) hN h (k0 := 3) (i := i) (x := x) (y := x) (by omega) (by omega) (hst.1.set3 q.2.1) (fun m' s => by
      have := s.set3 (i := i) (x := x)
      rw [show 6 * 0 + i = i by omega] at this
      exact this)
    refine ⟨1, mset mA 41 i x, mset mB 501 i x, ?_, ?_, ok⟩
    · unfold pD_rise jn
      rw [e_hasP (vP_PE m), if_pos q.1, Option.bind_some]
      dsimp only
      rw [if_neg (show ¬ ((1 : Int) = 0) by omega), e_isHour, if_pos q.2.1, Option.bind_some, if_neg (show ¬ ((1 : Int) = 0) by omega), if_pos (show 0 ≤ i ∧ i < 6 by omega), if_neg q.2.2, eA, Option.bind_some, if_pos (show 0 ≤ i ∧ i < 6 by omega)]
      rfl
    · have e := same _ sr q.1.1 q.1.2
      have pq' : PQ (vP m) (mset mA 41 i x) := pq
      have e' : mset mA 41 i x 501 i = m 41 i := e
      have eB' : pM_keeps N (mset mA 41 i x) = some mB := eB
      unfold pM_rise jn
      rw [e_isP hr pq', if_pos q.1, Option.bind_some]
      dsimp only
      rw [if_neg (show ¬ ((1 : Int) = 0) by omega), e_is, if_pos q.2.1, Option.bind_some, if_neg (show ¬ ((1 : Int) = 0) by omega), if_pos (show 0 ≤ i ∧ i < 132 by omega), e', if_neg q.2.2, eB', Option.bind_some, if_pos (show 0 ≤ i ∧ i < 132 by omega)]
      rfl
  · refine ⟨0, R1 m 3, R2 m 3, ?_, ?_, (R2_ok h (by omega)).a⟩
    · unfold pD_rise jn
      rw [e_hasP (vP_PE m)]
      by_cases q1 : 0 ≤ i ∧ i < vP m 2 3
      · rw [if_pos q1, Option.bind_some]
        dsimp only
        rw [if_neg (show ¬ ((1 : Int) = 0) by omega), e_isHour]
        by_cases q2 : 0 ≤ x ∧ x ≤ 8
        · rw [if_pos q2, Option.bind_some, if_neg (show ¬ ((1 : Int) = 0) by omega), if_pos (show 0 ≤ i ∧ i < 6 by omega), if_pos (Classical.not_not.mp (fun c => q ⟨q1, q2, c⟩)), R1_e (by omega)]
          rfl
        · rw [if_neg q2, Option.bind_some, if_pos rfl, R1_e (by omega)]
          rfl
      · rw [if_neg q1, Option.bind_some]
        dsimp only
        rw [if_pos rfl, R1_e (by omega)]
        rfl
    · have s1 : SR (vP m) (R1 m 3) 0 (vS m 38) := hst.2.eq hg hst.1.2.2.2.2 (fun b j z => R1_o (by have := FLy_b z; omega))
      unfold pM_rise jn
      rw [e_isP hr (R1_PQ (vP_PQ m))]
      by_cases q1 : 0 ≤ i ∧ i < vP m 2 3
      · rw [if_pos q1, Option.bind_some]
        dsimp only
        rw [if_neg (show ¬ ((1 : Int) = 0) by omega), e_is]
        by_cases q2 : 0 ≤ x ∧ x ≤ 8
        · rw [if_pos q2, Option.bind_some, if_neg (show ¬ ((1 : Int) = 0) by omega), if_pos (show 0 ≤ i ∧ i < 132 by omega), same _ s1 q1.1 q1.2, if_pos (Classical.not_not.mp (fun c => q ⟨q1, q2, c⟩)), R2_e (by omega)]
          rfl
        · rw [if_neg q2, Option.bind_some, if_pos rfl, R2_e (by omega)]
          rfl
      · rw [if_neg q1, Option.bind_some]
        dsimp only
        rw [if_pos rfl, R2_e (by omega)]
        rfl
theorem o_weave {N : Nat} {m : Mem} (hN : 2000 ≤ N) (h : Core m) (i x : Int) : ∃ r m1 m2, pD_weave m i x = some (r, m1) ∧ pM_weave N m1 i x = some (r, m2) ∧ OkA m m2 := by
  obtain ⟨-, -, -, -, ⟨hg, hr, hnm⟩, hst, -⟩ := id h
  have hn := hg.num
  have hv : ∀ j, 0 ≤ j → j < 6 → vS m 38 4 j = m 42 j := fun j h0 h1 => vS_in (by omega)
  have same : ∀ m' : Mem, SR (vP m) m' 0 (vS m 38) → 0 ≤ i → i < vP m 2 3 → m' 502 i = m 42 i := fun m' s i0 i1 => by
    have e := (s.2.2.2.1 i i0 i1).2.2.1
    rw [show 6 * 0 + i = i by omega, hv i i0 (by omega)] at e
    exact e
  by_cases q : (0 ≤ i ∧ i < vP m 2 3) ∧ (1 ≤ x ∧ x ≤ 99) ∧ ¬ m 42 i = x
  · obtain ⟨mA, mB, eA, pq, sr, eB, ok⟩ := o_actset (N := N) hN h (k0 := 4) (i := i) (x := x) (y := x) (by omega) (by omega) (hst.1.set4 q.2.1) (fun m' s => by
      have := s.set4 (i := i) (x := x)
      rw [show 6 * 0 + i = i by omega] at this
      exact this)
    refine ⟨1, mset mA 42 i x, mset mB 502 i x, ?_, ?_, ok⟩
    · unfold pD_weave jn
      rw [e_hasP (vP_PE m), if_pos q.1, Option.bind_some]
      dsimp only
      rw [if_neg (show ¬ ((1 : Int) = 0) by omega), if_neg (show ¬ x < 1 by omega), if_neg (show ¬ 99 < x by omega), if_pos (show 0 ≤ i ∧ i < 6 by omega), if_neg q.2.2, eA, Option.bind_some, if_pos (show 0 ≤ i ∧ i < 6 by omega)]
      rfl
    · have e := same _ sr q.1.1 q.1.2
      have pq' : PQ (vP m) (mset mA 42 i x) := pq
      have e' : mset mA 42 i x 502 i = m 42 i := e
      have eB' : pM_keeps N (mset mA 42 i x) = some mB := eB
      unfold pM_weave jn
      rw [e_isP hr pq', if_pos q.1, Option.bind_some]
      dsimp only
      rw [if_neg (show ¬ ((1 : Int) = 0) by omega), e_is, if_pos q.2.1, Option.bind_some, if_neg (show ¬ ((1 : Int) = 0) by omega), if_pos (show 0 ≤ i ∧ i < 132 by omega), e', if_neg q.2.2, eB', Option.bind_some, if_pos (show 0 ≤ i ∧ i < 132 by omega)]
      rfl
  · refine ⟨0, R1 m 3, R2 m 3, ?_, ?_, (R2_ok h (by omega)).a⟩
    · unfold pD_weave jn
      rw [e_hasP (vP_PE m)]
      by_cases q1 : 0 ≤ i ∧ i < vP m 2 3
      · rw [if_pos q1, Option.bind_some]
        dsimp only
        rw [if_neg (show ¬ ((1 : Int) = 0) by omega)]
        by_cases q2 : x < 1
        · rw [if_pos q2, R1_e (by omega)]
          rfl
        · by_cases q3 : 99 < x
          · rw [if_neg q2, if_pos q3, R1_e (by omega)]
            rfl
          · rw [if_neg q2, if_neg q3, if_pos (show 0 ≤ i ∧ i < 6 by omega), if_pos (Classical.not_not.mp (fun c => q ⟨q1, by omega, c⟩)), R1_e (by omega)]
            rfl
      · rw [if_neg q1, Option.bind_some]
        dsimp only
        rw [if_pos rfl, R1_e (by omega)]
        rfl
    · have s1 : SR (vP m) (R1 m 3) 0 (vS m 38) := hst.2.eq hg hst.1.2.2.2.2 (fun b j z => R1_o (by have := FLy_b z; omega))
      unfold pM_weave jn
      rw [e_isP hr (R1_PQ (vP_PQ m))]
      by_cases q1 : 0 ≤ i ∧ i < vP m 2 3
      · rw [if_pos q1, Option.bind_some]
        dsimp only
        rw [if_neg (show ¬ ((1 : Int) = 0) by omega), e_is]
        by_cases q2 : 1 ≤ x ∧ x ≤ 99
        · rw [if_pos q2, Option.bind_some, if_neg (show ¬ ((1 : Int) = 0) by omega), if_pos (show 0 ≤ i ∧ i < 132 by omega), same _ s1 q1.1 q1.2, if_pos (Classical.not_not.mp (fun c => q ⟨q1, q2, c⟩)), R2_e (by omega)]
          rfl
        · rw [if_neg q2, Option.bind_some, if_pos rfl, R2_e (by omega)]
          rfl
      · rw [if_neg q1, Option.bind_some]
        dsimp only
        rw [if_pos rfl, R2_e (by omega)]
        rfl
