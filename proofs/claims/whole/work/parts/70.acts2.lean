/-! ACTS: move, undo -/
theorem o_move {N : Nat} {m : Mem} (hN : 2000 ≤ N) (h : Core m) (i c r : Int) : ∃ z m1 m2, pD_move m i c r = some (z, m1) ∧ pM_move N m1 i c r = some (z, m2) ∧ OkA m m2 := by
  obtain ⟨-, -, -, -, ⟨hg, hr, hnm⟩, hst, -⟩ := id h
  have hn := hg.num
  have hv : ∀ j, 0 ≤ j → j < 6 → vS m 38 2 j = m 40 j := fun j h0 h1 => vS_in (by omega)
  have same : ∀ m' : Mem, SR (vP m) m' 0 (vS m 38) → 0 ≤ i → i < vP m 2 3 → m' 500 i = ph (vP m) (m 40 i) := fun m' s i0 i1 => by
    have e := (s.2.2.2.1 i i0 i1).1
    rw [show 6 * 0 + i = i by omega, hv i i0 (by omega)] at e
    exact e
  by_cases q1 : 0 ≤ i ∧ i < vP m 2 3
  · by_cases q2 : (0 ≤ c ∧ c < vP m 2 0) ∧ (0 ≤ r ∧ r < vP m 2 1)
    · obtain ⟨hp, he⟩ := at_ph hg q2
      have hz := (hst.1.2.1 i q1.1 q1.2).1
      rw [hv i q1.1 (by omega)] at hz
      have w1 : w32 (w32 (8 * r) + c) = 8 * r + c := by rw [w32_eq (x := 8 * r) (by omega) (by omega), w32_eq (by omega) (by omega)]
      have iff0 : (ph (vP m) (m 40 i) = 8 * r + c) ↔ m 40 i = r * vP m 2 0 + c := by
        rw [← he]
        exact ⟨fun e => ph_inj hg hz hp e, fun e => by rw [e]⟩
      have hcell := e_cellAt hg (vP_PE m) c r
      rw [if_pos q2] at hcell
      generalize hP : r * vP m 2 0 + c = p at hp he iff0 hcell
      by_cases q3 : m 40 i = p
      · refine ⟨0, R1 m 3, R2 m 3, ?_, ?_, (R2_ok h (by omega)).a⟩
        · unfold pD_move jn
          rw [hcell, Option.bind_some, e_hasP (vP_PE m), if_pos q1, Option.bind_some]
          dsimp only
          rw [if_neg (show ¬ ((1 : Int) = 0) by omega), if_neg (show ¬ (p = -1) by omega), if_pos (show 0 ≤ i ∧ i < 6 by omega), if_pos q3, R1_e (by omega)]
          rfl
        · have s1 : SR (vP m) (R1 m 3) 0 (vS m 38) := hst.2.eq hg hst.1.2.2.2.2 (fun b j z => R1_o (by have := FLy_b z; omega))
          unfold pM_move jn
          rw [e_isP hr (R1_PQ (vP_PQ m)), if_pos q1, Option.bind_some]
          dsimp only
          rw [if_neg (show ¬ ((1 : Int) = 0) by omega), e_isCell hg hr (R1_PQ (vP_PQ m)), if_pos q2, Option.bind_some, if_neg (show ¬ ((1 : Int) = 0) by omega), if_pos (show 0 ≤ i ∧ i < 132 by omega), same _ s1 q1.1 q1.2, w1, if_pos (iff0.mpr q3), R2_e (by omega)]
          rfl
      · obtain ⟨mA, mB, eA, pq, sr, eB, ok⟩ := o_actset (N := N) hN h (k0 := 2) (i := i) (x := p) (y := ph (vP m) p) (by omega) (by omega) (hst.1.set2 hp) (fun m' s => by
          have := s.set2 (i := i) (x := p)
          rw [show 6 * 0 + i = i by omega] at this
          exact this)
        refine ⟨1, mset mA 40 i p, mset mB 500 i (ph (vP m) p), ?_, ?_, ok⟩
        · unfold pD_move jn
          rw [hcell, Option.bind_some, e_hasP (vP_PE m), if_pos q1, Option.bind_some]
          dsimp only
          rw [if_neg (show ¬ ((1 : Int) = 0) by omega), if_neg (show ¬ (p = -1) by omega), if_pos (show 0 ≤ i ∧ i < 6 by omega), if_neg q3, eA, Option.bind_some, if_pos (show 0 ≤ i ∧ i < 6 by omega)]
          rfl
        · have e := same _ sr q1.1 q1.2
          have pq' : PQ (vP m) (mset mA 40 i p) := pq
          have e' : mset mA 40 i p 500 i = ph (vP m) (m 40 i) := e
          have eB' : pM_keeps N (mset mA 40 i p) = some mB := eB
          unfold pM_move jn
          rw [e_isP hr pq', if_pos q1, Option.bind_some]
          dsimp only
          rw [if_neg (show ¬ ((1 : Int) = 0) by omega), e_isCell hg hr pq', if_pos q2, Option.bind_some, if_neg (show ¬ ((1 : Int) = 0) by omega), if_pos (show 0 ≤ i ∧ i < 132 by omega), e', w1, if_neg (fun k => q3 (iff0.mp k)), eB', Option.bind_some, if_pos (show 0 ≤ i ∧ i < 132 by omega), he]
          rfl
    · refine ⟨0, R1 m 3, R2 m 3, ?_, ?_, (R2_ok h (by omega)).a⟩
      · unfold pD_move jn
        rw [e_cellAt hg (vP_PE m), if_neg q2, Option.bind_some, e_hasP (vP_PE m), if_pos q1, Option.bind_some]
        dsimp only
        rw [if_neg (show ¬ ((1 : Int) = 0) by omega), if_pos rfl, R1_e (by omega)]
        rfl
      · unfold pM_move jn
        rw [e_isP hr (R1_PQ (vP_PQ m)), if_pos q1, Option.bind_some]
        dsimp only
        rw [if_neg (show ¬ ((1 : Int) = 0) by omega), e_isCell hg hr (R1_PQ (vP_PQ m)), if_neg q2, Option.bind_some, if_pos rfl, R2_e (by omega)]
        rfl
  · refine ⟨0, R1 m 3, R2 m 3, ?_, ?_, (R2_ok h (by omega)).a⟩
    · unfold pD_move jn
      rw [e_cellAt hg (vP_PE m), Option.bind_some, e_hasP (vP_PE m), if_neg q1, Option.bind_some]
      dsimp only
      rw [if_pos rfl, R1_e (by omega)]
      rfl
    · unfold pM_move jn
      rw [e_isP hr (R1_PQ (vP_PQ m)), if_neg q1, Option.bind_some]
      dsimp only
      rw [if_pos rfl, R2_e (by omega)]
      rfl
theorem IActs.pop {pl m m2 : Mem} (h : IActs pl m) (h0 : ¬ m 52 2 < 1) (e1 : m2 52 1 = m 52 1) (e2 : m2 52 2 = m 52 2 - 1) (e3 : m2 475 51 = m2 52 1) (e4 : m2 475 52 = m2 52 2) (hg : PG pl) (fD : ∀ b j, 54 ≤ b → b ≤ 193 → m2 b j = m b j) (fM : ∀ v b j, 2 ≤ v → v < 22 → FLy v b j → m2 b j = m b j) : IActs pl m2 := by
  obtain ⟨h1, h2, h3, h4, h5⟩ := h
  refine ⟨e3, e4, by rw [e1]; exact h3, by rw [e2]; omega, fun k k0 hk => ?_⟩
  rw [e2] at hk
  have h6 := h5 k k0 (by omega)
  rw [e1]
  have ht : 0 ≤ (m 52 1 + k) % 20 ∧ (m 52 1 + k) % 20 < 20 := by omega
  generalize (m 52 1 + k) % 20 = t at *
  have e : vS m2 (54 + 7 * t) = vS m (54 + 7 * t) := vS_fr (fun b j q1 q2 _ => fD b j (by omega) (by omega))
  rw [e]
  exact ⟨h6.1, h6.2.eq hg h6.1.2.2.2.2 (fun b j z => fM (2 + t) b j (by omega) (by omega) z)⟩
theorem o_undo {N : Nat} {m : Mem} (hN : 2000 ≤ N) (h : Core m) : ∃ z m1 m2, pD_undo m = some (z, m1) ∧ pM_undo N m1 = some (z, m2) ∧ OkA m m2 := by
  obtain ⟨-, -, h3, -, ⟨hg, hr, hnm⟩, hst, hac, -⟩ := id h
  obtain ⟨a1, a2, a3, a4, a5⟩ := id hac
  by_cases q : m 52 2 < 1
  · refine ⟨0, R1 m 4, R2 m 4, ?_, ?_, (R2_ok h (by omega)).a⟩
    · unfold pD_undo pA_back
      rw [if_pos q, Option.bind_some]
      dsimp only
      rw [if_pos rfl, R1_e (by omega)]
      rfl
    · unfold pM_undo
      rw [R1_o (by omega), a2, if_pos (by omega), R2_e (by omega)]
      rfl
  · have a6 := a5 (m 52 2 - 1) (by omega) (by omega)
    rw [show m 52 1 + (m 52 2 - 1) = m 52 1 + m 52 2 - 1 by omega] at a6
    have hs' : 0 ≤ (m 52 1 + m 52 2 - 1) % 20 ∧ (m 52 1 + m 52 2 - 1) % 20 < 20 := by omega
    have hD : Rn (pD_undo m) (fun p => p.1 = 1 ∧ vS p.2 38 = vS m (54 + 7 * ((m 52 1 + m 52 2 - 1) % 20)) ∧ p.2 52 2 = m 52 2 - 1 ∧ NoC p.2 ∧ Fr (fun b j => (b = 52 ∧ j = 2) ∨ FS 38 b j ∨ FGc b j) m p.2) := by
      unfold pD_undo
      refine rn_b2 (P := fun r m1 => r = 1 ∧ vS m1 38 = vS m (54 + 7 * ((m 52 1 + m 52 2 - 1) % 20)) ∧ m1 52 2 = m 52 2 - 1 ∧ Fr (fun b j => (b = 52 ∧ j = 2) ∨ FS 38 b j) m m1) ?_ (fun r m1 hm => ?_)
      · unfold pA_back
        refine rn_f q ?_
        rw [w32_eq (x := m 52 2 - 1) (by omega) (by omega)]
        refine rn_l (fun m1 hm1 => ?_)
        have e1 : m1 52 1 = m 52 1 := by rw [hm1, mset_o (by omega)]
        have e2 : m1 52 2 = m 52 2 - 1 := by rw [hm1, mset_s rfl rfl]
        have f1 : Fr (fun b j => (b = 52 ∧ j = 2) ∨ FS 38 b j) m m1 := by rw [hm1]; exact Fr.rfl'.set (by omega)
        clear hm1
        rw [e1, e2, show m 52 1 + (m 52 2 - 1) = m 52 1 + m 52 2 - 1 by omega, w32_eq (x := m 52 1 + m 52 2 - 1) (by omega) (by omega), r32_eq (by omega) (by omega) (by omega) (by omega)]
        generalize (m 52 1 + m 52 2 - 1) % 20 = s at *
        refine rn_t hs' ?_
        refine rn_b (c_copyS (d := 38) (s := 54 + 7 * s) (by omega)) (fun m2 h2 => rn_s2 (P := fun r m1 => r = 1 ∧ vS m1 38 = vS m (54 + 7 * s) ∧ m1 52 2 = m 52 2 - 1 ∧ Fr (fun b j => (b = 52 ∧ j = 2) ∨ FS 38 b j) m m1) ⟨rfl, ?_, ?_, f1.trans (h2.2.mono (fun b j q => Or.inr q))⟩)
        · rw [h2.1]
          exact vS_fr (fun b j q1 q2 _ => f1 b j (by unfold FS; omega))
        · rw [h2.2 _ _ (by unfold FS; omega)]; exact e2
      · obtain ⟨hr1, hv, e2, f1⟩ := hm
        dsimp only
        refine rn_f (by omega) (rn_e (e_forget m1) (rn_s ⟨rfl, ?_, ?_, FG_no m1, ?_⟩))
        · rw [← hv]
          exact vS_fr (fun b j q1 q2 _ => FG_fr m1 b j (by unfold FGc; omega))
        · dsimp only
          rw [FG_fr m1 _ _ (by unfold FGc; omega)]; exact e2
        · exact (f1.mono (fun b j q => by rcases q with q | q; exact Or.inl q; exact Or.inr (Or.inl q))).trans ((FG_fr m1).mono (fun b j q => Or.inr (Or.inr q)))
    obtain ⟨⟨r, m1⟩, eD, hr1, hv, e2, n1, f1⟩ := hD
    dsimp only at hr1 hv e2 n1 f1
    have g51 : m1 475 51 = m 52 1 := by rw [f1 _ _ (by unfold FS FGc; omega)]; exact a1
    have g52 : m1 475 52 = m 52 2 := by rw [f1 _ _ (by unfold FS FGc; omega)]; exact a2
    have g1 : m1 52 1 = m 52 1 := f1 _ _ (by unfold FS FGc; omega)
    have hM : Rn (pM_undo N m1) (fun p => p.1 = 1 ∧ SR (vP m) p.2 0 (vS m (54 + 7 * ((m 52 1 + m 52 2 - 1) % 20))) ∧ p.2 475 52 = m 52 2 - 1 ∧ Fr (fun b j => (b = 475 ∧ j = 52) ∨ FLy 0 b j) m1 p.2) := by
      unfold pM_undo
      refine rn_f (by omega) ?_
      rw [g52, w32_eq (x := m 52 2 - 1) (by omega) (by omega)]
      refine rn_l (fun m2 hm2 => ?_)
      have k51 : m2 475 51 = m 52 1 := by rw [hm2, mset_o (by omega)]; exact g51
      have k52 : m2 475 52 = m 52 2 - 1 := by rw [hm2, mset_s rfl rfl]
      have f2 : Fr (fun b j => (b = 475 ∧ j = 52) ∨ FLy 0 b j) m1 m2 := by rw [hm2]; exact Fr.rfl'.set (by omega)
      have f2' : ∀ b j, 498 ≤ b → m2 b j = m1 b j := fun b j q => by rw [hm2, mset_o (by omega)]
      clear hm2
      have es : pM_slot m2 (m2 475 52) = some (2 + (m 52 1 + m 52 2 - 1) % 20) := by
        unfold pM_slot
        rw [k51, k52, show m 52 1 + (m 52 2 - 1) = m 52 1 + m 52 2 - 1 by omega, w32_eq (x := m 52 1 + m 52 2 - 1) (by omega) (by omega), r32_eq (by omega) (by omega) (by omega) (by omega), w32_eq (by omega) (by omega)]
      refine rn_e es ?_
      generalize (m 52 1 + m 52 2 - 1) % 20 = s at *
      have sS : SR (vP m) m2 (2 + s) (vS m (54 + 7 * s)) := a6.2.eq hg a6.1.2.2.2.2 (fun b j z => by
        have hb := FLy_b z
        rw [f2' b j hb.1]
        exact f1 b j (by unfold FS FGc; omega))
      refine rn_b (r_copies (S := vS m (54 + 7 * s)) hN hg (d := 0) (s := 2 + s) (by omega) (by omega) (by omega) sS a6.1.2.2.2) (fun m3 h3 => rn_s ⟨rfl, h3.1, ?_, f2.trans (h3.2.mono (fun b j q => Or.inr q))⟩)
      dsimp only
      rw [h3.2 _ _ (by unfold FLy; omega)]; exact k52
    obtain ⟨⟨r2, m2⟩, eM, hr2, sR, e52, f2⟩ := hM
    dsimp only at hr2 sR e52 f2
    have lo : ∀ b j, b < 475 → m2 b j = m1 b j := fun b j q => f2 b j (by unfold FLy; omega)
    have F : Fr FAc m m2 := (f1.mono (T := FAc) (fun b j q => by unfold FS FGc at q; unfold FAc FGc; omega)).trans (f2.mono (fun b j q => by
      unfold FAc
      rcases q with q | q
      · omega
      · have := FLy_b q; omega))
    refine ⟨1, m1, m2, by rw [eD, hr1], by rw [eM, hr2], h.act (fun b j q => F b j (FAc_CA q)) (h3.fr (fun b j q => F b j (FAc_A3 q))) ?_ ?_, Or.inr (n1.fr (fun b j q => lo b j (by unfold FGc at q; omega)))⟩
    · have v38 : vS m2 38 = vS m (54 + 7 * ((m 52 1 + m 52 2 - 1) % 20)) := by
        rw [← hv]
        exact vS_fr (fun b j q1 q2 _ => lo b j (by omega))
      exact ⟨by rw [v38]; exact a6.1, by rw [v38]; exact sR⟩
    · have k1 : m2 52 1 = m 52 1 := by rw [lo _ _ (by omega)]; exact g1
      have k2 : m2 52 2 = m 52 2 - 1 := by rw [lo _ _ (by omega)]; exact e2
      refine hac.pop q k1 k2 ?_ (by rw [e52, k2]) hg (fun b j q1 q2 => ?_) (fun v b j q1 q2 q3 => ?_)
      · rw [f2 _ _ (by unfold FLy; omega), g51, k1]
      · rw [lo b j (by omega)]
        exact f1 b j (by unfold FS FGc; omega)
      · have hb := FLy_b q3
        rw [f2 b j (by
          intro c
          rcases c with c | c
          · omega
          · exact FLy_x (w := 0) (by omega) q3 c)]
        exact f1 b j (by unfold FS FGc; omega)
