/-! TODAY: the calls up, home -/
def FT3 : Int → Int → Prop := fun b j => FTd b j ∨ FRq b j
def OkU (m m2 : Mem) : Prop := Core m2 ∧ ITod (vP m) (vS m 38) m2 ∧ Fr FT3 m m2
theorem OkT.u {m m2 : Mem} (h : OkT m m2) : OkU m m2 := ⟨h.1, h.2.1, h.2.2.mono (fun b j q => by rcases q with q | q; exact Or.inl q; exact Or.inr (Or.inl q))⟩
theorem OkU.rf {m : Mem} (h : Core m) (ht : ITod (vP m) (vS m 38) m) : OkU m m := ⟨h, ht, Fr.rfl'⟩
theorem OkU.of {m m1 m2 : Mem} (h : Core m) (ht : ITod (vP m) (vS m 38) m1) (f1 : Fr FTd m m1) (f2 : Fr FRq m1 m2) : OkU m m2 :=
  ⟨(h.fr (fun b j q => f1 b j (FTd_CD q))).fr (fun b j q => f2 b j (FRq_CD q)), ht.fr (fun b j q1 q2 => f2 b j (by unfold FRq FRr FLy; omega)), (f1.mono (fun b j q => Or.inl q)).trans (f2.mono (fun b j q => Or.inr q))⟩
theorem o_up {N : Nat} {m : Mem} (hN : 2000 ≤ N) (hc : Core m) (ht : ITod (vP m) (vS m 38) m) (i x : Int) : ∃ r m1 m2, pD_up N m i x = some (r, m1) ∧ pM_up N m1 i x = some (r, m2) ∧ OkU m m2 := by
  obtain ⟨-, -, -, -, ⟨hg, hr, hnm⟩, hst, -⟩ := id hc
  have hn := hg.num
  by_cases q : (0 ≤ i ∧ i < vP m 2 3) ∧ (0 ≤ x ∧ x ≤ 1)
  · obtain ⟨m1, e1, k13, tk, it, f1⟩ := c_tlearn hN hg (vP_PE m) hst.1 ht
    have pe1 := FTd_PE (vP_PE m) f1
    obtain ⟨m2, e2, hv, it2, f2⟩ := c_findRise hN hg pe1 hst.1 q.1 k13 it
    have f12 := f1.trans f2
    have hc2 : Core m2 := hc.fr (fun b j q => f12 b j (FTd_CD q))
    have vp2 := FTd_vP f12
    have vs2 := FTd_vS f12
    obtain ⟨-, -, -, -, -, hst2, -, -, -, hwk2⟩ := id hc2
    rw [vp2] at hst2
    have hst2' := hst2.2
    rw [vs2] at hst2'
    have e3 := (vP_PQ m2)
    rw [vp2] at e3
    have hD : pD_up N m i x = if x = 0 then some ((betF (riseV (vP m) (vS m 38) i) 9).1, m2) else some ((betF (riseV (vP m) (vS m 38) i) 9).2, m2) := by
      unfold pD_up
      rw [e_hasP (vP_PE m), if_pos q.1, Option.bind_some, if_neg (by omega), if_neg (by omega), if_neg (by omega), e1, Option.bind_some, e2, Option.bind_some, if_pos (show 0 ≤ i ∧ i < 6 by omega), if_pos (show 0 ≤ i ∧ i < 6 by omega), ← hv]
    obtain ⟨⟨r, m3⟩, eM, hr3, f3⟩ : Rn (pM_up N m2 i x) (fun p => p.1 = (if x = 0 then (betF (riseV (vP m) (vS m 38) i) 9).1 else (betF (riseV (vP m) (vS m 38) i) 9).2) ∧ Fr FRq m2 p.2) := by
      unfold pM_up
      refine rn_e (e_isP hr e3 i) ?_
      rw [if_pos q.1]
      refine rn_f (by omega) ?_
      refine rn_e (e_is _ _ _ _) ?_
      rw [if_pos q.2]
      refine rn_f (by omega) ?_
      unfold pM_up_L27
      refine r_up_L (m0 := m2) (S := vS m 38) hN hg hr e3 hst2' hst.1 hwk2 q.1 (fun m' f => ?_) 9 N 0 m2 (by omega) (by omega) (by omega) Fr.rfl'
      by_cases q0 : x = 0
      · exact rn_t q0 (rn_s ⟨(if_pos q0).symm, f⟩)
      · exact rn_f q0 (rn_s ⟨(if_neg q0).symm, f⟩)
    dsimp only at hr3 f3
    refine ⟨r, m2, m3, ?_, eM, OkU.of hc it2 f12 f3⟩
    rw [hD, hr3]
    split <;> rfl
  · have hD : pD_up N m i x = some (-1, m) := by
      unfold pD_up
      rw [e_hasP (vP_PE m)]
      by_cases q1 : 0 ≤ i ∧ i < vP m 2 3
      · rw [if_pos q1, Option.bind_some, if_neg (by omega)]
        by_cases q3 : x < 0
        · rw [if_pos q3]
        · rw [if_neg q3, if_pos (by omega)]
      · rw [if_neg q1]; rfl
    have hM : pM_up N m i x = some (-1, m) := by
      unfold pM_up
      rw [e_isP hr (vP_PQ m)]
      by_cases q1 : 0 ≤ i ∧ i < vP m 2 3
      · rw [if_pos q1, Option.bind_some, if_neg (by omega), e_is, if_neg (fun c => q ⟨q1, c⟩)]
        rfl
      · rw [if_neg q1]; rfl
    exact ⟨-1, m, m, hD, hM, OkU.rf hc ht⟩
theorem o_home {N : Nat} {m : Mem} (hN : 2000 ≤ N) (hc : Core m) (ht : ITod (vP m) (vS m 38) m) (i x : Int) : ∃ r m1 m2, pD_home N m i x = some (r, m1) ∧ pM_home N m1 i x = some (r, m2) ∧ OkU m m2 := by
  obtain ⟨-, -, -, -, ⟨hg, hr, hnm⟩, hst, -⟩ := id hc
  have hn := hg.num
  by_cases q : (0 ≤ i ∧ i < vP m 2 3) ∧ (0 ≤ x ∧ x ≤ 2)
  · obtain ⟨m1, e1, k13, tk, it, f1⟩ := c_tlearn hN hg (vP_PE m) hst.1 ht
    have pe1 := FTd_PE (vP_PE m) f1
    obtain ⟨m2, e2, hv, it2, f2⟩ := c_findHome hN hg pe1 hst.1 q.1 k13 it
    have f12 := f1.trans f2
    have pe2 := FTd_PE (vP_PE m) f12
    have hc2 : Core m2 := hc.fr (fun b j q => f12 b j (FTd_CD q))
    have vp2 := FTd_vP f12
    have vs2 := FTd_vS f12
    obtain ⟨-, -, -, -, -, hst2, -, -, -, hwk2⟩ := id hc2
    rw [vp2] at hst2
    have hst2' := hst2.2
    rw [vs2] at hst2'
    have e3 := (vP_PQ m2)
    rw [vp2] at e3
    have hpos := (hst.1.2.1 i q.1.1 q.1.2).1
    have hcc := hg.pos hpos
    have hrg := (betF_rng (v := homeV (vP m) (vS m 38) i) (B := (vP m 2 2).toNat) (fun k hk => (homeV_nn hg hst.1 q.1 (by omega)).1) (vP m 2 2).toNat (Nat.le_refl _)).2 (by omega)
    have hph := ph_eq hg (p := (betF (homeV (vP m) (vS m 38) i) (vP m 2 2).toNat).1) (by omega)
    generalize hB : betF (homeV (vP m) (vS m 38) i) (vP m 2 2).toNat = B at hv hrg hph
    have hb1 : m2 234 i = B.1 := by rw [← hv]
    have hb2 : m2 235 i = B.2 := by rw [← hv]
    have hD : pD_home N m i x = if x = 2 then some (B.2, m2) else if x = 0 then some (B.1 % vP m 2 0, m2) else some (B.1 / vP m 2 0, m2) := by
      unfold pD_home
      rw [e_hasP (vP_PE m), if_pos q.1, Option.bind_some, if_neg (by omega), if_neg (by omega), if_neg (by omega), e1, Option.bind_some, e2, Option.bind_some, if_pos (show 0 ≤ i ∧ i < 6 by omega), if_pos (show 0 ≤ i ∧ i < 6 by omega), hb1, hb2, Option.bind_some, e_col (by rw [pe2.d]; omega) (by omega), e_row (by rw [pe2.d]; omega) (by omega), pe2.d]
      rfl
    obtain ⟨⟨r, m3⟩, eM, hr3, f3⟩ : Rn (pM_home N m2 i x) (fun p => p.1 = (if x = 0 then B.1 % vP m 2 0 else if x = 1 then B.1 / vP m 2 0 else B.2) ∧ Fr FRq m2 p.2) := by
      unfold pM_home
      refine rn_e (e_isP hr e3 i) ?_
      rw [if_pos q.1]
      refine rn_f (by omega) ?_
      refine rn_e (e_is _ _ _ _) ?_
      rw [if_pos q.2]
      refine rn_f (by omega) ?_
      unfold pM_home_L27
      have hl := r_home_L (N := N) (Q := fun p => p.1 = (if x = 0 then B.1 % vP m 2 0 else if x = 1 then B.1 / vP m 2 0 else B.2) ∧ Fr FRq m2 p.2) (kk := fun z3_113 z4_113 n113 => if x = 0 then some (r32 z3_113 8, n113) else if x = 1 then some (d32 z3_113 8, n113) else some (z4_113, n113)) (bo := fun _ _ _ _ => none) (c2 := x) (m0 := m2) (S := vS m 38) hN hg hr e3 hst2' hst.1 hwk2 q.1 (fun m' f => ?_) 64 N 0 m2 (by omega) (by omega) (by omega) Fr.rfl'
      · rw [(cn_end hn.1 hn.2.1).2] at hl
        exact hl
      · rw [hB]
        have e : phx (vP m) B.1 = ph (vP m) B.1 := by unfold phx; rw [if_neg (by omega)]
        rw [e, r32_eq (by omega) (by omega) (by omega) (by omega), d32_eq (by omega) (by omega) (by omega) (by omega), hph.2.2.2.1, hph.2.2.2.2]
        by_cases q0 : x = 0
        · exact rn_t q0 (rn_s ⟨(if_pos q0).symm, f⟩)
        · refine rn_f q0 ?_
          by_cases q1 : x = 1
          · exact rn_t q1 (rn_s ⟨by show _ = _; rw [if_neg q0, if_pos q1], f⟩)
          · exact rn_f q1 (rn_s ⟨by show _ = _; rw [if_neg q0, if_neg q1], f⟩)
    dsimp only at hr3 f3
    refine ⟨r, m2, m3, ?_, eM, OkU.of hc it2 f12 f3⟩
    rw [hD, hr3]
    rcases (show x = 0 ∨ x = 1 ∨ x = 2 by omega) with rfl | rfl | rfl <;> rfl
  · have hD : pD_home N m i x = some (-1, m) := by
      unfold pD_home
      rw [e_hasP (vP_PE m)]
      by_cases q1 : 0 ≤ i ∧ i < vP m 2 3
      · rw [if_pos q1, Option.bind_some, if_neg (by omega)]
        by_cases q3 : x < 0
        · rw [if_pos q3]
        · rw [if_neg q3, if_pos (by omega)]
      · rw [if_neg q1]; rfl
    have hM : pM_home N m i x = some (-1, m) := by
      unfold pM_home
      rw [e_isP hr (vP_PQ m)]
      by_cases q1 : 0 ≤ i ∧ i < vP m 2 3
      · rw [if_pos q1, Option.bind_some, if_neg (by omega), e_is, if_neg (fun c => q ⟨q1, c⟩)]
        rfl
      · rw [if_neg q1]; rfl
    exact ⟨-1, m, m, hD, hM, OkU.rf hc ht⟩
