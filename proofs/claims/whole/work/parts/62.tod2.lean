/-! TODAY: today, dew -/
def FT2 : Int → Int → Prop := fun b j => FTd b j ∨ FRr b j
def OkT (m m2 : Mem) : Prop := Core m2 ∧ ITod (vP m) (vS m 38) m2 ∧ Fr FT2 m m2
theorem OkT.rf {m : Mem} (h : Core m) (ht : ITod (vP m) (vS m 38) m) : OkT m m := ⟨h, ht, Fr.rfl'⟩
theorem OkT.of {m m1 m2 : Mem} (h : Core m) (ht : ITod (vP m) (vS m 38) m1) (f1 : Fr FTd m m1) (f2 : Fr FRr m1 m2) : OkT m m2 :=
  ⟨(h.fr (fun b j q => f1 b j (FTd_CD q))).fr (fun b j q => f2 b j (FRr_CD q)), ht.fr (fun b j q1 q2 => f2 b j (by unfold FRr; omega)), (f1.mono (fun b j q => Or.inl q)).trans (f2.mono (fun b j q => Or.inr q))⟩
theorem e_isHour (m : Mem) (h : Int) : pD_isHour m h = some (if 0 ≤ h ∧ h ≤ 8 then 1 else 0) := by
  unfold pD_isHour
  by_cases q1 : h < 0
  · rw [if_pos q1, if_neg (by omega)]
  · rw [if_neg q1]
    by_cases q2 : 8 < h
    · rw [if_pos q2, if_neg (by omega)]
    · rw [if_neg q2, if_pos (by omega)]
theorem o_today {N : Nat} {m : Mem} (hN : 2000 ≤ N) (hc : Core m) (ht : ITod (vP m) (vS m 38) m) (i h x : Int) : ∃ r m1 m2, pD_today N m i h x = some (r, m1) ∧ pM_today N m1 i h x = some (r, m2) ∧ OkT m m2 := by
  obtain ⟨-, -, -, -, ⟨hg, hr, hnm⟩, hst, -⟩ := id hc
  have hn := hg.num
  by_cases q : (0 ≤ i ∧ i < vP m 2 3) ∧ (0 ≤ h ∧ h ≤ 8) ∧ (0 ≤ x ∧ x ≤ 2)
  · obtain ⟨m1, e1, k13, tk, it, f1⟩ := c_tlearn hN hg (vP_PE m) hst.1 ht
    have hc1 : Core m1 := hc.fr (fun b j q => f1 b j (FTd_CD q))
    have vp1 := FTd_vP f1
    have vs1 := FTd_vS f1
    obtain ⟨⟨r2, m2⟩, e2, hRW, tb, -, f2⟩ := rq_runs hN hc1
    rw [vp1, vs1] at tb
    rw [vp1] at e2
    dsimp only at tb f2
    have tk2 := (tk.2 h q.2.1.1 (by omega)).2 i q.1.1 q.1.2
    have tb2 := (tb h q.2.1.1 (by omega)).2 i q.1.1 q.1.2
    have hW4 := (WB.th hg (h + 1).toNat 0 _ (WB.beg hg hst.1 (t := 1) (Or.inl rfl))).2.1 i q.1.1 q.1.2 |>.1
    generalize thS (vP m) (h + 1).toNat 0 (begS (vP m) (vS m 38) 1) = W at tk2 tb2 hW4
    have e3 := (vP_PQ m1)
    rw [vp1] at e3
    have hpi : pM_isPerson m1 i = some 1 := by rw [e_isP hr e3, if_pos q.1]
    have hal : pM_all m1 = some (allS (vP m 2 3)) := e_all hg hr e3
    have hD : pD_today N m i h x = if x = 2 then some (W 5 i, m1) else if x = 0 then (pP_columnOf m1 2 (W 4 i)).bind fun r80 => some (r80, m1) else (pP_rowOf m1 2 (W 4 i)).bind fun r92 => some (r92, m1) := by
      unfold pD_today
      rw [e_hasP (vP_PE m), if_pos q.1]
      rw [Option.bind_some]
      rw [if_neg (by omega), e_isHour, if_pos q.2.1]
      rw [Option.bind_some]
      rw [if_neg (by omega), if_neg (by omega), if_neg (by omega), e1]
      rw [Option.bind_some]
      rw [if_pos (show 0 ≤ h ∧ h < 9 by omega), if_pos (show 0 ≤ i ∧ i < 6 by omega), if_pos (show 0 ≤ h ∧ h < 9 by omega), if_pos (show 0 ≤ i ∧ i < 6 by omega), show (222 : Int) + 1 + h = 223 + h by omega, show (212 : Int) + 1 + h = 213 + h by omega, tk2.1, tk2.2]
      rfl
    have hM : pM_today N m1 i h x = if x = 0 then some (r32 (ph (vP m) (W 4 i)) 8, m2) else if x = 1 then some (d32 (ph (vP m) (W 4 i)) 8, m2) else some (W 5 i, m2) := by
      unfold pM_today
      rw [hpi]
      rw [Option.bind_some]
      rw [if_neg (by omega), e_is, if_pos q.2.1]
      rw [Option.bind_some]
      rw [if_neg (by omega), e_is, if_pos q.2.2]
      rw [Option.bind_some]
      rw [if_neg (by omega), hal]
      rw [Option.bind_some]
      rw [e2]
      dsimp only [Option.bind_some]
      rw [w32_eq (x := 6 * h) (by omega) (by omega), w32_eq (x := 6 * h + i) (by omega) (by omega), if_pos (by omega), if_pos (show 0 ≤ 6 * h + i ∧ 6 * h + i < 54 by omega)]
      show (if x = 0 then some (r32 (m2 512 (6 * h + i)) 8, m2) else if x = 1 then some (d32 (m2 512 (6 * h + i)) 8, m2) else some (m2 513 (6 * h + i), m2)) = _
      rw [tb2.1, tb2.2]
    have hOk := OkT.of hc it f1 f2
    have hph := ph_eq hg hW4
    have hcc := hg.pos hW4
    have hpe := FTd_PE (vP_PE m) f1
    rcases (show x = 0 ∨ x = 1 ∨ x = 2 by omega) with rfl | rfl | rfl
    · simp (disch := omega) only [if_neg, if_true] at hD hM
      refine ⟨W 4 i % vP m 2 0, m1, m2, hD.trans ?_, hM.trans ?_, hOk⟩
      · rw [e_col (by rw [hpe.d]; omega) (by omega), hpe.d]; rfl
      · rw [r32_eq (by omega) (by omega) (by omega) (by omega), hph.2.2.2.1]
    · simp (disch := omega) only [if_neg, if_true] at hD hM
      refine ⟨W 4 i / vP m 2 0, m1, m2, hD.trans ?_, hM.trans ?_, hOk⟩
      · rw [e_row (by rw [hpe.d]; omega) (by omega), hpe.d]; rfl
      · rw [d32_eq (by omega) (by omega) (by omega) (by omega), hph.2.2.2.2]
    · simp (disch := omega) only [if_neg, if_true] at hD hM
      exact ⟨_, m1, m2, hD, hM, hOk⟩
  · have hD : pD_today N m i h x = some (-1, m) := by
      unfold pD_today
      rw [e_hasP (vP_PE m)]
      by_cases q1 : 0 ≤ i ∧ i < vP m 2 3
      · rw [if_pos q1]
        rw [Option.bind_some]
        rw [if_neg (by omega), e_isHour]
        by_cases q2 : 0 ≤ h ∧ h ≤ 8
        · rw [if_pos q2]
          rw [Option.bind_some]
          rw [if_neg (by omega)]
          by_cases q3 : x < 0
          · rw [if_pos q3]
          · rw [if_neg q3, if_pos (by omega)]
        · rw [if_neg q2]; rfl
      · rw [if_neg q1]; rfl
    have hM : pM_today N m i h x = some (-1, m) := by
      unfold pM_today
      rw [e_isP hr (vP_PQ m)]
      by_cases q1 : 0 ≤ i ∧ i < vP m 2 3
      · rw [if_pos q1]
        rw [Option.bind_some]
        rw [if_neg (by omega), e_is]
        by_cases q2 : 0 ≤ h ∧ h ≤ 8
        · rw [if_pos q2]
          rw [Option.bind_some]
          rw [if_neg (by omega), e_is, if_neg (by omega)]
          rfl
        · rw [if_neg q2]; rfl
      · rw [if_neg q1]; rfl
    exact ⟨-1, m, m, hD, hM, OkT.rf hc ht⟩
theorem o_dew {N : Nat} {m : Mem} (hN : 2000 ≤ N) (hc : Core m) (ht : ITod (vP m) (vS m 38) m) (c r h : Int) : ∃ x m1 m2, pD_dew N m c r h = some (x, m1) ∧ pM_dew N m1 c r h = some (x, m2) ∧ OkT m m2 := by
  obtain ⟨-, -, -, -, ⟨hg, hr, hnm⟩, hst, -⟩ := id hc
  have hn := hg.num
  by_cases q : ((0 ≤ c ∧ c < vP m 2 0) ∧ (0 ≤ r ∧ r < vP m 2 1)) ∧ (-1 ≤ h ∧ h ≤ 8)
  · obtain ⟨m1, e1, k13, tk, it, f1⟩ := c_tlearn hN hg (vP_PE m) hst.1 ht
    have hc1 : Core m1 := hc.fr (fun b j q => f1 b j (FTd_CD q))
    have vp1 := FTd_vP f1
    have vs1 := FTd_vS f1
    obtain ⟨⟨r2, m2⟩, e2, hRW, tb, tb0, f2⟩ := rq_runs hN hc1
    rw [vp1, vs1] at tb tb0
    rw [vp1] at e2
    dsimp only at tb tb0 f2
    have e3 := (vP_PQ m1)
    rw [vp1] at e3
    have hp := at_ph hg q.1
    have hal : pM_all m1 = some (allS (vP m 2 3)) := e_all hg hr e3
    have hOk := OkT.of hc it f1 f2
    generalize hpp : r * vP m 2 0 + c = p at hp
    have hD : pD_dew N m c r h = if h = -1 then some (m1 237 p, m1) else some (m1 (203 + h) p, m1) := by
      unfold pD_dew
      rw [e_cellAt hg (vP_PE m), if_pos q.1, hpp]
      rw [Option.bind_some]
      rw [if_neg (by omega), if_neg (by omega), if_neg (by omega), e1]
      show (if h = -1 then if 0 ≤ p ∧ p < 64 then some (m1 237 p, m1) else none else if 0 ≤ h ∧ h < 9 then if 0 ≤ p ∧ p < 64 then some (m1 (202 + 1 + h) p, m1) else none else none) = _
      by_cases q1 : h = -1
      · rw [if_pos q1, if_pos (by omega), if_pos q1]
      · rw [if_neg q1, if_pos (by omega), if_pos (by omega), if_neg q1, show (202 : Int) + 1 + h = 203 + h by omega]
    have hM : pM_dew N m1 c r h = some (m2 511 (64 * (h + 1) + ph (vP m) p), m2) := by
      unfold pM_dew
      rw [e_isCell hg hr e3, if_pos q.1]
      rw [Option.bind_some]
      rw [if_neg (by omega), e_is, if_pos q.2]
      rw [Option.bind_some]
      rw [if_neg (by omega), hal]
      rw [Option.bind_some]
      rw [e2]
      dsimp only [Option.bind_some]
      have w1 : w32 (w32 (w32 (64 * w32 (h + 1)) + w32 (8 * r)) + c) = 64 * (h + 1) + ph (vP m) p := by
        rw [w32_eq (x := h + 1) (by omega) (by omega), w32_eq (x := 64 * (h + 1)) (by omega) (by omega), w32_eq (x := 8 * r) (by omega) (by omega), w32_eq (x := 64 * (h + 1) + 8 * r) (by omega) (by omega), w32_eq (by omega) (by omega)]
        omega
      have hph := ph_eq hg hp.1
      rw [w1, if_pos (by omega)]
    have hb := WB.beg hg hst.1 (t := 1) (Or.inl rfl)
    by_cases q1 : h = -1
    · rw [if_pos q1] at hD
      refine ⟨_, m1, m2, hD, hM.trans ?_, hOk⟩
      rw [q1, show 64 * (-1 + 1) + ph (vP m) p = ph (vP m) p by omega, tb0 p hp.1.1 hp.1.2]
      congr 2
      rw [← tk.1, vW_in (by omega)]
      rfl
    · rw [if_neg q1] at hD
      refine ⟨_, m1, m2, hD, hM.trans ?_, hOk⟩
      rw [(tb h (by omega) (by omega)).1 p hp.1.1 hp.1.2, (tk.2 h (by omega) (by omega)).1 p hp.1.1 hp.1.2]
  · have hD : pD_dew N m c r h = some (-1, m) := by
      unfold pD_dew
      rw [e_cellAt hg (vP_PE m)]
      by_cases q1 : (0 ≤ c ∧ c < vP m 2 0) ∧ (0 ≤ r ∧ r < vP m 2 1)
      · have hp := at_ph hg q1
        rw [if_pos q1]
        rw [Option.bind_some]
        rw [if_neg (by omega)]
        by_cases q3 : h < -1
        · rw [if_pos q3]
        · rw [if_neg q3, if_pos (by omega)]
      · rw [if_neg q1]; rfl
    have hM : pM_dew N m c r h = some (-1, m) := by
      unfold pM_dew
      rw [e_isCell hg hr (vP_PQ m)]
      by_cases q1 : (0 ≤ c ∧ c < vP m 2 0) ∧ (0 ≤ r ∧ r < vP m 2 1)
      · rw [if_pos q1]
        rw [Option.bind_some]
        rw [if_neg (by omega), e_is, if_neg (fun c => q ⟨q1, c⟩)]
        rfl
      · rw [if_neg q1]; rfl
    exact ⟨-1, m, m, hD, hM, OkT.rf hc ht⟩
