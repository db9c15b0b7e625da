/-! SEE: the call -/
def FSe : Int → Int → Prop := fun b j => (b = 0 ∧ j = 1) ∨ (b = 475 ∧ (j = 1 ∨ j = 68)) ∨ (b = 396 ∧ (j = 3 ∨ j = 11 ∨ j = 12)) ∨ b = 397 ∨ (516 ≤ b ∧ b ≤ 518)
def OkE (m m2 : Mem) : Prop := Core m2 ∧ ((Fr FSe m m2 ∧ m2 396 11 = 0 ∧ m2 396 12 = 0) ∨ Fr FSm m m2)
theorem o_see {N : Nat} {m : Mem} (hN : 2000 ≤ N) (h : Core m) : ∃ r m1 m2, pD_see N m = some (r, m1) ∧ pM_see N m1 = some (r, m2) ∧ OkE m m2 := by
  obtain ⟨ht, hrf, hsd, hft, ⟨hg, hr, hnm⟩, hst, hac, hse, him, hwk⟩ := id h
  obtain ⟨t1, t2, t3⟩ := id ht
  have hB : gB (fun j => m 1 j) (m 0 1) := fun j h0 h1 => (t3 j h0 h1).2
  have f0 : Fr (fun b j => b = 0 ∧ j = 1) m (mset m 0 1 0) := Fr.rfl'.set ⟨rfl, rfl⟩
  obtain ⟨⟨r, mD⟩, eR, hR⟩ := c_look (g := fun j => m 1 j) (L := m 0 1) (m := mset m 0 1 0) hN hg ((vP_PE m).fr f0 (fun b j q => by unfold plc at q; omega)) t2 hB (fun j _ _ => mset_o (by omega))
  unfold LkQ at hR
  dsimp only at hR
  have z0 : mset m 0 1 0 0 1 = 0 := mset_s rfl rfl
  generalize hm0 : mset m 0 1 0 = m0 at *
  rcases hR with ⟨ok, hr1, e3, e397, e11, fR⟩ | ⟨nok, hr0, rfl⟩
  · have hD : pD_see N m = some (mD 396 3, mD) := by
      unfold pD_see
      dsimp only [Option.bind_some]
      rw [hm0, eR]
      dsimp only [Option.bind_some]
      rw [if_neg (by omega)]
    have f1 : Fr (fun b j => (b = 0 ∧ j = 1) ∨ (b = 396 ∧ (j = 3 ∨ j = 11 ∨ j = 12)) ∨ b = 397) m mD := (f0.mono (fun b j q => Or.inl q)).trans (fR.mono (fun b j q => Or.inr q))
    obtain ⟨⟨r2, m2⟩, eM, hM⟩ := r_see (g := fun j => m 1 j) (L := m 0 1) (m := mD) hN hg hr ((vP_PQ m).fr f1 (fun b j q => by unfold prc at q; omega)) t2 hB (fun j h0 h1 => by rw [f1 _ _ (by omega)]; exact (t3 j h0 h1).1) (by rw [f1 _ _ (by omega)]; exact t1)
    dsimp only at hM
    rcases hM with ⟨-, hr2, k01, k68, hsq, f2⟩ | ⟨nok, -⟩
    · have lo : ∀ b j, b < 475 → m2 b j = mD b j := fun b j q => f2 b j (by omega)
      have F : Fr FSe m m2 := (f1.mono (fun b j q => by unfold FSe; omega)).trans (f2.mono (fun b j q => by unfold FSe; omega))
      have ok' := ok.1
      unfold seeL at ok'
      refine ⟨_, mD, m2, hD, by rw [eM, hr2, e3], h.gen ?_ (ht.zero ?_ k01) ?_ ?_ ?_ ?_ ?_, Or.inl ⟨F, ?_, ?_⟩⟩
      · intro b j q
        refine F b j ?_
        unfold FSe
        rcases q with q | q | q | q
        · unfold A4 at q; omega
        · unfold A5 plc prc at q; omega
        · unfold A9 at q; omega
        · unfold A10 at q; omega
      · rw [lo _ _ (by omega), fR _ _ (by omega)]; exact z0
      · exact hrf.fr (fun b j q => F b j (by unfold A2 at q; unfold FSe; omega))
      · exact hsd.fr (fun b j q => F b j (by unfold A3 at q; unfold FSe; omega))
      · exact hst.fr hg (fun b j q => F b j (by unfold A6 FLy at q; unfold FSe; omega))
      · refine hac.fr hg (fun b j q => F b j ?_)
        unfold FSe
        unfold A7 at q
        rcases q with q | q | q | ⟨v, _, _, q⟩
        · omega
        · omega
        · omega
        · have := FLy_b q; omega
      · have i3 : m2 396 3 = m 0 1 / 4 := by rw [lo _ _ (by omega)]; exact e3
        have i397 : ∀ j, 0 ≤ j → j < m 0 1 → m2 397 j = m 1 j := fun j h0 h1 => by rw [lo _ _ (by omega)]; exact e397 j h0 h1
        refine ⟨by rw [k68, i3], by rw [i3]; omega, fun x h0 h1 => ?_⟩
        rw [i3] at h1
        have hx := ok.2 x h0 (by omega)
        have hs := hsq x h0 h1
        have b0 := hB (4 * x) (by omega) (by omega)
        have b3 := hB (4 * x + 3) (by omega) (by omega)
        unfold rowOK at hx
        unfold SQ at hs
        dsimp only at hx hs b0 b3
        rw [i397 (4 * x) (by omega) (by omega), i397 (4 * x + 1) (by omega) (by omega), i397 (4 * x + 2) (by omega) (by omega), i397 (4 * x + 3) (by omega) (by omega)]
        exact ⟨⟨b0.1, hx.2.1⟩, hx.1.1, hx.1.2, ⟨b3.1, hx.2.2⟩, hs.1, hs.2.1, hs.2.2⟩
      · rw [lo _ _ (by omega)]; exact e11.1
      · rw [lo _ _ (by omega)]; exact e11.2
    · exact absurd ok nok
  · obtain ⟨⟨r2, m2⟩, eM, hM⟩ := r_see (g := fun j => m 1 j) (L := m 0 1) (m := R1 mD 5) hN hg hr ((vP_PQ m).fr ((f0.mono (T := fun b j => (b = 0 ∧ j = 1) ∨ b = 474) (fun b j q => Or.inl q)).trans ((R1_fr mD 5).mono (fun b j q => Or.inr q.1))) (fun b j q => by unfold prc at q; omega)) t2 hB (fun j h0 h1 => by rw [R1_o (by omega), f0 _ _ (by omega)]; exact (t3 j h0 h1).1) (by rw [R1_o (by omega), f0 _ _ (by omega)]; exact t1)
    rcases hM with ⟨ok, -⟩ | ⟨-, hM⟩
    · exact absurd ok nok
    · refine ⟨-1, R1 mD 5, m2, ?_, ?_, ?_⟩
      · unfold pD_see
        dsimp only [Option.bind_some]
        rw [hm0, eR]
        dsimp only [Option.bind_some]
        rw [if_pos hr0, R1_e (by omega)]
        rfl
      · have e9 : r2 = -1 := congrArg Prod.fst hM
        rw [eM, e9]
      · have e2 : m2 = mset (mset (R1 mD 5) 475 1 0) 497 5 (w32 (R1 mD 5 497 5 + 1)) := congrArg Prod.snd hM
        have fA : Fr (fun b j => (b = 0 ∧ j = 1) ∨ (b = 475 ∧ j = 1) ∨ b = 474 ∨ b = 497) m m2 := by
          rw [e2]
          exact (((f0.mono (fun b j q => Or.inl q)).trans ((R1_fr mD 5).mono (fun b j q => Or.inr (Or.inr (Or.inl q.1))))).set (by omega)).set (by omega)
        have f' : Fr FSm m m2 := fA.mono (fun b j q => by unfold FSm; omega)
        refine ⟨h.sm f' (ht.zero ?_ ?_) (hrf.two (k := 5) (by omega) (fun j => ?_) (fun j => ?_)) (hsd.fr (fun b j q => fA b j (by unfold A3 at q; omega))), Or.inr f'⟩
        · rw [e2, mset_o (by omega), mset_o (by omega), R1_o (by omega)]; exact z0
        · rw [e2, mset_o (by omega), mset_s rfl rfl]
        · rw [e2, mset_o (by omega), mset_o (by omega)]
          unfold R1
          by_cases q : j = 5
          · rw [mset_s rfl q, if_pos q, f0 _ _ (by omega)]
          · rw [mset_o (by omega), if_neg q, f0 _ _ (by omega)]
        · rw [e2]
          by_cases q : j = 5
          · rw [mset_s rfl q, if_pos q, R1_o (by omega), f0 _ _ (by omega)]
          · rw [mset_o (by omega), mset_o (by omega), if_neg q, R1_o (by omega), f0 _ _ (by omega)]
