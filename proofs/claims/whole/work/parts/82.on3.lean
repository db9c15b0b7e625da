/-! ON: the call -/
def CG (b j : Int) : Prop := A4 b j ∨ A5 b j ∨ A9 b j ∨ A10 b j
theorem Core.gen {m m' : Mem} (h : Core m) (f : ∀ b j, CG b j → m' b j = m b j) (n1 : ITape m') (n2 : IRef m') (n3 : ISeed m') (n6 : ISt (vP m) m') (n7 : IActs (vP m) m') (n8 : ISeen (vP m) m') : Core m' := by
  obtain ⟨h1, h2, h3, h4, ⟨h5, h6, h7⟩, h8, h9, h10, h11, h12⟩ := h
  have hp : vP m' = vP m := vP_fr (fun b j q => f b j (Or.inr (Or.inl q)))
  unfold Core
  rw [hp]
  exact ⟨n1, n2, n3, h4.fr (fun b j q => f b j (Or.inl q)), ⟨h5, h6, h7⟩, n6, n7, n8, h11.fr (fun b j q => f b j (Or.inr (Or.inr (Or.inl q)))), (f _ _ (Or.inr (Or.inr (Or.inr ⟨rfl, rfl⟩)))).trans h12⟩
theorem R1_fr (m : Mem) (k : Int) : Fr (fun b j => b = 474 ∧ j = k) m (R1 m k) := Fr.rfl'.set ⟨rfl, rfl⟩
theorem ITape.zero {m m2 : Mem} (h : ITape m) (e1 : m2 0 1 = 0) (e2 : m2 475 1 = 0) : ITape m2 := ⟨by rw [e1, e2], by rw [e1]; omega, fun i h0 h1 => by rw [e1] at h1; omega⟩
def FOn : Int → Int → Prop := fun b j => (b = 0 ∧ j = 1) ∨ (b = 475 ∧ j = 1) ∨ b = 474 ∨ b = 497 ∨ FRe b j ∨ FLy 1 b j
def OkO (m m2 : Mem) : Prop := Core m2 ∧ (Fr FOn m m2 ∨ NoC m2)
theorem o_on {N : Nat} {m : Mem} (hN : 2000 ≤ N) (h : Core m) : ∃ r m1 m2, pD_on N m = some (r, m1) ∧ pM_on N m1 = some (r, m2) ∧ OkO m m2 := by
  obtain ⟨ht, hrf, hsd, -, ⟨hg, hr, hnm⟩, hst, hac, hse, him, hwk⟩ := id h
  obtain ⟨t1, t2, t3⟩ := id ht
  obtain ⟨a1, a2, a3, a4, -⟩ := id hac
  have hB : gB (fun j => m 1 j) (m 0 1) := fun j h0 h1 => (t3 j h0 h1).2
  obtain ⟨⟨r, mD⟩, eR, hR, fR⟩ := c_restore (g := fun j => m 1 j) (L := m 0 1) (m := mset m 0 1 0) hN hg ((vP_PE m).fr (S := fun b j => b = 0 ∧ j = 1) (Fr.rfl'.set ⟨rfl, rfl⟩) (fun b j q => by unfold plc at q; omega)) t2 hB (fun j _ _ => mset_o (by omega))
  dsimp only at hR fR
  have gD : Fr (fun b j => (b = 0 ∧ j = 1) ∨ FRe b j) m mD := ((Fr.rfl' (m := m)).set (k := 1) (a := 0) (v := 0) (Or.inl ⟨rfl, rfl⟩)).trans (fR.mono (fun b j q => Or.inr q))
  have z01 : mD 0 1 = 0 := by rw [fR _ _ (by unfold FRe; omega)]; exact mset_s rfl rfl
  -- the reference begins at a memory that differs in what the component wrote
  have hM : ∀ m1 : Mem, Fr (fun b j => b ≤ 474) m m1 → Rn (pM_comesOn N (mset m1 475 1 0) (m 0 1)) (fun r => ((onOK (vP m) (fun j => m 1 j) (m 0 1) ∧ r.1 = 1 ∧ ∀ S, onS (vP m) (fun j => m 1 j) S → SR (vP m) r.2 1 S) ∨ (¬ onOK (vP m) (fun j => m 1 j) (m 0 1) ∧ r.1 = 0)) ∧ Fr (FLy 1) (mset m1 475 1 0) r.2) := fun m1 f1 => by
    have f2 : Fr (fun b j => b ≤ 474 ∨ (b = 475 ∧ j = 1)) m (mset m1 475 1 0) := (f1.mono (fun b j q => Or.inl q)).set (Or.inr ⟨rfl, rfl⟩)
    exact r_comesOn (S0 := vS m 38) hN hg hr ((vP_PQ m).fr f2 (fun b j q => by unfold prc at q; omega)) t2 hB (fun j h0 h1 => by rw [f2 _ _ (by omega)]; exact (t3 j h0 h1).1) (hst.2.eq hg hst.1.2.2.2.2 (fun b j q => f2 b j (by have := FLy_b q; omega))) hst.1
  rcases hR with ⟨ok, hr1, hS⟩ | ⟨nok, hr0⟩
  · -- accepted
    have hD : Rn (pD_on N m) (fun p => p.1 = 1 ∧ vS p.2 38 = vS mD 45 ∧ p.2 52 2 = 0 ∧ p.2 0 1 = 0 ∧ NoC p.2 ∧ Fr (fun b j => (b = 0 ∧ j = 1) ∨ FRe b j ∨ FS 38 b j ∨ (b = 52 ∧ j = 2) ∨ FGc b j) m p.2) := by
      unfold pD_on
      refine rn_v (rn_v ?_)
      rw [eR]
      refine rn_v ?_
      dsimp only
      refine rn_f (by omega) ?_
      refine rn_b (c_copyS (m := mD) (d := 38) (s := 45) (by omega)) (fun mA hA => ?_)
      refine rn_b (P := fun mB => mB = mset mA 52 2 0) ⟨_, rfl, rfl⟩ (fun mB hB' => ?_)
      have s2 : mB 52 2 = 0 := by rw [hB', mset_s rfl rfl]
      have fB : Fr (fun b j => b = 52 ∧ j = 2) mA mB := by rw [hB']; exact Fr.rfl'.set ⟨rfl, rfl⟩
      clear hB'
      refine rn_e (e_forget mB) (rn_s ⟨rfl, ?_, ?_, ?_, FG_no mB, ?_⟩)
      · rw [← hA.1]
        refine vS_fr (fun b j q1 q2 _ => ?_)
        dsimp only
        rw [FG_fr mB b j (by unfold FGc; omega), fB _ _ (by omega)]
      · dsimp only
        rw [FG_fr mB _ _ (by unfold FGc; omega)]; exact s2
      · dsimp only
        rw [FG_fr mB _ _ (by unfold FGc; omega), fB _ _ (by omega), hA.2 _ _ (by unfold FS; omega)]; exact z01
      · exact (((gD.mono (fun b j q => by rcases q with q | q; exact Or.inl q; exact Or.inr (Or.inl q))).trans (hA.2.mono (fun b j q => Or.inr (Or.inr (Or.inl q))))).trans (fB.mono (fun b j q => Or.inr (Or.inr (Or.inr (Or.inl q)))))).trans ((FG_fr mB).mono (fun b j q => Or.inr (Or.inr (Or.inr (Or.inr q)))))
    obtain ⟨⟨r2, m1⟩, eD, hr2, hv, e52, e01, n1, f1⟩ := hD
    dsimp only at hr2 hv e52 e01 n1 f1
    obtain ⟨⟨r3, mE⟩, eM, hE, fE⟩ := hM m1 (f1.mono (fun b j q => by unfold FRe FS FGc at q; omega))
    dsimp only at hE fE
    rcases hE with ⟨-, hr3, hSR⟩ | ⟨nok, -⟩
    · have sE := hSR _ hS
      have sb : SB (vP m) (vS mD 45) := onS.SB hg hB ok hS
      have k1 : m1 475 1 = m 0 1 := by rw [f1 _ _ (by unfold FRe FS FGc; omega)]; exact t1
      have hMM : Rn (pM_on N m1) (fun p => p.1 = 1 ∧ SR (vP m) p.2 0 (vS mD 45) ∧ p.2 475 52 = 0 ∧ p.2 475 1 = 0 ∧ Fr (fun b j => (b = 475 ∧ (j = 1 ∨ j = 52)) ∨ FLy 1 b j ∨ FLy 0 b j) m1 p.2) := by
        unfold pM_on
        rw [k1]
        refine rn_v (rn_v ?_)
        rw [eM]
        refine rn_v ?_
        dsimp only
        refine rn_f (by omega) ?_
        refine rn_b (r_copies hN hg (by omega) (by omega) (by omega) sE sb.2.2.2) (fun mF hF => ?_)
        refine rn_l (fun mH hH => ?_)
        have s52 : mH 475 52 = 0 := by rw [hH, mset_s rfl rfl]
        have fH : Fr (fun b j => b = 475 ∧ j = 52) mF mH := by rw [hH]; exact Fr.rfl'.set ⟨rfl, rfl⟩
        clear hH
        refine rn_s ⟨rfl, hF.1.eq hg sb.2.2.2.2 (fun b j q => fH b j (by have := FLy_b q; omega)), s52, ?_, ?_⟩
        · dsimp only
          rw [fH _ _ (by omega), hF.2 _ _ (by unfold FLy; omega), fE _ _ (by unfold FLy; omega), mset_s rfl rfl]
        · exact ((((Fr.rfl' (m := m1)).set (a := 475) (k := 1) (v := 0) (Or.inl ⟨rfl, Or.inl rfl⟩)).trans (fE.mono (fun b j q => Or.inr (Or.inl q)))).trans (hF.2.mono (fun b j q => Or.inr (Or.inr q)))).trans (fH.mono (fun b j q => Or.inl ⟨q.1, Or.inr q.2⟩))
      obtain ⟨⟨r4, m2⟩, eM2, hr4, s2, k52, k01, f2⟩ := hMM
      dsimp only at hr4 s2 k52 k01 f2
      have lo : ∀ b j, b < 475 → m2 b j = m1 b j := fun b j q => f2 b j (by unfold FLy; omega)
      have F : ∀ b j, ¬ ((b = 0 ∧ j = 1) ∨ FRe b j ∨ FS 38 b j ∨ (b = 52 ∧ j = 2) ∨ FGc b j) → ¬ ((b = 475 ∧ (j = 1 ∨ j = 52)) ∨ FLy 1 b j ∨ FLy 0 b j) → m2 b j = m b j := fun b j q1 q2 => (f2 b j q2).trans (f1 b j q1)
      have v38 : vS m2 38 = vS mD 45 := by
        rw [← hv]
        exact vS_fr (fun b j q1 q2 _ => lo b j (by omega))
      refine ⟨1, m1, m2, by rw [eD, hr2], by rw [eM2, hr4], h.gen ?_ (ht.zero (by rw [lo _ _ (by omega)]; exact e01) k01) ?_ ?_ ⟨by rw [v38]; exact sb, by rw [v38]; exact s2⟩ ?_ ?_, Or.inr (n1.fr (fun b j q => lo b j (by unfold FGc at q; omega)))⟩
      · intro b j q
        refine F b j ?_ ?_
        · unfold FRe FS FGc
          rcases q with q | q | q | q
          · unfold A4 at q; omega
          · unfold A5 plc prc at q; omega
          · unfold A9 at q; omega
          · unfold A10 at q; omega
        · unfold FLy
          rcases q with q | q | q | q
          · unfold A4 at q; omega
          · unfold A5 plc prc at q; omega
          · unfold A9 at q; omega
          · unfold A10 at q; omega
      · exact hrf.fr (fun b j q => F b j (by unfold A2 at q; unfold FRe FS FGc; omega) (by unfold A2 at q; unfold FLy; omega))
      · exact hsd.fr (fun b j q => F b j (by unfold A3 at q; unfold FRe FS FGc; omega) (by unfold A3 at q; unfold FLy; omega))
      · have k51 : m2 475 51 = m2 52 1 := by
          rw [f2 _ _ (by unfold FLy; omega), f1 _ _ (by unfold FRe FS FGc; omega), lo _ _ (by omega), f1 _ _ (by unfold FRe FS FGc; omega)]
          exact a1
        have k522 : m2 52 2 = 0 := by rw [lo _ _ (by omega)]; exact e52
        have k521 : m2 52 1 = m 52 1 := by rw [lo _ _ (by omega), f1 _ _ (by unfold FRe FS FGc; omega)]
        exact ⟨k51, by rw [k52, k522], by rw [k521]; exact a3, by rw [k522]; omega, fun k h0 h1 => by rw [k522] at h1; omega⟩
      · exact hse.fr (fun b j q => F b j (by unfold A8 at q; unfold FRe FS FGc; omega) (by unfold A8 at q; unfold FLy; omega))
    · exact absurd ok nok
  · -- refused
    obtain ⟨⟨r3, mE⟩, eM, hE, fE⟩ := hM (R1 mD 5) ((gD.mono (fun b j q => by unfold FRe at q; omega)).trans ((R1_fr mD 5).mono (fun b j q => by omega)))
    dsimp only at hE fE
    have hr3 : r3 = 0 := by
      rcases hE with ⟨ok, -⟩ | ⟨-, hh⟩
      · exact absurd ok nok
      · exact hh
    have g1 : Fr (fun b j => (b = 0 ∧ j = 1) ∨ FRe b j ∨ (b = 474 ∧ j = 5)) m (R1 mD 5) := (gD.mono (fun b j q => by rcases q with q | q; exact Or.inl q; exact Or.inr (Or.inl q))).trans ((R1_fr mD 5).mono (fun b j q => Or.inr (Or.inr q)))
    have k1 : R1 mD 5 475 1 = m 0 1 := by rw [g1 _ _ (by unfold FRe; omega)]; exact t1
    have gE : Fr (fun b j => (b = 475 ∧ j = 1) ∨ FLy 1 b j) (R1 mD 5) mE := ((Fr.rfl' (m := R1 mD 5)).set (a := 475) (k := 1) (v := 0) (Or.inl ⟨rfl, rfl⟩)).trans (fE.mono (fun b j q => Or.inr q))
    have zE : mE 475 1 = 0 := by rw [fE _ _ (by unfold FLy; omega), mset_s rfl rfl]
    refine ⟨0, R1 mD 5, mset mE 497 5 (w32 (mE 497 5 + 1)), ?_, ?_, ?_⟩
    · unfold pD_on
      dsimp only [Option.bind_some]
      rw [eR]
      dsimp only [Option.bind_some]
      rw [if_pos hr0, R1_e (by omega)]
      rfl
    · unfold pM_on
      rw [k1]
      dsimp only [Option.bind_some]
      rw [eM]
      dsimp only [Option.bind_some]
      rw [if_pos hr3, e_refM (by omega)]
      dsimp only [Option.bind_some]
      rw [if_pos (by omega)]
    · generalize hm2 : mset mE 497 5 (w32 (mE 497 5 + 1)) = m2
      have s497 : m2 497 5 = w32 (mE 497 5 + 1) := by rw [← hm2, mset_s rfl rfl]
      have f3 : Fr (fun b j => b = 497 ∧ j = 5) mE m2 := by rw [← hm2]; exact Fr.rfl'.set ⟨rfl, rfl⟩
      clear hm2
      have fA : Fr FOn m m2 := ((g1.mono (fun b j q => by unfold FOn; rcases q with q | q | q; exact Or.inl q; exact Or.inr (Or.inr (Or.inr (Or.inr (Or.inl q)))); exact Or.inr (Or.inr (Or.inl q.1)))).trans (gE.mono (fun b j q => by unfold FOn; rcases q with q | q; exact Or.inr (Or.inl q); exact Or.inr (Or.inr (Or.inr (Or.inr (Or.inr q))))))).trans (f3.mono (fun b j q => by unfold FOn; exact Or.inr (Or.inr (Or.inr (Or.inl q.1)))))
      have FF : ∀ b j, (A3 b j ∨ A4 b j ∨ A5 b j ∨ A6 b j ∨ A8 b j ∨ A9 b j ∨ A10 b j) → ¬ FOn b j := fun b j q => by
        unfold FOn FRe FLy
        rcases q with q | q | q | q | q | q | q
        · unfold A3 at q; omega
        · unfold A4 at q; omega
        · unfold A5 plc prc at q; omega
        · unfold A6 FLy at q; omega
        · unfold A8 at q; omega
        · unfold A9 at q; omega
        · unfold A10 at q; omega
      have e474 : ∀ j, m2 474 j = if j = 5 then w32 (m 474 5 + 1) else m 474 j := fun j => by
        rw [f3 _ _ (by omega), gE _ _ (by unfold FLy; omega)]
        unfold R1
        by_cases q : j = 5
        · rw [mset_s rfl q, if_pos q, gD _ _ (by unfold FRe; omega)]
        · rw [mset_o (by omega), if_neg q, gD _ _ (by unfold FRe; omega)]
      have k497 : ∀ j, mE 497 j = m 497 j := fun j => by rw [gE _ _ (by unfold FLy; omega), g1 _ _ (by unfold FRe; omega)]
      have e497 : ∀ j, m2 497 j = if j = 5 then w32 (m 497 5 + 1) else m 497 j := fun j => by
        by_cases q : j = 5
        · rw [if_pos q, q, s497, k497]
        · rw [if_neg q, f3 _ _ (by omega), k497]
      refine ⟨h.gen (fun b j q => fA b j (FF b j (by rcases q with q | q | q | q; exact Or.inr (Or.inl q); exact Or.inr (Or.inr (Or.inl q)); exact Or.inr (Or.inr (Or.inr (Or.inr (Or.inr (Or.inl q))))); exact Or.inr (Or.inr (Or.inr (Or.inr (Or.inr (Or.inr q)))))))) (ht.zero ?_ ?_) (hrf.two (by omega) e474 e497) (hsd.fr (fun b j q => fA b j (FF b j (Or.inl q)))) (hst.fr hg (fun b j q => fA b j (FF b j (Or.inr (Or.inr (Or.inr (Or.inl q))))))) (hac.fr hg (fun b j q => fA b j ?_)) (hse.fr (fun b j q => fA b j (FF b j (Or.inr (Or.inr (Or.inr (Or.inr (Or.inl q)))))))), Or.inl fA⟩
      · rw [f3 _ _ (by omega), gE _ _ (by unfold FLy; omega)]
        unfold R1
        rw [mset_o (by omega)]; exact z01
      · rw [f3 _ _ (by omega)]; exact zE
      · unfold FOn FRe
        unfold A7 at q
        rcases q with q | q | q | ⟨v, v1, v2, q⟩
        · unfold FLy; omega
        · unfold FLy; omega
        · unfold FLy; omega
        · have h1 := FLy_b q
          have h2 := FLy_x (w := 1) (by omega) q
          intro c
          rcases c with c | c | c | c | c | c
          · omega
          · omega
          · omega
          · omega
          · omega
          · exact h2 c
