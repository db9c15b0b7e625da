/-! VALLEY: the call -/
theorem o_valley {N : Nat} {m : Mem} (hN : 4000 ≤ N) (h : Core m) : ∃ r m1 m2, pD_valley N m = some (r, m1) ∧ pM_valley N m1 = some (r, m2) ∧ OkV m m2 := by
  have hTape := h.1
  have hv13 : vP m 475 13 = m 475 13 := vP_in (by omega)
  have hr13 := h.2.2.2.2.1.2.1.1
  rw [hv13] at hr13
  obtain ⟨ib, hib, h13⟩ : ∃ ib : Int, (ib = 0 ∨ ib = 1) ∧ m 475 13 = 1 - ib := ⟨1 - m 475 13, by omega, by omega⟩
  obtain ⟨⟨r12, m12⟩, er, hfr, hgk, t, en, hs, hcase⟩ := c_read (N := N) (T := m 1) (L := m 0 1) (ib := ib) (m := m) hN hTape.2.1 (fun j _ _ => rfl) (fun j j0 j1 => (hTape.2.2 j j0 j1).2) hib hTape.1 h13 (fun j j0 j1 => (hTape.2.2 j j0 j1).1)
  have fr12 : Fr FCr m m12 := hfr
  -- the reference begins on any memory that agrees
  have sta : ∀ mr, (∀ b j, 475 ≤ b ∧ b ≤ 476 → mr b j = m b j) → ∀ (K : Mem → Option (Int × Mem)) (Q : Int × Mem → Prop), (∀ m1, STA (RTj (m 1) (m 0 1) t en) ib m1 → m1 475 1 = 0 → Fr (FVs ib) mr m1 → Rn (K m1) Q) → Rn (RBg N K mr) Q := fun mr hm K Q hQ =>
    r_begins (by omega) hTape.2.1 hs hib ((hm 475 1 (by omega)).trans hTape.1) ((hm 475 13 (by omega)).trans h13) (fun j j0 j1 => (hm 476 j (by omega)).trans (hTape.2.2 j j0 j1).1) hQ
  rcases hcase with ⟨e1, k', x', hx', h5x, hcase⟩ | ⟨e1, b1, hcase⟩
  · -- no fault
    have e1' : r12 = 1 := e1
    have h5x' : m12 19 5 = x' := h5x
    have hg12 := hgk (by rw [e1]; decide)
    obtain ⟨mrE, hE⟩ : ∃ mr', RDY (RTj (m 1) (m 0 1) t en) ib k' m12 mr' := by
      obtain ⟨a, -, ha⟩ := sta m (fun _ _ _ => rfl) (RV N (fun _ m => some (0, m))) (fun r => RDY (RTj (m 1) (m 0 1) t en) ib k' m12 r.2) (fun ms hms h0 f => hcase ms hms _ _ (fun mr' hr' _ => rn_s hr'))
      exact ⟨_, ha⟩
    have hl : ∀ w, 0 ≤ w → w < 3 → 0 ≤ m12 (26 + 3 * w) 2 ∧ m12 (26 + 3 * w) 2 ≤ 1600 := fun w w0 w1 => by
      have := (hE.2.2.1.2.2.2.2.1 w w0 w1).1
      rw [NP_pl (by omega), show 9 + 3 * w + 17 = 26 + 3 * w by omega] at this
      exact this
    have q18 : ∀ b j, 1 ≤ b → mset m12 0 1 0 b j = m12 b j := fun b j q => mset_o (by omega)
    obtain ⟨m42, e42, hcpy⟩ := c_copyP (m := mset m12 0 1 0) (fun w w0 w1 => by rw [q18 _ _ (by omega)]; exact hl w w0 w1)
    obtain ⟨m53, e53, f53, s0, s1, s2⟩ := c_start (N := N) (m := m42) (by omega)
    obtain ⟨f42, c2, c3, c4, c5, cw⟩ := hcpy
    have eD : pD_valley N m = some (x', FG (mset (mset m53 52 2 0) 396 3 0)) := by
      refine rn_eq ?_
      unfold pD_valley
      refine rn_e er (rn_v (rn_f (by omega) (rn_e e42 (rn_e e53 (rn_e (a := mset m53 52 2 0) rfl (rn_e (a := mset (mset m53 52 2 0) 396 3 0) rfl (rn_e (e_forget _) (rn_s ?_))))))))
      have : FG (mset (mset m53 52 2 0) 396 3 0) 2 5 = x' := by
        rw [FG_fr _ 2 5 (by unfold FGc; omega), mset_o (by omega), mset_o (by omega), f53 _ _ (by omega), c2 5 (by decide) (by decide), q18 _ _ (by decide)]
        exact h5x'
      rw [this]
    have hno := FG_no (mset (mset m53 52 2 0) 396 3 0)
    have ffg : ∀ b j, ¬ (FGc b j ∨ (b = 52 ∧ j = 2) ∨ (b = 396 ∧ j = 3)) → FG (mset (mset m53 52 2 0) 396 3 0) b j = m53 b j := fun b j q => by
      rw [FG_fr _ b j (fun c => q (Or.inl c)), mset_o (by omega), mset_o (by omega)]
    have v52 : FG (mset (mset m53 52 2 0) 396 3 0) 52 2 = 0 := by
      rw [FG_fr _ 52 2 (by unfold FGc; omega), mset_o (by omega), mset_s rfl rfl]
    have v396 : FG (mset (mset m53 52 2 0) 396 3 0) 396 3 = 0 := by
      rw [FG_fr _ 396 3 (by unfold FGc; omega), mset_s rfl rfl]
    generalize FG (mset (mset m53 52 2 0) 396 3 0) = m1 at eD hno ffg v52 v396
    have lo : ∀ b j, b ≤ 51 → m1 b j = m53 b j := fun b j q => ffg b j (by unfold FGc; omega)
    have l42 : ∀ b j, b ≤ 37 → m1 b j = m42 b j := fun b j q => (lo b j (by omega)).trans (f53 b j (by omega))
    have l12 : ∀ b j, (18 ≤ b ∧ b ≤ 37) → m1 b j = m12 b j := fun b j q => by rw [l42 b j (by omega), f42 b j (by omega), q18 b j (by omega)]
    have fa : Fr FCo m m1 := fun b j q => by
      have q' := q
      unfold FCo at q'
      rw [ffg b j (fun c => by rcases c with c | c; exact q (Or.inr (Or.inr (Or.inr (Or.inr c)))); omega), f53 b j (by omega), f42 b j (by omega), mset_o (by omega)]
      exact fr12 b j (by unfold FCr; omega)
    have hm475 : ∀ b j, 475 ≤ b ∧ b ≤ 476 → m1 b j = m b j := fun b j q => fa b j (by unfold FCo FGc; omega)
    have hrun : Rn (pM_valley N m1) (fun r => r.1 = x' ∧ ∃ mr', RDY (RTj (m 1) (m 0 1) t en) ib k' m12 mr' ∧ Fr (FVs ib) m1 mr' ∧ mr' 475 1 = 0 ∧ Fr FKg mr' r.2 ∧ (r.2 475 10 = 0 ∧ r.2 475 13 = ib ∧ r.2 475 41 = 1) ∧ BGn ib mr' r.2) := by
      rw [e_valley]
      refine sta m1 hm475 _ _ (fun ms hms h0 fs => hcase ms hms _ _ (fun mr' hr' fr' => rn_q (r_goes (x := x') (by omega) hib hr'.1.2 hr'.2.1) (fun r hr => ⟨hr.1, mr', hr', fs.trans (fr'.mono (fun b j c => Or.inl c)), ?_, hr.2⟩)))
      rw [fr' 475 1 (by unfold FV; omega)]
      exact h0
    obtain ⟨⟨rr, m2⟩, e2, ⟨hr1, mr', hr', fs, h01, fk, hb1, hbg⟩, hz⟩ := Rn.and hrun z_valley
    have hr1' : rr = x' := hr1
    have fk' : Fr FKg mr' m2 := fk
    have hb1' : m2 475 10 = 0 ∧ m2 475 13 = ib ∧ m2 475 41 = 1 := hb1
    have hz' : m2 475 10 = 0 → m2 475 11 = -1 := hz
    refine ⟨x', m1, m2, eD, by rw [e2, hr1'], ?_⟩
    refine Core.new (m1 := m1) (m12 := m12) (mr := mr') (RT := RTj (m 1) (m 0 1) t en) (k := k') h hib hr'.2.2.1 fa ⟨?_, v52, v396⟩ ⟨?_, ?_⟩ hno (fun j j0 j1 => ?_) (fun j j0 j1 => ?_) (fun j j0 j1 => ?_) (fun w w0 w1 => ?_) ⟨?_, ?_⟩ (fun j j0 j1 => ?_) (fun j j0 j1 => ?_) ?_ ?_ hb1' (hz' hb1'.1) fk' hbg
    · rw [l42 0 1 (by decide), f42 _ _ (by omega)]; exact mset_s rfl rfl
    · rw [l12 18 1 (by omega)]; exact hg12.1
    · rw [l12 18 2 (by omega)]; exact hg12.2
    · rw [l42 2 j (by decide), c2 j j0 j1]; exact q18 _ _ (by decide)
    · rw [l42 4 j (by decide), c4 j j0 j1]; exact q18 _ _ (by decide)
    · rw [l42 8 j (by decide), c5 8 j (by decide) j0 j1]; exact q18 _ _ (by decide)
    · obtain ⟨w2, w3⟩ := cw w w0 w1
      rw [q18 _ _ (by omega)] at w2
      rw [q18 _ _ (by omega)] at w3
      refine ⟨(l42 _ _ (by omega)).trans w2, fun j j0 j1 => ?_⟩
      rw [l42 _ _ (by omega), w3 j j0 j1]
      exact q18 _ _ (by omega)
    · rw [lo 38 0 (by decide)]; exact s0.1
    · rw [lo 38 7 (by decide)]; exact s0.2
    · rw [lo 39 j (by decide), s1 j j0 j1, c3 j j0 j1]; exact q18 _ _ (by decide)
    · obtain ⟨t1, t2, t3, t4⟩ := s2 j j0 j1
      rw [lo 40 j (by decide), lo 41 j (by decide), lo 42 j (by decide), lo 43 j (by decide), t1, t2, t3, t4, c5 5 j (by decide) j0 j1, c5 6 j (by decide) j0 j1, c5 7 j (by decide) j0 j1]
      exact ⟨q18 _ _ (by decide), q18 _ _ (by decide), q18 _ _ (by decide), rfl⟩
    · exact (fs.mono (fun b j c => Or.inl c)).trans (fk'.mono (fun b j c => Or.inr c))
    · rw [fk' 475 1 (by unfold FKg FBg FLy; omega)]; exact h01
  · -- a fault
    have e1' : r12 = 0 := e1
    have b1' : 1 ≤ m12 18 1 := b1
    have eD : pD_valley N m = some (-1, mset (mset m12 0 1 0) 474 1 (w32 (mset m12 0 1 0 474 1 + 1))) := by
      refine rn_eq ?_
      unfold pD_valley
      refine rn_e er (rn_v (rn_t e1' (rn_e (e_refD (k := 1) (by decide)) (rn_s rfl))))
    have v474 : mset (mset m12 0 1 0) 474 1 (w32 (mset m12 0 1 0 474 1 + 1)) 474 1 = w32 (m 474 1 + 1) := by
      rw [mset_s rfl rfl, mset_o (by omega), fr12 _ _ (by unfold FCr; omega)]
    have v01 : mset (mset m12 0 1 0) 474 1 (w32 (mset m12 0 1 0 474 1 + 1)) 0 1 = 0 := by
      rw [mset_o (by omega), mset_s rfl rfl]
    have fo : ∀ b j, ¬ ((b = 0 ∧ j = 1) ∨ (b = 474 ∧ j = 1)) → mset (mset m12 0 1 0) 474 1 (w32 (mset m12 0 1 0 474 1 + 1)) b j = m12 b j := fun b j q => by
      rw [mset_o (by omega), mset_o (by omega)]
    generalize mset (mset m12 0 1 0) 474 1 (w32 (mset m12 0 1 0 474 1 + 1)) = m1 at eD v474 v01 fo
    have fm : ∀ b j, 38 ≤ b → b ≠ 474 → m1 b j = m b j := fun b j q q2 => by rw [fo b j (by omega)]; exact fr12 b j (by unfold FCr; omega)
    have hrun : Rn (pM_valley N m1) (fun r => ∃ mr', mr' 475 8 = m12 18 1 ∧ mr' 475 9 = m12 18 2 ∧ Fr (FVs ib) m1 mr' ∧ mr' 475 1 = 0 ∧ r = (-1, mset (mset (mset mr' 475 10 (m12 18 1)) 475 11 (m12 18 2)) 497 1 (w32 (mr' 497 1 + 1)))) := by
      rw [e_valley]
      refine sta m1 (fun b j q => fm b j (by omega) (by omega)) _ _ (fun ms hms h0 fs => hcase ms hms _ _ (fun x mr' g8 g9 fr' => rn_q (r_fails (x := x) g8 g9 b1') (fun r hr => ⟨mr', g8, g9, fs.trans (fr'.mono (fun b j c => Or.inl c)), ?_, hr⟩)))
      rw [fr' 475 1 (by unfold FV; omega)]
      exact h0
    obtain ⟨r, e2, mr', g8, g9, fs, h01, rfl⟩ := hrun
    refine ⟨-1, m1, _, eD, e2, ?_⟩
    have z497 : ∀ b j, ¬ ((b = 475 ∧ (j = 10 ∨ j = 11)) ∨ (b = 497 ∧ j = 1)) → mset (mset (mset mr' 475 10 (m12 18 1)) 475 11 (m12 18 2)) 497 1 (w32 (mr' 497 1 + 1)) b j = mr' b j := fun b j q => by
      rw [mset_o (by omega), mset_o (by omega), mset_o (by omega)]
    have y1 : mset (mset (mset mr' 475 10 (m12 18 1)) 475 11 (m12 18 2)) 497 1 (w32 (mr' 497 1 + 1)) 497 1 = w32 (m 497 1 + 1) := by
      rw [mset_s rfl rfl, fs 497 1 (by unfold FVs FV; omega), fm 497 1 (by decide) (by decide)]
    have y2 : mset (mset (mset mr' 475 10 (m12 18 1)) 475 11 (m12 18 2)) 497 1 (w32 (mr' 497 1 + 1)) 475 10 = m12 18 1 := by
      rw [mset_o (by omega), mset_o (by omega), mset_s rfl rfl]
    have y3 : mset (mset (mset mr' 475 10 (m12 18 1)) 475 11 (m12 18 2)) 497 1 (w32 (mr' 497 1 + 1)) 475 11 = m12 18 2 := by
      rw [mset_o (by omega), mset_s rfl rfl]
    generalize mset (mset (mset mr' 475 10 (m12 18 1)) 475 11 (m12 18 2)) 497 1 (w32 (mr' 497 1 + 1)) = m2 at z497 y1 y2 y3
    refine Core.fail (kd := m12 18 1) (pl := m12 18 2) h hib h13 (fun b j q => ?_) ?_ ?_ ?_ y1 y2 y3 ?_ ?_
    · rw [z497 b j (fun c => q (by omega)), fs b j (fun c => q (Or.inr (Or.inr (Or.inr (Or.inr (Or.inr c)))))), fo b j (fun c => q (by omega))]
      exact fr12 b j (fun c => q (by unfold FCr at c; omega))
    · rw [z497 _ _ (by omega), fs _ _ (by unfold FVs FV; omega)]; exact v01
    · rw [z497 _ _ (by omega)]; exact h01
    · rw [z497 _ _ (by omega), fs _ _ (by unfold FVs FV; omega)]; exact v474
    · rw [z497 _ _ (by omega), fs _ _ (by unfold FVs FV; omega), fo _ _ (by omega)]
    · rw [z497 _ _ (by omega), fs _ _ (by unfold FVs FV; omega), fo _ _ (by omega)]
