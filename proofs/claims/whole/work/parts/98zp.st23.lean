/-! VALLEY: statement behind statement -/
def LPo (RT : Int → Mem → Prop) (N : Nat) (t : Mem) (ib x k : Int) (d : Nat) (mc : Mem) (r : Int × Mem) : Prop := Fr FCv mc r.2 ∧ ((r.1 = 1 ∧ ∃ k' x', (1 ≤ x' ∧ x' ≤ 80) ∧ r.2 19 5 = x' ∧ ∀ mr, LTp RT t ib x k mc mr → ∀ n2, d < n2 → ∀ (KR : Int → Mem → Option (Int × Mem)) (Q : Int × Mem → Prop), (∀ mr', RDY RT ib k' r.2 mr' → Fr (FV ib) mr mr' → Rn (KR x' mr') Q) → Rn (lpF (fun _ _ => none) (pM_valley_L139b N KR) n2 x mr) Q) ∨ (r.1 = 0 ∧ 1 ≤ r.2 18 1 ∧ ∀ mr, LTp RT t ib x k mc mr → ∀ n2, d < n2 → ∀ (KR : Int → Mem → Option (Int × Mem)) (Q : Int × Mem → Prop), (∀ x' mr', mr' 475 8 = r.2 18 1 → mr' 475 9 = r.2 18 2 → Fr (FV ib) mr mr' → Rn (KR x' mr') Q) → Rn (lpF (fun _ _ => none) (pM_valley_L139b N KR) n2 x mr) Q))
theorem lp_out {N : Nat} {KR : Int → Mem → Option (Int × Mem)} {Q : Int × Mem → Prop} {n2 : Nat} {x : Int} {mr : Mem} (hn : 0 < n2) (h8 : mr 475 8 ≠ 0) (h : Rn (KR x mr) Q) : Rn (lpF (fun _ _ => none) (pM_valley_L139b N KR) n2 x mr) Q := by
  obtain ⟨n, rfl⟩ : ∃ n, n2 = n + 1 := ⟨n2 - 1, by omega⟩
  show Rn (pM_valley_L139b N KR (lpF (fun _ _ => none) (pM_valley_L139b N KR) n) x mr) Q
  generalize lpF (fun _ _ => none) (pM_valley_L139b N KR) n = self
  unfold pM_valley_L139b
  exact rn_f h8 h
theorem lp_on {N : Nat} {KR : Int → Mem → Option (Int × Mem)} {Q : Int × Mem → Prop} {n2 : Nat} {x : Int} {mr : Mem} (hn : 0 < n2) (hx : 1 ≤ x ∧ x < 80) (h8 : mr 475 8 = 0) (h3 : mr 475 3 ≠ 0) (h : Rn (pM_statement N mr) (fun m1 => Rn (pM_finishes N m1 (x + 1)) (fun m2 => Rn (lpF (fun _ _ => none) (pM_valley_L139b N KR) (n2 - 1) (x + 1) m2) Q))) : Rn (lpF (fun _ _ => none) (pM_valley_L139b N KR) n2 x mr) Q := by
  obtain ⟨n, rfl⟩ : ∃ n, n2 = n + 1 := ⟨n2 - 1, by omega⟩
  rw [show n + 1 - 1 = n by omega] at h
  show Rn (pM_valley_L139b N KR (lpF (fun _ _ => none) (pM_valley_L139b N KR) n) x mr) Q
  generalize lpF (fun _ _ => none) (pM_valley_L139b N KR) n = self at h ⊢
  unfold pM_valley_L139b
  refine rn_t h8 (rn_f h3 (rn_b h (fun m1 h1 => ?_)))
  rw [w32_eq (x := x + 1) (by omega) (by omega)]
  exact rn_v (rn_b h1 (fun m2 h2 => h2))
theorem lp_end {N : Nat} {KR : Int → Mem → Option (Int × Mem)} {Q : Int × Mem → Prop} {n2 : Nat} {x : Int} {mr : Mem} (hn : 0 < n2) (h8 : mr 475 8 = 0) (h3 : mr 475 3 = 0) (h : Rn (KR x mr) Q) : Rn (lpF (fun _ _ => none) (pM_valley_L139b N KR) n2 x mr) Q := by
  obtain ⟨n, rfl⟩ : ∃ n, n2 = n + 1 := ⟨n2 - 1, by omega⟩
  show Rn (pM_valley_L139b N KR (lpF (fun _ _ => none) (pM_valley_L139b N KR) n) x mr) Q
  generalize lpF (fun _ _ => none) (pM_valley_L139b N KR) n = self
  unfold pM_valley_L139b
  exact rn_t h8 (rn_t h3 h)
theorem RDY.cz {RT : Int → Mem → Prop} {ib k : Int} {mc mr : Mem} (h : RDY RT ib k mc mr) : CZm mc ∧ (0 ≤ mc 26 2 ∧ 0 ≤ mc 29 2 ∧ 0 ≤ mc 32 2) := by
  have hp := h.2.2.1.2.2.2.1.1
  rw [NP_pl (by omega)] at hp
  have hl : ∀ w, 0 ≤ w → w < 3 → 0 ≤ mc (9 + 3 * w + 17) 2 := fun w w0 w1 => by
    have := (h.2.2.1.2.2.2.2.1 w w0 w1).1.1
    rw [NP_pl (by omega)] at this
    exact this
  exact ⟨⟨h.z.2.2.1, hp⟩, hl 0 (by decide) (by decide), hl 1 (by decide) (by decide), hl 2 (by decide) (by decide)⟩
theorem o_loop {N : Nat} {T : Int → Int} {L : Int} {t : Mem} {en : Int → Int} {ib : Int} (hN : 4000 ≤ N) (hL : 0 ≤ L ∧ L ≤ 1600) (hs : SPt T L t en) (hv : NVt t) (hib : ib = 0 ∨ ib = 1) {kk : Mem → Option (Int × Mem)} : ∀ (d nn : Nat) (x k : Int) (mc : Mem), d < nn → 1 ≤ x → x + d = 80 → CKt t mc k → (∀ j, 0 ≤ j → j < L → mc 1 j = T j) → (∃ mr, LTp (RTj T L t en) t ib x k mc mr) → Rn (lpF (fun _ _ => none) (pR_read_L41b N kk) nn x mc) (LPo (RTj T L t en) N t ib x k d mc) := by
  have hLX := RTj.LX (N := N) (by omega) hL hs
  have hz := hs.NX hL
  have hz1 := hz.1
  intro d
  induction d with
  | zero =>
    intro nn x k mc hn hx hd hc hT hex
    obtain ⟨nn, rfl⟩ : ∃ n', nn = n' + 1 := ⟨nn - 1, by omega⟩
    show Rn (pR_read_L41b N kk (lpF (fun _ _ => none) (pR_read_L41b N kk) nn) x mc) _
    generalize lpF (fun _ _ => none) (pR_read_L41b N kk) nn = self
    have hx80 : x = 80 := by omega
    have h01 := hc.1
    unfold pR_read_L41b
    refine rn_f (by omega) (rn_jl (fun J hJ => rn_t (by omega) ?_))
    rw [hc.2.1, hc.2.2.1 35 k (by omega)]
    refine rn_t (by omega) (rn_i (fun q26 => ?_) (fun q26 => ?_))
    · refine rn_v (rn_s ⟨Fr.rfl'.set (by unfold FCv; omega), Or.inl ⟨rfl, k, x, by omega, (mset_s rfl rfl : mset mc 19 5 x 19 5 = x), fun mr hm n2 h2 KR Q hQ => ?_⟩⟩)
      rcases hm with ⟨-, hm⟩ | hm
      · have h3 := (RTj.end hs hc.1 hm.1.1).2 q26
        exact lp_end (by omega) hm.1.2 h3 (hQ mr (hm.step (Fr.rfl'.set (Or.inr ⟨rfl, rfl⟩)) Fr.rfl' (Int.le_refl _) hm.1) Fr.rfl')
      · exact absurd q26 hm.2.1
    · rw [hJ]
      refine rn_t hx80 (rn_b (ck_wrong (x := 6) hz hc) (fun r hr => ?_))
      obtain ⟨r1, r2⟩ := r
      have hb : BADk 6 (t 36 k) mc r2 := hr.2
      refine rn_s ⟨hb.2.2.mono (fun b j c => FCv_k c), Or.inr ⟨hr.1, ?_, fun mr hm n2 h2 KR Q hQ => ?_⟩⟩
      · show 1 ≤ r2 18 1
        rw [hb.1]; decide
      · rcases hm with ⟨c, -⟩ | hm
        · rcases c with c | c
          · exact absurd hx80 c
          · exact absurd c q26
        · exact lp_out h2 (by omega) (hQ x mr (hm.2.2.1.trans hb.1.symm) (hm.2.2.2.trans hb.2.1.symm) Fr.rfl')
  | succ d ih =>
    intro nn x k mc hn hx hd hc hT hex
    obtain ⟨nn, rfl⟩ : ∃ n', nn = n' + 1 := ⟨nn - 1, by omega⟩
    have ih' := ih nn
    show Rn (pR_read_L41b N kk (lpF (fun _ _ => none) (pR_read_L41b N kk) nn) x mc) _
    generalize lpF (fun _ _ => none) (pR_read_L41b N kk) nn = self at ih' ⊢
    have h01 := hc.1
    have rdy : ∀ mr, LTp (RTj T L t en) t ib x k mc mr → RDY (RTj T L t en) ib k mc mr := fun mr hm => by
      rcases hm with ⟨-, hm⟩ | hm
      · exact hm
      · omega
    obtain ⟨mr0, hm0⟩ := hex
    have hm0' := rdy mr0 hm0
    have hcz := hm0'.cz
    unfold pR_read_L41b
    refine rn_f (by omega) (rn_jl (fun J hJ => rn_t (by omega) ?_))
    rw [hc.2.1, hc.2.2.1 35 k (by omega)]
    refine rn_t (by omega) (rn_i (fun q26 => ?_) (fun q26 => ?_))
    · refine rn_v (rn_s ⟨Fr.rfl'.set (by unfold FCv; omega), Or.inl ⟨rfl, k, x, by omega, (mset_s rfl rfl : mset mc 19 5 x 19 5 = x), fun mr hm n2 h2 KR Q hQ => ?_⟩⟩)
      have hm := rdy mr hm
      have h3 := (RTj.end hs hc.1 hm.1.1).2 q26
      exact lp_end (by omega) hm.1.2 h3 (hQ mr (hm.step (Fr.rfl'.set (Or.inr ⟨rfl, rfl⟩)) Fr.rfl' (Int.le_refl _) hm.1) Fr.rfl')
    · rw [hJ]
      refine rn_f (by omega) ?_
      rw [if_neg (show ¬ x = 0 by omega)]
      have hper : t 35 k = 3 → Rn (pR_readPerson N mc) (STL t (RTj T L t en) ib k mc (pM_personing N)) := fun q3 =>
        rn_q (o_person (T := T) (L := L) (by omega) hLX hz hib hcz.1 hc q3 hL.2 hT (fun k1 q24 => hs.name ⟨by omega, k1⟩ q24) (fun m hr q24 => (hr.1.2.2.2 (by omega) (by omega)).2 (by omega))) (fun r hr => hr.l)
      have h3 : ∀ mr, RDY (RTj T L t en) ib k mc mr → mr 475 3 ≠ 0 := fun mr hm c => q26 ((RTj.end hs hc.1 hm.1.1).1 c)
      refine rn_v (rn_b (o_stat hN hLX hz hv hib hcz.1 hcz.2 hc hper) (fun r hr => ?_))
      obtain ⟨r1, m99⟩ := r
      obtain ⟨f1, hr⟩ := hr
      have f1' : Fr FCv mc m99 := f1
      rcases hr with ⟨e1, k', hk', hc', hst⟩ | ⟨e1, b1, hst⟩
      · have e1' : r1 = 1 := e1
        have hc2 : CKt t m99 k' := hc'
        have hst' : ∀ mr, RDY (RTj T L t en) ib k mc mr → Rn (pM_statement N mr) (fun mr' => RDs (RTj T L t en) t ib k' m99 mr' ∧ Fr (FV ib) mr mr') := fun mr hm => hst mr hm
        refine rn_f (by omega) (rn_b (o_fin (N := N) (x := x + 1) (ib := ib) (by omega) hL hs hc2) (fun s hs2 => ?_))
        obtain ⟨s1, m108⟩ := s
        obtain ⟨f2, hs2⟩ := hs2
        have f2' : Fr FCv m99 m108 := f2
        have f12 : Fr FCv mc m108 := f1'.trans f2'
        rcases hs2 with ⟨e2, hc3, hfi⟩ | ⟨e2, b2, hfi⟩
        · have e2' : s1 = 1 := e2
          have hc3' : CKt t m108 (k' + 1) := hc3
          have both : ∀ mr, RDY (RTj T L t en) ib k mc mr → Rn (pM_statement N mr) (fun m1 => Rn (pM_finishes N m1 (x + 1)) (fun m2 => LTp (RTj T L t en) t ib (x + 1) (k' + 1) m108 m2 ∧ Fr (FV ib) mr m2)) := fun mr hm =>
            rn_q (hst' mr hm) (fun m1 h1 => rn_q (hfi m1 h1.1) (fun m2 h2 => ⟨h2.1, h1.2.trans h2.2⟩))
          have ex2 : ∃ mr, LTp (RTj T L t en) t ib (x + 1) (k' + 1) m108 mr := by
            obtain ⟨m1, -, m2, -, h2⟩ := both mr0 hm0'
            exact ⟨m2, h2.1⟩
          refine rn_f (by omega) ?_
          rw [w32_eq (x := x + 1) (by omega) (by omega)]
          refine rn_v (rn_q (ih' (x + 1) (k' + 1) m108 (by omega) (by omega) (by omega) hc3' (fun j j0 j1 => by rw [f12 1 j (by unfold FCv; omega)]; exact hT j j0 j1) ex2) (fun r hr => ⟨f12.trans hr.1, ?_⟩))
          rcases hr.2 with ⟨a1, kf, xf, a2, a3, a4⟩ | ⟨a1, a2, a4⟩
          · refine Or.inl ⟨a1, kf, xf, a2, a3, fun mr hm n2 hn2 KR Q hQ => ?_⟩
            have hm := rdy mr hm
            refine lp_on (by omega) (by omega) hm.1.2 (h3 mr hm) (rn_q (both mr hm) (fun m1 h1 => rn_q h1 (fun m2 h2 => ?_)))
            exact a4 m2 h2.1 (n2 - 1) (by omega) KR Q (fun mr' hr' fr' => hQ mr' hr' (h2.2.trans fr'))
          · refine Or.inr ⟨a1, a2, fun mr hm n2 hn2 KR Q hQ => ?_⟩
            have hm := rdy mr hm
            refine lp_on (by omega) (by omega) hm.1.2 (h3 mr hm) (rn_q (both mr hm) (fun m1 h1 => rn_q h1 (fun m2 h2 => ?_)))
            exact a4 m2 h2.1 (n2 - 1) (by omega) KR Q (fun x' mr' g8 g9 fr' => hQ x' mr' g8 g9 (h2.2.trans fr'))
        · have e2' : s1 = 0 := e2
          have b2' : 1 ≤ m108 18 1 := b2
          refine rn_t e2' (rn_s ⟨f12, Or.inr ⟨rfl, b2', fun mr hm n2 hn2 KR Q hQ => ?_⟩⟩)
          have hm := rdy mr hm
          refine lp_on (by omega) (by omega) hm.1.2 (h3 mr hm) (rn_q (hst' mr hm) (fun m1 h1 => rn_q (hfi m1 h1.1) (fun m2 h2 => ?_)))
          have g8 : m2 475 8 = m108 18 1 := h2.1
          exact lp_out (by omega) (by omega) (hQ (x + 1) m2 g8 h2.2.1 (h1.2.trans h2.2.2))
      · have e1' : r1 = 0 := e1
        have b1' : 1 ≤ m99 18 1 := b1
        refine rn_t e1' (rn_s ⟨f1', Or.inr ⟨rfl, b1', fun mr hm n2 hn2 KR Q hQ => ?_⟩⟩)
        have hm := rdy mr hm
        refine lp_on (by omega) (by omega) hm.1.2 (h3 mr hm) (rn_q (hst mr hm) (fun m1 h1 => ?_))
        have g8 : m1 475 8 = m99 18 1 := h1.1
        rw [rd_fin (by omega)]
        exact rn_s (lp_out (by omega) (by omega) (hQ (x + 1) m1 g8 h1.2.1 h1.2.2))
