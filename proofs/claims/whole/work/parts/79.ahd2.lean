/-! AHEAD: the reference, and the calls later, purse, dry -/
theorem FRp_CD {b j : Int} (h : CD b j) : ¬ FRp 1 b j := by
  intro c
  by_cases q : b = 475 ∧ j = 66
  · obtain ⟨rfl, rfl⟩ := q
    rcases h with h | h | h | h | h | h | h | h | h | h
    · unfold A1 at h; omega
    · unfold A2 at h; omega
    · unfold A3 at h; omega
    · unfold A4 at h; omega
    · unfold A5 plc prc at h; omega
    · unfold A6 FLy at h; omega
    · unfold A7 at h
      rcases h with h | h | h | ⟨v, _, _, h⟩
      · omega
      · omega
      · omega
      · unfold FLy at h; omega
    · unfold A8 at h; omega
    · unfold A9 at h; omega
    · unfold A10 at h; omega
  · refine FRq_CD h ?_
    unfold FRp at c
    rcases c with c | c | c
    · exact Or.inl c
    · exact absurd c q
    · exact Or.inr c
def FH : Int → Int → Prop := fun b j => FAh b j ∨ FRp 1 b j
theorem FH_CD {b j : Int} (h : CD b j) : ¬ FH b j := fun c => c.elim (FAh_CD h) (FRp_CD h)
def OkH (m m2 : Mem) : Prop := Core m2 ∧ IAhd (vP m) (vS m 38) m2 ∧ Fr FH m m2
theorem OkH.of {m m1 m2 : Mem} (h : Core m) (ht : IAhd (vP m) (vS m 38) m1) (f1 : Fr FAh m m1) (f2 : Fr (FRp 1) m1 m2) : OkH m m2 := by
  have f : Fr FH m m2 := (f1.mono (fun b j q => Or.inl q)).trans (f2.mono (fun b j q => Or.inr q))
  exact ⟨h.fr (fun b j q => f b j (FH_CD q)), ht.fr (fun b j q => f2 b j (by unfold FRp FLy; omega)), f⟩
theorem OkH.rf {m : Mem} (h : Core m) (ht : IAhd (vP m) (vS m 38) m) : OkH m m := ⟨h, ht, Fr.rfl'⟩
theorem livS_day (pl S : Mem) (t : Int) : livS pl S t 0 0 = min 999 (S 0 0 + 1) := if_pos ⟨rfl, rfl⟩
theorem ahS_day {pl S : Mem} (h : 0 ≤ S 0 0) : ∀ n : Nat, S 0 0 + n ≤ 999 → ahS pl S n 0 0 = S 0 0 + n
  | 0, _ => by show S 0 0 = _; omega
  | n + 1, q => by
    show livS pl (ahS pl S n) 1 0 0 = _
    rw [livS_day, ahS_day h n (by omega)]
    omega
theorem r_tr8 {N : Nat} {Q : Mem → Prop} {kk : Mem → Option Mem} {bo : Int → Mem → Option Mem} {pl S m0 : Mem} {c1 : Int} (hN : 2000 ≤ N) (hg : PG pl) (ho : ∀ i, 0 ≤ i → i < pl 2 3 → 0 ≤ pl 8 i ∧ pl 8 i ≤ 99) (hr : PR pl) (hq : PQ pl m0) (hwk : m0 475 62 = -1) (hb : SB pl S) (hc : c1 ≤ 40) (hd : S 0 0 + c1 ≤ 999) (hk : ∀ m', SR pl m' 1 (ahS pl S c1.toNat) → Fr (FRp 1) m0 m' → Rn (kk m') Q) :
    ∀ (k n : Nat) (x : Int) (m : Mem), k < n → 0 ≤ x → x + k = c1 → SR pl m 1 (ahS pl S x.toNat) → Fr (FRp 1) m0 m → Rn (lpF bo (pM_tries_L8b N c1 kk) n x m) Q := by
  have h00 := hb.2.2.1
  intro k
  induction k with
  | zero =>
    intro n x m hkn h0 hx hs hf
    obtain ⟨n, rfl⟩ : ∃ n', n = n' + 1 := ⟨n - 1, by omega⟩
    show Rn (pM_tries_L8b N c1 kk (lpF bo (pM_tries_L8b N c1 kk) n) x m) Q
    generalize lpF bo (pM_tries_L8b N c1 kk) n = self
    unfold pM_tries_L8b
    refine rn_f (by omega) ?_
    have hx' : x = c1 := by omega
    subst hx'
    exact hk m hs hf
  | succ k ih =>
    intro n x m hkn h0 hx hs hf
    obtain ⟨n, rfl⟩ : ∃ n', n = n' + 1 := ⟨n - 1, by omega⟩
    have ih' := ih n (x + 1)
    show Rn (pM_tries_L8b N c1 kk (lpF bo (pM_tries_L8b N c1 kk) n) x m) Q
    generalize lpF bo (pM_tries_L8b N c1 kk) n = self at ih' ⊢
    unfold pM_tries_L8b
    refine rn_t (by omega) ?_
    have hqm : PQ pl m := hq.fr hf (fun b j q => by unfold prc at q; unfold FRp FLy; omega)
    have hwm : m 475 62 = -1 := by rw [hf _ _ (by unfold FRp FLy; omega)]; exact hwk
    have hday := ahS_day (pl := pl) h00.1 x.toNat (by omega)
    have en : (x + 1).toNat = x.toNat + 1 := by omega
    refine rn_b2 (P := fun _ m1 => SR pl m1 1 (ahS pl S (x + 1).toNat) ∧ Fr (FRp 1) m m1) (rn_q (r_pass (v := 1) (t := 1) hN hg hr hqm ho (by omega) (Or.inl rfl) hs (SB.ah hg hb x.toNat) hwm) (fun r hr => ⟨by rw [en]; exact hr.2.1 (by omega), hr.2.2.2⟩)) (fun r m1 hm => ?_)
    obtain ⟨hv1, f1⟩ := hm
    dsimp only
    rw [w32_eq (x := x + 1) (by omega) (by omega)]
    refine rn_v ?_
    exact ih' m1 (by omega) (by omega) (by omega) hv1 (hf.trans f1)
theorem r_tries {N : Nat} {pl S m : Mem} {x : Int} (hN : 2000 ≤ N) (hg : PG pl) (ho : ∀ i, 0 ≤ i → i < pl 2 3 → 0 ≤ pl 8 i ∧ pl 8 i ≤ 99) (hr : PR pl) (hq : PQ pl m) (hwk : m 475 62 = -1) (hb : SB pl S) (hS : SR pl m 0 S) (hx : 0 ≤ x ∧ x ≤ 40) (hd : S 0 0 + x ≤ 999) : Rn (pM_tries N m x) (fun m' => SR pl m' 1 (ahS pl S x.toNat) ∧ Fr (FRp 1) m m') := by
  unfold pM_tries
  refine rn_b (r_copies hN hg (by omega) (by omega) (by omega) hS hb.2.2.2) (fun m1 h1 => ?_)
  obtain ⟨s1, f1⟩ := h1
  have g1 : Fr (FRp 1) m m1 := f1.mono (fun b j q => Or.inr (Or.inr q))
  unfold pM_tries_L8
  refine r_tr8 (m0 := m1) hN hg ho hr (hq.fr g1 (fun b j q => by unfold prc at q; unfold FRp FLy; omega)) (by rw [g1 _ _ (by unfold FRp FLy; omega)]; exact hwk) hb hx.2 hd (fun m2 s2 f2 => rn_s ⟨s2, g1.trans f2⟩) x.toNat N 0 m1 (by omega) (by omega) (by omega) s1 Fr.rfl'
theorem r_dry {N : Nat} {pl S m0 : Mem} {i : Int} {bo : Int → Mem → Option (Int × Mem)} (hN : 2000 ≤ N) (hg : PG pl) (ho : ∀ i, 0 ≤ i → i < pl 2 3 → 0 ≤ pl 8 i ∧ pl 8 i ≤ 99) (hr : PR pl) (hq : PQ pl m0) (hwk : m0 475 62 = -1) (hb : SB pl S) (h498 : m0 498 0 = S 0 0) :
    ∀ (k n : Nat) (x : Int) (m : Mem), k < n → 0 ≤ x → x + k = cntD S → fdS pl S i x.toNat = -1 → ((0 < k ∨ x = 0) → SR pl m 1 (ahS pl S x.toNat)) → Fr (FRp 1) m0 m → Rn (lpF bo (pM_dry_L18b N i (fun n56 => some ((-1), n56))) n x m) (fun r => r.1 = fdS pl S i (cntD S).toNat ∧ Fr (FRp 1) m0 r.2) := by
  have h00 := hb.2.2.1
  have hC : cntD S = min 40 (1000 - S 0 0) := rfl
  have hst : ∀ j : Nat, ∀ n : Nat, fdS pl S i n ≠ -1 → fdS pl S i (n + j) = fdS pl S i n := by
    intro j
    induction j with
    | zero => intro n _; rfl
    | succ j ih =>
      intro n hn
      exact (if_neg (fun c => hn ((ih n hn).symm.trans c.1))).trans (ih n hn)
  intro k
  induction k with
  | zero =>
    intro n x m hkn h0 hx hfd hs hf
    obtain ⟨n, rfl⟩ : ∃ n', n = n' + 1 := ⟨n - 1, by omega⟩
    show Rn (pM_dry_L18b N i _ (lpF bo (pM_dry_L18b N i _) n) x m) _
    generalize lpF bo (pM_dry_L18b N i (fun n56 => some ((-1), n56))) n = self
    unfold pM_dry_L18b
    have e498 : m 498 0 = S 0 0 := (hf _ _ (by unfold FRp FLy; omega)).trans h498
    have eA : pM_isAhead m x 0 39 = some 0 := by
      rw [e_isAhead, if_neg (fun c => by have := c.2; have h4 := c.1; rw [e498, w32_eq (by omega) (by omega)] at this; omega)]
    refine rn_e eA ?_
    refine rn_t rfl (rn_s ⟨?_, hf⟩)
    rw [show cntD S = x by omega, hfd]
  | succ k ih =>
    intro n x m hkn h0 hx hfd hs hf
    obtain ⟨n, rfl⟩ : ∃ n', n = n' + 1 := ⟨n - 1, by omega⟩
    have ih' := ih n (x + 1)
    show Rn (pM_dry_L18b N i _ (lpF bo (pM_dry_L18b N i _) n) x m) _
    generalize lpF bo (pM_dry_L18b N i (fun n56 => some ((-1), n56))) n = self at ih' ⊢
    unfold pM_dry_L18b
    have e498 : m 498 0 = S 0 0 := (hf _ _ (by unfold FRp FLy; omega)).trans h498
    have eA : pM_isAhead m x 0 39 = some 1 := by
      rw [e_isAhead, if_pos ⟨by omega, by rw [e498, w32_eq (by omega) (by omega)]; omega⟩]
    refine rn_e eA ?_
    refine rn_f (show ¬ ((1 : Int) = 0) by omega) ?_
    have hqm : PQ pl m := hq.fr hf (fun b j q => by unfold prc at q; unfold FRp FLy; omega)
    have hwm : m 475 62 = -1 := by rw [hf _ _ (by unfold FRp FLy; omega)]; exact hwk
    have hday := ahS_day (pl := pl) h00.1 x.toNat (by omega)
    have en : (x + 1).toNat = x.toNat + 1 := by omega
    have ex : ((x.toNat : Nat) : Int) = x := by omega
    refine rn_b2 (P := fun _ m1 => (S 0 0 + x ≤ 998 → SR pl m1 1 (ahS pl S (x + 1).toNat)) ∧ m1 475 66 = dryD pl S x.toNat ∧ Fr (FRp 1) m m1) (rn_q (r_pass (v := 1) (t := 1) hN hg hr hqm ho (by omega) (Or.inl rfl) (hs (Or.inl (by omega))) (SB.ah hg hb x.toNat) hwm) (fun r hr => ⟨fun q => by rw [en]; exact hr.2.1 (by omega), hr.2.2.1, hr.2.2.2⟩)) (fun r m1 hm => ?_)
    obtain ⟨hv1, d1, f1⟩ := hm
    dsimp only
    have eB : a32 (shr32 (dryD pl S x.toNat) i) 1 = bitS (dryD pl S x.toNat) i := rfl
    rw [w32_eq (x := x + 1) (by omega) (by omega), d1, eB]
    refine rn_i (fun q => rn_s ⟨?_, hf.trans f1⟩) (fun q => rn_v ?_)
    · have e1 : fdS pl S i (x.toNat + 1) = x := by
        show (if fdS pl S i x.toNat = -1 ∧ bitS (dryD pl S x.toNat) i = 1 then ((x.toNat : Nat) : Int) else fdS pl S i x.toNat) = x
        rw [if_pos ⟨hfd, q⟩, ex]
      have e2 := hst ((cntD S).toNat - (x.toNat + 1)) (x.toNat + 1) (by rw [e1]; omega)
      rw [e1, show x.toNat + 1 + ((cntD S).toNat - (x.toNat + 1)) = (cntD S).toNat by omega] at e2
      exact e2.symm
    · refine ih' m1 (by omega) (by omega) (by omega) ?_ (fun q1 => hv1 (by omega)) (hf.trans f1)
      rw [en]
      show (if fdS pl S i x.toNat = -1 ∧ bitS (dryD pl S x.toNat) i = 1 then ((x.toNat : Nat) : Int) else fdS pl S i x.toNat) = -1
      rw [if_neg (fun c => q c.2), hfd]
theorem e_left {m : Mem} (h : 0 ≤ m 38 0 ∧ m 38 0 ≤ 999) : pD_daysLeft m = some (min 40 (999 - m 38 0)) ∧ pD_daysAhead m = some (cntD (vS m 38)) := by
  unfold pD_daysLeft pD_daysAhead cntD
  rw [w32_eq (x := 999 - m 38 0) (by omega) (by omega), w32_eq (x := 999 - m 38 0 + 1) (by omega) (by omega)]
  refine ⟨rfl, ?_⟩
  rw [vS_0]
  congr 2; omega
theorem o_later {N : Nat} {m : Mem} (hN : 2000 ≤ N) (hc : Core m) (ht : IAhd (vP m) (vS m 38) m) (c r n : Int) : ∃ x m1 m2, pD_later N m c r n = some (x, m1) ∧ pM_later N m1 c r n = some (x, m2) ∧ OkH m m2 := by
  obtain ⟨-, -, -, -, ⟨hg, hr, hnm⟩, hst, -, -, -, hwk⟩ := id hc
  have ho : ∀ i, 0 ≤ i → i < vP m 2 3 → 0 ≤ vP m 8 i ∧ vP m 8 i ≤ 99 := fun i h0 h1 => (hnm i h0 h1).1
  have hn := hg.num
  have d0 : vS m 38 0 0 = m 38 0 := rfl
  have dr := hst.1.2.2.1
  rw [d0] at dr
  have hl := e_left dr
  have e498 : m 498 0 = m 38 0 := hst.2.1
  by_cases q : ((0 ≤ c ∧ c < vP m 2 0) ∧ (0 ≤ r ∧ r < vP m 2 1)) ∧ (0 ≤ n ∧ n ≤ 40) ∧ m 38 0 + n ≤ 999
  · have hp := at_ph hg q.1
    generalize hpp : r * vP m 2 0 + c = p at hp
    obtain ⟨m1, e1, ⟨ak, -⟩, ia, f1⟩ := c_hlearn hN hg (vP_PE m) ho hst.1 ht rfl
    have hD : pD_later N m c r n = some (m1 (305 + n) p, m1) := by
      unfold pD_later
      rw [e_cellAt hg (vP_PE m), if_pos q.1, hpp, Option.bind_some, if_neg (by omega), if_neg (by omega), hl.1, Option.bind_some, if_neg (by omega), hl.2, Option.bind_some, e1]
      show (if 0 ≤ n ∧ n < 41 then if 0 ≤ p ∧ p < 64 then some (m1 (304 + 1 + n) p, m1) else none else none) = _
      rw [if_pos (by omega), if_pos (by omega), show (304 : Int) + 1 + n = 305 + n by omega]
    have q1 : PQ (vP m) m1 := (vP_PQ m).fr f1 (fun b j q => by unfold prc at q; unfold FAh; omega)
    have s1 : SR (vP m) m1 0 (vS m 38) := hst.2.eq hg hst.1.2.2.2.2 (fun b j q => f1 b j (by have := FLy_b q; unfold FAh; omega))
    have k62 : m1 475 62 = -1 := by rw [f1 _ _ (by unfold FAh; omega)]; exact hwk
    have k498 : m1 498 0 = m 38 0 := by rw [f1 _ _ (by unfold FAh; omega)]; exact e498
    obtain ⟨m2, e2, s2, f2⟩ := r_tries (x := n) hN hg ho hr q1 k62 hst.1 s1 q.2.1 (by rw [d0]; exact q.2.2)
    have hph := ph_eq hg hp.1
    have hM : pM_later N m1 c r n = some (m2 499 (64 + ph (vP m) p), m2) := by
      unfold pM_later
      rw [e_isCell hg hr q1, if_pos q.1, Option.bind_some, if_neg (show ¬ ((1 : Int) = 0) by omega), e_isAhead, if_pos ⟨by omega, by rw [k498, w32_eq (by omega) (by omega)]; omega⟩, Option.bind_some, if_neg (show ¬ ((1 : Int) = 0) by omega), e2]
      show (if 0 ≤ w32 (w32 (64 + w32 (8 * r)) + c) ∧ w32 (w32 (64 + w32 (8 * r)) + c) < 1408 then some (m2 499 (w32 (w32 (64 + w32 (8 * r)) + c)), m2) else none) = _
      have w1 : w32 (w32 (64 + w32 (8 * r)) + c) = 64 + ph (vP m) p := by
        rw [w32_eq (x := 8 * r) (by omega) (by omega), w32_eq (x := 64 + 8 * r) (by omega) (by omega), w32_eq (by omega) (by omega)]
        omega
      rw [w1, if_pos (by omega)]
    refine ⟨_, m1, m2, hD, hM.trans ?_, OkH.of hc ia f1 f2⟩
    have h2 := s2.2.1 p hp.1.1 hp.1.2
    rw [(ak n q.2.1.1 (by unfold cntD; rw [d0]; omega)).1 p hp.1.1 hp.1.2, ← h2]
    rfl
  · have hD : pD_later N m c r n = some (-1, m) := by
      unfold pD_later
      rw [e_cellAt hg (vP_PE m)]
      by_cases q1 : (0 ≤ c ∧ c < vP m 2 0) ∧ (0 ≤ r ∧ r < vP m 2 1)
      · have hp := at_ph hg q1
        rw [if_pos q1, Option.bind_some, if_neg (by omega)]
        by_cases q3 : n < 0
        · rw [if_pos q3]
        · rw [if_neg q3, hl.1, Option.bind_some, if_pos (by omega)]
      · rw [if_neg q1]; rfl
    have hM : pM_later N m c r n = some (-1, m) := by
      unfold pM_later
      rw [e_isCell hg hr (vP_PQ m)]
      by_cases q1 : (0 ≤ c ∧ c < vP m 2 0) ∧ (0 ≤ r ∧ r < vP m 2 1)
      · rw [if_pos q1, Option.bind_some, if_neg (show ¬ ((1 : Int) = 0) by omega), e_isAhead, if_neg (fun c => q ⟨q1, c.1, by have := c.2; have h4 := c.1; rw [e498, w32_eq (by omega) (by omega)] at this; omega⟩)]
        rfl
      · rw [if_neg q1]; rfl
    exact ⟨-1, m, m, hD, hM, OkH.rf hc ht⟩
theorem o_purse {N : Nat} {m : Mem} (hN : 2000 ≤ N) (hc : Core m) (ht : IAhd (vP m) (vS m 38) m) (i n : Int) : ∃ x m1 m2, pD_purse N m i n = some (x, m1) ∧ pM_purse N m1 i n = some (x, m2) ∧ OkH m m2 := by
  obtain ⟨-, -, -, -, ⟨hg, hr, hnm⟩, hst, -, -, -, hwk⟩ := id hc
  have ho : ∀ i, 0 ≤ i → i < vP m 2 3 → 0 ≤ vP m 8 i ∧ vP m 8 i ≤ 99 := fun i h0 h1 => (hnm i h0 h1).1
  have hn := hg.num
  have d0 : vS m 38 0 0 = m 38 0 := rfl
  have dr := hst.1.2.2.1
  rw [d0] at dr
  have hl := e_left dr
  have e498 : m 498 0 = m 38 0 := hst.2.1
  by_cases q : (0 ≤ i ∧ i < vP m 2 3) ∧ (0 ≤ n ∧ n ≤ 40) ∧ m 38 0 + n ≤ 999
  · obtain ⟨m1, e1, ⟨ak, -⟩, ia, f1⟩ := c_hlearn hN hg (vP_PE m) ho hst.1 ht rfl
    have hD : pD_purse N m i n = some (m1 (347 + n) i, m1) := by
      unfold pD_purse
      rw [e_hasP (vP_PE m), if_pos q.1, Option.bind_some, if_neg (show ¬ ((1 : Int) = 0) by omega), if_neg (by omega), hl.1, Option.bind_some, if_neg (by omega), hl.2, Option.bind_some, e1]
      show (if 0 ≤ n ∧ n < 41 then if 0 ≤ i ∧ i < 6 then some (m1 (346 + 1 + n) i, m1) else none else none) = _
      rw [if_pos (by omega), if_pos (by omega), show (346 : Int) + 1 + n = 347 + n by omega]
    have q1 : PQ (vP m) m1 := (vP_PQ m).fr f1 (fun b j q => by unfold prc at q; unfold FAh; omega)
    have s1 : SR (vP m) m1 0 (vS m 38) := hst.2.eq hg hst.1.2.2.2.2 (fun b j q => f1 b j (by have := FLy_b q; unfold FAh; omega))
    have k62 : m1 475 62 = -1 := by rw [f1 _ _ (by unfold FAh; omega)]; exact hwk
    have k498 : m1 498 0 = m 38 0 := by rw [f1 _ _ (by unfold FAh; omega)]; exact e498
    obtain ⟨m2, e2, s2, f2⟩ := r_tries (x := n) hN hg ho hr q1 k62 hst.1 s1 q.2.1 (by rw [d0]; exact q.2.2)
    have hM : pM_purse N m1 i n = some (m2 503 (6 + i), m2) := by
      unfold pM_purse
      rw [e_isP hr q1, if_pos q.1, Option.bind_some, if_neg (show ¬ ((1 : Int) = 0) by omega), e_isAhead, if_pos ⟨by omega, by rw [k498, w32_eq (by omega) (by omega)]; omega⟩, Option.bind_some, if_neg (show ¬ ((1 : Int) = 0) by omega), e2]
      show (if 0 ≤ w32 (6 + i) ∧ w32 (6 + i) < 132 then some (m2 503 (w32 (6 + i)), m2) else none) = _
      rw [w32_eq (x := 6 + i) (by omega) (by omega), if_pos (by omega)]
    refine ⟨_, m1, m2, hD, hM.trans ?_, OkH.of hc ia f1 f2⟩
    have h2 := (s2.2.2.2.1 i q.1.1 q.1.2).2.2.2
    rw [(ak n q.2.1.1 (by unfold cntD; rw [d0]; omega)).2 i q.1.1 q.1.2, ← h2]
    rfl
  · have hD : pD_purse N m i n = some (-1, m) := by
      unfold pD_purse
      rw [e_hasP (vP_PE m)]
      by_cases q1 : 0 ≤ i ∧ i < vP m 2 3
      · rw [if_pos q1, Option.bind_some, if_neg (show ¬ ((1 : Int) = 0) by omega)]
        by_cases q3 : n < 0
        · rw [if_pos q3]
        · rw [if_neg q3, hl.1, Option.bind_some, if_pos (by omega)]
      · rw [if_neg q1]; rfl
    have hM : pM_purse N m i n = some (-1, m) := by
      unfold pM_purse
      rw [e_isP hr (vP_PQ m)]
      by_cases q1 : 0 ≤ i ∧ i < vP m 2 3
      · rw [if_pos q1, Option.bind_some, if_neg (show ¬ ((1 : Int) = 0) by omega), e_isAhead, if_neg (fun c => q ⟨q1, c.1, by have := c.2; have h4 := c.1; rw [e498, w32_eq (by omega) (by omega)] at this; omega⟩)]
        rfl
      · rw [if_neg q1]; rfl
    exact ⟨-1, m, m, hD, hM, OkH.rf hc ht⟩
theorem o_dry {N : Nat} {m : Mem} (hN : 2000 ≤ N) (hc : Core m) (ht : IAhd (vP m) (vS m 38) m) (i : Int) : ∃ x m1 m2, pD_dry N m i = some (x, m1) ∧ pM_dry N m1 i = some (x, m2) ∧ OkH m m2 := by
  obtain ⟨-, -, -, -, ⟨hg, hr, hnm⟩, hst, -, -, -, hwk⟩ := id hc
  have ho : ∀ i, 0 ≤ i → i < vP m 2 3 → 0 ≤ vP m 8 i ∧ vP m 8 i ≤ 99 := fun i h0 h1 => (hnm i h0 h1).1
  have hn := hg.num
  have d0 : vS m 38 0 0 = m 38 0 := rfl
  have dr := hst.1.2.2.1
  rw [d0] at dr
  have hl := e_left dr
  have e498 : m 498 0 = m 38 0 := hst.2.1
  by_cases q : 0 ≤ i ∧ i < vP m 2 3
  · obtain ⟨m1, e1, ⟨-, fd⟩, ia, f1⟩ := c_hlearn hN hg (vP_PE m) ho hst.1 ht rfl
    have hD : pD_dry N m i = some (m1 388 i, m1) := by
      unfold pD_dry
      rw [e_hasP (vP_PE m), if_pos q, Option.bind_some, if_neg (show ¬ ((1 : Int) = 0) by omega), hl.2, Option.bind_some, e1]
      show (if 0 ≤ i ∧ i < 6 then some (m1 388 i, m1) else none) = _
      rw [if_pos (by omega)]
    have q1 : PQ (vP m) m1 := (vP_PQ m).fr f1 (fun b j q => by unfold prc at q; unfold FAh; omega)
    have s1 : SR (vP m) m1 0 (vS m 38) := hst.2.eq hg hst.1.2.2.2.2 (fun b j q => f1 b j (by have := FLy_b q; unfold FAh; omega))
    have k62 : m1 475 62 = -1 := by rw [f1 _ _ (by unfold FAh; omega)]; exact hwk
    have k498 : m1 498 0 = m 38 0 := by rw [f1 _ _ (by unfold FAh; omega)]; exact e498
    have hM : Rn (pM_dry N m1 i) (fun z => z.1 = fdS (vP m) (vS m 38) i (cntD (vS m 38)).toNat ∧ Fr (FRp 1) m1 z.2) := by
      unfold pM_dry
      refine rn_e (e_isP hr q1 i) ?_
      rw [if_pos q]
      refine rn_f (show ¬ ((1 : Int) = 0) by omega) ?_
      refine rn_b (r_copies hN hg (by omega) (by omega) (by omega) s1 hst.1.2.2.2) (fun mB hB => ?_)
      obtain ⟨sB, fB⟩ := hB
      have gB : Fr (FRp 1) m1 mB := fB.mono (fun b j q => Or.inr (Or.inr q))
      unfold pM_dry_L18
      have hCn : 0 ≤ cntD (vS m 38) ∧ cntD (vS m 38) ≤ 40 := by unfold cntD; rw [d0]; omega
      refine rn_q (r_dry (m0 := mB) (S := vS m 38) hN hg ho hr (q1.fr gB (fun b j q => by unfold prc at q; unfold FRp FLy; omega)) (by rw [gB _ _ (by unfold FRp FLy; omega)]; exact k62) hst.1 (by rw [gB _ _ (by unfold FRp FLy; omega)]; exact k498) (cntD (vS m 38)).toNat N 0 mB (by omega) (by omega) (by omega) rfl (fun _ => sB) Fr.rfl') (fun z hz => ⟨hz.1, gB.trans hz.2⟩)
    obtain ⟨⟨r2, m2⟩, e2, er, f2⟩ := hM
    dsimp only at er f2
    exact ⟨_, m1, m2, hD, by rw [e2, er, fd i q.1 q.2], OkH.of hc ia f1 f2⟩
  · have hD : pD_dry N m i = some (-1, m) := by
      unfold pD_dry
      rw [e_hasP (vP_PE m), if_neg q]; rfl
    have hM : pM_dry N m i = some (-1, m) := by
      unfold pM_dry
      rw [e_isP hr (vP_PQ m), if_neg q]; rfl
    exact ⟨-1, m, m, hD, hM, OkH.rf hc ht⟩
