/-! THE REFERENCE's runs: the tables of the hours -/
theorem r_L248 {N : Nat} {Q : Int × Mem → Prop} {kk : Mem → Option (Int × Mem)} {bo : Int → Mem → Option (Int × Mem)} {m0 : Mem} {v who h : Int} (hh : 0 ≤ h ∧ h ≤ 8) (hk : ∀ m', (∀ b j, m' b j = if b = 511 ∧ 64 * (h + 1) ≤ j ∧ j < 64 * (h + 1) + 64 then m0 508 (j - 64 * (h + 1)) else m0 b j) → Rn (kk m') Q) :
    ∀ (k n : Nat) (x : Int) (m : Mem), k < n → 0 ≤ x → x + k = 64 → (∀ b j, m b j = if b = 511 ∧ 64 * (h + 1) ≤ j ∧ j < 64 * (h + 1) + x then m0 508 (j - 64 * (h + 1)) else m0 b j) → Rn (lpF bo (pM_runs_L248b N v who h kk) n x m) Q := by
  intro k
  induction k with
  | zero =>
    intro n x m hkn h0 hx hm
    obtain ⟨n, rfl⟩ : ∃ n', n = n' + 1 := ⟨n - 1, by omega⟩
    show Rn (pM_runs_L248b N v who h kk (lpF bo (pM_runs_L248b N v who h kk) n) x m) Q
    generalize lpF bo (pM_runs_L248b N v who h kk) n = self
    unfold pM_runs_L248b
    refine rn_f (by omega) ?_
    refine hk m (fun b j => ?_)
    rw [hm b j, show x = 64 by omega]
  | succ k ih =>
    intro n x m hkn h0 hx hm
    obtain ⟨n, rfl⟩ : ∃ n', n = n' + 1 := ⟨n - 1, by omega⟩
    have ih' := ih n (x + 1) (mset m 511 (64 * (h + 1) + x) (m0 508 x)) (by omega) (by omega) (by omega) (fun b j => by
      unfold mset
      by_cases q : b = 511 ∧ j = 64 * (h + 1) + x
      · rw [if_pos q, if_pos (by omega), show j - 64 * (h + 1) = x by omega]
      · rw [if_neg q, hm b j]
        by_cases q2 : b = 511 ∧ 64 * (h + 1) ≤ j ∧ j < 64 * (h + 1) + x
        · rw [if_pos q2, if_pos (by omega)]
        · rw [if_neg q2, if_neg (by omega)])
    show Rn (pM_runs_L248b N v who h kk (lpF bo (pM_runs_L248b N v who h kk) n) x m) Q
    generalize lpF bo (pM_runs_L248b N v who h kk) n = self at ih' ⊢
    unfold pM_runs_L248b
    have e3 : m 508 x = m0 508 x := by rw [hm, if_neg (by omega)]
    have e6 : w32 (w32 (64 * w32 (h + 1)) + x) = 64 * (h + 1) + x := by rw [w32_eq (x := h + 1) (by omega) (by omega), w32_eq (x := 64 * (h + 1)) (by omega) (by omega), w32_eq (by omega) (by omega)]
    rw [e6, e3]
    refine rn_t (by omega) ?_
    refine rn_t (by omega) ?_
    refine rn_t (by omega) ?_
    refine rn_v (rn_v ?_)
    rw [w32_eq (by omega) (by omega)]
    exact ih'
theorem r_L286 {N : Nat} {Q : Int × Mem → Prop} {kk : Mem → Option (Int × Mem)} {bo : Int → Mem → Option (Int × Mem)} {pl m0 : Mem} {v who h : Int} (hg : PG pl) (hr : PR pl) (hq : PQ pl m0) (hh : 0 ≤ h ∧ h ≤ 8) (hk : ∀ m', (∀ b j, m' b j = if b = 512 ∧ 6 * h ≤ j ∧ j < 6 * h + pl 2 3 then m0 509 (j - 6 * h) else if b = 513 ∧ 6 * h ≤ j ∧ j < 6 * h + pl 2 3 then m0 510 (j - 6 * h) else m0 b j) → Rn (kk m') Q) :
    ∀ (k n : Nat) (x : Int) (m : Mem), k < n → 0 ≤ x → x + k = pl 2 3 → (∀ b j, m b j = if b = 512 ∧ 6 * h ≤ j ∧ j < 6 * h + x then m0 509 (j - 6 * h) else if b = 513 ∧ 6 * h ≤ j ∧ j < 6 * h + x then m0 510 (j - 6 * h) else m0 b j) → Rn (lpF bo (pM_runs_L286b N v who h kk) n x m) Q := by
  intro k
  have hn := hg.num
  obtain ⟨h1, h2, h3, h4, -⟩ := hr
  induction k with
  | zero =>
    intro n x m hkn h0 hx hm
    obtain ⟨n, rfl⟩ : ∃ n', n = n' + 1 := ⟨n - 1, by omega⟩
    show Rn (pM_runs_L286b N v who h kk (lpF bo (pM_runs_L286b N v who h kk) n) x m) Q
    generalize lpF bo (pM_runs_L286b N v who h kk) n = self
    unfold pM_runs_L286b
    have e1 : m 475 13 = pl 475 13 := by rw [hm, if_neg (by omega), if_neg (by omega)]; exact hq.bk
    have e2 : m 480 (pl 475 13) = pl 2 3 := by rw [hm, if_neg (by omega), if_neg (by omega), hq _ _ (by unfold prc; omega)]; exact h4
    rw [e1, e2]
    refine rn_t h1 ?_
    refine rn_f (by omega) ?_
    refine hk m ?_
    rw [show pl 2 3 = x by omega]
    exact hm
  | succ k ih =>
    intro n x m hkn h0 hx hm
    obtain ⟨n, rfl⟩ : ∃ n', n = n' + 1 := ⟨n - 1, by omega⟩
    have ih' := ih n (x + 1) (mset (mset m 512 (6 * h + x) (m0 509 x)) 513 (6 * h + x) (m0 510 x)) (by omega) (by omega) (by omega) (fun b j => by
      unfold mset
      by_cases q : b = 513 ∧ j = 6 * h + x
      · rw [if_pos q, if_neg (by omega), if_pos (by omega), show j - 6 * h = x by omega]
      · rw [if_neg q]
        by_cases q1 : b = 512 ∧ j = 6 * h + x
        · rw [if_pos q1, if_pos (by omega), show j - 6 * h = x by omega]
        · rw [if_neg q1, hm b j]
          by_cases q2 : b = 512 ∧ 6 * h ≤ j ∧ j < 6 * h + x
          · rw [if_pos q2, if_pos (by omega)]
          · rw [if_neg q2, if_neg (show ¬ (b = 512 ∧ 6 * h ≤ j ∧ j < 6 * h + (x + 1)) by omega)]
            by_cases q3 : b = 513 ∧ 6 * h ≤ j ∧ j < 6 * h + x
            · rw [if_pos q3, if_pos (by omega)]
            · rw [if_neg q3, if_neg (by omega)])
    show Rn (pM_runs_L286b N v who h kk (lpF bo (pM_runs_L286b N v who h kk) n) x m) Q
    generalize lpF bo (pM_runs_L286b N v who h kk) n = self at ih' ⊢
    unfold pM_runs_L286b
    have e1 : m 475 13 = pl 475 13 := by rw [hm, if_neg (by omega), if_neg (by omega)]; exact hq.bk
    have e2 : m 480 (pl 475 13) = pl 2 3 := by rw [hm, if_neg (by omega), if_neg (by omega), hq _ _ (by unfold prc; omega)]; exact h4
    have e3 : m 509 x = m0 509 x := by rw [hm, if_neg (by omega), if_neg (by omega)]
    have e4 : m 510 x = m0 510 x := by rw [hm, if_neg (by omega), if_neg (by omega)]
    have e6 : w32 (w32 (6 * h) + x) = 6 * h + x := by rw [w32_eq (x := 6 * h) (by omega) (by omega), w32_eq (by omega) (by omega)]
    rw [e1, e2, e6, e3]
    refine rn_t h1 ?_
    refine rn_t (by omega) ?_
    refine rn_t (by omega) ?_
    refine rn_t (by omega) ?_
    refine rn_v ?_
    refine rn_t (by omega) ?_
    refine rn_t (by omega) ?_
    rw [mset_o (by omega), e4]
    refine rn_v (rn_v ?_)
    rw [w32_eq (by omega) (by omega)]
    exact ih'
theorem r_L167 {N : Nat} {Q : Int × Mem → Prop} {kk : Mem → Option (Int × Mem)} {bo : Int → Mem → Option (Int × Mem)} {pl m0 W0 : Mem} {v who : Int} {T : Int → Int → Mem → Int} (hN : 2000 ≤ N) (hg : PG pl) (hr : PR pl) (hq0 : PQ pl m0) (hv : 0 ≤ v ∧ v < 22)
    (hT : ∀ i h W m', 0 ≤ i → i < pl 2 3 → 0 ≤ h → h ≤ 8 → (∀ b j, b = 475 ∨ b = 514 → m' b j = m0 b j) → PQ pl m' → RW pl m' v who W → WB pl W → r_to N m' i h = some (phx pl (T i h W)) ∧ (T i h W = -1 ∨ (0 ≤ T i h W ∧ T i h W < pl 2 2)))
    (hk : ∀ m' W', thT pl T 9 0 W0 = some W' → RW pl m' v who W' → WB pl W' → (∀ x Wx, 0 ≤ x → x < 9 → thT pl T (x + 1).toNat 0 W0 = some Wx → TBh pl m' x Wx) → (∀ j, j < 64 → m' 511 j = m0 511 j) → Fr FRr m0 m' → Rn (kk m') Q) (hz : ∀ m', thT pl T 9 0 W0 = none → Fr FRr m0 m' → Q (0, m')) :
    ∀ (k n : Nat) (x : Int) (m W : Mem), k < n → 0 ≤ x → x + k = 9 → thT pl T x.toNat 0 W0 = some W → RW pl m v who W → WB pl W → (∀ y Wy, 0 ≤ y → y < x → thT pl T (y + 1).toNat 0 W0 = some Wy → TBh pl m y Wy) → (∀ j, j < 64 → m 511 j = m0 511 j) → Fr FRr m0 m → Rn (lpF bo (pM_runs_L167b N v who kk) n x m) Q := by
  intro k
  have hn := hg.num
  induction k with
  | zero =>
    intro n x m W hkn h0 hx ht hW hb htb h511 hf
    obtain ⟨n, rfl⟩ : ∃ n', n = n' + 1 := ⟨n - 1, by omega⟩
    show Rn (pM_runs_L167b N v who kk (lpF bo (pM_runs_L167b N v who kk) n) x m) Q
    generalize lpF bo (pM_runs_L167b N v who kk) n = self
    unfold pM_runs_L167b
    refine rn_f (by omega) ?_
    have hx9 : x = 9 := by omega
    subst hx9
    exact hk m W ht hW hb htb h511 hf
  | succ k ih =>
    intro n x m W hkn h0 hx ht hW hb htb h511 hf
    obtain ⟨n, rfl⟩ : ∃ n', n = n' + 1 := ⟨n - 1, by omega⟩
    have ih' := ih n (x + 1)
    have hnext : thT pl T (x + 1).toNat 0 W0 = hrT pl T x W := by
      have e := thT_add pl T x.toNat 1 0 W0
      rw [show x.toNat + 1 = (x + 1).toNat by omega, ht, show (0 : Int) + ((x.toNat : Nat) : Int) = x by omega] at e
      rw [e]
      show (hrT pl T x W).bind (fun W => some W) = _
      cases hrT pl T x W <;> rfl
    show Rn (pM_runs_L167b N v who kk (lpF bo (pM_runs_L167b N v who kk) n) x m) Q
    generalize lpF bo (pM_runs_L167b N v who kk) n = self at ih' ⊢
    unfold pM_runs_L167b
    refine rn_t (by omega) ?_
    unfold pM_runs_L177
    refine r_L177 (m0 := m0) (T := T) hN hg hr hv (by omega) (fun i W m' a b c d e f => hT i x W m' a b (by omega) (by omega) c d e f) (pl 2 3).toNat N 0 m W (by omega) (by omega) (by omega) (FRr_PQ hq0 hf) hW hb hf (fun m1 W1 hg1 hW1 hb1 hf1 => ?_) (fun m' hgn hf' => ?_)
    · have hf1r : Fr FRr m0 m1 := hf.trans (hf1.mono (fun b j q => by unfold FRw at q; unfold FRr; omega))
      refine rn_b (r_shines hN hg hr (FRr_PQ hq0 hf1r) hv hW1 hb1 (by omega)) (fun m2 hm2 => ?_)
      have hf2r : Fr FRr m0 m2 := hf1r.trans (hm2.2.mono (fun b j q => by unfold FRw at q; unfold FRr; omega))
      have hth : thT pl T (x + 1).toNat 0 W0 = some (dryS pl W1 x) := by
        rw [hnext]
        unfold hrT
        rw [hg1]
        rfl
      unfold pM_runs_L248
      refine r_L248 (m0 := m2) (by omega) (fun m3 hm3 => ?_) 64 N 0 m2 (by omega) (by omega) (by omega) (fun b j => by rw [if_neg (by omega)])
      have hf3 : Fr (fun b _ => b = 511) m2 m3 := fun b j q => by rw [hm3, if_neg (fun c => q c.1)]
      have hf3r : Fr FRr m0 m3 := hf2r.trans (hf3.mono (fun b j q => by unfold FRr; omega))
      unfold pM_runs_L286
      refine r_L286 (m0 := m3) hg hr (FRr_PQ hq0 hf3r) (by omega) (fun m4 hm4 => ?_) (pl 2 3).toNat N 0 m3 (by omega) (by omega) (by omega) (fun b j => by rw [if_neg (by omega), if_neg (by omega)])
      have hf4 : Fr (fun b _ => b = 512 ∨ b = 513) m3 m4 := fun b j q => by rw [hm4, if_neg (fun c => q (Or.inl c.1)), if_neg (fun c => q (Or.inr c.1))]
      have hf4r : Fr FRr m0 m4 := hf3r.trans (hf4.mono (fun b j q => by unfold FRr; omega))
      have hW4 : RW pl m4 v who (dryS pl W1 x) := hm2.1.eq (fun b j q => by rw [hf4 b j (by omega), hf3 b j (by omega)])
      refine rn_v ?_
      rw [w32_eq (by omega) (by omega)]
      have hlow : ∀ b j, (b = 511 → j < 64 * (x + 1)) → (b = 512 ∨ b = 513 → j < 6 * x) → 511 ≤ b → b ≤ 513 → m4 b j = m b j := by
        intro b j q1 q2 q3 q4
        rw [hm4, if_neg (by omega), if_neg (by omega), hm3, if_neg (by omega), hm2.2 b j (by unfold FRw; omega), hf1 b j (by unfold FRw; omega)]
      refine ih' m4 _ (by omega) (by omega) (by omega) hth hW4 hb1.dry (fun y Wy hy0 hy hty => ?_) (fun j hj => ?_) hf4r
      · by_cases e : y = x
        · subst e
          have e2 : Wy = dryS pl W1 y := Option.some.inj (hty.symm.trans hth)
          rw [e2]
          refine ⟨fun p h0 h1 => ?_, fun i h0 h1 => ?_⟩
          · have hph := ph_eq hg (p := p) ⟨h0, h1⟩
            rw [hm4, if_neg (by omega), if_neg (by omega), hm3, if_pos (by omega), show 64 * (y + 1) + ph pl p - 64 * (y + 1) = ph pl p by omega]
            exact hm2.1.1 p h0 h1
          · have hw := hm2.1.2.1 i h0 h1
            refine ⟨?_, ?_⟩
            · rw [hm4, if_pos (by omega), show 6 * y + i - 6 * y = i by omega, hm3, if_neg (by omega)]
              exact hw.1
            · rw [hm4, if_neg (by omega), if_pos (by omega), show 6 * y + i - 6 * y = i by omega, hm3, if_neg (by omega)]
              exact hw.2.1
        · have ht := htb y Wy hy0 (by omega) hty
          refine ⟨fun p h0 h1 => ?_, fun i h0 h1 => ?_⟩
          · have hph := ph_eq hg (p := p) ⟨h0, h1⟩
            rw [hlow _ _ (by omega) (by omega) (by omega) (by omega)]
            exact ht.1 p h0 h1
          · rw [hlow 512 _ (by omega) (by omega) (by omega) (by omega), hlow 513 _ (by omega) (by omega) (by omega) (by omega)]
            exact ht.2 i h0 h1
      · rw [hlow _ _ (by omega) (by omega) (by omega) (by omega)]
        exact h511 j hj
    · refine hz m' ?_ hf'
      · have e := thT_add pl T (x + 1).toNat (8 - x).toNat 0 W0
        rw [show (x + 1).toNat + (8 - x).toNat = 9 by omega, hnext] at e
        rw [e]
        unfold hrT
        rw [hgn]
        rfl
theorem r_runs {N : Nat} {pl m S : Mem} {v t who aw : Int} {T : Int → Int → Mem → Int} (hN : 2000 ≤ N) (hg : PG pl) (hr : PR pl) (hq : PQ pl m) (hv : 0 ≤ v ∧ v < 22) (ht : t = 1 ∨ t = 2) (hS : SR pl m v S) (hb : SB pl S) (hwho : ∀ i, 0 ≤ i → i < pl 2 3 → bitS who i = bitS aw i)
    (hT : ∀ i h W m', 0 ≤ i → i < pl 2 3 → 0 ≤ h → h ≤ 8 → (∀ b j, b = 475 ∨ b = 514 → m' b j = m b j) → PQ pl m' → RW pl m' v who W → WB pl W → r_to N m' i h = some (phx pl (T i h W)) ∧ (T i h W = -1 ∨ (0 ≤ T i h W ∧ T i h W < pl 2 2))) :
    Rn (pM_runs N m v t who) (fun r => (∀ W', thT pl T 9 0 (mset (begS pl S t) 0 7 aw) = some W' → r.1 = 1 ∧ RW pl r.2 v who W' ∧ WB pl W' ∧ (∀ x Wx, 0 ≤ x → x < 9 → thT pl T (x + 1).toNat 0 (mset (begS pl S t) 0 7 aw) = some Wx → TBh pl r.2 x Wx) ∧ (∀ p, 0 ≤ p → p < pl 2 2 → r.2 511 (ph pl p) = begS pl S t 1 p)) ∧ (thT pl T 9 0 (mset (begS pl S t) 0 7 aw) = none → r.1 = 0) ∧ Fr FRr m r.2) := by
  have hn := hg.num
  unfold pM_runs pM_runs_L3
  refine r_L3 (m0 := m) (S := S) hN hg hr hv ht hq hS hb (fun m1 hd hz f1 => ?_) 64 N 0 m (by omega) (by omega) (by omega) (fun p h0 h1 h2 => by have := ph_eq hg (p := p) ⟨h0, h1⟩; omega) (fun c h0 h1 => by omega) Fr.rfl'
  unfold pM_runs_L117
  refine r_L117 (m0 := m1) hg hr (FRr_PQ hq f1) hv (fun m2 hm2 => ?_) (pl 2 3).toNat N 0 m1 (by omega) (by omega) (by omega) (fun b j => by rw [if_neg (by omega), if_neg (by omega)])
  have f2 : Fr (fun b _ => b = 509 ∨ b = 510) m1 m2 := fun b j q => by rw [hm2, if_neg (by omega), if_neg (by omega)]
  have f2r : Fr FRr m m2 := f1.trans (f2.mono (fun b j q => by unfold FRr; omega))
  have hbW : WB pl (mset (begS pl S t) 0 7 aw) := by
    have h := WB.beg hg hb ht
    refine ⟨fun p h0 h1 => ?_, fun i h0 h1 => ?_, ?_⟩
    · rw [mset_o (by omega)]; exact h.1 p h0 h1
    · simp (disch := omega) only [mset_o]; exact h.2.1 i h0 h1
    · rw [mset_o (by omega)]; exact h.2.2
  have hW : RW pl m2 v who (mset (begS pl S t) 0 7 aw) := by
    refine ⟨fun p h0 h1 => ?_, fun i h0 h1 => ?_, ?_, fun c h0 h1 h2 => ?_⟩
    · rw [mset_o (by omega), f2 _ _ (by omega)]; exact (hd p h0 h1).1
    · have hs := hS.2.2.2.1 i h0 h1
      have e5 : begS pl S t 5 i = 0 := by unfold begS begP; simp (disch := omega) only [if_neg]
      have e4 : begS pl S t 4 i = S 2 i := by unfold begS begP; simp (disch := omega) only [if_neg, if_pos, true_and]
      have e2 : begS pl S t 2 i = S 3 i := by unfold begS begP; simp (disch := omega) only [if_neg, if_pos, true_and]
      have e3 : begS pl S t 3 i = S 4 i := by unfold begS begP; simp (disch := omega) only [if_neg, if_pos, true_and]
      rw [mset_s rfl rfl]
      simp (disch := omega) only [mset_o]
      refine ⟨?_, ?_, ?_, ?_, hwho i h0 h1⟩
      · rw [hm2, if_pos (by omega), f1 _ _ (by unfold FRr; omega), e4]; exact hs.1
      · rw [hm2, if_neg (by omega), if_pos (by omega), e5]
      · rw [f2r _ _ (by unfold FRr; omega), e2]; exact hs.2.1
      · rw [f2r _ _ (by unfold FRr; omega), e3]; exact hs.2.2.1
    · rw [mset_o (by omega), f2r _ _ (by unfold FRr; omega)]; exact hS.1
    · rw [f2 _ _ (by omega)]; exact hz c h0 h1 h2
  unfold pM_runs_L167
  refine r_L167 (m0 := m2) (W0 := mset (begS pl S t) 0 7 aw) (T := T) hN hg hr (FRr_PQ hq f2r) hv (fun i h W m' a b c d e => hT i h W m' a b c d (fun b j q => (e b j q).trans (f2r b j (by unfold FRr; omega)))) (fun m' W' hth hW' hb' htb h511 hf => rn_s ⟨fun W'' e => ?_, fun e => ?_, f2r.trans hf⟩) (fun m' hth hf => ⟨fun W' e => ?_, fun _ => rfl, f2r.trans hf⟩) 9 N 0 m2 _ (by omega) (by omega) (by omega) rfl hW hbW (fun y Wy h0 h1 => by omega) (fun j _ => rfl) Fr.rfl'
  · have e2 : W'' = W' := Option.some.inj (e.symm.trans hth)
    rw [e2]
    refine ⟨rfl, hW', hb', htb, fun p h0 h1 => ?_⟩
    have hph := ph_eq hg (p := p) ⟨h0, h1⟩
    show m' 511 (ph pl p) = _
    rw [h511 _ (by omega), f2 _ _ (by omega)]
    exact (hd p h0 h1).2
  · rw [hth] at e; cases e
  · rw [hth] at e; cases e
/-! runs where nobody is led -/
def Tn (pl : Mem) : Int → Int → Mem → Int := fun i _ W => wetS pl (W 1) (W 4 i)
theorem wet_ne {pl : Mem} {d : Int → Int} {p : Int} (hg : PG pl) (hp : 0 ≤ p ∧ p < pl 2 2) : wetS pl d p ≠ -1 := by have := wet_in (d := d) hg hp; omega
theorem gaT_n {pl : Mem} (hg : PG pl) {h : Int} : ∀ (k : Nat) (i : Int) (W : Mem), WB pl W → 0 ≤ i → i + k ≤ pl 2 3 → gaT pl (Tn pl) h k i W = some (gaS pl h k i W)
  | 0, _, _, _, _, _ => rfl
  | k + 1, i, W, hb, h0, h1 => by
    have e : oneT pl (Tn pl) h i W = some (oneS pl h i W) := by
      unfold oneT oneS
      by_cases q : W 2 i ≤ h ∧ bitS (W 0 7) i = 1
      · rw [if_pos q, if_pos q, if_neg (show ¬ Tn pl i h W = -1 from wet_ne hg (hb.2.1 i h0 (by omega)).1)]
        rfl
      · rw [if_neg q, if_neg q]
    show (oneT pl (Tn pl) h i W).bind _ = _
    rw [e]
    exact gaT_n hg k (i + 1) _ (hb.one hg ⟨h0, by omega⟩) (by omega) (by omega)
theorem thT_n {pl : Mem} (hg : PG pl) : ∀ (k : Nat) (h : Int) (W : Mem), WB pl W → thT pl (Tn pl) k h W = some (thS pl k h W)
  | 0, _, _, _ => rfl
  | k + 1, h, W, hb => by
    have hn := hg.num
    have e : hrT pl (Tn pl) h W = some (hrS pl h W) := by
      unfold hrT
      rw [gaT_n hg _ 0 W hb (by omega) (by omega)]
      rfl
    show (hrT pl (Tn pl) h W).bind _ = _
    rw [e]
    exact thT_n hg k (h + 1) _ (hb.hr hg)
theorem r_to_n {N : Nat} {pl m W : Mem} {v who i h : Int} (hN : 2000 ≤ N) (hg : PG pl) (hr : PR pl) (hq : PQ pl m) (hW : RW pl m v who W) (hb : WB pl W) (hi : 0 ≤ i ∧ i < pl 2 3) (hw : i ≠ m 475 62) : r_to N m i h = some (phx pl (Tn pl i h W)) ∧ (Tn pl i h W = -1 ∨ (0 ≤ Tn pl i h W ∧ Tn pl i h W < pl 2 2)) := by
  have hn := hg.num
  have hp := (hb.2.1 i hi.1 hi.2).1
  have hwi := wet_in (d := W 1) hg hp
  refine ⟨?_, Or.inr hwi⟩
  unfold r_to
  rw [if_neg hw, if_pos (by omega), (hW.2.1 i hi.1 hi.2).1, r_wet (d := W 1) hN hg hr hq hp hW.1]
  unfold phx Tn
  rw [if_neg (by omega)]
  rfl
theorem r_runs_n {N : Nat} {pl m S : Mem} {v t who aw : Int} (hN : 2000 ≤ N) (hg : PG pl) (hr : PR pl) (hq : PQ pl m) (hv : 0 ≤ v ∧ v < 22) (ht : t = 1 ∨ t = 2) (hS : SR pl m v S) (hb : SB pl S) (hwho : ∀ i, 0 ≤ i → i < pl 2 3 → bitS who i = bitS aw i) (hwk : m 475 62 = -1) :
    Rn (pM_runs N m v t who) (fun r => r.1 = 1 ∧ RW pl r.2 v who (thS pl 9 0 (mset (begS pl S t) 0 7 aw)) ∧ WB pl (thS pl 9 0 (mset (begS pl S t) 0 7 aw)) ∧ (∀ x, 0 ≤ x → x < 9 → TBh pl r.2 x (thS pl (x + 1).toNat 0 (mset (begS pl S t) 0 7 aw))) ∧ (∀ p, 0 ≤ p → p < pl 2 2 → r.2 511 (ph pl p) = begS pl S t 1 p) ∧ Fr FRr m r.2) := by
  have hbW : WB pl (mset (begS pl S t) 0 7 aw) := by
    have h := WB.beg hg hb ht
    refine ⟨fun p h0 h1 => ?_, fun i h0 h1 => ?_, ?_⟩
    · rw [mset_o (by omega)]; exact h.1 p h0 h1
    · simp (disch := omega) only [mset_o]; exact h.2.1 i h0 h1
    · rw [mset_o (by omega)]; exact h.2.2
  refine rn_q (r_runs (T := Tn pl) hN hg hr hq hv ht hS hb hwho (fun i h W m' a b c d e f g k => r_to_n hN hg hr f g k ⟨a, b⟩ (by rw [e 475 62 (Or.inl rfl), hwk]; omega))) (fun r hr1 => ?_)
  obtain ⟨h1, h2, h3, h4, h5⟩ := hr1.1 _ (thT_n hg 9 0 _ hbW)
  exact ⟨h1, h2, h3, fun x h0 h1 => h4 x _ h0 h1 (thT_n hg _ 0 _ hbW), h5, hr1.2.2⟩
