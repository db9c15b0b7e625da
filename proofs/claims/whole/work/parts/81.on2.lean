/-! ON: the reference -/
theorem sh8_256 : ∀ a : Nat, a < 256 → (Int32.ofInt (a : Int) <<< (Int32.ofInt 8 &&& 31)) = nI (a * 256) := fun a h => by
  rw [nI_ofInt]
  exact pk_shlN (Int32.ofInt 8 &&& 31) 8 (by decide) (by omega)
theorem o8 {a b : Int} (ha : 0 ≤ a ∧ a ≤ 255) (hb : 0 ≤ b ∧ b ≤ 255) : o32 (shl32 a 8) b = a * 256 + b := by
  obtain ⟨x, rfl⟩ := Int.eq_ofNat_of_zero_le ha.1
  obtain ⟨y, rfl⟩ := Int.eq_ofNat_of_zero_le hb.1
  have e1 : shl32 (x : Int) 8 = ((x * 256 : Nat) : Int) := by
    unfold shl32
    rw [sh8_256 x (by omega), nI_toInt (by omega)]
  have e2 : nI (x * 256) ||| nI y = nI (x * 256 + y) := by
    have h1 : x * 256 + y = x * 256 ||| y := by
      have := Nat.shiftLeft_add_eq_or_of_lt (b := y) (i := 8) (by omega) x
      rw [Nat.shiftLeft_eq] at this
      exact this
    rw [h1]
    exact congrArg Int32.ofBitVec (BitVec.ofNat_or).symm
  rw [e1]
  unfold o32
  rw [nI_ofInt, nI_ofInt, e2, nI_toInt (by omega)]
  omega
theorem r_c71 {N : Nat} {m : Mem} {L c2 : Int} {g : Int → Int} {kk : Int → Option (Int × Mem)} {bo : Int → Int → Option (Int × Mem)} (hL : 1 ≤ L ∧ L ≤ 1600) (hm : ∀ j, 0 ≤ j → j < L → m 476 j = g j ∧ (0 ≤ g j ∧ g j ≤ 255)) : ∀ (k n : Nat) (x : Int), k < n → 0 ≤ x → x + k = L - 1 → lpF bo (pM_comesOn_L71b N m L c2 kk) n (ckS g x.toNat) x = kk (ckS g (L - 1).toNat) := by
  intro k
  induction k with
  | zero =>
    intro n x hkn h0 hx
    obtain ⟨n, rfl⟩ : ∃ n', n = n' + 1 := ⟨n - 1, by omega⟩
    show pM_comesOn_L71b N m L c2 kk (lpF bo (pM_comesOn_L71b N m L c2 kk) n) _ x = _
    generalize lpF bo (pM_comesOn_L71b N m L c2 kk) n = self
    unfold pM_comesOn_L71b
    rw [w32_eq (x := L - 1) (by omega) (by omega), if_neg (by omega), show x = L - 1 by omega]
  | succ k ih =>
    intro n x hkn h0 hx
    obtain ⟨n, rfl⟩ : ∃ n', n = n' + 1 := ⟨n - 1, by omega⟩
    have ih' := ih n (x + 1) (by omega) (by omega) (by omega)
    have hx1 := hm x h0 (by omega)
    show pM_comesOn_L71b N m L c2 kk (lpF bo (pM_comesOn_L71b N m L c2 kk) n) _ x = _
    generalize lpF bo (pM_comesOn_L71b N m L c2 kk) n = self at ih' ⊢
    unfold pM_comesOn_L71b
    rw [w32_eq (x := L - 1) (by omega) (by omega), if_pos (show x < L - 1 by omega), if_pos (show 0 ≤ x ∧ x < 1800 by omega), hx1.1, ck_next h0 hx1.2, w32_eq (x := x + 1) (by omega) (by omega)]
    exact ih'
def FRo : Int → Int → Prop := fun b j => (b = 499 ∧ 64 ≤ j ∧ j < 128) ∨ ((500 ≤ b ∧ b ≤ 503) ∧ 6 ≤ j ∧ j < 12)
theorem r_on153 {N : Nat} {Q : Int × Mem → Prop} {kk : Mem → Option (Int × Mem)} {bo : Int → Mem → Option (Int × Mem)} {pl m0 : Mem} {g : Int → Int} (hg : PG pl) (hr : PR pl) (hq : PQ pl m0) (hm0 : ∀ j, 0 ≤ j → j < 2 + pl 2 2 → m0 476 j = g j)
    (hk : ∀ m', (∀ p, 0 ≤ p → p < pl 2 2 → m' 499 (64 + ph pl p) = g (2 + p) ∧ g (2 + p) ≤ 99) → (∀ c, 0 ≤ c → c < 64 → ¬ cellC pl c → m' 499 (64 + c) = m0 499 (64 + c)) → Fr FRo m0 m' → Rn (kk m') Q) (hbad : ∀ m', ¬ (∀ p, 0 ≤ p → p < pl 2 2 → g (2 + p) ≤ 99) → Fr FRo m0 m' → Q (0, m')) :
    ∀ (k n : Nat) (x : Int) (m : Mem), k < n → 0 ≤ x → x + k = pl 2 2 → (∀ p, 0 ≤ p → p < x → m 499 (64 + ph pl p) = g (2 + p) ∧ g (2 + p) ≤ 99) → (∀ c, 0 ≤ c → c < 64 → ¬ cellC pl c → m 499 (64 + c) = m0 499 (64 + c)) → Fr FRo m0 m → Rn (lpF bo (pM_comesOn_L153b N (pl 2 2) kk) n x m) Q := by
  have hn := hg.num
  intro k
  induction k with
  | zero =>
    intro n x m hkn h0 hx hm hz hf
    obtain ⟨n, rfl⟩ : ∃ n', n = n' + 1 := ⟨n - 1, by omega⟩
    show Rn (pM_comesOn_L153b N (pl 2 2) kk (lpF bo (pM_comesOn_L153b N (pl 2 2) kk) n) x m) Q
    generalize lpF bo (pM_comesOn_L153b N (pl 2 2) kk) n = self
    unfold pM_comesOn_L153b
    refine rn_f (by omega) ?_
    exact hk m (fun p q0 q1 => hm p q0 (by omega)) hz hf
  | succ k ih =>
    intro n x m hkn h0 hx hm hz hf
    obtain ⟨n, rfl⟩ : ∃ n', n = n' + 1 := ⟨n - 1, by omega⟩
    have ih' := ih n (x + 1)
    have hps := hg.pos (p := x) (by omega)
    have hpx := ph_eq hg (p := x) (by omega)
    have hqm : PQ pl m := hq.fr hf (fun b j q => by unfold prc at q; unfold FRo; omega)
    show Rn (pM_comesOn_L153b N (pl 2 2) kk (lpF bo (pM_comesOn_L153b N (pl 2 2) kk) n) x m) Q
    generalize lpF bo (pM_comesOn_L153b N (pl 2 2) kk) n = self at ih' ⊢
    unfold pM_comesOn_L153b
    have e1 : m 476 (2 + x) = g (2 + x) := (hf _ _ (by unfold FRo; omega)).trans (hm0 _ (by omega) (by omega))
    have e3 : m 477 (pl 475 13) = pl 2 0 := (hqm _ _ (by unfold prc; omega)).trans hr.2.1
    have hix : w32 (w32 (64 + w32 (8 * d32 x (pl 2 0))) + r32 x (pl 2 0)) = 64 + ph pl x := by
      rw [r32_eq (by omega) (by omega) (by omega) (by omega), d32_eq (by omega) (by omega) (by omega) (by omega), w32_eq (x := 8 * (x / pl 2 0)) (by omega) (by omega), w32_eq (x := 64 + 8 * (x / pl 2 0)) (by omega) (by omega), w32_eq (by omega) (by omega)]
      unfold ph; omega
    rw [w32_eq (x := 2 + x) (by omega) (by omega), e1, hqm.bk, e3, hix, w32_eq (x := x + 1) (by omega) (by omega)]
    refine rn_t (by omega) (rn_t (by omega) (rn_i (fun q => ?_) (fun q => ?_)))
    · exact rn_s (hbad m (fun c => by have := c x h0 (by omega); omega) hf)
    refine rn_t hr.1 (rn_t (by omega) (rn_t hr.1 (rn_t (by omega) (rn_t (by omega) (rn_t (by omega) (rn_l (fun m1 hm1 => ?_)))))))
    have s1 : m1 499 (64 + ph pl x) = g (2 + x) := by rw [hm1, mset_s rfl rfl]
    have f1 : Fr FRo m0 m1 := by rw [hm1]; exact hf.set (by unfold FRo; omega)
    have o1 : ∀ j, j ≠ 64 + ph pl x → m1 499 j = m 499 j := fun j q => by rw [hm1, mset_o (by omega)]
    clear hm1
    refine rn_v (ih' m1 (by omega) (by omega) (by omega) (fun p q0 q1 => ?_) (fun c c0 c1 c2 => ?_) f1)
    · by_cases q2 : p = x
      · rw [q2]; exact ⟨s1, by omega⟩
      · have hp := hm p q0 (by omega)
        rw [o1 _ (fun e => q2 (ph_inj hg ⟨q0, by omega⟩ ⟨h0, by omega⟩ (by omega)))]
        exact hp
    · rw [o1 _ (fun e => c2 (by rw [show c = ph pl x by omega]; unfold cellC; omega))]
      exact hz c c0 c1 c2
def onQ (pl : Mem) (g : Int → Int) (i : Int) (m : Mem) : Prop := m 500 (6 + i) = 8 * g (2 + pl 2 2 + 6 * i + 1) + g (2 + pl 2 2 + 6 * i) ∧ m 501 (6 + i) = g (2 + pl 2 2 + 6 * i + 2) ∧ m 502 (6 + i) = g (2 + pl 2 2 + 6 * i + 3) ∧ m 503 (6 + i) = g (2 + pl 2 2 + 6 * i + 4) * 256 + g (2 + pl 2 2 + 6 * i + 5)
theorem r_perOn {pl m : Mem} {g : Int → Int} {f i : Int} (hg : PG pl) (hr : PR pl) (hq : PQ pl m) (hm : ∀ j, f ≤ j → j < f + 6 → m 476 j = g j ∧ (0 ≤ g j ∧ g j ≤ 255)) (hf : 0 ≤ f ∧ f ≤ 1500) (hi : 0 ≤ i ∧ i < 6) (hC : f = 2 + pl 2 2 + 6 * i) : Rn (pM_personOn m i f) (fun r => ((onP pl g i ∧ r.1 = 1) ∨ (¬ onP pl g i ∧ r.1 = 0)) ∧ (onP pl g i → onQ pl g i r.2) ∧ Fr (fun b j => (500 ≤ b ∧ b ≤ 503) ∧ j = 6 + i) m r.2) := by
  have hn := hg.num
  have g0 := hm f (by omega) (by omega)
  have g1 := hm (f + 1) (by omega) (by omega)
  have g2 := hm (f + 2) (by omega) (by omega)
  have g3 := hm (f + 3) (by omega) (by omega)
  have g4 := hm (f + 4) (by omega) (by omega)
  have g5 := hm (f + 5) (by omega) (by omega)
  unfold onP onQ
  rw [← hC]
  unfold pM_personOn
  rw [w32_eq (x := f + 1) (by omega) (by omega), w32_eq (x := f + 2) (by omega) (by omega), w32_eq (x := f + 3) (by omega) (by omega), w32_eq (x := f + 4) (by omega) (by omega), w32_eq (x := f + 5) (by omega) (by omega), w32_eq (x := 6 + i) (by omega) (by omega), g0.1, g1.1]
  refine rn_t (by omega) (rn_t (by omega) ?_)
  refine rn_e (e_isCell hg hr hq _ _) ?_
  have bad : ¬ (((0 ≤ g f ∧ g f < pl 2 0) ∧ (0 ≤ g (f + 1) ∧ g (f + 1) < pl 2 1)) ∧ g (f + 2) ≤ 8 ∧ (1 ≤ g (f + 3) ∧ g (f + 3) ≤ 99) ∧ g (f + 4) * 256 + g (f + 5) ≤ 999) → Rn (some ((0 : Int), m)) (fun r => ((((0 ≤ g f ∧ g f < pl 2 0) ∧ (0 ≤ g (f + 1) ∧ g (f + 1) < pl 2 1)) ∧ g (f + 2) ≤ 8 ∧ (1 ≤ g (f + 3) ∧ g (f + 3) ≤ 99) ∧ g (f + 4) * 256 + g (f + 5) ≤ 999) ∧ r.1 = 1 ∨ ¬ (((0 ≤ g f ∧ g f < pl 2 0) ∧ (0 ≤ g (f + 1) ∧ g (f + 1) < pl 2 1)) ∧ g (f + 2) ≤ 8 ∧ (1 ≤ g (f + 3) ∧ g (f + 3) ≤ 99) ∧ g (f + 4) * 256 + g (f + 5) ≤ 999) ∧ r.1 = 0) ∧ ((((0 ≤ g f ∧ g f < pl 2 0) ∧ (0 ≤ g (f + 1) ∧ g (f + 1) < pl 2 1)) ∧ g (f + 2) ≤ 8 ∧ (1 ≤ g (f + 3) ∧ g (f + 3) ≤ 99) ∧ g (f + 4) * 256 + g (f + 5) ≤ 999) → r.2 500 (6 + i) = 8 * g (f + 1) + g f ∧ r.2 501 (6 + i) = g (f + 2) ∧ r.2 502 (6 + i) = g (f + 3) ∧ r.2 503 (6 + i) = g (f + 4) * 256 + g (f + 5)) ∧ Fr (fun b j => (500 ≤ b ∧ b ≤ 503) ∧ j = 6 + i) m r.2) := fun hb => rn_s ⟨Or.inr ⟨hb, rfl⟩, fun c => absurd c hb, Fr.rfl'⟩
  by_cases q1 : (0 ≤ g f ∧ g f < pl 2 0) ∧ (0 ≤ g (f + 1) ∧ g (f + 1) < pl 2 1)
  · rw [if_pos q1]
    refine rn_f (show ¬ ((1 : Int) = 0) by omega) (rn_t (by omega) ?_)
    rw [g2.1]
    refine rn_i (fun q2 => ?_) (fun q2 => bad (fun c => by omega))
    refine rn_t (by omega) ?_
    rw [g3.1]
    refine rn_e (e_is _ _ _ _) ?_
    by_cases q3 : 1 ≤ g (f + 3) ∧ g (f + 3) ≤ 99
    · rw [if_pos q3]
      refine rn_f (show ¬ ((1 : Int) = 0) by omega) (rn_t (by omega) (rn_t (by omega) (rn_t (by omega) ?_)))
      rw [w32_eq (x := 8 * g (f + 1)) (by omega) (by omega), w32_eq (x := 8 * g (f + 1) + g f) (by omega) (by omega)]
      refine rn_l (fun m1 hm1 => ?_)
      have e1 : ∀ j, f ≤ j → j < f + 6 → m1 476 j = g j := fun j q0 q4 => by rw [hm1, mset_o (by omega)]; exact (hm j q0 q4).1
      rw [e1 (f + 2) (by omega) (by omega)]
      refine rn_t (by omega) (rn_t (by omega) (rn_l (fun m2 hm2 => ?_)))
      have e2 : ∀ j, f ≤ j → j < f + 6 → m2 476 j = g j := fun j q0 q4 => by rw [hm2, mset_o (by omega)]; exact e1 j q0 q4
      rw [e2 (f + 3) (by omega) (by omega)]
      refine rn_t (by omega) (rn_t (by omega) (rn_l (fun m3 hm3 => ?_)))
      have e3 : ∀ j, f ≤ j → j < f + 6 → m3 476 j = g j := fun j q0 q4 => by rw [hm3, mset_o (by omega)]; exact e2 j q0 q4
      rw [e3 (f + 4) (by omega) (by omega), e3 (f + 5) (by omega) (by omega), o8 g4.2 g5.2]
      refine rn_t (by omega) (rn_t (by omega) (rn_t (by omega) (rn_l (fun m4 hm4 => ?_))))
      have k2 : m4 500 (6 + i) = 8 * g (f + 1) + g f := by rw [hm4, mset_o (by omega), hm3, mset_o (by omega), hm2, mset_o (by omega), hm1, mset_s rfl rfl]
      have k3 : m4 501 (6 + i) = g (f + 2) := by rw [hm4, mset_o (by omega), hm3, mset_o (by omega), hm2, mset_s rfl rfl]
      have k4 : m4 502 (6 + i) = g (f + 3) := by rw [hm4, mset_o (by omega), hm3, mset_s rfl rfl]
      have k5 : m4 503 (6 + i) = g (f + 4) * 256 + g (f + 5) := by rw [hm4, mset_s rfl rfl]
      have fr : Fr (fun b j => (500 ≤ b ∧ b ≤ 503) ∧ j = 6 + i) m m4 := by
        rw [hm4, hm3, hm2, hm1]
        exact (((Fr.rfl'.set (by omega)).set (by omega)).set (by omega)).set (by omega)
      clear hm1 hm2 hm3 hm4
      rw [k5]
      refine rn_t (by omega) (rn_i (fun q4 => ?_) (fun q4 => ?_))
      · exact rn_s ⟨Or.inr ⟨fun c => by omega, rfl⟩, fun c => by omega, fr⟩
      · exact rn_s ⟨Or.inl ⟨⟨q1, by omega, q3, by omega⟩, rfl⟩, fun _ => ⟨k2, k3, k4, k5⟩, fr⟩
    · rw [if_neg q3]
      refine rn_t rfl (bad (fun c => q3 c.2.2.1))
  · rw [if_neg q1]
    refine rn_t rfl (bad (fun c => q1 c.1))
theorem r_on229 {N : Nat} {Q : Int × Mem → Prop} {kk : Mem → Option (Int × Mem)} {bo : Int → Mem → Option (Int × Mem)} {pl m0 : Mem} {g : Int → Int} (hg : PG pl) (hr : PR pl) (hq : PQ pl m0) (hm0 : ∀ j, 0 ≤ j → j < imgL pl → m0 476 j = g j ∧ (0 ≤ g j ∧ g j ≤ 255))
    (hk : ∀ m', (∀ i, 0 ≤ i → i < pl 2 3 → onP pl g i ∧ onQ pl g i m') → Fr (fun b j => (500 ≤ b ∧ b ≤ 503) ∧ 6 ≤ j ∧ j < 12) m0 m' → Rn (kk m') Q) (hbad : ∀ m', ¬ (∀ i, 0 ≤ i → i < pl 2 3 → onP pl g i) → Fr (fun b j => (500 ≤ b ∧ b ≤ 503) ∧ 6 ≤ j ∧ j < 12) m0 m' → Q (0, m')) :
    ∀ (k n : Nat) (x : Int) (m : Mem), k < n → 0 ≤ x → x + k = pl 2 3 → (∀ i, 0 ≤ i → i < x → onP pl g i ∧ onQ pl g i m) → Fr (fun b j => (500 ≤ b ∧ b ≤ 503) ∧ 6 ≤ j ∧ j < 12) m0 m → Rn (lpF bo (pM_comesOn_L229b N (pl 2 2) kk) n x m) Q := by
  have hn := hg.num
  have hL : imgL pl = 2 + pl 2 2 + 6 * pl 2 3 := rfl
  intro k
  induction k with
  | zero =>
    intro n x m hkn h0 hx hm hf
    obtain ⟨n, rfl⟩ : ∃ n', n = n' + 1 := ⟨n - 1, by omega⟩
    have hqm : PQ pl m := hq.fr hf (fun b j q => by unfold prc at q; omega)
    show Rn (pM_comesOn_L229b N _ kk (lpF bo (pM_comesOn_L229b N _ kk) n) x m) Q
    generalize lpF bo (pM_comesOn_L229b N (pl 2 2) kk) n = self
    unfold pM_comesOn_L229b
    rw [hqm.bk, hqm 480 _ (by unfold prc; omega), hr.2.2.2.1]
    refine rn_t hr.1 (rn_f (by omega) ?_)
    exact hk m (fun p q0 q1 => hm p q0 (by omega)) hf
  | succ k ih =>
    intro n x m hkn h0 hx hm hf
    obtain ⟨n, rfl⟩ : ∃ n', n = n' + 1 := ⟨n - 1, by omega⟩
    have ih' := ih n (x + 1)
    have hqm : PQ pl m := hq.fr hf (fun b j q => by unfold prc at q; omega)
    show Rn (pM_comesOn_L229b N _ kk (lpF bo (pM_comesOn_L229b N _ kk) n) x m) Q
    generalize lpF bo (pM_comesOn_L229b N (pl 2 2) kk) n = self at ih' ⊢
    unfold pM_comesOn_L229b
    rw [hqm.bk, hqm 480 _ (by unfold prc; omega), hr.2.2.2.1, w32_eq (x := 6 * x) (by omega) (by omega), w32_eq (x := 2 + pl 2 2) (by omega) (by omega), w32_eq (x := 2 + pl 2 2 + 6 * x) (by omega) (by omega), w32_eq (x := x + 1) (by omega) (by omega)]
    refine rn_t hr.1 (rn_t (by omega) ?_)
    refine rn_b2 (P := fun r m1 => ((onP pl g x ∧ r = 1) ∨ (¬ onP pl g x ∧ r = 0)) ∧ (onP pl g x → onQ pl g x m1) ∧ Fr (fun b j => (500 ≤ b ∧ b ≤ 503) ∧ j = 6 + x) m m1) (r_perOn hg hr hqm (fun j q0 q1 => ⟨(hf _ _ (by omega)).trans (hm0 j (by omega) (by omega)).1, (hm0 j (by omega) (by omega)).2⟩) (by omega) (by omega) rfl) (fun r m1 hr => ?_)
    obtain ⟨h1, h2, h3⟩ := hr
    dsimp only
    have f1 : Fr (fun b j => (500 ≤ b ∧ b ≤ 503) ∧ 6 ≤ j ∧ j < 12) m0 m1 := hf.trans (h3.mono (fun b j q => ⟨q.1, by omega⟩))
    refine rn_i (fun q => ?_) (fun q => ?_)
    · refine rn_s (hbad m1 (fun c => ?_) f1)
      have := c x h0 (by omega)
      rcases h1 with h1 | h1
      · omega
      · exact h1.1 this
    · have hp : onP pl g x := by
        rcases h1 with h1 | h1
        · exact h1.1
        · exact absurd h1.2 q
      refine rn_v (ih' m1 (by omega) (by omega) (by omega) (fun i q0 q1 => ?_) f1)
      by_cases q2 : i = x
      · rw [q2]; exact ⟨hp, h2 hp⟩
      · have h4 := hm i q0 (by omega)
        refine ⟨h4.1, ?_⟩
        unfold onQ
        rw [h3 500 (6 + i) (by omega), h3 501 (6 + i) (by omega), h3 502 (6 + i) (by omega), h3 503 (6 + i) (by omega)]
        exact h4.2
theorem r_comesOn {N : Nat} {pl m S0 : Mem} {g : Int → Int} {L : Int} (hN : 2000 ≤ N) (hg : PG pl) (hr : PR pl) (hq : PQ pl m) (hL : 0 ≤ L ∧ L ≤ 1600) (hB : gB g L) (hm : ∀ j, 0 ≤ j → j < L → m 476 j = g j) (hS : SR pl m 0 S0) (hb : SB pl S0) : Rn (pM_comesOn N m L) (fun r => ((onOK pl g L ∧ r.1 = 1 ∧ ∀ S, onS pl g S → SR pl r.2 1 S) ∨ (¬ onOK pl g L ∧ r.1 = 0)) ∧ Fr (FLy 1) m r.2) := by
  have hn := hg.num
  have hI : imgL pl = 2 + pl 2 2 + 6 * pl 2 3 := rfl
  have e0 : m 477 (pl 475 13) = pl 2 0 := (hq _ _ (by unfold prc; omega)).trans hr.2.1
  have e1 : m 478 (pl 475 13) = pl 2 1 := (hq _ _ (by unfold prc; omega)).trans hr.2.2.1
  have e2 : m 480 (pl 475 13) = pl 2 3 := (hq _ _ (by unfold prc; omega)).trans hr.2.2.2.1
  unfold pM_comesOn
  rw [hq.bk, e0, e1, e2, ← hg.2.1, w32_eq (x := pl 2 2) (by omega) (by omega), w32_eq (x := 6 * pl 2 3) (by omega) (by omega)]
  refine rn_t hr.1 (rn_t hr.1 (rn_v (rn_t hr.1 ?_)))
  rw [w32_eq (x := 3 + pl 2 2) (by omega) (by omega), w32_eq (x := 3 + pl 2 2 + 6 * pl 2 3) (by omega) (by omega)]
  refine rn_i (fun q1 => ?_) (fun q1 => rn_s ⟨Or.inr ⟨fun c => q1 (by have := c.1; omega), rfl⟩, Fr.rfl'⟩)
  have b0 := hB 0 (by omega) (by omega)
  have b1 := hB 1 (by omega) (by omega)
  rw [hm 0 (by omega) (by omega), hm 1 (by omega) (by omega), o8 b0 b1]
  refine rn_i (fun q3 => rn_s ⟨Or.inr ⟨fun c => by have := c.2.2.1; omega, rfl⟩, Fr.rfl'⟩) (fun q3 => ?_)
  unfold pM_comesOn_L71
  have hck := fun kk => r_c71 (N := N) (m := m) (L := L) (c2 := pl 2 2) (g := g) (kk := kk) (bo := fun _ _ => none) (by omega) (fun j h0 h1 => ⟨hm j h0 h1, hB j h0 h1⟩) (L - 1).toNat N 0 (by omega) (by omega) (by omega)
  have hck0 : ∀ kk, lpF (fun _ _ => none) (pM_comesOn_L71b N m L (pl 2 2) kk) N 223 0 = kk (ckS g (L - 1).toNat) := hck
  rw [hck0, w32_eq (x := L - 1) (by omega) (by omega), show L - 1 = imgL pl by omega, hm (imgL pl) (by omega) (by omega)]
  refine rn_t (by omega) ?_
  refine rn_i (fun q2 => ?_) (fun q2 => rn_s ⟨Or.inr ⟨fun c => q2 c.2.1, rfl⟩, Fr.rfl'⟩)
  refine rn_b (r_copies hN hg (by omega) (by omega) (by omega) hS hb.2.2.2) (fun mA hA => ?_)
  obtain ⟨sA, fA⟩ := hA
  have hmA : ∀ j, 0 ≤ j → j < L → mA 476 j = g j := fun j h0 h1 => (fA _ _ (by unfold FLy; omega)).trans (hm j h0 h1)
  rw [hmA 0 (by omega) (by omega), hmA 1 (by omega) (by omega), o8 b0 b1]
  refine rn_l (fun m1 hm1 => ?_)
  refine rn_l (fun m2 hm2 => ?_)
  have k0 : m2 498 1 = g 0 * 256 + g 1 := by rw [hm2, mset_o (by omega), hm1, mset_s rfl rfl]
  have k7 : m2 504 1 = 0 := by rw [hm2, mset_s rfl rfl]
  have fA2 : Fr (fun b j => (b = 498 ∧ j = 1) ∨ (b = 504 ∧ j = 1)) mA m2 := by rw [hm2, hm1]; exact (Fr.rfl'.set (by omega)).set (by omega)
  clear hm1 hm2
  have f2 : Fr (FLy 1) m m2 := fA.trans (fA2.mono (fun b j q => by unfold FLy; omega))
  have hq2 : PQ pl m2 := hq.fr f2 (fun b j q => by unfold prc at q; unfold FLy; omega)
  have hm2 : ∀ j, 0 ≤ j → j < L → m2 476 j = g j := fun j h0 h1 => (f2 _ _ (by unfold FLy; omega)).trans (hm j h0 h1)
  have toF : ∀ m', Fr FRo m2 m' → Fr (FLy 1) m m' := fun m' h => f2.trans (h.mono (fun b j q => by unfold FRo at q; unfold FLy; omega))
  unfold pM_comesOn_L153
  refine r_on153 (m0 := m2) (g := g) hg hr hq2 (fun j h0 h1 => hm2 j h0 (by omega)) (fun m3 h3 z3 f3 => ?_) (fun m3 h3 f3 => ⟨Or.inr ⟨fun c => h3 c.2.2.2.1, rfl⟩, toF m3 f3⟩) (pl 2 2).toNat N 0 m2 (by omega) (by omega) (by omega) (fun p q0 q1 => by omega) (fun c _ _ _ => rfl) Fr.rfl'
  have hq3 : PQ pl m3 := hq2.fr f3 (fun b j q => by unfold prc at q; unfold FRo; omega)
  unfold pM_comesOn_L229
  refine r_on229 (m0 := m3) (g := g) hg hr hq3 (fun j h0 h1 => ⟨(f3 _ _ (by unfold FRo; omega)).trans (hm2 j h0 (by omega)), hB j h0 (by omega)⟩) (fun m4 h4 f4 => ?_) (fun m4 h4 f4 => ⟨Or.inr ⟨fun c => h4 c.2.2.2.2, rfl⟩, toF m4 (f3.trans (f4.mono (fun b j q => by unfold FRo; omega)))⟩) (pl 2 3).toNat N 0 m3 (by omega) (by omega) (by omega) (fun p q0 q1 => by omega) Fr.rfl'
  have ok : onOK pl g L := ⟨by omega, q2, by omega, fun p q0 q1 => (h3 p q0 q1).2, fun i q0 q1 => (h4 i q0 q1).1⟩
  have f4' : Fr FRo m2 m4 := f3.trans (f4.mono (fun b j q => by unfold FRo; omega))
  refine rn_s ⟨Or.inl ⟨ok, rfl, fun S hS' => ⟨?_, fun p q0 q4 => ?_, fun c c0 c1 c2 => ?_, fun i q0 q4 => ?_, ?_, fun j j0 j1 => ?_⟩⟩, toF m4 f4'⟩
  · dsimp only
    rw [f4' _ _ (by unfold FRo; omega), k0, hS'.1]
  · dsimp only
    rw [show 64 * 1 + ph pl p = 64 + ph pl p by omega, f4 _ _ (by omega), (h3 p q0 q4).1, hS'.2.2.1 p q0 q4]
  · dsimp only
    rw [show 64 * 1 + c = 64 + c by omega, f4 _ _ (by omega), z3 c c0 c1 c2, fA2 _ _ (by omega)]
    have := sA.2.2.1 c c0 c1 c2
    rwa [show 64 * 1 + c = 64 + c by omega] at this
  · dsimp only
    have h5 := h4 i q0 q4
    have h6 := hS'.2.2.2 i q0 q4
    have hat := at_ph hg h5.1.1
    obtain ⟨u1, u2, u3, u4⟩ := h5.2
    obtain ⟨t1, t2, t3, t4⟩ := h6
    rw [show 6 * 1 + i = 6 + i by omega, u1, u2, u3, u4, t1, t2, t3, t4]
    exact ⟨hat.2.symm, rfl, rfl, rfl⟩
  · dsimp only
    rw [f4' _ _ (by unfold FRo; omega), k7, hS'.2.1]
  · have := hS'.2.1; omega
