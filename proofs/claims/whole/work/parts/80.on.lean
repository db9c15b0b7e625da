/-! ON: the component restores -/
def onP (pl : Mem) (g : Int → Int) (i : Int) : Prop := ((0 ≤ g (2 + pl 2 2 + 6 * i) ∧ g (2 + pl 2 2 + 6 * i) < pl 2 0) ∧ (0 ≤ g (2 + pl 2 2 + 6 * i + 1) ∧ g (2 + pl 2 2 + 6 * i + 1) < pl 2 1)) ∧ g (2 + pl 2 2 + 6 * i + 2) ≤ 8 ∧ (1 ≤ g (2 + pl 2 2 + 6 * i + 3) ∧ g (2 + pl 2 2 + 6 * i + 3) ≤ 99) ∧ g (2 + pl 2 2 + 6 * i + 4) * 256 + g (2 + pl 2 2 + 6 * i + 5) ≤ 999
def onOK (pl : Mem) (g : Int → Int) (L : Int) : Prop := L = imgL pl + 1 ∧ g (imgL pl) = ckS g (imgL pl).toNat ∧ g 0 * 256 + g 1 ≤ 999 ∧ (∀ p, 0 ≤ p → p < pl 2 2 → g (2 + p) ≤ 99) ∧ ∀ i, 0 ≤ i → i < pl 2 3 → onP pl g i
def onR (pl : Mem) (g : Int → Int) (i : Int) (S : Mem) : Prop := S 2 i = g (2 + pl 2 2 + 6 * i + 1) * pl 2 0 + g (2 + pl 2 2 + 6 * i) ∧ S 3 i = g (2 + pl 2 2 + 6 * i + 2) ∧ S 4 i = g (2 + pl 2 2 + 6 * i + 3) ∧ S 5 i = g (2 + pl 2 2 + 6 * i + 4) * 256 + g (2 + pl 2 2 + 6 * i + 5)
def onS (pl : Mem) (g : Int → Int) (S : Mem) : Prop := S 0 0 = g 0 * 256 + g 1 ∧ S 0 7 = 0 ∧ (∀ p, 0 ≤ p → p < pl 2 2 → S 1 p = g (2 + p)) ∧ ∀ i, 0 ≤ i → i < pl 2 3 → onR pl g i S
def gB (g : Int → Int) (L : Int) : Prop := ∀ j, 0 ≤ j → j < L → 0 ≤ g j ∧ g j ≤ 255
theorem onS.SB {pl S : Mem} {g : Int → Int} {L : Int} (hg : PG pl) (hB : gB g L) (hL : onOK pl g L) (h : onS pl g S) : SB pl S := by
  have hn := hg.num
  obtain ⟨l1, -, l3, l4, l5⟩ := hL
  unfold imgL at l1
  refine ⟨fun p h0 h1 => ?_, fun i h0 h1 => ?_, ?_, ?_⟩
  · rw [h.2.2.1 p h0 h1]
    exact ⟨(hB _ (by omega) (by omega)).1, l4 p h0 h1⟩
  · have h2 := h.2.2.2 i h0 h1
    have h3 := l5 i h0 h1
    unfold onR at h2
    unfold onP at h3
    have hat := at_ph hg h3.1
    have b2 := hB (2 + pl 2 2 + 6 * i + 2) (by omega) (by omega)
    have b4 := hB (2 + pl 2 2 + 6 * i + 4) (by omega) (by omega)
    have b5 := hB (2 + pl 2 2 + 6 * i + 5) (by omega) (by omega)
    rw [h2.1, h2.2.1, h2.2.2.1, h2.2.2.2]
    exact ⟨hat.1, ⟨b2.1, h3.2.1⟩, h3.2.2.1, by omega, h3.2.2.2⟩
  · rw [h.1]
    have b0 := hB 0 (by omega) (by omega)
    have b1 := hB 1 (by omega) (by omega)
    omega
  · rw [h.2.1]; omega
theorem c_resP {pl m : Mem} {g : Int → Int} {f i C : Int} (hg : PG pl) (he : PE pl m) (hm : ∀ j, f ≤ j → j < f + 6 → m 1 j = g j ∧ (0 ≤ g j ∧ g j ≤ 255)) (hf : 0 ≤ f ∧ f ≤ 1500) (hi : 0 ≤ i ∧ i < 6) (hC : f = 2 + pl 2 2 + 6 * i) : Rn (pI_restorePerson m f 45 i) (fun r => ((onP pl g i ∧ r.1 = 1) ∨ (¬ onP pl g i ∧ r.1 = 0)) ∧ (onP pl g i → onR pl g i (fun k j => r.2 (45 + k) j)) ∧ Fr (fun b j => (47 ≤ b ∧ b ≤ 50) ∧ j = i) m r.2) := by
  have hn := hg.num
  have g0 := hm f (by omega) (by omega)
  have g1 := hm (f + 1) (by omega) (by omega)
  have g2 := hm (f + 2) (by omega) (by omega)
  have g3 := hm (f + 3) (by omega) (by omega)
  have g4 := hm (f + 4) (by omega) (by omega)
  have g5 := hm (f + 5) (by omega) (by omega)
  unfold onP onR
  rw [← hC]
  unfold pI_restorePerson
  rw [w32_eq (x := f + 1) (by omega) (by omega), w32_eq (x := f + 2) (by omega) (by omega), w32_eq (x := f + 3) (by omega) (by omega), w32_eq (x := f + 4) (by omega) (by omega), w32_eq (x := f + 5) (by omega) (by omega), g0.1, g1.1]
  refine rn_t (by omega) (rn_t (by omega) ?_)
  refine rn_e (e_cellAt hg he _ _) ?_
  refine rn_t (by omega) (rn_v (rn_t (by omega) (rn_t (by omega) ?_)))
  rw [g3.1, g4.1, g5.1, w32_eq (x := g (f + 4) * 256) (by omega) (by omega), w32_eq (x := g (f + 4) * 256 + g (f + 5)) (by omega) (by omega)]
  generalize hG : (if (0 ≤ g f ∧ g f < pl 2 0) ∧ (0 ≤ g (f + 1) ∧ g (f + 1) < pl 2 1) then g (f + 1) * pl 2 0 + g f else -1) = G
  refine rn_v (rn_t hi (rn_l (fun m1 hm1 => ?_)))
  have e1 : m1 1 (f + 2) = g (f + 2) := by rw [hm1, mset_o (by omega)]; exact g2.1
  refine rn_t (by omega) (rn_t hi ?_)
  rw [e1]
  refine rn_l (fun m2 hm2 => ?_)
  refine rn_t hi (rn_l (fun m3 hm3 => ?_))
  refine rn_t hi (rn_l (fun m4 hm4 => ?_))
  have e4 : m4 1 (f + 2) = g (f + 2) := by rw [hm4, mset_o (by omega), hm3, mset_o (by omega), hm2, mset_o (by omega)]; exact e1
  have k2 : m4 47 i = G := by rw [hm4, mset_o (by omega), hm3, mset_o (by omega), hm2, mset_o (by omega), hm1, mset_s (by omega) rfl]
  have k3 : m4 48 i = g (f + 2) := by rw [hm4, mset_o (by omega), hm3, mset_o (by omega), hm2, mset_s (by omega) rfl]
  have k4 : m4 49 i = g (f + 3) := by rw [hm4, mset_o (by omega), hm3, mset_s (by omega) rfl]
  have k5 : m4 50 i = g (f + 4) * 256 + g (f + 5) := by rw [hm4, mset_s (by omega) rfl]
  have fr : Fr (fun b j => (47 ≤ b ∧ b ≤ 50) ∧ j = i) m m4 := by
    rw [hm4, hm3, hm2, hm1]
    exact (((Fr.rfl'.set (by omega)).set (by omega)).set (by omega)).set (by omega)
  clear hm1 hm2 hm3 hm4
  have fin : ∀ r : Int, ((((0 ≤ g f ∧ g f < pl 2 0) ∧ (0 ≤ g (f + 1) ∧ g (f + 1) < pl 2 1)) ∧ g (f + 2) ≤ 8 ∧ (1 ≤ g (f + 3) ∧ g (f + 3) ≤ 99) ∧ g (f + 4) * 256 + g (f + 5) ≤ 999) ∧ r = 1 ∨ ¬ (((0 ≤ g f ∧ g f < pl 2 0) ∧ (0 ≤ g (f + 1) ∧ g (f + 1) < pl 2 1)) ∧ g (f + 2) ≤ 8 ∧ (1 ≤ g (f + 3) ∧ g (f + 3) ≤ 99) ∧ g (f + 4) * 256 + g (f + 5) ≤ 999) ∧ r = 0) → Rn (some (r, m4)) (fun r => ((((0 ≤ g f ∧ g f < pl 2 0) ∧ (0 ≤ g (f + 1) ∧ g (f + 1) < pl 2 1)) ∧ g (f + 2) ≤ 8 ∧ (1 ≤ g (f + 3) ∧ g (f + 3) ≤ 99) ∧ g (f + 4) * 256 + g (f + 5) ≤ 999) ∧ r.1 = 1 ∨ ¬ (((0 ≤ g f ∧ g f < pl 2 0) ∧ (0 ≤ g (f + 1) ∧ g (f + 1) < pl 2 1)) ∧ g (f + 2) ≤ 8 ∧ (1 ≤ g (f + 3) ∧ g (f + 3) ≤ 99) ∧ g (f + 4) * 256 + g (f + 5) ≤ 999) ∧ r.1 = 0) ∧ ((((0 ≤ g f ∧ g f < pl 2 0) ∧ (0 ≤ g (f + 1) ∧ g (f + 1) < pl 2 1)) ∧ g (f + 2) ≤ 8 ∧ (1 ≤ g (f + 3) ∧ g (f + 3) ≤ 99) ∧ g (f + 4) * 256 + g (f + 5) ≤ 999) → (fun k j => r.2 (45 + k) j) 2 i = g (f + 1) * pl 2 0 + g f ∧ (fun k j => r.2 (45 + k) j) 3 i = g (f + 2) ∧ (fun k j => r.2 (45 + k) j) 4 i = g (f + 3) ∧ (fun k j => r.2 (45 + k) j) 5 i = g (f + 4) * 256 + g (f + 5)) ∧ Fr (fun b j => (47 ≤ b ∧ b ≤ 50) ∧ j = i) m r.2) := fun r hr => rn_s ⟨hr, fun c => ⟨by show m4 (45 + 2) i = _; rw [show (45 : Int) + 2 = 47 by omega, k2, ← hG, if_pos c.1], k3, k4, k5⟩, fr⟩
  by_cases q1 : (0 ≤ g f ∧ g f < pl 2 0) ∧ (0 ≤ g (f + 1) ∧ g (f + 1) < pl 2 1)
  · have hat := at_ph hg q1
    rw [if_pos q1] at hG
    refine rn_f (by omega) (rn_t (by omega) ?_)
    rw [e4]
    refine rn_i (fun q2 => fin 0 (Or.inr ⟨fun c => by omega, rfl⟩)) (fun q2 => ?_)
    refine rn_i (fun q3 => fin 0 (Or.inr ⟨fun c => by omega, rfl⟩)) (fun q3 => ?_)
    refine rn_i (fun q4 => fin 0 (Or.inr ⟨fun c => by omega, rfl⟩)) (fun q4 => ?_)
    refine rn_i (fun q5 => fin 0 (Or.inr ⟨fun c => by omega, rfl⟩)) (fun q5 => ?_)
    exact fin 1 (Or.inl ⟨⟨q1, by omega, by omega, by omega⟩, rfl⟩)
  · rw [if_neg q1] at hG
    refine rn_t (by omega) ?_
    exact fin 0 (Or.inr ⟨fun c => q1 c.1, rfl⟩)
theorem c_re84 {N : Nat} {Q : Int × Mem → Prop} {kk : Mem → Option (Int × Mem)} {bo : Int → Mem → Option (Int × Mem)} {pl m0 : Mem} {g : Int → Int} {c4 : Int} (hg : PG pl) (he : PE pl m0) (hm0 : ∀ j, 0 ≤ j → j < 2 + pl 2 2 → m0 1 j = g j)
    (hk : ∀ m', (∀ p, 0 ≤ p → p < pl 2 2 → m' 46 p = g (2 + p) ∧ g (2 + p) ≤ 99) → Fr (fun b _ => b = 46) m0 m' → Rn (kk m') Q) (hbad : ∀ m', ¬ (∀ p, 0 ≤ p → p < pl 2 2 → g (2 + p) ≤ 99) → Fr (fun b _ => b = 46) m0 m' → Q (0, m')) :
    ∀ (k n : Nat) (x : Int) (m : Mem), k < n → 0 ≤ x → x + k = pl 2 2 → (∀ p, 0 ≤ p → p < x → m 46 p = g (2 + p) ∧ g (2 + p) ≤ 99) → Fr (fun b _ => b = 46) m0 m → Rn (lpF bo (pI_restore_L84b N 45 c4 kk) n x m) Q := by
  have hn := hg.num
  intro k
  induction k with
  | zero =>
    intro n x m hkn h0 hx hm hf
    obtain ⟨n, rfl⟩ : ∃ n', n = n' + 1 := ⟨n - 1, by omega⟩
    show Rn (pI_restore_L84b N 45 c4 kk (lpF bo (pI_restore_L84b N 45 c4 kk) n) x m) Q
    generalize lpF bo (pI_restore_L84b N 45 c4 kk) n = self
    unfold pI_restore_L84b
    have e2 : m 2 2 = pl 2 2 := (hf _ _ (by omega)).trans (he.d 2)
    rw [e2]
    refine rn_f (by omega) ?_
    exact hk m (fun p q0 q1 => hm p q0 (by omega)) hf
  | succ k ih =>
    intro n x m hkn h0 hx hm hf
    obtain ⟨n, rfl⟩ : ∃ n', n = n' + 1 := ⟨n - 1, by omega⟩
    have ih' := ih n (x + 1)
    show Rn (pI_restore_L84b N 45 c4 kk (lpF bo (pI_restore_L84b N 45 c4 kk) n) x m) Q
    generalize lpF bo (pI_restore_L84b N 45 c4 kk) n = self at ih' ⊢
    unfold pI_restore_L84b
    have e2 : m 2 2 = pl 2 2 := (hf _ _ (by omega)).trans (he.d 2)
    have e1 : m 1 (2 + x) = g (2 + x) := (hf _ _ (by omega)).trans (hm0 _ (by omega) (by omega))
    rw [e2, w32_eq (x := 2 + x) (by omega) (by omega), e1, w32_eq (x := x + 1) (by omega) (by omega)]
    refine rn_t (by omega) (rn_t (by omega) (rn_t (by omega) (rn_l (fun m1 hm1 => ?_))))
    have f1 : Fr (fun b _ => b = 46) m0 m1 := by rw [hm1]; exact hf.set (by omega)
    have g1 : m1 (45 + 1) x = g (2 + x) := by rw [hm1, mset_s rfl rfl]
    have g2 : ∀ p, p ≠ x → m1 46 p = m 46 p := fun p q => by rw [hm1, mset_o (by omega)]
    clear hm1
    rw [g1]
    refine rn_t (by omega) (rn_i (fun q => ?_) (fun q => ?_))
    · exact rn_s (hbad m1 (fun c => by have := c x h0 (by omega); omega) f1)
    · refine rn_v (ih' m1 (by omega) (by omega) (by omega) (fun p q0 q1 => ?_) f1)
      by_cases q2 : p = x
      · rw [q2]; exact ⟨g1, by omega⟩
      · rw [g2 p q2]; exact hm p q0 (by omega)
theorem onR.eq {pl S S' : Mem} {g : Int → Int} {i : Int} (h : onR pl g i S) (e : ∀ k, 2 ≤ k → k ≤ 5 → S' k i = S k i) : onR pl g i S' := by
  unfold onR
  rw [e 2 (by omega) (by omega), e 3 (by omega) (by omega), e 4 (by omega) (by omega), e 5 (by omega) (by omega)]
  exact h
theorem c_re129 {N : Nat} {Q : Int × Mem → Prop} {kk : Mem → Option (Int × Mem)} {bo : Int → Mem → Option (Int × Mem)} {pl m0 : Mem} {g : Int → Int} (hg : PG pl) (he : PE pl m0) (hm0 : ∀ j, 0 ≤ j → j < imgL pl → m0 1 j = g j ∧ (0 ≤ g j ∧ g j ≤ 255))
    (hk : ∀ m', (∀ i, 0 ≤ i → i < pl 2 3 → onP pl g i ∧ onR pl g i (fun k j => m' (45 + k) j)) → Fr (fun b _ => 47 ≤ b ∧ b ≤ 50) m0 m' → Rn (kk m') Q) (hbad : ∀ m', ¬ (∀ i, 0 ≤ i → i < pl 2 3 → onP pl g i) → Fr (fun b _ => 47 ≤ b ∧ b ≤ 50) m0 m' → Q (0, m')) :
    ∀ (k n : Nat) (x : Int) (m : Mem), k < n → 0 ≤ x → x + k = pl 2 3 → (∀ i, 0 ≤ i → i < x → onP pl g i ∧ onR pl g i (fun k j => m (45 + k) j)) → Fr (fun b _ => 47 ≤ b ∧ b ≤ 50) m0 m → Rn (lpF bo (pI_restore_L129b N 45 (2 + pl 2 2) kk) n x m) Q := by
  have hn := hg.num
  have hL : imgL pl = 2 + pl 2 2 + 6 * pl 2 3 := rfl
  intro k
  induction k with
  | zero =>
    intro n x m hkn h0 hx hm hf
    obtain ⟨n, rfl⟩ : ∃ n', n = n' + 1 := ⟨n - 1, by omega⟩
    show Rn (pI_restore_L129b N 45 _ kk (lpF bo (pI_restore_L129b N 45 _ kk) n) x m) Q
    generalize lpF bo (pI_restore_L129b N 45 (2 + pl 2 2) kk) n = self
    unfold pI_restore_L129b
    have e2 : m 2 3 = pl 2 3 := (hf _ _ (by omega)).trans (he.d 3)
    rw [e2]
    refine rn_f (by omega) ?_
    exact hk m (fun p q0 q1 => hm p q0 (by omega)) hf
  | succ k ih =>
    intro n x m hkn h0 hx hm hf
    obtain ⟨n, rfl⟩ : ∃ n', n = n' + 1 := ⟨n - 1, by omega⟩
    have ih' := ih n (x + 1)
    show Rn (pI_restore_L129b N 45 _ kk (lpF bo (pI_restore_L129b N 45 _ kk) n) x m) Q
    generalize lpF bo (pI_restore_L129b N 45 (2 + pl 2 2) kk) n = self at ih' ⊢
    unfold pI_restore_L129b
    have e2 : m 2 3 = pl 2 3 := (hf _ _ (by omega)).trans (he.d 3)
    have hem : PE pl m := he.fr hf (fun b j q => by unfold plc at q; omega)
    rw [e2, w32_eq (x := x * 6) (by omega) (by omega), show x * 6 = 6 * x by omega, w32_eq (x := 2 + pl 2 2 + 6 * x) (by omega) (by omega), w32_eq (x := x + 1) (by omega) (by omega)]
    refine rn_t (by omega) ?_
    refine rn_b2 (P := fun r m1 => ((onP pl g x ∧ r = 1) ∨ (¬ onP pl g x ∧ r = 0)) ∧ (onP pl g x → onR pl g x (fun k j => m1 (45 + k) j)) ∧ Fr (fun b j => (47 ≤ b ∧ b ≤ 50) ∧ j = x) m m1) (c_resP (C := 0) hg hem (fun j q0 q1 => ⟨(hf _ _ (by omega)).trans (hm0 j (by omega) (by omega)).1, (hm0 j (by omega) (by omega)).2⟩) (by omega) (by omega) rfl) (fun r m1 hr => ?_)
    obtain ⟨h1, h2, h3⟩ := hr
    dsimp only
    have f1 : Fr (fun b _ => 47 ≤ b ∧ b ≤ 50) m0 m1 := hf.trans (h3.mono (fun b j q => q.1))
    refine rn_i (fun q => ?_) (fun q => ?_)
    · refine rn_s (hbad m1 (fun c => ?_) f1)
      have := c x h0 (by omega)
      rcases h1 with h1 | h1
      · omega
      · exact h1.1 this
    · have hp : onP pl g x := by
        rcases h1 with h1 | h1
        · exact h1.1
        · exact absurd h1.2 q
      refine rn_v (ih' m1 (by omega) (by omega) (by omega) (fun i q0 q1 => ?_) f1)
      by_cases q2 : i = x
      · rw [q2]; exact ⟨hp, h2 hp⟩
      · exact ⟨(hm i q0 (by omega)).1, (hm i q0 (by omega)).2.eq (fun y z0 z1 => h3 _ _ (by omega))⟩
def FRe : Int → Int → Prop := fun b j => (b = 45 ∧ (j = 0 ∨ j = 7)) ∨ (46 ≤ b ∧ b ≤ 50)
theorem c_restore {N : Nat} {pl m : Mem} {g : Int → Int} {L : Int} (hN : 2000 ≤ N) (hg : PG pl) (he : PE pl m) (hL : 0 ≤ L ∧ L ≤ 1600) (hB : gB g L) (hm : ∀ j, 0 ≤ j → j < L → m 1 j = g j) : Rn (pI_restore N m L 45) (fun r => ((onOK pl g L ∧ r.1 = 1 ∧ onS pl g (vS r.2 45)) ∨ (¬ onOK pl g L ∧ r.1 = 0)) ∧ Fr FRe m r.2) := by
  have hn := hg.num
  have hI : imgL pl = 2 + pl 2 2 + 6 * pl 2 3 := rfl
  have ln1 : ln 1 = 1600 := by decide +kernel
  unfold pI_restore
  rw [he.d 2, he.d 3, w32_eq (x := 2 + pl 2 2) (by omega) (by omega), w32_eq (x := pl 2 3 * 6) (by omega) (by omega)]
  refine rn_v ?_
  rw [w32_eq (x := 2 + pl 2 2 + pl 2 3 * 6) (by omega) (by omega), show 2 + pl 2 2 + pl 2 3 * 6 = imgL pl by omega]
  refine rn_v ?_
  rw [w32_eq (x := imgL pl + 1) (by omega) (by omega)]
  refine rn_i (fun q1 => ?_) (fun q1 => rn_s ⟨Or.inr ⟨fun c => q1 c.1, rfl⟩, Fr.rfl'⟩)
  refine rn_f (by omega) (rn_t (by omega) ?_)
  refine rn_e (c_ck (g := g) hN (by omega) (by omega) (fun j h0 h1 => ⟨hm j h0 (by omega), hB j h0 (by omega)⟩)) ?_
  rw [hm (imgL pl) (by omega) (by omega)]
  refine rn_i (fun q2 => ?_) (fun q2 => rn_s ⟨Or.inr ⟨fun c => q2 c.2.1, rfl⟩, Fr.rfl'⟩)
  refine rn_l (fun m1 hm1 => ?_)
  have k7 : m1 45 7 = 0 := by rw [hm1, mset_s rfl rfl]
  have f1 : Fr FRe m m1 := by rw [hm1]; exact Fr.rfl'.set (by unfold FRe; omega)
  clear hm1
  have b0 := hB 0 (by omega) (by omega)
  have b1 := hB 1 (by omega) (by omega)
  rw [show m1 1 0 = g 0 from (f1 _ _ (by unfold FRe; omega)).trans (hm 0 (by omega) (by omega)), show m1 1 1 = g 1 from (f1 _ _ (by unfold FRe; omega)).trans (hm 1 (by omega) (by omega)), w32_eq (x := g 0 * 256) (by omega) (by omega), w32_eq (x := g 0 * 256 + g 1) (by omega) (by omega)]
  refine rn_l (fun m2 hm2 => ?_)
  have k0 : m2 45 0 = g 0 * 256 + g 1 := by rw [hm2, mset_s rfl rfl]
  have k72 : m2 45 7 = 0 := by rw [hm2, mset_o (by omega)]; exact k7
  have f2 : Fr FRe m m2 := by rw [hm2]; exact f1.set (by unfold FRe; omega)
  clear hm2
  rw [k0]
  refine rn_i (fun q3 => rn_s ⟨Or.inr ⟨fun c => by have := c.2.2.1; omega, rfl⟩, f2⟩) (fun q3 => ?_)
  have he2 : PE pl m2 := he.fr f2 (fun b j q => by unfold plc at q; unfold FRe; omega)
  unfold pI_restore_L84
  refine c_re84 (m0 := m2) (g := g) hg he2 (fun j h0 h1 => (f2 _ _ (by unfold FRe; omega)).trans (hm j h0 (by omega))) (fun m3 h3 f3 => ?_) (fun m3 h3 f3 => ⟨Or.inr ⟨fun c => h3 c.2.2.2.1, rfl⟩, f2.trans (f3.mono (fun b j q => by unfold FRe; omega))⟩) (pl 2 2).toNat N 0 m2 (by omega) (by omega) (by omega) (fun p q0 q1 => by omega) Fr.rfl'
  have fr3 : Fr FRe m m3 := f2.trans (f3.mono (fun b j q => by unfold FRe; omega))
  have he3 : PE pl m3 := he.fr fr3 (fun b j q => by unfold plc at q; unfold FRe; omega)
  unfold pI_restore_L129
  refine c_re129 (m0 := m3) (g := g) hg he3 (fun j h0 h1 => ⟨(fr3 _ _ (by unfold FRe; omega)).trans (hm j h0 (by omega)), hB j h0 (by omega)⟩) (fun m4 h4 f4 => ?_) (fun m4 h4 f4 => ⟨Or.inr ⟨fun c => h4 c.2.2.2.2, rfl⟩, fr3.trans (f4.mono (fun b j q => by unfold FRe; omega))⟩) (pl 2 3).toNat N 0 m3 (by omega) (by omega) (by omega) (fun p q0 q1 => by omega) Fr.rfl'
  have ok : onOK pl g L := ⟨q1, q2, by omega, fun p q0 q1 => (h3 p q0 q1).2, fun i q0 q1 => (h4 i q0 q1).1⟩
  have sS : onS pl g (vS m4 45) := by
    refine ⟨?_, ?_, fun p q0 q4 => ?_, fun i q0 q4 => ?_⟩
    · rw [vS_0, f4 _ _ (by omega), f3 _ _ (by omega)]; exact k0
    · rw [vS_7, f4 _ _ (by omega), f3 _ _ (by omega)]; exact k72
    · rw [vS_in (by omega), show (45 : Int) + 1 = 46 by omega, f4 _ _ (by omega)]
      exact (h3 p q0 q4).1
    · refine (h4 i q0 q4).2.eq (fun y z0 z1 => ?_)
      rw [vS_in (by omega)]
  exact rn_s ⟨Or.inl ⟨ok, rfl, sS⟩, fr3.trans (f4.mono (fun b j q => by (try unfold FRe); omega))⟩
