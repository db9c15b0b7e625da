/-! THE REFERENCE: layers copied, a DAY passes -/
def FLy (v : Int) : Int → Int → Prop := fun b j => (b = 498 ∧ j = v) ∨ (b = 499 ∧ 64 * v ≤ j ∧ j < 64 * v + 64) ∨ ((500 ≤ b ∧ b ≤ 503) ∧ 6 * v ≤ j ∧ j < 6 * v + 6) ∨ (b = 504 ∧ j = v) ∨ (b = 505 ∧ 120 * v ≤ j ∧ j < 120 * v + 120)
theorem SR.eq {pl m m' S : Mem} {v : Int} (hg : PG pl) (h7 : S 0 7 ≤ 40) (h : SR pl m v S) (f : ∀ b j, FLy v b j → m' b j = m b j) : SR pl m' v S := by
  have hn := hg.num
  obtain ⟨h1, h2, h3, h4, h5, h6⟩ := h
  refine ⟨?_, fun p h0 hp => ?_, fun c h0 hc1 hc2 => ?_, fun i h0 hi => ?_, ?_, fun j h0 hj => ?_⟩
  · rw [f 498 _ (by unfold FLy; omega)]; exact h1
  · have hph := ph_eq hg (p := p) ⟨h0, hp⟩
    rw [f 499 _ (by unfold FLy; omega)]; exact h2 p h0 hp
  · rw [f 499 _ (by unfold FLy; omega)]; exact h3 c h0 hc1 hc2
  · rw [f 500 _ (by unfold FLy; omega), f 501 _ (by unfold FLy; omega), f 502 _ (by unfold FLy; omega), f 503 _ (by unfold FLy; omega)]; exact h4 i h0 hi
  · rw [f 504 _ (by unfold FLy; omega)]; exact h5
  · rw [f 505 _ (by unfold FLy; omega)]; exact h6 j h0 hj
theorem r_c14 {N : Nat} {Q : Mem → Prop} {kk : Mem → Option Mem} {bo : Int → Mem → Option Mem} {m0 : Mem} {d s : Int} (hd : 0 ≤ d ∧ d < 22) (hs : 0 ≤ s ∧ s < 22) (hds : d ≠ s) (hk : ∀ m', (∀ b j, m' b j = if b = 499 ∧ 64 * d ≤ j ∧ j < 64 * d + 64 then m0 499 (64 * s + (j - 64 * d)) else m0 b j) → Rn (kk m') Q) :
    ∀ (k n : Nat) (x : Int) (m : Mem), k < n → 0 ≤ x → x + k = 64 → (∀ b j, m b j = if b = 499 ∧ 64 * d ≤ j ∧ j < 64 * d + x then m0 499 (64 * s + (j - 64 * d)) else m0 b j) → Rn (lpF bo (pM_copies_L14b N d s kk) n x m) Q := by
  intro k
  induction k with
  | zero =>
    intro n x m hkn h0 hx hm
    obtain ⟨n, rfl⟩ : ∃ n', n = n' + 1 := ⟨n - 1, by omega⟩
    show Rn (pM_copies_L14b N d s kk (lpF bo (pM_copies_L14b N d s kk) n) x m) Q
    generalize lpF bo (pM_copies_L14b N d s kk) n = self
    unfold pM_copies_L14b
    refine rn_f (by omega) ?_
    refine hk m (fun b j => ?_)
    rw [hm b j, show x = 64 by omega]
  | succ k ih =>
    intro n x m hkn h0 hx hm
    obtain ⟨n, rfl⟩ : ∃ n', n = n' + 1 := ⟨n - 1, by omega⟩
    have ih' := ih n (x + 1) (mset m 499 (64 * d + x) (m0 499 (64 * s + x))) (by omega) (by omega) (by omega) (fun b j => by
      unfold mset
      by_cases q : b = 499 ∧ j = 64 * d + x
      · rw [if_pos q, if_pos (by omega), show j - 64 * d = x by omega]
      · rw [if_neg q, hm b j]
        by_cases q2 : b = 499 ∧ 64 * d ≤ j ∧ j < 64 * d + x
        · rw [if_pos q2, if_pos (by omega)]
        · rw [if_neg q2, if_neg (by omega)])
    show Rn (pM_copies_L14b N d s kk (lpF bo (pM_copies_L14b N d s kk) n) x m) Q
    generalize lpF bo (pM_copies_L14b N d s kk) n = self at ih' ⊢
    unfold pM_copies_L14b
    have e1 : w32 (w32 (64 * s) + x) = 64 * s + x := by rw [w32_eq (x := 64 * s) (by omega) (by omega), w32_eq (by omega) (by omega)]
    have e2 : w32 (w32 (64 * d) + x) = 64 * d + x := by rw [w32_eq (x := 64 * d) (by omega) (by omega), w32_eq (by omega) (by omega)]
    have e3 : m 499 (64 * s + x) = m0 499 (64 * s + x) := by rw [hm, if_neg (by omega)]
    rw [e1, e2, e3]
    refine rn_t (by omega) ?_
    refine rn_t (by omega) ?_
    refine rn_t (by omega) ?_
    refine rn_v (rn_v ?_)
    rw [w32_eq (by omega) (by omega)]
    exact ih'
theorem r_c50 {N : Nat} {Q : Mem → Prop} {kk : Mem → Option Mem} {bo : Int → Mem → Option Mem} {m0 : Mem} {d s : Int} (hd : 0 ≤ d ∧ d < 22) (hs : 0 ≤ s ∧ s < 22) (hds : d ≠ s) (hk : ∀ m', (∀ b j, m' b j = if (500 ≤ b ∧ b ≤ 503) ∧ 6 * d ≤ j ∧ j < 6 * d + 6 then m0 b (6 * s + (j - 6 * d)) else m0 b j) → Rn (kk m') Q) :
    ∀ (k n : Nat) (x : Int) (m : Mem), k < n → 0 ≤ x → x + k = 6 → (∀ b j, m b j = if (500 ≤ b ∧ b ≤ 503) ∧ 6 * d ≤ j ∧ j < 6 * d + x then m0 b (6 * s + (j - 6 * d)) else m0 b j) → Rn (lpF bo (pM_copies_L50b N d s kk) n x m) Q := by
  intro k
  induction k with
  | zero =>
    intro n x m hkn h0 hx hm
    obtain ⟨n, rfl⟩ : ∃ n', n = n' + 1 := ⟨n - 1, by omega⟩
    show Rn (pM_copies_L50b N d s kk (lpF bo (pM_copies_L50b N d s kk) n) x m) Q
    generalize lpF bo (pM_copies_L50b N d s kk) n = self
    unfold pM_copies_L50b
    refine rn_f (by omega) ?_
    refine hk m (fun b j => ?_)
    rw [hm b j, show x = 6 by omega]
  | succ k ih =>
    intro n x m hkn h0 hx hm
    obtain ⟨n, rfl⟩ : ∃ n', n = n' + 1 := ⟨n - 1, by omega⟩
    have ih' := ih n (x + 1)
    show Rn (pM_copies_L50b N d s kk (lpF bo (pM_copies_L50b N d s kk) n) x m) Q
    generalize lpF bo (pM_copies_L50b N d s kk) n = self at ih' ⊢
    unfold pM_copies_L50b
    have e1 : w32 (w32 (6 * s) + x) = 6 * s + x := by rw [w32_eq (x := 6 * s) (by omega) (by omega), w32_eq (by omega) (by omega)]
    have e2 : w32 (w32 (6 * d) + x) = 6 * d + x := by rw [w32_eq (x := 6 * d) (by omega) (by omega), w32_eq (by omega) (by omega)]
    have e3 : ∀ b, m b (6 * s + x) = m0 b (6 * s + x) := fun b => by rw [hm, if_neg (by omega)]
    rw [e1, e2]
    refine rn_t (by omega) ?_
    refine rn_t (by omega) ?_
    refine rn_t (by omega) (rn_v ?_)
    refine rn_t (by omega) ?_
    refine rn_t (by omega) (rn_v ?_)
    refine rn_t (by omega) ?_
    refine rn_t (by omega) (rn_v ?_)
    refine rn_t (by omega) ?_
    refine rn_t (by omega) (rn_v (rn_v ?_))
    rw [w32_eq (x := x + 1) (by omega) (by omega)]
    refine ih' _ (by omega) (by omega) (by omega) (fun b j => ?_)
    simp (disch := omega) only [mset_o, e3]
    unfold mset
    by_cases q3 : b = 503 ∧ j = 6 * d + x
    · rw [if_pos q3, if_pos (by omega), q3.1, show j - 6 * d = x by omega]
    · rw [if_neg q3]
      by_cases q2 : b = 502 ∧ j = 6 * d + x
      · rw [if_pos q2, if_pos (by omega), q2.1, show j - 6 * d = x by omega]
      · rw [if_neg q2]
        by_cases q1 : b = 501 ∧ j = 6 * d + x
        · rw [if_pos q1, if_pos (by omega), q1.1, show j - 6 * d = x by omega]
        · rw [if_neg q1]
          by_cases q0 : b = 500 ∧ j = 6 * d + x
          · rw [if_pos q0, if_pos (by omega), q0.1, show j - 6 * d = x by omega]
          · rw [if_neg q0, hm b j]
            by_cases q4 : (500 ≤ b ∧ b ≤ 503) ∧ 6 * d ≤ j ∧ j < 6 * d + x
            · rw [if_pos q4, if_pos (by omega)]
            · rw [if_neg q4, if_neg (by omega)]
theorem r_c164 {N : Nat} {Q : Mem → Prop} {kk : Mem → Option Mem} {bo : Int → Mem → Option Mem} {m0 : Mem} {d s K : Int} (hd : 0 ≤ d ∧ d < 22) (hs : 0 ≤ s ∧ s < 22) (hds : d ≠ s) (hK : 0 ≤ K ∧ K ≤ 40) (hK0 : m0 504 s = K) (hk : ∀ m', (∀ b j, m' b j = if b = 505 ∧ 120 * d ≤ j ∧ j < 120 * d + 3 * K then m0 505 (120 * s + (j - 120 * d)) else m0 b j) → Rn (kk m') Q) :
    ∀ (k n : Nat) (x : Int) (m : Mem), k < n → 0 ≤ x → x + k = 3 * K → (∀ b j, m b j = if b = 505 ∧ 120 * d ≤ j ∧ j < 120 * d + x then m0 505 (120 * s + (j - 120 * d)) else m0 b j) → Rn (lpF bo (pM_copies_L164b N d s kk) n x m) Q := by
  intro k
  induction k with
  | zero =>
    intro n x m hkn h0 hx hm
    obtain ⟨n, rfl⟩ : ∃ n', n = n' + 1 := ⟨n - 1, by omega⟩
    show Rn (pM_copies_L164b N d s kk (lpF bo (pM_copies_L164b N d s kk) n) x m) Q
    generalize lpF bo (pM_copies_L164b N d s kk) n = self
    unfold pM_copies_L164b
    have e4 : m 504 s = K := by rw [hm, if_neg (by omega)]; exact hK0
    rw [e4, w32_eq (x := 3 * K) (by omega) (by omega)]
    refine rn_t (by omega) ?_
    refine rn_f (by omega) ?_
    refine hk m (fun b j => ?_)
    rw [hm b j, show x = 3 * K by omega]
  | succ k ih =>
    intro n x m hkn h0 hx hm
    obtain ⟨n, rfl⟩ : ∃ n', n = n' + 1 := ⟨n - 1, by omega⟩
    have ih' := ih n (x + 1) (mset m 505 (120 * d + x) (m0 505 (120 * s + x))) (by omega) (by omega) (by omega) (fun b j => by
      unfold mset
      by_cases q : b = 505 ∧ j = 120 * d + x
      · rw [if_pos q, if_pos (by omega), show j - 120 * d = x by omega]
      · rw [if_neg q, hm b j]
        by_cases q2 : b = 505 ∧ 120 * d ≤ j ∧ j < 120 * d + x
        · rw [if_pos q2, if_pos (by omega)]
        · rw [if_neg q2, if_neg (by omega)])
    show Rn (pM_copies_L164b N d s kk (lpF bo (pM_copies_L164b N d s kk) n) x m) Q
    generalize lpF bo (pM_copies_L164b N d s kk) n = self at ih' ⊢
    unfold pM_copies_L164b
    have e4 : m 504 s = K := by rw [hm, if_neg (by omega)]; exact hK0
    have e1 : w32 (w32 (120 * s) + x) = 120 * s + x := by rw [w32_eq (x := 120 * s) (by omega) (by omega), w32_eq (by omega) (by omega)]
    have e2 : w32 (w32 (120 * d) + x) = 120 * d + x := by rw [w32_eq (x := 120 * d) (by omega) (by omega), w32_eq (by omega) (by omega)]
    have e3 : m 505 (120 * s + x) = m0 505 (120 * s + x) := by rw [hm, if_neg (by omega)]
    rw [e4, w32_eq (x := 3 * K) (by omega) (by omega), e1, e2, e3]
    refine rn_t (by omega) ?_
    refine rn_t (by omega) ?_
    refine rn_t (by omega) ?_
    refine rn_t (by omega) ?_
    refine rn_v (rn_v ?_)
    rw [w32_eq (by omega) (by omega)]
    exact ih'
theorem r_copies {N : Nat} {pl m S : Mem} {d s : Int} (hN : 2000 ≤ N) (hg : PG pl) (hd : 0 ≤ d ∧ d < 22) (hs : 0 ≤ s ∧ s < 22) (hds : d ≠ s) (hS : SR pl m s S) (h7 : 0 ≤ S 0 7 ∧ S 0 7 ≤ 40) : Rn (pM_copies N m d s) (fun m' => SR pl m' d S ∧ Fr (FLy d) m m') := by
  have hn := hg.num
  obtain ⟨h1, h2, h3, h4, h5, h6⟩ := hS
  unfold pM_copies
  refine rn_t (by omega) ?_
  refine rn_t (by omega) ?_
  refine rn_l (fun m1 hm1 => ?_)
  unfold pM_copies_L14
  refine r_c14 (m0 := m1) hd hs hds (fun m2 hm2 => ?_) 64 N 0 m1 (by omega) (by omega) (by omega) (fun b j => by rw [if_neg (by omega)])
  unfold pM_copies_L50
  refine r_c50 (m0 := m2) hd hs hds (fun m3 hm3 => ?_) 6 N 0 m2 (by omega) (by omega) (by omega) (fun b j => by rw [if_neg (by omega)])
  refine rn_t (by omega) ?_
  refine rn_t (by omega) ?_
  refine rn_l (fun m4 hm4 => ?_)
  unfold pM_copies_L164
  have f1 : Fr (FLy d) m m1 := by rw [hm1]; exact Fr.rfl'.set (by unfold FLy; omega)
  have f2 : Fr (FLy d) m1 m2 := fun b j q => by rw [hm2, if_neg (fun c => q (by unfold FLy; omega))]
  have f3 : Fr (FLy d) m2 m3 := fun b j q => by rw [hm3, if_neg (fun c => q (by unfold FLy; omega))]
  have f4 : Fr (FLy d) m3 m4 := by rw [hm4]; exact Fr.rfl'.set (by unfold FLy; omega)
  have f04 : Fr (FLy d) m m4 := ((f1.trans f2).trans f3).trans f4
  have g504 : m4 504 s = S 0 7 := by rw [f04 _ _ (by unfold FLy; omega)]; exact h5
  refine r_c164 (m0 := m4) hd hs hds h7 g504 (fun m5 hm5 => ?_) (3 * S 0 7).toNat N 0 m4 (by omega) (by omega) (by omega) (fun b j => by rw [if_neg (by omega)])
  have f5 : Fr (FLy d) m4 m5 := fun b j q => by rw [hm5, if_neg (fun c => q (by unfold FLy; omega))]
  refine rn_s ⟨⟨?_, fun p h0 hp => ?_, fun c h0 hc1 hc2 => ?_, fun i h0 hi => ?_, ?_, fun j h0 hj => ?_⟩, f04.trans f5⟩
  · rw [hm5, if_neg (by omega), hm4, mset_o (by omega), hm3, if_neg (by omega), hm2, if_neg (by omega), hm1, mset_s rfl rfl]; exact h1
  · have hph := ph_eq hg (p := p) ⟨h0, hp⟩
    rw [hm5, if_neg (by omega), hm4, mset_o (by omega), hm3, if_neg (by omega), hm2, if_pos (by omega), f1 _ _ (by unfold FLy; omega), show 64 * s + (64 * d + ph pl p - 64 * d) = 64 * s + ph pl p by omega]
    exact h2 p h0 hp
  · rw [hm5, if_neg (by omega), hm4, mset_o (by omega), hm3, if_neg (by omega), hm2, if_pos (by omega), f1 _ _ (by unfold FLy; omega), show 64 * s + (64 * d + c - 64 * d) = 64 * s + c by omega]
    exact h3 c h0 hc1 hc2
  · have e : ∀ b, (500 ≤ b ∧ b ≤ 503) → m5 b (6 * d + i) = m b (6 * s + i) := fun b hb => by
      rw [hm5, if_neg (by omega), hm4, mset_o (by omega), hm3, if_pos (by omega), show 6 * s + (6 * d + i - 6 * d) = 6 * s + i by omega, f2 _ _ (by unfold FLy; omega), f1 _ _ (by unfold FLy; omega)]
    rw [e 500 (by omega), e 501 (by omega), e 502 (by omega), e 503 (by omega)]
    exact h4 i h0 hi
  · rw [hm5, if_neg (by omega), hm4, mset_s rfl rfl, f3 _ _ (by unfold FLy; omega), f2 _ _ (by unfold FLy; omega), f1 _ _ (by unfold FLy; omega)]
    exact h5
  · rw [hm5, if_pos (by omega), f04 _ _ (by unfold FLy; omega), show 120 * s + (120 * d + j - 120 * d) = 120 * s + j by omega]
    exact h6 j h0 hj
def allS (P : Int) : Int := w32 (shl32 1 P - 1)
theorem allS_ok : ∀ P : Nat, P ≤ 6 → allS (P : Int) = 2 ^ P - 1 ∧ ∀ i : Nat, i < P → bitS (allS (P : Int)) (i : Int) = 1 := by decide +kernel
theorem bit63 : ∀ i : Nat, i < 6 → bitS 63 (i : Int) = 1 := by decide +kernel
theorem e_all {pl m : Mem} (hg : PG pl) (hr : PR pl) (hq : PQ pl m) : pM_all m = some (allS (pl 2 3)) := by
  unfold pM_all
  rw [hq.bk, if_pos hr.1, hq 480 _ (by unfold prc; omega), hr.2.2.2.1]
  rfl
theorem all_bits {pl : Mem} (hg : PG pl) : ∀ i, 0 ≤ i → i < pl 2 3 → bitS (allS (pl 2 3)) i = bitS 63 i := by
  intro i h0 h1
  have hn := hg.num
  obtain ⟨P, hP⟩ := Int.eq_ofNat_of_zero_le hn.2.2.2.1
  obtain ⟨k, rfl⟩ := Int.eq_ofNat_of_zero_le h0
  rw [hP, (allS_ok P (by omega)).2 k (by omega), bit63 k (by omega)]
theorem e_wrung_L {N : Nat} {pl m W : Mem} {kk : Int → Option Int} {bo : Int → Int → Option Int} (hg : PG pl) (hr : PR pl) (hq : PQ pl m) (hb : WB pl W) (h5 : ∀ i, 0 ≤ i → i < pl 2 3 → m 510 i = W 5 i) : ∀ (k n : Nat) (x : Int), k < n → 0 ≤ x → x + k = pl 2 3 → lpF bo (pM_wrung_L4b N m kk) n (sumR (W 5) x.toNat) x = kk (sumR (W 5) (pl 2 3).toNat) := by
  intro k
  have hn := hg.num
  obtain ⟨h1, h2, h3, h4, -⟩ := hr
  induction k with
  | zero =>
    intro n x hkn h0 hx
    obtain ⟨n, rfl⟩ : ∃ n', n = n' + 1 := ⟨n - 1, by omega⟩
    show pM_wrung_L4b N m kk (lpF bo (pM_wrung_L4b N m kk) n) _ x = _
    generalize lpF bo (pM_wrung_L4b N m kk) n = self
    unfold pM_wrung_L4b
    rw [hq.bk, hq 480 _ (by unfold prc; omega), h4, if_pos h1, if_neg (by omega), show pl 2 3 = x by omega]
  | succ k ih =>
    intro n x hkn h0 hx
    obtain ⟨n, rfl⟩ : ∃ n', n = n' + 1 := ⟨n - 1, by omega⟩
    have ih' := ih n (x + 1) (by omega) (by omega) (by omega)
    show pM_wrung_L4b N m kk (lpF bo (pM_wrung_L4b N m kk) n) _ x = _
    generalize lpF bo (pM_wrung_L4b N m kk) n = self at ih' ⊢
    unfold pM_wrung_L4b
    have hs := sumR_in (row := W 5) (P := (pl 2 3).toNat) (fun i h0 h1 => by have := (hb.2.1 i h0 (by omega)).2; omega) x.toNat (by omega)
    have hx1 := (hb.2.1 x h0 (by omega)).2
    rw [hq.bk, hq 480 _ (by unfold prc; omega), h4, if_pos h1, if_pos (by omega), if_pos (by omega), h5 x h0 (by omega)]
    show self (w32 (sumR (W 5) x.toNat + W 5 x)) (w32 (x + 1)) = _
    rw [w32_eq (x := sumR (W 5) x.toNat + W 5 x) (by omega) (by omega), w32_eq (x := x + 1) (by omega) (by omega)]
    have e : sumR (W 5) x.toNat + W 5 x = sumR (W 5) (x + 1).toNat := by
      rw [show (x + 1).toNat = x.toNat + 1 by omega]
      show _ = sumR (W 5) x.toNat + W 5 ((x.toNat : Nat) : Int)
      rw [show ((x.toNat : Nat) : Int) = x by omega]
    rw [e]
    exact ih'
theorem e_wrung {N : Nat} {pl m W : Mem} (hN : 2000 ≤ N) (hg : PG pl) (hr : PR pl) (hq : PQ pl m) (hb : WB pl W) (h5 : ∀ i, 0 ≤ i → i < pl 2 3 → m 510 i = W 5 i) : pM_wrung N m = some (sumR (W 5) (pl 2 3).toNat) := by
  have hn := hg.num
  unfold pM_wrung pM_wrung_L4
  exact e_wrung_L hg hr hq hb h5 (pl 2 3).toNat N 0 (by omega) (by omega) (by omega)
