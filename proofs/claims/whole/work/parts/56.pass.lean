/-! THE REFERENCE: a DAY passes -/
theorem o32_0 {x : Int} (h : inR x) : o32 x 0 = x := by
  unfold o32
  rw [show Int32.ofInt 0 = 0 from rfl, Int32.or_zero, to32 h]
theorem dryB_R (pl S W : Mem) : ∀ k : Nat, inR (dryB pl S W k)
  | 0 => by
    unfold dryB
    exact ⟨by decide, by decide⟩
  | k + 1 => by
    unfold dryB
    split
    · exact inR_32 _
    · exact dryB_R pl S W k
theorem r_p21 {N : Nat} {Q : Int × Mem → Prop} {kk : Mem → Option (Int × Mem)} {bo : Int → Mem → Option (Int × Mem)} {m0 : Mem} {v c3 : Int} (hv : 0 ≤ v ∧ v < 22) (hk : ∀ m', (∀ b j, m' b j = if b = 499 ∧ 64 * v ≤ j ∧ j < 64 * v + 64 then m0 508 (j - 64 * v) else m0 b j) → Rn (kk m') Q) :
    ∀ (k n : Nat) (x : Int) (m : Mem), k < n → 0 ≤ x → x + k = 64 → (∀ b j, m b j = if b = 499 ∧ 64 * v ≤ j ∧ j < 64 * v + x then m0 508 (j - 64 * v) else m0 b j) → Rn (lpF bo (pM_passes_L21b N v c3 kk) n x m) Q := by
  intro k
  induction k with
  | zero =>
    intro n x m hkn h0 hx hm
    obtain ⟨n, rfl⟩ : ∃ n', n = n' + 1 := ⟨n - 1, by omega⟩
    show Rn (pM_passes_L21b N v c3 kk (lpF bo (pM_passes_L21b N v c3 kk) n) x m) Q
    generalize lpF bo (pM_passes_L21b N v c3 kk) n = self
    unfold pM_passes_L21b
    refine rn_f (by omega) ?_
    refine hk m (fun b j => ?_)
    rw [hm b j, show x = 64 by omega]
  | succ k ih =>
    intro n x m hkn h0 hx hm
    obtain ⟨n, rfl⟩ : ∃ n', n = n' + 1 := ⟨n - 1, by omega⟩
    have ih' := ih n (x + 1) (mset m 499 (64 * v + x) (m0 508 x)) (by omega) (by omega) (by omega) (fun b j => by
      unfold mset
      by_cases q : b = 499 ∧ j = 64 * v + x
      · rw [if_pos q, if_pos (by omega), show j - 64 * v = x by omega]
      · rw [if_neg q, hm b j]
        by_cases q2 : b = 499 ∧ 64 * v ≤ j ∧ j < 64 * v + x
        · rw [if_pos q2, if_pos (by omega)]
        · rw [if_neg q2, if_neg (by omega)])
    show Rn (pM_passes_L21b N v c3 kk (lpF bo (pM_passes_L21b N v c3 kk) n) x m) Q
    generalize lpF bo (pM_passes_L21b N v c3 kk) n = self at ih' ⊢
    unfold pM_passes_L21b
    have e1 : w32 (w32 (64 * v) + x) = 64 * v + x := by rw [w32_eq (x := 64 * v) (by omega) (by omega), w32_eq (by omega) (by omega)]
    have e3 : m 508 x = m0 508 x := by rw [hm, if_neg (by omega)]
    rw [e1, e3]
    refine rn_t (by omega) ?_
    refine rn_t (by omega) ?_
    refine rn_t (by omega) ?_
    refine rn_v (rn_v ?_)
    rw [w32_eq (by omega) (by omega)]
    exact ih'
theorem r_p56 {N : Nat} {Q : Int × Mem → Prop} {kk : Int → Mem → Option (Int × Mem)} {bo : Int → Int → Mem → Option (Int × Mem)} {pl m0 S W : Mem} {v : Int} (hg : PG pl) (hr : PR pl) (hq : PQ pl m0) (hv : 0 ≤ v ∧ v < 22) (hs : SB pl S) (hb : WB pl W) (ho : ∀ i, 0 ≤ i → i < pl 2 3 → 0 ≤ pl 8 i ∧ pl 8 i ≤ 99) (h5 : ∀ i, 0 ≤ i → i < pl 2 3 → m0 510 i = W 5 i) (hS5 : ∀ i, 0 ≤ i → i < pl 2 3 → m0 503 (6 * v + i) = S 5 i)
    (hk : ∀ m', (∀ i, 0 ≤ i → i < pl 2 3 → m' 503 (6 * v + i) = max 0 (min 999 (lftS pl S W i))) → m' 475 66 = dryB pl S W (pl 2 3).toNat → Fr (fun b j => (b = 475 ∧ j = 66) ∨ (b = 503 ∧ 6 * v ≤ j ∧ j < 6 * v + 6)) m0 m' → Rn (kk (cntS pl S W (pl 2 3).toNat) m') Q) :
    ∀ (k n : Nat) (x : Int) (m : Mem), k < n → 0 ≤ x → x + k = pl 2 3 → (∀ i, 0 ≤ i → i < pl 2 3 → m 503 (6 * v + i) = if i < x then max 0 (min 999 (lftS pl S W i)) else S 5 i) → m 475 66 = dryB pl S W x.toNat → Fr (fun b j => (b = 475 ∧ j = 66) ∨ (b = 503 ∧ 6 * v ≤ j ∧ j < 6 * v + 6)) m0 m → Rn (lpF bo (pM_passes_L56b N v kk) n (cntS pl S W x.toNat) x m) Q := by
  intro k
  have hn := hg.num
  obtain ⟨h1, h2, h3, h4, h6, h7, h8, -⟩ := hr
  induction k with
  | zero =>
    intro n x m hkn h0 hx hp hd hf
    obtain ⟨n, rfl⟩ : ∃ n', n = n' + 1 := ⟨n - 1, by omega⟩
    show Rn (pM_passes_L56b N v kk (lpF bo (pM_passes_L56b N v kk) n) _ x m) Q
    generalize lpF bo (pM_passes_L56b N v kk) n = self
    unfold pM_passes_L56b
    have e1 : m 475 13 = pl 475 13 := (hf _ _ (by omega)).trans hq.bk
    have e2 : m 480 (pl 475 13) = pl 2 3 := (hf _ _ (by omega)).trans ((hq _ _ (by unfold prc; omega)).trans h4)
    rw [e1, e2]
    refine rn_t h1 ?_
    refine rn_f (by omega) ?_
    have hx' : x = pl 2 3 := by omega
    subst hx'
    exact hk m (fun i h0 h1 => by rw [hp i h0 h1, if_pos h1]) hd hf
  | succ k ih =>
    intro n x m hkn h0 hx hp hd hf
    obtain ⟨n, rfl⟩ : ∃ n', n = n' + 1 := ⟨n - 1, by omega⟩
    have ih' := ih n (x + 1)
    show Rn (pM_passes_L56b N v kk (lpF bo (pM_passes_L56b N v kk) n) _ x m) Q
    generalize lpF bo (pM_passes_L56b N v kk) n = self at ih' ⊢
    unfold pM_passes_L56b
    have e1 : m 475 13 = pl 475 13 := (hf _ _ (by omega)).trans hq.bk
    have e2 : m 480 (pl 475 13) = pl 2 3 := (hf _ _ (by omega)).trans ((hq _ _ (by unfold prc; omega)).trans h4)
    have e8 : m 484 (6 * pl 475 13 + x) = pl 8 x := (hf _ _ (by omega)).trans ((hq _ _ (by unfold prc; omega)).trans (h8 x h0 (by omega)))
    have e5 : m 510 x = W 5 x := (hf _ _ (by omega)).trans (h5 x h0 (by omega))
    have eS : m 503 (6 * v + x) = S 5 x := by rw [hp x h0 (by omega), if_neg (by omega)]
    have w1 : w32 (w32 (6 * v) + x) = 6 * v + x := by rw [w32_eq (x := 6 * v) (by omega) (by omega), w32_eq (by omega) (by omega)]
    have w2 : w32 (w32 (6 * pl 475 13) + x) = 6 * pl 475 13 + x := by rw [w32_eq (x := 6 * pl 475 13) (by omega) (by omega), w32_eq (by omega) (by omega)]
    have hox := ho x h0 (by omega)
    have hsx := (hs.2.1 x h0 (by omega)).2.2.2
    have hwx := (hb.2.1 x h0 (by omega)).2
    have hc := cntS_in pl S W x.toNat
    rw [e1, e2, w1, w2, e8, e5, eS, w32_eq (x := W 5 x + S 5 x) (by omega) (by omega), w32_eq (x := W 5 x + S 5 x - pl 8 x) (by omega) (by omega)]
    have hl : W 5 x + S 5 x - pl 8 x = lftS pl S W x := rfl
    rw [hl]
    refine rn_t h1 ?_
    refine rn_t (by omega) ?_
    refine rn_t (by omega) ?_
    refine rn_t (by omega) ?_
    refine rn_t (by omega) ?_
    have en : (x + 1).toNat = x.toNat + 1 := by omega
    have ex : ((x.toNat : Nat) : Int) = x := by omega
    have ec : cntS pl S W (x + 1).toNat = cntS pl S W x.toNat + (if lftS pl S W x < 0 then 1 else 0) := by
      rw [en]
      show cntS pl S W x.toNat + (if lftS pl S W ((x.toNat : Nat) : Int) < 0 then 1 else 0) = _
      rw [ex]
    have ed : dryB pl S W (x + 1).toNat = if lftS pl S W x < 0 then o32 (dryB pl S W x.toNat) (shl32 1 x) else dryB pl S W x.toNat := by
      rw [en]
      show (if lftS pl S W ((x.toNat : Nat) : Int) < 0 then o32 (dryB pl S W x.toNat) (shl32 1 ((x.toNat : Nat) : Int)) else dryB pl S W x.toNat) = _
      rw [ex]
    refine rn_v (rn_v (rn_l (fun m1 hm1 => ?_)))
    have g1 : m1 475 66 = dryB pl S W (x + 1).toNat := by
      rw [hm1, mset_s rfl rfl, hd, ed]
      by_cases q : lftS pl S W x < 0
      · rw [if_pos q, if_pos q]
      · rw [if_neg q, if_neg q, o32_0 (dryB_R _ _ _ _)]
    have f1 : Fr (fun b j => b = 475 ∧ j = 66) m m1 := by rw [hm1]; exact Fr.rfl'.set ⟨rfl, rfl⟩
    clear hm1
    refine rn_v (rn_v ?_)
    have ec2 : w32 (cntS pl S W x.toNat + (if lftS pl S W x < 0 then 1 else 0)) = cntS pl S W (x + 1).toNat := by
      rw [ec]
      split <;> exact w32_eq (by omega) (by omega)
    rw [ec2]
    have hgo : ∀ y, y = max 0 (min 999 (lftS pl S W x)) → Rn (self (cntS pl S W (x + 1).toNat) (x + 1) (mset m1 503 (6 * v + x) y)) Q := by
      intro y hy
      refine ih' _ (by omega) (by omega) (by omega) (fun i h0' h1 => ?_) ?_ ?_
      · by_cases q : i = x
        · rw [q, mset_s rfl rfl, if_pos (by omega), hy]
        · rw [mset_o (by omega), f1 _ _ (by omega), hp i h0' h1]
          by_cases q2 : i < x
          · rw [if_pos q2, if_pos (by omega)]
          · rw [if_neg q2, if_neg (by omega)]
      · rw [mset_o (by omega)]; exact g1
      · exact (hf.trans (f1.mono (fun b j q => Or.inl q))).set (Or.inr ⟨rfl, by omega, by omega⟩)
    refine rn_i (fun q => ?_) (fun q => ?_)
    · refine rn_t (by omega) (rn_v (rn_v ?_))
      rw [w32_eq (x := x + 1) (by omega) (by omega)]
      exact hgo _ (by omega)
    · refine rn_e (e_least _ _ _) ?_
      refine rn_t (by omega) (rn_v (rn_v ?_))
      rw [w32_eq (x := x + 1) (by omega) (by omega)]
      exact hgo _ (by omega)
theorem r_p195 {N : Nat} {Q : Int × Mem → Prop} {kk : Mem → Option (Int × Mem)} {bo : Int → Mem → Option (Int × Mem)} {m0 : Mem} {v c3 : Int} (hv : 0 ≤ v ∧ v < 22) (hk : ∀ m', (∀ b j, m' b j = if b = 505 ∧ 120 * v ≤ j ∧ j < 120 * v + 117 then m0 505 (j + 3) else m0 b j) → Rn (kk m') Q) :
    ∀ (k n : Nat) (x : Int) (m : Mem), k < n → 120 * v ≤ x → x + k = 120 * v + 117 → (∀ b j, m b j = if b = 505 ∧ 120 * v ≤ j ∧ j < x then m0 505 (j + 3) else m0 b j) → Rn (lpF bo (pM_passes_L195b N v c3 kk) n x m) Q := by
  intro k
  induction k with
  | zero =>
    intro n x m hkn h0 hx hm
    obtain ⟨n, rfl⟩ : ∃ n', n = n' + 1 := ⟨n - 1, by omega⟩
    show Rn (pM_passes_L195b N v c3 kk (lpF bo (pM_passes_L195b N v c3 kk) n) x m) Q
    generalize lpF bo (pM_passes_L195b N v c3 kk) n = self
    unfold pM_passes_L195b
    have e1 : w32 (w32 (w32 (120 * v) + 120) - 3) = 120 * v + 117 := by rw [w32_eq (x := 120 * v) (by omega) (by omega), w32_eq (x := 120 * v + 120) (by omega) (by omega), w32_eq (by omega) (by omega)]; omega
    rw [e1]
    refine rn_f (by omega) ?_
    refine hk m (fun b j => ?_)
    rw [hm b j, show x = 120 * v + 117 by omega]
  | succ k ih =>
    intro n x m hkn h0 hx hm
    obtain ⟨n, rfl⟩ : ∃ n', n = n' + 1 := ⟨n - 1, by omega⟩
    have ih' := ih n (x + 1) (mset m 505 x (m0 505 (x + 3))) (by omega) (by omega) (by omega) (fun b j => by
      unfold mset
      by_cases q : b = 505 ∧ j = x
      · rw [if_pos q, if_pos (by omega), q.2]
      · rw [if_neg q, hm b j]
        by_cases q2 : b = 505 ∧ 120 * v ≤ j ∧ j < x
        · rw [if_pos q2, if_pos (by omega)]
        · rw [if_neg q2, if_neg (by omega)])
    show Rn (pM_passes_L195b N v c3 kk (lpF bo (pM_passes_L195b N v c3 kk) n) x m) Q
    generalize lpF bo (pM_passes_L195b N v c3 kk) n = self at ih' ⊢
    unfold pM_passes_L195b
    have e1 : w32 (w32 (w32 (120 * v) + 120) - 3) = 120 * v + 117 := by rw [w32_eq (x := 120 * v) (by omega) (by omega), w32_eq (x := 120 * v + 120) (by omega) (by omega), w32_eq (by omega) (by omega)]; omega
    have e3 : m 505 (x + 3) = m0 505 (x + 3) := by rw [hm, if_neg (by omega)]
    rw [e1, w32_eq (x := x + 3) (by omega) (by omega), e3]
    refine rn_t (by omega) ?_
    refine rn_t (by omega) ?_
    refine rn_t (by omega) ?_
    refine rn_v (rn_v ?_)
    rw [w32_eq (by omega) (by omega)]
    exact ih'
def FRp (v : Int) : Int → Int → Prop := fun b j => (506 ≤ b ∧ b ≤ 513) ∨ (b = 475 ∧ j = 66) ∨ FLy v b j
theorem r_pass {N : Nat} {pl m S : Mem} {v t : Int} (hN : 2000 ≤ N) (hg : PG pl) (hr : PR pl) (hq : PQ pl m) (ho : ∀ i, 0 ≤ i → i < pl 2 3 → 0 ≤ pl 8 i ∧ pl 8 i ≤ 99) (hv : 0 ≤ v ∧ v < 22) (ht : t = 1 ∨ t = 2) (hS : SR pl m v S) (hb : SB pl S) (hwk : m 475 62 = -1) : Rn (pM_passes N m v t) (fun r => r.1 = sumR (runS pl S t 5) (pl 2 3).toNat ∧ (S 0 0 ≤ 998 → SR pl r.2 v (livS pl S t)) ∧ r.2 475 66 = dryB pl S (runS pl S t) (pl 2 3).toNat ∧ Fr (FRp v) m r.2) := by
  have hn := hg.num
  unfold pM_passes
  refine rn_e (e_all hg hr hq) ?_
  have hW0 : mset (begS pl S t) 0 7 63 = begS pl S t := mset_id rfl
  refine rn_b2 (P := fun r m7 => r = 1 ∧ RW pl m7 v (allS (pl 2 3)) (runS pl S t) ∧ WB pl (runS pl S t) ∧ Fr FRr m m7) (rn_q (r_runs_n (aw := 63) hN hg hr hq hv ht hS hb (all_bits hg) hwk) (fun p hp => ?_)) (fun r m7 h7 => ?_)
  · rw [hW0] at hp
    exact ⟨hp.1, hp.2.1, hp.2.2.1, hp.2.2.2.2.2⟩
  · obtain ⟨-, hW, hbW, f7⟩ := h7
    dsimp only
    refine rn_l (fun m8 hm8 => ?_)
    have f8 : Fr (fun b j => b = 475 ∧ j = 66) m7 m8 := by rw [hm8]; exact Fr.rfl'.set ⟨rfl, rfl⟩
    have g8 : m8 475 66 = 0 := by rw [hm8, mset_s rfl rfl]
    clear hm8
    unfold pM_passes_L21
    refine r_p21 (m0 := m8) hv (fun m9 hm9 => ?_) 64 N 0 m8 (by omega) (by omega) (by omega) (fun b j => by rw [if_neg (by omega)])
    have f9 : Fr (fun b j => b = 499 ∧ 64 * v ≤ j ∧ j < 64 * v + 64) m8 m9 := fun b j q => by rw [hm9, if_neg q]
    have F9 : Fr (FRp v) m m9 := ((f7.mono (fun b j q => by unfold FRr at q; unfold FRp; omega)).trans (f8.mono (fun b j q => by unfold FRp; omega))).trans (f9.mono (fun b j q => by unfold FRp FLy; omega))
    have hq9 : PQ pl m9 := hq.fr F9 (fun b j q => by unfold prc at q; unfold FRp FLy; omega)
    have g510 : ∀ i, 0 ≤ i → i < pl 2 3 → m9 510 i = runS pl S t 5 i := fun i h0 h1 => by rw [f9 _ _ (by omega), f8 _ _ (by omega)]; exact (hW.2.1 i h0 h1).2.1
    have g503 : ∀ i, 0 ≤ i → i < pl 2 3 → m9 503 (6 * v + i) = S 5 i := fun i h0 h1 => by rw [f9 _ _ (by omega), f8 _ _ (by omega), f7 _ _ (by unfold FRr; omega)]; exact (hS.2.2.2.1 i h0 h1).2.2.2
    unfold pM_passes_L56
    refine r_p56 (m0 := m9) (S := S) (W := runS pl S t) hg hr hq9 hv hb hbW ho g510 g503 (fun m10 hp10 hd10 f10 => ?_) (pl 2 3).toNat N 0 m9 (by omega) (by omega) (by omega) (fun i h0 h1 => by rw [if_neg (by omega)]; exact g503 i h0 h1) (by rw [f9 _ _ (by omega)]; exact g8) Fr.rfl'
    have F10 : Fr (FRp v) m m10 := F9.trans (f10.mono (fun b j q => by unfold FRp FLy; omega))
    have e504 : m10 504 v = S 0 7 := by rw [f10 _ _ (by omega), f9 _ _ (by omega), f8 _ _ (by omega), f7 _ _ (by unfold FRr; omega)]; exact hS.2.2.2.2.1
    have e505 : ∀ j, 0 ≤ j → j < 3 * S 0 7 → m10 505 (120 * v + j) = S 6 j := fun j h0 h1 => by rw [f10 _ _ (by omega), f9 _ _ (by omega), f8 _ _ (by omega), f7 _ _ (by unfold FRr; omega)]; exact hS.2.2.2.2.2 j h0 h1
    have hs7 := hb.2.2.2
    refine rn_t (by omega) (rn_j ?_)
    have tail : ∀ m11, m11 504 v = min (S 0 7) 39 → (∀ j, 0 ≤ j → j < 3 * min (S 0 7) 39 → m11 505 (120 * v + j) = if 40 ≤ S 0 7 ∧ j < 117 then S 6 (j + 3) else S 6 j) → Fr (fun b j => (b = 504 ∧ j = v) ∨ (b = 505 ∧ 120 * v ≤ j ∧ j < 120 * v + 120)) m10 m11 → Rn (if 0 ≤ v ∧ v < 22 then (some (w32 (3 * (w32 ((w32 (40 * v)) + (m11 504 v)))) : Int)).bind fun x4_254 => if 0 ≤ v ∧ v < 22 then if 0 ≤ x4_254 ∧ x4_254 < 2640 then (some (mset m11 505 x4_254 (m11 498 v))).bind fun m268 => (pM_wrung N m268).bind fun r278 => if 0 ≤ w32 (x4_254 + 1) ∧ w32 (x4_254 + 1) < 2640 then (some (mset m268 505 (w32 (x4_254 + 1)) r278)).bind fun m281 => if 0 ≤ w32 (x4_254 + 2) ∧ w32 (x4_254 + 2) < 2640 then (some (mset m281 505 (w32 (x4_254 + 2)) (cntS pl S (runS pl S t) (pl 2 3).toNat))).bind fun m291 => if 0 ≤ v ∧ v < 22 then if 0 ≤ v ∧ v < 22 then (some (mset m291 504 v (w32 ((m291 504 v) + 1)))).bind fun m301 => if 0 ≤ v ∧ v < 22 then if 0 ≤ v ∧ v < 22 then (some (mset m301 498 v (w32 ((m301 498 v) + 1)))).bind fun m311 => if 0 ≤ w32 (x4_254 + 1) ∧ w32 (x4_254 + 1) < 2640 then some (m311 505 (w32 (x4_254 + 1)), m311) else none else none else none else none else none else none else none else none else none else none) (fun r => r.1 = sumR (runS pl S t 5) (pl 2 3).toNat ∧ (S 0 0 ≤ 998 → SR pl r.2 v (livS pl S t)) ∧ r.2 475 66 = dryB pl S (runS pl S t) (pl 2 3).toNat ∧ Fr (FRp v) m r.2) := by
      intro m11 e4 e5 f11
      have F11 : Fr (FRp v) m m11 := F10.trans (f11.mono (fun b j q => by unfold FRp FLy; omega))
      have e98 : m11 498 v = S 0 0 := by rw [f11 _ _ (by omega), f10 _ _ (by omega), f9 _ _ (by omega), f8 _ _ (by omega), f7 _ _ (by unfold FRr; omega)]; exact hS.1
      have hs0 := hb.2.2.1
      rw [e4, e98]
      generalize hz : min (S 0 7) 39 = z at *
      have hz' : 0 ≤ z ∧ z ≤ 39 := by omega
      have w1 : w32 (3 * w32 (w32 (40 * v) + z)) = 120 * v + 3 * z := by rw [w32_eq (x := 40 * v) (by omega) (by omega), w32_eq (x := 40 * v + z) (by omega) (by omega), w32_eq (by omega) (by omega)]; omega
      rw [w1]
      refine rn_t (by omega) (rn_v ?_)
      rw [w32_eq (x := 120 * v + 3 * z + 1) (by omega) (by omega), w32_eq (x := 120 * v + 3 * z + 2) (by omega) (by omega)]
      refine rn_t (by omega) (rn_t (by omega) (rn_v ?_))
      have hqA : PQ pl (mset m11 505 (120 * v + 3 * z) (S 0 0)) := hq.fr (F11.set (by unfold FRp FLy; omega)) (fun b j q => by unfold prc at q; unfold FRp FLy; omega)
      refine rn_e (e_wrung (W := runS pl S t) hN hg hr hqA hbW (fun i h0 h1 => by rw [mset_o (by omega), f11 _ _ (by omega), f10 _ _ (by omega)]; exact g510 i h0 h1)) ?_
      refine rn_t (by omega) (rn_v ?_)
      refine rn_t (by omega) (rn_v ?_)
      refine rn_t (by omega) (rn_t (by omega) ?_)
      simp (disch := omega) only [mset_o, e4]
      rw [w32_eq (x := z + 1) (by omega) (by omega)]
      refine rn_v (rn_t (by omega) (rn_t (by omega) ?_))
      simp (disch := omega) only [mset_o, e98]
      rw [w32_eq (x := S 0 0 + 1) (by omega) (by omega)]
      refine rn_v (rn_t (by omega) (rn_s ⟨?_, fun h998 => ?_, ?_, ?_⟩))
      · simp (disch := omega) only [mset_o, mset_s]
      · refine ⟨?_, fun p h0 h1 => ?_, fun c h0 h1 h2 => ?_, fun i h0 h1 => ?_, ?_, fun j h0 h1 => ?_⟩
        · show mset _ 498 v _ 498 v = _
          rw [mset_s rfl rfl]
          unfold livS
          rw [if_pos ⟨rfl, rfl⟩]
          omega
        · have hph := ph_eq hg (p := p) ⟨h0, h1⟩
          simp (disch := omega) only [mset_o]
          rw [f11 _ _ (by omega), f10 _ _ (by omega), hm9, if_pos (by omega), show 64 * v + ph pl p - 64 * v = ph pl p by omega, f8 _ _ (by omega), hW.1 p h0 h1]
          unfold livS
          simp (disch := omega) only [if_neg, if_pos, true_and]
        · simp (disch := omega) only [mset_o]
          rw [f11 _ _ (by omega), f10 _ _ (by omega), hm9, if_pos (by omega), show 64 * v + c - 64 * v = c by omega, f8 _ _ (by omega)]
          exact hW.2.2.2 c h0 h1 h2
        · have hs := hS.2.2.2.1 i h0 h1
          simp (disch := omega) only [mset_o]
          rw [f11 503 _ (by omega), hp10 i h0 h1]
          have e : ∀ b, 500 ≤ b → b ≤ 502 → m11 b (6 * v + i) = m b (6 * v + i) := fun b q1 q2 => by rw [f11 _ _ (by omega), f10 _ _ (by omega), f9 _ _ (by omega), f8 _ _ (by omega), f7 _ _ (by unfold FRr; omega)]
          rw [e 500 (by omega) (by omega), e 501 (by omega) (by omega), e 502 (by omega) (by omega)]
          unfold livS
          simp (disch := omega) only [if_neg, if_pos, true_and]
          exact ⟨hs.1, hs.2.1, hs.2.2.1, trivial⟩
        · simp (disch := omega) only [mset_o, mset_s]
          unfold livS
          rw [if_neg (by omega), if_pos ⟨rfl, rfl⟩, hz]
        · have e7 : livS pl S t 0 7 = z + 1 := by
            unfold livS
            rw [if_neg (by omega), if_pos ⟨rfl, rfl⟩, hz]
          rw [e7] at h1
          have e6 : livS pl S t 6 j = kepS S (sumR (runS pl S t 5) (pl 2 3).toNat) (cntS pl S (runS pl S t) (pl 2 3).toNat) j := by
            unfold livS
            simp (disch := omega) only [if_neg, if_pos, true_and]
          rw [e6]
          unfold kepS
          rw [hz]
          by_cases q0 : j = 3 * z
          · rw [if_pos q0]
            simp (disch := omega) only [mset_o, mset_s]
          · rw [if_neg q0]
            by_cases q1 : j = 3 * z + 1
            · rw [if_pos q1]
              simp (disch := omega) only [mset_o, mset_s]
            · rw [if_neg q1]
              by_cases q2 : j = 3 * z + 2
              · rw [if_pos q2]
                simp (disch := omega) only [mset_o, mset_s]
              · rw [if_neg q2]
                simp (disch := omega) only [mset_o]
                exact e5 j h0 (by omega)
      · simp (disch := omega) only [mset_o]
        rw [f11 _ _ (by omega)]
        exact hd10
      · exact ((((F11.set (by unfold FRp FLy; omega)).set (by unfold FRp FLy; omega)).set (by unfold FRp FLy; omega)).set (by unfold FRp FLy; omega)).set (by unfold FRp FLy; omega)
    rw [e504]
    refine rn_i (fun q => ?_) (fun q => ?_)
    · refine rn_v ?_
      rw [w32_eq (x := 120 * v) (by omega) (by omega)]
      unfold pM_passes_L195
      refine r_p195 (m0 := m10) hv (fun m11 hm11 => ?_) 117 N (120 * v) m10 (by omega) (by omega) (by omega) (fun b j => by rw [if_neg (by omega)])
      have g4 : m11 504 v = S 0 7 := by rw [hm11, if_neg (by omega)]; exact e504
      rw [g4, w32_eq (x := S 0 7 - 1) (by omega) (by omega)]
      refine rn_t (by omega) (rn_t (by omega) (rn_v ?_))
      refine tail _ (by rw [mset_s rfl rfl]; omega) (fun j h0 h1 => ?_) ?_
      · rw [mset_o (by omega), hm11, if_pos (by omega), if_pos (by omega), show 120 * v + j + 3 = 120 * v + (j + 3) by omega]
        exact e505 (j + 3) (by omega) (by omega)
      · exact Fr.set (fun b j q => by rw [hm11, if_neg (by omega)]) (by omega)
    · exact tail m10 (by rw [e504]; omega) (fun j h0 h1 => by rw [if_neg (by omega)]; exact e505 j h0 (by omega)) Fr.rfl'
