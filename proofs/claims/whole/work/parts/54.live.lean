/-! A DAY goes by: sums, and the component's live -/
def sumR (row : Int → Int) : Nat → Int
  | 0 => 0
  | k + 1 => sumR row k + row k
theorem sumR_in {row : Int → Int} {P : Nat} (h : ∀ i : Int, 0 ≤ i → i < P → 0 ≤ row i ∧ row i ≤ 1000) : ∀ k : Nat, k ≤ P → 0 ≤ sumR row k ∧ sumR row k ≤ 1000 * k
  | 0, _ => by unfold sumR; omega
  | k + 1, hk => by
    have h1 := sumR_in h k (by omega)
    have h2 := h k (by omega) (by omega)
    unfold sumR
    omega
theorem sumR_eq {r r' : Int → Int} {P : Nat} (h : ∀ i : Int, 0 ≤ i → i < P → r i = r' i) : ∀ k : Nat, k ≤ P → sumR r k = sumR r' k
  | 0, _ => rfl
  | k + 1, hk => by
    unfold sumR
    rw [sumR_eq h k (by omega), h k (by omega) (by omega)]
theorem c_tot_L {N : Nat} {m : Mem} {a P : Int} {kk : Int → Option Int} {bo : Int → Int → Option Int} (hP : 0 ≤ P ∧ P ≤ ln a) (hP2 : P ≤ 64) (hb : ∀ i, 0 ≤ i → i < P → 0 ≤ m a i ∧ m a i ≤ 1000) : ∀ (k n : Nat) (x : Int), k < n → 0 ≤ x → x + k = P → lpF bo (pD_total_L4b N m a P kk) n (sumR (m a) x.toNat) x = kk (sumR (m a) P.toNat) := by
  intro k
  induction k with
  | zero =>
    intro n x hkn h0 hx
    obtain ⟨n, rfl⟩ : ∃ n', n = n' + 1 := ⟨n - 1, by omega⟩
    show pD_total_L4b N m a P kk (lpF bo (pD_total_L4b N m a P kk) n) _ x = _
    generalize lpF bo (pD_total_L4b N m a P kk) n = self
    unfold pD_total_L4b
    rw [if_neg (by omega), show P = x by omega]
  | succ k ih =>
    intro n x hkn h0 hx
    obtain ⟨n, rfl⟩ : ∃ n', n = n' + 1 := ⟨n - 1, by omega⟩
    have ih' := ih n (x + 1) (by omega) (by omega) (by omega)
    show pD_total_L4b N m a P kk (lpF bo (pD_total_L4b N m a P kk) n) _ x = _
    generalize lpF bo (pD_total_L4b N m a P kk) n = self at ih' ⊢
    unfold pD_total_L4b
    have hs := sumR_in (row := m a) (P := P.toNat) (fun i h0 h1 => hb i h0 (by omega)) x.toNat (by omega)
    have hx1 := hb x h0 (by omega)
    rw [if_pos (by omega), if_pos (by omega), if_pos (by omega)]
    show self (w32 (sumR (m a) x.toNat + m a x)) (w32 (x + 1)) = _
    rw [w32_eq (x := sumR (m a) x.toNat + m a x) (by omega) (by omega), w32_eq (x := x + 1) (by omega) (by omega)]
    have e : sumR (m a) x.toNat + m a x = sumR (m a) (x + 1).toNat := by
      rw [show (x + 1).toNat = x.toNat + 1 by omega]
      show _ = sumR (m a) x.toNat + m a ((x.toNat : Nat) : Int)
      rw [show ((x.toNat : Nat) : Int) = x by omega]
    rw [e]
    exact ih'
theorem c_tot {N : Nat} {m : Mem} {a P : Int} (hN : 2000 ≤ N) (hP : 0 ≤ P ∧ P ≤ ln a) (hP2 : P ≤ 64) (hb : ∀ i, 0 ≤ i → i < P → 0 ≤ m a i ∧ m a i ≤ 1000) : pD_total N m a P = some (sumR (m a) P.toNat) := by
  unfold pD_total pD_total_L4
  exact c_tot_L hP hP2 hb P.toNat N 0 (by omega) (by omega) (by omega)
def lftS (pl S W : Mem) (i : Int) : Int := W 5 i + S 5 i - pl 8 i
def cntS (pl S W : Mem) : Nat → Int
  | 0 => 0
  | k + 1 => cntS pl S W k + (if lftS pl S W k < 0 then 1 else 0)
def dryB (pl S W : Mem) : Nat → Int
  | 0 => 0
  | k + 1 => if lftS pl S W k < 0 then o32 (dryB pl S W k) (shl32 1 k) else dryB pl S W k
theorem cntS_in (pl S W : Mem) : ∀ k : Nat, 0 ≤ cntS pl S W k ∧ cntS pl S W k ≤ k
  | 0 => by unfold cntS; omega
  | k + 1 => by
    have := cntS_in pl S W k
    unfold cntS
    split <;> omega
def runS (pl S : Mem) (t : Int) : Mem := thS pl 9 0 (begS pl S t)
def kepS (S : Mem) (y n : Int) (j : Int) : Int := if j = 3 * min (S 0 7) 39 then S 0 0 else if j = 3 * min (S 0 7) 39 + 1 then y else if j = 3 * min (S 0 7) 39 + 2 then n else if 40 ≤ S 0 7 ∧ j < 117 then S 6 (j + 3) else S 6 j
def livS (pl S : Mem) (t : Int) : Mem := fun k j =>
  if k = 0 ∧ j = 0 then min 999 (S 0 0 + 1) else if k = 0 ∧ j = 7 then min (S 0 7) 39 + 1
  else if k = 1 ∧ 0 ≤ j ∧ j < 64 then runS pl S t 1 j
  else if (2 ≤ k ∧ k ≤ 4) ∧ 0 ≤ j ∧ j < 6 then S k j
  else if k = 5 ∧ 0 ≤ j ∧ j < 6 then (if j < pl 2 3 then max 0 (min 999 (lftS pl S (runS pl S t) j)) else S 5 j)
  else if k = 6 ∧ 0 ≤ j ∧ j < 120 then kepS S (sumR (runS pl S t 5) (pl 2 3).toNat) (cntS pl S (runS pl S t) (pl 2 3).toNat) j
  else 0
theorem WB.runS {pl S : Mem} {t : Int} (hg : PG pl) (hs : SB pl S) (ht : t = 1 ∨ t = 2) : WB pl (runS pl S t) := WB.th hg 9 0 _ (WB.beg hg hs ht)
theorem SB.liv {pl S : Mem} {t : Int} (hg : PG pl) (hs : SB pl S) (ht : t = 1 ∨ t = 2) : SB pl (livS pl S t) := by
  have hn := hg.num
  have hW := WB.runS hg hs ht
  refine ⟨fun p h0 h1 => ?_, fun i h0 h1 => ?_, ?_, ?_⟩
  · unfold livS
    simp (disch := omega) only [if_neg, if_pos, true_and]
    exact hW.1 p h0 h1
  · have h := hs.2.1 i h0 h1
    unfold livS
    simp (disch := omega) only [if_neg, if_pos, true_and]
    refine ⟨h.1, h.2.1, h.2.2.1, ?_⟩
    omega
  · have h := hs.2.2.1
    unfold livS
    rw [if_pos ⟨rfl, rfl⟩]
    omega
  · have h := hs.2.2.2
    unfold livS
    rw [if_neg (by omega), if_pos ⟨rfl, rfl⟩]
    omega
/-- the component's keep -/
theorem c_keep {m : Mem} {s y n : Int} (hk : 0 ≤ m s 7 ∧ m s 7 ≤ 40) : Rn (pS_keep m s y n) (fun m' => (∀ j, 0 ≤ j → j < 120 → m' (s + 6) j = kepS (vS m s) y n j) ∧ m' s 7 = min (m s 7) 39 + 1 ∧ Fr (fun b j => b = s + 6 ∨ (b = s ∧ j = 7)) m m') := by
  unfold pS_keep
  refine rn_b (P := fun m1 => m1 s 7 = min (m s 7) 39 ∧ (∀ j, 0 ≤ j → j < 120 → m1 (s + 6) j = if 40 ≤ m s 7 ∧ j < 117 then m (s + 6) (j + 3) else m (s + 6) j) ∧ Fr (fun b j => b = s + 6 ∨ (b = s ∧ j = 7)) m m1) ?_ (fun m1 h1 => ?_)
  · refine rn_i (fun q => rn_s ⟨by omega, fun j h0 h1 => ?_, Fr.rfl'⟩) (fun q => rn_v (rn_v (rn_s ⟨?_, fun j h0 h1 => ?_, ?_⟩)))
    · rw [if_neg (by omega)]
    · rw [mset_s rfl rfl]; omega
    · rw [mset_o (by omega)]
      by_cases q2 : j < 117
      · rw [mcpy_i (by omega), if_pos (by omega)]
        congr 1; omega
      · rw [mcpy_o (by omega), if_neg (by omega)]
    · exact (Fr.rfl'.cpy (fun j _ _ => Or.inl rfl)).set (Or.inr ⟨rfl, rfl⟩)
  · obtain ⟨e7, e6, f1⟩ := h1
    have e0 : m1 s 0 = m s 0 := f1 _ _ (by omega)
    rw [e7]
    generalize hz : min (m s 7) 39 = z at *
    rw [w32_eq (x := z * 3) (by omega) (by omega)]
    refine rn_v ?_
    refine rn_t (by omega) ?_
    rw [w32_eq (x := z * 3 + 1) (by omega) (by omega), w32_eq (x := z * 3 + 2) (by omega) (by omega)]
    refine rn_v ?_
    refine rn_t (by omega) ?_
    refine rn_v ?_
    refine rn_t (by omega) ?_
    refine rn_v (rn_v (rn_s ⟨fun j h0 h1 => ?_, ?_, ?_⟩))
    · rw [mset_o (by omega)]
      unfold kepS
      rw [vS_7, hz]
      by_cases q2 : j = z * 3 + 2
      · rw [mset_s rfl q2, if_neg (by omega), if_neg (by omega), if_pos (by omega)]
      · rw [mset_o (by omega)]
        by_cases q1 : j = z * 3 + 1
        · rw [mset_s rfl q1, if_neg (by omega), if_pos (by omega)]
        · rw [mset_o (by omega)]
          by_cases q0 : j = z * 3
          · rw [mset_s rfl q0, if_pos (by omega), e0]
            rfl
          · rw [mset_o (by omega), if_neg (show ¬ j = 3 * z by omega), if_neg (show ¬ j = 3 * z + 1 by omega), if_neg (show ¬ j = 3 * z + 2 by omega), e6 j h0 h1, vS_in (m := m) (s := s) (k := 6) (j := j) (by omega)]
            by_cases q3 : 40 ≤ m s 7 ∧ j < 117
            · rw [if_pos q3, if_pos q3, vS_in (by omega)]
            · rw [if_neg q3, if_neg q3]
    · rw [mset_s rfl rfl]
      simp (disch := omega) only [mset_o]
      rw [e7, w32_eq (by omega) (by omega)]
    · exact (((f1.set (Or.inl rfl)).set (Or.inl rfl)).set (Or.inl rfl)).set (Or.inr ⟨rfl, rfl⟩)
/-- the component's people at nine -/
theorem c_nine_L {N : Nat} {Q : Int × Mem → Prop} {kk : Int → Mem → Option (Int × Mem)} {bo : Int → Int → Mem → Option (Int × Mem)} {pl m0 S W : Mem} {a s : Int} (hg : PG pl) (ha : 194 ≤ a) (hs38 : 38 ≤ s) (hsa : s + 7 ≤ a ∨ a + 7 ≤ s) (hs : SB pl S) (hb : WB pl W) (ho : ∀ i, 0 ≤ i → i < pl 2 3 → 0 ≤ pl 8 i ∧ pl 8 i ≤ 99) (he0 : PE pl m0) (h5 : ∀ i, 0 ≤ i → i < 6 → m0 (a + 5) i = W 5 i) (hS5 : ∀ i, 0 ≤ i → i < 6 → m0 (s + 5) i = S 5 i) (h8 : m0 a 8 = 0)
    (hk : ∀ m', (∀ i, 0 ≤ i → i < 6 → m' (s + 5) i = if i < pl 2 3 then max 0 (min 999 (lftS pl S W i)) else S 5 i) → m' a 8 = dryB pl S W (pl 2 3).toNat → Fr (fun b j => (b = a ∧ j = 8) ∨ b = s + 5) m0 m' → Rn (kk (cntS pl S W (pl 2 3).toNat) m') Q) :
    ∀ (k n : Nat) (x : Int) (m : Mem), k < n → 0 ≤ x → x + k = pl 2 3 → (∀ i, 0 ≤ i → i < 6 → m (s + 5) i = if i < x then max 0 (min 999 (lftS pl S W i)) else S 5 i) → m a 8 = dryB pl S W x.toNat → Fr (fun b j => (b = a ∧ j = 8) ∨ b = s + 5) m0 m → Rn (lpF bo (pW_live_L31b N a s kk) n (cntS pl S W x.toNat) x m) Q := by
  intro k
  have hn := hg.num
  induction k with
  | zero =>
    intro n x m hkn h0 hx hp hd hf
    obtain ⟨n, rfl⟩ : ∃ n', n = n' + 1 := ⟨n - 1, by omega⟩
    show Rn (pW_live_L31b N a s kk (lpF bo (pW_live_L31b N a s kk) n) _ x m) Q
    generalize lpF bo (pW_live_L31b N a s kk) n = self
    unfold pW_live_L31b
    have e3 : m 2 3 = pl 2 3 := (hf _ _ (by omega)).trans (he0.d 3)
    refine rn_f (by rw [e3]; omega) ?_
    have hx' : x = pl 2 3 := by omega
    subst hx'
    exact hk m hp hd hf
  | succ k ih =>
    intro n x m hkn h0 hx hp hd hf
    obtain ⟨n, rfl⟩ : ∃ n', n = n' + 1 := ⟨n - 1, by omega⟩
    have ih' := ih n (x + 1)
    show Rn (pW_live_L31b N a s kk (lpF bo (pW_live_L31b N a s kk) n) _ x m) Q
    generalize lpF bo (pW_live_L31b N a s kk) n = self at ih' ⊢
    unfold pW_live_L31b
    have e3 : m 2 3 = pl 2 3 := (hf _ _ (by omega)).trans (he0.d 3)
    have e8 : m 8 x = pl 8 x := (hf _ _ (by omega)).trans (he0 _ _ (by unfold plc; omega))
    have e5 : m (a + 5) x = W 5 x := (hf _ _ (by omega)).trans (h5 x h0 (by omega))
    have eS : m (s + 5) x = S 5 x := by rw [hp x h0 (by omega), if_neg (by omega)]
    have hox := ho x h0 (by omega)
    have hsx := (hs.2.1 x h0 (by omega)).2.2.2
    have hwx := (hb.2.1 x h0 (by omega)).2
    have hc := cntS_in pl S W x.toNat
    rw [e3, e8, e5, eS, w32_eq (x := W 5 x + S 5 x) (by omega) (by omega), w32_eq (x := W 5 x + S 5 x - pl 8 x) (by omega) (by omega)]
    have hl : W 5 x + S 5 x - pl 8 x = lftS pl S W x := rfl
    rw [hl]
    refine rn_t (by omega) ?_
    refine rn_t (by omega) ?_
    refine rn_t (by omega) ?_
    refine rn_t (by omega) ?_
    refine rn_v ?_
    have en : (x + 1).toNat = x.toNat + 1 := by omega
    have ex : ((x.toNat : Nat) : Int) = x := by omega
    have ec : cntS pl S W (x + 1).toNat = cntS pl S W x.toNat + (if lftS pl S W x < 0 then 1 else 0) := by
      rw [en]
      show cntS pl S W x.toNat + (if lftS pl S W ((x.toNat : Nat) : Int) < 0 then 1 else 0) = _
      rw [ex]
    have ed : dryB pl S W (x + 1).toNat = if lftS pl S W x < 0 then o32 (dryB pl S W x.toNat) (shl32 1 x) else dryB pl S W x.toNat := by
      rw [en]
      show (if lftS pl S W ((x.toNat : Nat) : Int) < 0 then o32 (dryB pl S W x.toNat) (shl32 1 ((x.toNat : Nat) : Int)) else dryB pl S W x.toNat) = _
      rw [ex]
    refine rn_b2 (P := fun c m1 => c = cntS pl S W (x + 1).toNat ∧ m1 a 8 = dryB pl S W (x + 1).toNat ∧ Fr (fun b j => b = a ∧ j = 8) m m1) ?_ (fun c m1 h1 => ?_)
    · refine rn_i (fun q => rn_v (rn_v (rn_s ⟨?_, ?_, ?_⟩))) (fun q => rn_s ⟨?_, ?_, Fr.rfl'⟩)
      · show w32 (cntS pl S W x.toNat + 1) = _
        rw [ec, if_pos q, w32_eq (by omega) (by omega)]
      · show mset m a 8 _ a 8 = _
        rw [mset_s rfl rfl, ed, if_pos q, hd]
      · exact Fr.rfl'.set ⟨rfl, rfl⟩
      · show cntS pl S W x.toNat = _
        rw [ec, if_neg q]
        omega
      · show m a 8 = _
        rw [ed, if_neg q, hd]
    · obtain ⟨rfl, g2, g3⟩ := h1
      dsimp only
      refine rn_t (by omega) ?_
      refine rn_v (rn_v ?_)
      rw [w32_eq (by omega) (by omega)]
      refine ih' _ (by omega) (by omega) (by omega) (fun i h0' h1 => ?_) ?_ ?_
      · by_cases q : i = x
        · rw [q, mset_s rfl rfl, if_pos (by omega)]
        · rw [mset_o (by omega), g3 _ _ (by omega), hp i h0' h1]
          by_cases q2 : i < x
          · rw [if_pos q2, if_pos (by omega)]
          · rw [if_neg q2, if_neg (by omega)]
      · rw [mset_o (by omega)]; exact g2
      · exact (hf.trans (g3.mono (fun b j q => Or.inl q))).set (Or.inr rfl)
def FLv (a s : Int) : Int → Int → Prop := fun b j => (a ≤ b ∧ b ≤ a + 6 ∧ (b = a → 7 ≤ j ∧ j ≤ 9)) ∨ b = 11 ∨ b = 14 ∨ b = 17 ∨ (s ≤ b ∧ b ≤ s + 6 ∧ (b = s → j = 0 ∨ j = 7))
theorem c_live {N : Nat} {pl m : Mem} {a s f : Int} (hN : 2000 ≤ N) (hg : PG pl) (he : PE pl m) (ho : ∀ i, 0 ≤ i → i < pl 2 3 → 0 ≤ pl 8 i ∧ pl 8 i ≤ 99) (ha : 194 ≤ a) (hl : ln (a + 5) = 6) (hs38 : 38 ≤ s) (hsa : s + 7 ≤ a ∨ a + 7 ≤ s) (hs : SB pl (vS m s)) : Rn (pW_live N m a s f) (fun r => r.1 = sumR (runS pl (vS m s) (if f = 0 then 1 else 2) 5) (pl 2 3).toNat ∧ vS r.2 s = livS pl (vS m s) (if f = 0 then 1 else 2) ∧ r.2 a 8 = dryB pl (vS m s) (runS pl (vS m s) (if f = 0 then 1 else 2)) (pl 2 3).toNat ∧ Fr (FLv a s) m r.2) := by
  have hn := hg.num
  unfold pW_live
  refine rn_v ?_
  generalize htt : (if f = 0 then (1 : Int) else 2) = t
  have ht : t = 1 ∨ t = 2 := by rw [← htt]; split <;> omega
  refine rn_b (c_beg hN hg he ha hsa hs ht) (fun m1 h1 => ?_)
  have f1 : Fr (FLv a s) m m1 := h1.2.mono (fun b j q => by unfold FB at q; unfold FLv; omega)
  have he1 : PE pl m1 := he.fr f1 (fun b j q => by unfold plc at q; unfold FLv; omega)
  have hb1 : WB pl (vW m1 a) := by rw [h1.1]; exact WB.beg hg hs ht
  refine rn_b (c_thr hN hg ha (by omega) he1 hb1 (by omega)) (fun m2 h2 => ?_)
  have f2 : Fr (FLv a s) m m2 := f1.trans (h2.2.mono (fun b j q => by unfold FW at q; unfold FLv; omega))
  have hv2 : vW m2 a = runS pl (vS m s) t := by rw [h2.1, h1.1]; rfl
  have hbR := WB.runS hg hs ht
  refine rn_l (fun m3 hm3 => ?_)
  have f23 : Fr (fun b j => b = a ∧ j = 8) m2 m3 := by rw [hm3]; exact Fr.rfl'.set ⟨rfl, rfl⟩
  have h38 : m3 a 8 = 0 := by rw [hm3, mset_s rfl rfl]
  clear hm3
  have f3 : Fr (FLv a s) m m3 := f2.trans (f23.mono (fun b j q => by unfold FLv; omega))
  have f13 : Fr (fun b j => (a ≤ b ∧ b ≤ a + 6) ∨ b = 11 ∨ b = 14 ∨ b = 17) m m3 := ((h1.2.mono (fun b j q => by unfold FB at q; omega)).trans (h2.2.mono (fun b j q => by unfold FW at q; omega))).trans (f23.mono (fun b j q => by omega))
  have he3 : PE pl m3 := he.fr f3 (fun b j q => by unfold plc at q; unfold FLv; omega)
  have hW5 : ∀ i, 0 ≤ i → i < 6 → m3 (a + 5) i = runS pl (vS m s) t 5 i := fun i h0 h1 => by rw [f23 _ _ (by omega), ← hv2, vW_in (by omega)]
  have hW1 : ∀ i, 0 ≤ i → i < 64 → m3 (a + 1) i = runS pl (vS m s) t 1 i := fun i h0 h1 => by rw [f23 _ _ (by omega), ← hv2, vW_in (by omega)]
  have hS5 : ∀ i, 0 ≤ i → i < 6 → m3 (s + 5) i = vS m s 5 i := fun i h0 h1 => by rw [f13 _ _ (by omega), vS_in (by omega)]
  unfold pW_live_L31
  refine c_nine_L (m0 := m3) (S := vS m s) (W := runS pl (vS m s) t) hg ha hs38 hsa hs hbR ho he3 hW5 hS5 h38 (fun m4 hp4 hd4 f4 => ?_) (pl 2 3).toNat N 0 m3 (by omega) (by omega) (by omega) (fun i h0 h1 => by rw [if_neg (by omega)]; exact hS5 i h0 h1) h38 Fr.rfl'
  refine rn_l (fun m5 hm5 => ?_)
  have g51 : ∀ j, 0 ≤ j → j < 64 → m5 (s + 1) j = runS pl (vS m s) t 1 j := fun j h0 h1 => by
    rw [hm5, mcpy_i (by omega), show (0 : Int) + (j - 0) = j by omega, f4 _ _ (by omega)]
    exact hW1 j h0 h1
  have f5 : Fr (fun b j => b = s + 1) m4 m5 := by rw [hm5]; exact Fr.rfl'.cpy (fun j _ _ => rfl)
  clear hm5
  have tot : ∀ m', (∀ i, 0 ≤ i → i < 6 → m' (a + 5) i = runS pl (vS m s) t 5 i) → m' 2 3 = pl 2 3 → pW_wrungByAll N m' a = some (sumR (runS pl (vS m s) t 5) (pl 2 3).toNat) := by
    intro m' h5 h3
    unfold pW_wrungByAll
    rw [h3, c_tot hN (by omega) (by omega) (fun i h0 h1 => by have := (hbR.2.1 i h0 h1).2; rw [h5 i h0 (by omega)]; omega)]
    show some (sumR (m' (a + 5)) (pl 2 3).toNat) = _
    rw [sumR_eq (r' := runS pl (vS m s) t 5) (P := (pl 2 3).toNat) (fun i h0 h1 => h5 i h0 (by omega)) _ (Nat.le_refl _)]
  have g55 : ∀ i, 0 ≤ i → i < 6 → m5 (a + 5) i = runS pl (vS m s) t 5 i := fun i h0 h1 => by rw [f5 _ _ (by omega), f4 _ _ (by omega)]; exact hW5 i h0 h1
  have g523 : m5 2 3 = pl 2 3 := by rw [f5 _ _ (by omega), f4 _ _ (by omega)]; exact he3.d 3
  refine rn_e (tot m5 g55 g523) ?_
  have g57 : m5 s 7 = vS m s 0 7 := by rw [f5 _ _ (by omega), f4 _ _ (by omega), f13 _ _ (by omega)]; rfl
  refine rn_b (c_keep (by rw [g57]; exact hs.2.2.2)) (fun m6 h6 => ?_)
  obtain ⟨k1, k2, f6⟩ := h6
  have g60 : m6 s 0 = vS m s 0 0 := by rw [f6 _ _ (by omega), f5 _ _ (by omega), f4 _ _ (by omega), f13 _ _ (by omega)]; rfl
  have hs0 := hs.2.2.1
  rw [g60, w32_eq (x := vS m s 0 0 + 1) (by omega) (by omega)]
  refine rn_l (fun m7 hm7 => ?_)
  have f7 : Fr (fun b j => b = s ∧ j = 0) m6 m7 := by rw [hm7]; exact Fr.rfl'.set ⟨rfl, rfl⟩
  have g70 : m7 s 0 = min 999 (vS m s 0 0 + 1) := by rw [hm7, mset_s rfl rfl]
  clear hm7
  refine rn_e (tot m7 (fun i h0 h1 => by rw [f7 _ _ (by omega), f6 _ _ (by omega)]; exact g55 i h0 h1) (by rw [f7 _ _ (by omega), f6 _ _ (by omega)]; exact g523)) (rn_s ⟨rfl, ?_, ?_, ?_⟩)
  · refine vS_ext (fun k j q q2 => ?_) (fun k j q => ?_) ?_ ?_
    · unfold livS
      simp (disch := omega) only [if_neg]
    · show m7 (s + k) j = _
      rw [f7 _ _ (by omega)]
      rcases (show k = 1 ∨ k = 2 ∨ k = 3 ∨ k = 4 ∨ k = 5 ∨ k = 6 by omega) with rfl | rfl | rfl | rfl | rfl | rfl
      · rw [f6 _ _ (by omega), g51 j (by omega) (by omega)]
        unfold livS
        simp (disch := omega) only [if_neg, if_pos, true_and]
      · rw [f6 _ _ (by omega), f5 _ _ (by omega), f4 _ _ (by omega), f13 _ _ (by omega)]
        unfold livS
        simp (disch := omega) only [if_neg, if_pos, true_and]
        rw [vS_in (by omega)]
      · rw [f6 _ _ (by omega), f5 _ _ (by omega), f4 _ _ (by omega), f13 _ _ (by omega)]
        unfold livS
        simp (disch := omega) only [if_neg, if_pos, true_and]
        rw [vS_in (by omega)]
      · rw [f6 _ _ (by omega), f5 _ _ (by omega), f4 _ _ (by omega), f13 _ _ (by omega)]
        unfold livS
        simp (disch := omega) only [if_neg, if_pos, true_and]
        rw [vS_in (by omega)]
      · rw [f6 _ _ (by omega), f5 _ _ (by omega), hp4 j (by omega) (by omega)]
        unfold livS
        simp (disch := omega) only [if_neg, if_pos, true_and]
      · rw [k1 j (by omega) (by omega)]
        have e0 : vS m5 s 0 0 = vS m s 0 0 := by show m5 s 0 = m s 0; rw [f5 _ _ (by omega), f4 _ _ (by omega), f13 _ _ (by omega)]
        have e7 : vS m5 s 0 7 = vS m s 0 7 := g57
        have e6 : ∀ j, 0 ≤ j → j < 120 → vS m5 s 6 j = vS m s 6 j := fun j h0 h1 => by
          rw [vS_in (by omega), vS_in (by omega), f5 _ _ (by omega), f4 _ _ (by omega), f13 _ _ (by omega)]
        unfold livS
        simp (disch := omega) only [if_neg, if_pos, true_and]
        unfold kepS
        rw [e0, e7, e6 j (by omega) (by omega)]
        by_cases q3 : 40 ≤ vS m s 0 7 ∧ j < 117
        · rw [e6 (j + 3) (by omega) (by omega)]
        · simp only [if_neg q3]
    · show m7 s 0 = _
      rw [g70]
      rfl
    · show m7 s 7 = _
      rw [f7 _ _ (by omega), k2, g57]
      rfl
  · show m7 a 8 = _
    rw [f7 _ _ (by omega), f6 _ _ (by omega), f5 _ _ (by omega)]
    exact hd4
  · exact (((f3.trans (f4.mono (fun b j q => by unfold FLv; omega))).trans (f5.mono (fun b j q => by unfold FLv; omega))).trans (f6.mono (fun b j q => by unfold FLv; omega))).trans (f7.mono (fun b j q => by unfold FLv; omega))
