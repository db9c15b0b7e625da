/-! TODAY: changed -/
theorem WB.swp {pl S : Mem} {a b : Int} (hg : PG pl) (hb : SB pl S) (ha : 0 ≤ a ∧ a < pl 2 3) (hbb : 0 ≤ b ∧ b < pl 2 3) : WB pl (swpW pl S a b) := by
  have h0 := WB.beg hg hb (t := 1) (Or.inl rfl)
  have sa := (hb.2.1 a ha.1 ha.2).2.2.1
  have sb := (hb.2.1 b hbb.1 hbb.2).2.2.1
  unfold swpW
  refine ⟨fun p p0 p1 => ?_, fun k k0 k1 => ?_, ?_⟩
  · rw [mset_o (by omega), mset_o (by omega)]; exact h0.1 p p0 p1
  · have h := h0.2.1 k k0 k1
    have e5 : begS pl S 1 5 k = 0 := by unfold begS begP; simp (disch := omega) only [if_neg]
    simp (disch := omega) only [mset_o]
    rw [e5]
    refine ⟨h.1, ⟨by omega, ?_⟩, ?_, h.2.2.2⟩
    · by_cases q : k = b
      · rw [mset_s rfl q]; omega
      · rw [mset_o (by omega)]
        by_cases q2 : k = a
        · rw [mset_s rfl q2]; omega
        · rw [mset_o (by omega)]; omega
    · by_cases q : k = b
      · rw [mset_s rfl q]; omega
      · rw [mset_o (by omega)]
        by_cases q2 : k = a
        · rw [mset_s rfl q2]; omega
        · rw [mset_o (by omega)]; exact h.2.2.1
  · rw [mset_o (by omega), mset_o (by omega)]; exact h0.2.2
theorem beg_sheet {pl S : Mem} {i : Int} (hi : 0 ≤ i ∧ i < 6) : begS pl S 1 3 i = S 4 i := by
  unfold begS begP
  simp (disch := omega) only [if_neg, if_pos, true_and]
def FTc : Int → Int → Prop := fun b j => FTe b j ∨ (b = 201 ∧ 10 ≤ j ∧ j ≤ 12)
def z3 (m : Mem) : Int × Int × Int := (m 201 12, m 201 10, m 201 11)
theorem c_tryC {N : Nat} {pl S m : Mem} {a b : Int} (hN : 2000 ≤ N) (hg : PG pl) (he : PE pl m) (hb : SB pl S) (h6 : vW m 236 = begS pl S 1) (ha : 0 ≤ a ∧ a < pl 2 3) (hbb : 0 ≤ b ∧ b < pl 2 3) (hab : a ≠ b) : Rn (pT_tryChange N m a b) (fun m' => z3 m' = (if (z3 m).1 < swpV pl S a b then (swpV pl S a b, a, b) else z3 m) ∧ vW m' 236 = begS pl S 1 ∧ Fr FTc m m') := by
  have hn := hg.num
  have l248 : ln 248 = 6 := by decide +kernel
  unfold pT_tryChange
  refine rn_b (c_copyW (d := 243) (s := 236) (by omega)) (fun m1 hm1 => ?_)
  refine rn_t (by omega) (rn_t (by omega) ?_)
  have d1 : ∀ i, 0 ≤ i → i < 6 → m1 239 i = S 4 i := fun i i0 i1 => by
    rw [hm1.2 _ _ (by unfold FC; omega)]
    have e : vW m 236 3 i = m 239 i := vW_in (by omega)
    rw [← e, h6, beg_sheet ⟨i0, i1⟩]
  rw [d1 b (by omega) (by omega)]
  refine rn_v (rn_t (by omega) (rn_t (by omega) ?_))
  rw [mset_o (by omega), d1 a (by omega) (by omega)]
  refine rn_l (fun m2 hm2 => ?_)
  have hv2 : vW m2 243 = swpW pl S a b := by
    rw [hm2, show (246 : Int) = 243 + 3 from rfl, vW_set (by omega), vW_set (by omega), hm1.1, h6]
    rfl
  have f2 : Fr FTe m m2 := by
    rw [hm2]
    exact ((hm1.2.mono (fun b j q => by unfold FC at q; unfold FTe; omega)).set (by unfold FTe; omega)).set (by unfold FTe; omega)
  clear hm2
  have he2 : PE pl m2 := he.fr f2 (fun b j q => by unfold plc at q; unfold FTe; omega)
  have hws := WB.swp hg hb ha hbb
  refine rn_b (c_thr (a := 243) (h := 0) (e := 9) hN hg (by omega) (by omega) he2 (by rw [hv2]; exact hws) (by omega)) (fun m3 hm3 => ?_)
  have f3 : Fr FTe m m3 := f2.trans (hm3.2.mono (fun b j q => by unfold FW at q; unfold FTe; omega))
  have he3 : PE pl m3 := he.fr f3 (fun b j q => by unfold plc at q; unfold FTe; omega)
  have h5 : ∀ i, 0 ≤ i → i < 6 → m3 248 i = thS pl 9 0 (swpW pl S a b) 5 i := fun i i0 i1 => by
    have e : vW m3 243 5 i = m3 248 i := vW_in (by omega)
    rw [← e, hm3.1, hv2]
    rfl
  have hwb := WB.th hg 9 0 _ hws
  have etot : pW_wrungByAll N m3 243 = some (swpV pl S a b) := by
    unfold pW_wrungByAll
    rw [he3.d 3, show (243 : Int) + 5 = 248 from rfl, c_tot hN (by rw [l248]; omega) (by omega) (fun i i0 i1 => by rw [h5 i i0 (by omega)]; have := (hwb.2.1 i i0 i1).2; omega)]
    show some (sumR (m3 248) (pl 2 3).toNat) = _
    unfold swpV
    rw [sumR_eq (r' := thS pl 9 0 (swpW pl S a b) 5) (P := (pl 2 3).toNat) (fun i i0 i1 => h5 i i0 (by omega)) _ (Nat.le_refl _)]
  have hz : z3 m3 = z3 m := by
    unfold z3
    rw [f3 201 12 (by unfold FTe; omega), f3 201 10 (by unfold FTe; omega), f3 201 11 (by unfold FTe; omega)]
  have h63 : ∀ m', Fr (fun b j => b = 201 ∧ 10 ≤ j ∧ j ≤ 12) m3 m' → vW m' 236 = begS pl S 1 := fun m' f => by
    rw [show vW m' 236 = vW m 236 from vW_fr (fun b j q1 q2 _ => by rw [f _ _ (by omega), f3 _ _ (by unfold FTe; omega)])]
    exact h6
  refine rn_e etot ?_
  rw [show m3 201 12 = (z3 m3).1 from rfl, hz]
  refine rn_i (fun q => ?_) (fun q => ?_)
  · refine rn_e etot (rn_v (rn_v (rn_v (rn_s ⟨?_, ?_, ?_⟩))))
    · rw [if_pos q]
      unfold z3
      simp (disch := omega) only [mset_o, mset_s]
    · exact h63 _ (((Fr.rfl'.set (by omega)).set (by omega)).set (by omega))
    · exact (((f3.mono (fun b j q => Or.inl q)).set (Or.inr (by omega))).set (Or.inr (by omega))).set (Or.inr (by omega))
  · refine rn_s ⟨?_, h63 m3 Fr.rfl', f3.mono (fun b j q => Or.inl q)⟩
    rw [if_neg q]
    exact hz
theorem c_chI {N : Nat} {Q : Mem → Prop} {kk : Mem → Option Mem} {bo : Int → Mem → Option Mem} {pl S m0 : Mem} {a : Int} (hN : 2000 ≤ N) (hg : PG pl) (hb : SB pl S) (ha : 0 ≤ a ∧ a < pl 2 3) :
    ∀ (k n : Nat) (b : Int) (m : Mem), k < n → a < b → b + k = pl 2 3 → PE pl m → vW m 236 = begS pl S 1 → Fr FTc m0 m → (∀ m', z3 m' = chgI pl S a k b (z3 m) → vW m' 236 = begS pl S 1 → Fr FTc m0 m' → Rn (kk m') Q) → Rn (lpF bo (pT_findChange_L56b N a kk) n b m) Q := by
  intro k
  have hn := hg.num
  induction k with
  | zero =>
    intro n b m hkn hab hx he h6 hf hk
    obtain ⟨n, rfl⟩ : ∃ n', n = n' + 1 := ⟨n - 1, by omega⟩
    show Rn (pT_findChange_L56b N a kk (lpF bo (pT_findChange_L56b N a kk) n) b m) Q
    generalize lpF bo (pT_findChange_L56b N a kk) n = self
    unfold pT_findChange_L56b
    refine rn_f (by rw [he.d]; omega) ?_
    exact hk m rfl h6 hf
  | succ k ih =>
    intro n b m hkn hab hx he h6 hf hk
    obtain ⟨n, rfl⟩ : ∃ n', n = n' + 1 := ⟨n - 1, by omega⟩
    have ih' := ih n (b + 1)
    show Rn (pT_findChange_L56b N a kk (lpF bo (pT_findChange_L56b N a kk) n) b m) Q
    generalize lpF bo (pT_findChange_L56b N a kk) n = self at ih' ⊢
    unfold pT_findChange_L56b
    refine rn_t (by rw [he.d]; omega) ?_
    refine rn_b (c_tryC hN hg he hb h6 ha (by omega) (by omega)) (fun m1 h1 => ?_)
    refine rn_v ?_
    rw [w32_eq (x := b + 1) (by omega) (by omega)]
    refine ih' m1 (by omega) (by omega) (by omega) (he.fr h1.2.2 (fun b j q => by unfold plc at q; unfold FTc FTe; omega)) h1.2.1 (hf.trans h1.2.2) (fun m' hz h6' f' => hk m' ?_ h6' f')
    rw [hz, h1.1]
    rfl
theorem c_chO {N : Nat} {Q : Mem → Prop} {kk : Mem → Option Mem} {bo : Int → Mem → Option Mem} {pl S m0 : Mem} (hN : 2000 ≤ N) (hg : PG pl) (hb : SB pl S) (he0 : PE pl m0) :
    ∀ (k n : Nat) (a : Int) (m : Mem), k < n → 0 ≤ a → a + k = pl 2 3 → PE pl m → vW m 236 = begS pl S 1 → Fr FTc m0 m → (∀ m', z3 m' = chgO pl S k a (z3 m) → vW m' 236 = begS pl S 1 → Fr FTc m0 m' → Rn (kk m') Q) → Rn (lpF bo (pT_findChange_L41b N kk) n a m) Q := by
  intro k
  have hn := hg.num
  induction k with
  | zero =>
    intro n a m hkn ha hx he h6 hf hk
    obtain ⟨n, rfl⟩ : ∃ n', n = n' + 1 := ⟨n - 1, by omega⟩
    show Rn (pT_findChange_L41b N kk (lpF bo (pT_findChange_L41b N kk) n) a m) Q
    generalize lpF bo (pT_findChange_L41b N kk) n = self
    unfold pT_findChange_L41b
    refine rn_f (by rw [he.d]; omega) ?_
    exact hk m rfl h6 hf
  | succ k ih =>
    intro n a m hkn ha hx he h6 hf hk
    obtain ⟨n, rfl⟩ : ∃ n', n = n' + 1 := ⟨n - 1, by omega⟩
    have ih' := ih n (a + 1)
    show Rn (pT_findChange_L41b N kk (lpF bo (pT_findChange_L41b N kk) n) a m) Q
    generalize lpF bo (pT_findChange_L41b N kk) n = self at ih' ⊢
    unfold pT_findChange_L41b
    refine rn_t (by rw [he.d]; omega) (rn_v ?_)
    rw [w32_eq (x := a + 1) (by omega) (by omega)]
    unfold pT_findChange_L56
    refine c_chI (m0 := m0) (S := S) hN hg hb (by omega) (pl 2 3 - (a + 1)).toNat N (a + 1) m (by omega) (by omega) (by omega) he h6 hf (fun m1 hz h61 f1 => ?_)
    refine rn_v ?_
    refine ih' m1 (by omega) (by omega) (by omega) (he0.fr f1 (fun b j q => by unfold plc at q; unfold FTc FTe; omega)) h61 f1 (fun m' hz' h6' f' => hk m' ?_ h6' f')
    rw [hz', hz]
    rfl
/-- what is read of a best change -/
def Zq (z z' : Int × Int × Int) : Prop := z.1 = z'.1 ∧ z.2.1 = z'.2.1 ∧ (z.2.1 ≠ -1 → z.2.2 = z'.2.2)
theorem chgI_q {pl S : Mem} {a : Int} : ∀ (k : Nat) (b : Int) (z z' : Int × Int × Int), Zq z z' → Zq (chgI pl S a k b z) (chgI pl S a k b z')
  | 0, _, _, _, h => h
  | k + 1, b, z, z', h => by
    show Zq (chgI pl S a k (b + 1) (if z.1 < swpV pl S a b then (swpV pl S a b, a, b) else z)) (chgI pl S a k (b + 1) (if z'.1 < swpV pl S a b then (swpV pl S a b, a, b) else z'))
    refine chgI_q k (b + 1) _ _ ?_
    rw [h.1]
    by_cases q : z'.1 < swpV pl S a b
    · rw [if_pos q, if_pos q]; exact ⟨rfl, rfl, fun _ => rfl⟩
    · rw [if_neg q, if_neg q]; exact h
theorem chgO_q {pl S : Mem} : ∀ (k : Nat) (a : Int) (z z' : Int × Int × Int), Zq z z' → Zq (chgO pl S k a z) (chgO pl S k a z')
  | 0, _, _, _, h => h
  | k + 1, a, z, z', h => by
    show Zq (chgO pl S k (a + 1) (chgI pl S a (pl 2 3 - (a + 1)).toNat (a + 1) z)) (chgO pl S k (a + 1) (chgI pl S a (pl 2 3 - (a + 1)).toNat (a + 1) z'))
    exact chgO_q k (a + 1) _ _ (chgI_q _ _ _ _ h)
theorem c_findChange {N : Nat} {pl S m : Mem} (hN : 2000 ≤ N) (hg : PG pl) (he : PE pl m) (hb : SB pl S) (h13 : m 201 13 = 1) (ht : ITod pl S m) : Rn (pT_findChange N m) (fun m' => Zq (z3 m') (chgS pl S) ∧ ITod pl S m' ∧ Fr FTd m m') := by
  have hn := hg.num
  have l231 : ln 231 = 6 := by decide +kernel
  rcases ht with h | ⟨h1, h2, h3, h4, h5⟩
  · omega
  have hz : ∀ m' : Mem, (∃ t, (m' 201 12, m' 201 10, m' 201 11) = chgO pl S (pl 2 3).toNat 0 (sumR (runS pl S 1 5) (pl 2 3).toNat, -1, t)) → Zq (z3 m') (chgS pl S) := fun m' h => by
    obtain ⟨t, h⟩ := h
    unfold z3
    rw [h]
    exact chgO_q _ _ _ _ ⟨rfl, rfl, fun c => absurd rfl c⟩
  have h5' := h5
  unfold pT_findChange
  refine rn_i (fun q => ?_) (fun q => ?_)
  · refine rn_v (rn_l (fun m1 hm1 => ?_))
    have f1 : Fr (fun b j => b = 201 ∧ (10 ≤ j ∧ j ≤ 12 ∨ j = 14)) m m1 := by rw [hm1]; exact (Fr.rfl'.set (by omega)).set (by omega)
    have g14 : m1 201 14 = 1 := by rw [hm1, mset_o (by omega), mset_s rfl rfl]
    have g10 : m1 201 10 = -1 := by rw [hm1, mset_s rfl rfl]
    clear hm1
    have he1 : PE pl m1 := he.fr f1 (fun b j q => by unfold plc at q; omega)
    have hwb : WB pl (runS pl S 1) := WB.th hg 9 0 _ (WB.beg hg hb (Or.inl rfl))
    have h231 : ∀ i, 0 ≤ i → i < pl 2 3 → m1 231 i = runS pl S 1 5 i := fun i i0 i1 => by
      rw [f1 _ _ (by omega)]
      exact ((h2.2 8 (by omega) (by omega)).2 i i0 i1).2
    rw [he1.d 3]
    refine rn_e (c_tot hN (by rw [l231]; omega) (by omega) (fun i i0 i1 => by rw [h231 i i0 i1]; have := (hwb.2.1 i i0 i1).2; omega)) ?_
    rw [sumR_eq (r' := runS pl S 1 5) (P := (pl 2 3).toNat) (fun i i0 i1 => h231 i i0 (by omega)) _ (Nat.le_refl _)]
    refine rn_l (fun m2 hm2 => ?_)
    have f2 : Fr (fun b j => b = 201 ∧ (10 ≤ j ∧ j ≤ 12 ∨ j = 14)) m m2 := by rw [hm2]; exact f1.set (by omega)
    have k14 : m2 201 14 = 1 := by rw [hm2, mset_o (by omega)]; exact g14
    have kz : z3 m2 = (sumR (runS pl S 1 5) (pl 2 3).toNat, -1, m1 201 11) := by
      unfold z3
      rw [hm2, mset_s rfl rfl, mset_o (by omega), mset_o (by omega), g10]
    clear hm2
    have he2 : PE pl m2 := he.fr f2 (fun b j q => by unfold plc at q; omega)
    unfold pT_findChange_L41
    refine c_chO (m0 := m2) (S := S) hN hg hb he2 (pl 2 3).toNat N 0 m2 (by omega) (by omega) (by omega) he2 ?_ Fr.rfl' (fun m3 hz3 h6 f3 => rn_s ?_)
    · rw [show vW m2 236 = vW m 236 from vW_fr (fun b j q1 q2 _ => f2 b j (by omega))]
      exact h2.1
    · have ex : ∃ t, (m3 201 12, m3 201 10, m3 201 11) = chgO pl S (pl 2 3).toNat 0 (sumR (runS pl S 1 5) (pl 2 3).toNat, -1, t) := ⟨m1 201 11, by rw [← kz]; exact hz3⟩
      have fz : ∀ b j, 201 ≤ b → b ≤ 241 → ¬ (b = 201 ∧ (10 ≤ j ∧ j ≤ 12 ∨ j = 14)) → m3 b j = m b j := fun b j q1 q2 q3 => by
        rw [f3 b j (by unfold FTc FTe; omega), f2 b j q3]
      refine ⟨hz m3 ex, Or.inr ⟨?_, ?_, ?_, ?_, Or.inr ⟨?_, ex⟩⟩, ?_⟩
      · rw [fz _ _ (by omega) (by omega) (by omega)]; exact h1
      · exact h2.fr (fun b j q1 q2 q3 => fz b j (by omega) (by omega) (by omega))
      · intro i i0 i1
        rw [fz 232 i (by omega) (by omega) (by omega), fz 233 i (by omega) (by omega) (by omega)]
        exact h3 i i0 i1
      · intro i i0 i1
        rw [fz 234 i (by omega) (by omega) (by omega), fz 235 i (by omega) (by omega) (by omega)]
        exact h4 i i0 i1
      · rw [f3 201 14 (by unfold FTc FTe; omega)]; exact k14
      · exact (f2.mono (fun b j q => by unfold FTd; omega)).trans (f3.mono (fun b j q => by unfold FTc FTe at q; unfold FTd; omega))
  · rcases h5 with h5 | h5
    · exact absurd h5 q
    · exact rn_s ⟨hz m h5.2, Or.inr ⟨h1, h2, h3, h4, h5'⟩, Fr.rfl'⟩
theorem r_chI {N : Nat} {Q : Int × Mem → Prop} {kk : Int → Int → Int → Mem → Option (Int × Mem)} {bo : Int → Int → Int → Int → Mem → Option (Int × Mem)} {pl m0 S : Mem} {a c1 : Int} (hN : 2000 ≤ N) (hg : PG pl) (hr : PR pl) (hq : PQ pl m0) (hS : SR pl m0 0 S) (hb : SB pl S) (hwk : m0 475 62 = -1) (ha : 0 ≤ a ∧ a < pl 2 3) :
    ∀ (k n : Nat) (b : Int) (z : Int × Int × Int) (m : Mem), k < n → a < b → b + k = pl 2 3 → Fr FRq m0 m → (∀ m', Fr FRq m0 m' → Rn (kk (chgI pl S a k b z).1 (chgI pl S a k b z).2.1 (chgI pl S a k b z).2.2 m') Q) → Rn (lpF bo (pM_changed_L55b N c1 a kk) n z.1 z.2.1 z.2.2 b m) Q := by
  intro k
  have hn := hg.num
  induction k with
  | zero =>
    intro n b z m hkn hab hx hf hk
    obtain ⟨n, rfl⟩ : ∃ n', n = n' + 1 := ⟨n - 1, by omega⟩
    have hq' := FRq_PQ hq hf
    show Rn (pM_changed_L55b N c1 a kk (lpF bo (pM_changed_L55b N c1 a kk) n) _ _ _ b m) Q
    generalize lpF bo (pM_changed_L55b N c1 a kk) n = self
    unfold pM_changed_L55b
    rw [hq'.bk, hq' 480 _ (by unfold prc; omega), hr.2.2.2.1]
    refine rn_t hr.1 (rn_f (by omega) ?_)
    exact hk m hf
  | succ k ih =>
    intro n b z m hkn hab hx hf hk
    obtain ⟨n, rfl⟩ : ∃ n', n = n' + 1 := ⟨n - 1, by omega⟩
    have ih' := ih n (b + 1)
    have hq' := FRq_PQ hq hf
    show Rn (pM_changed_L55b N c1 a kk (lpF bo (pM_changed_L55b N c1 a kk) n) _ _ _ b m) Q
    generalize lpF bo (pM_changed_L55b N c1 a kk) n = self at ih' ⊢
    unfold pM_changed_L55b
    rw [hq'.bk, hq' 480 _ (by unfold prc; omega), hr.2.2.2.1]
    refine rn_t hr.1 (rn_t (by omega) ?_)
    refine rn_b (r_copies (S := S) hN hg (d := 1) (s := 0) (by omega) (by omega) (by omega) (FRq_SR hg hb hS hf) hb.2.2.2) (fun m1 h1 => ?_)
    have s1 : SR pl m1 0 S := FRq_SR hg hb hS (hf.trans (FLy_q h1.2))
    have sa : m1 502 a = S 4 a := by
      have h := (s1.2.2.2.1 a ha.1 ha.2).2.2.1
      rw [show 6 * 0 + a = a by omega] at h
      exact h
    have sb : m1 502 b = S 4 b := by
      have h := (s1.2.2.2.1 b (by omega) (by omega)).2.2.1
      rw [show 6 * 0 + b = b by omega] at h
      exact h
    rw [w32_eq (x := 6 + a) (by omega) (by omega), w32_eq (x := 6 + b) (by omega) (by omega), w32_eq (x := b + 1) (by omega) (by omega)]
    refine rn_t (by omega) (rn_t (by omega) (rn_v (rn_t (by omega) (rn_t (by omega) ?_))))
    rw [mset_o (by omega), sa, sb]
    refine rn_l (fun m2 hm2 => ?_)
    have f2 : Fr (FLy 1) m m2 := by rw [hm2]; exact (h1.2.set (by unfold FLy; omega)).set (by unfold FLy; omega)
    have hS2 : SR pl m2 1 (mset (mset S 4 a (S 4 b)) 4 b (S 4 a)) := by
      rw [hm2, show 6 + a = 6 * 1 + a by omega, show 6 + b = 6 * 1 + b by omega]
      exact h1.1.set4.set4
    clear hm2
    have F2 := hf.trans (FLy_q f2)
    have hq2 := FRq_PQ hq F2
    have ga := (hb.2.1 a ha.1 ha.2).2.2.1
    have gb := (hb.2.1 b (by omega) (by omega)).2.2.1
    have hb2 : SB pl (mset (mset S 4 a (S 4 b)) 4 b (S 4 a)) := (hb.set4 gb).set4 ga
    have hbeg : begS pl (mset (mset S 4 a (S 4 b)) 4 b (S 4 a)) 1 = swpW pl S a b := by
      rw [beg_set4 (by omega), beg_set4 (by omega)]
      rfl
    have hwb := WB.th hg 9 0 _ (WB.swp hg hb ha (show 0 ≤ b ∧ b < pl 2 3 by omega))
    refine rn_e (e_all hg hr hq2) ?_
    refine rn_b2 (P := fun _ m3 => (∀ j, 0 ≤ j → j < pl 2 3 → m3 510 j = thS pl 9 0 (swpW pl S a b) 5 j) ∧ Fr FRr m2 m3) (by rw [← hbeg]; exact r_try hN hg hr hq2 hS2 hb2 ((F2 475 62 (by unfold FRq FRr FLy; omega)).trans hwk)) (fun r m3 h3 => ?_)
    obtain ⟨hv, f3⟩ := h3
    dsimp only
    have F3 := F2.trans (FRr_q f3)
    have hq3 := FRq_PQ hq F3
    have ew : pM_wrung N m3 = some (swpV pl S a b) := e_wrung hN hg hr hq3 hwb hv
    refine rn_e ew ?_
    have ih3 := ih' (if z.1 < swpV pl S a b then (swpV pl S a b, a, b) else z) m3 (by omega) (by omega) (by omega) F3 hk
    refine rn_i (fun q => ?_) (fun q => ?_)
    · refine rn_e ew (rn_v ?_)
      rw [if_pos q] at ih3
      exact ih3
    · refine rn_v ?_
      rw [if_neg q] at ih3
      exact ih3
theorem r_chO {N : Nat} {Q : Int × Mem → Prop} {kk : Int → Int → Int → Mem → Option (Int × Mem)} {bo : Int → Int → Int → Int → Mem → Option (Int × Mem)} {pl m0 S : Mem} {c1 : Int} (hN : 2000 ≤ N) (hg : PG pl) (hr : PR pl) (hq : PQ pl m0) (hS : SR pl m0 0 S) (hb : SB pl S) (hwk : m0 475 62 = -1) :
    ∀ (k n : Nat) (a : Int) (z : Int × Int × Int) (m : Mem), k < n → 0 ≤ a → a + k = pl 2 3 → Fr FRq m0 m → (∀ m', Fr FRq m0 m' → Rn (kk (chgO pl S k a z).1 (chgO pl S k a z).2.1 (chgO pl S k a z).2.2 m') Q) → Rn (lpF bo (pM_changed_L35b N c1 kk) n z.1 z.2.1 z.2.2 a m) Q := by
  intro k
  have hn := hg.num
  induction k with
  | zero =>
    intro n a z m hkn ha hx hf hk
    obtain ⟨n, rfl⟩ : ∃ n', n = n' + 1 := ⟨n - 1, by omega⟩
    have hq' := FRq_PQ hq hf
    show Rn (pM_changed_L35b N c1 kk (lpF bo (pM_changed_L35b N c1 kk) n) _ _ _ a m) Q
    generalize lpF bo (pM_changed_L35b N c1 kk) n = self
    unfold pM_changed_L35b
    rw [hq'.bk, hq' 480 _ (by unfold prc; omega), hr.2.2.2.1]
    refine rn_t hr.1 (rn_f (by omega) ?_)
    exact hk m hf
  | succ k ih =>
    intro n a z m hkn ha hx hf hk
    obtain ⟨n, rfl⟩ : ∃ n', n = n' + 1 := ⟨n - 1, by omega⟩
    have ih' := ih n (a + 1)
    have hq' := FRq_PQ hq hf
    show Rn (pM_changed_L35b N c1 kk (lpF bo (pM_changed_L35b N c1 kk) n) _ _ _ a m) Q
    generalize lpF bo (pM_changed_L35b N c1 kk) n = self at ih' ⊢
    unfold pM_changed_L35b
    rw [hq'.bk, hq' 480 _ (by unfold prc; omega), hr.2.2.2.1, w32_eq (x := a + 1) (by omega) (by omega)]
    refine rn_t hr.1 (rn_t (by omega) (rn_v ?_))
    unfold pM_changed_L55
    refine r_chI (m0 := m0) (S := S) hN hg hr hq hS hb hwk (by omega) (pl 2 3 - (a + 1)).toNat N (a + 1) z m (by omega) (by omega) (by omega) hf (fun m1 f1 => rn_v ?_)
    exact ih' _ m1 (by omega) (by omega) (by omega) f1 hk
theorem o_changed {N : Nat} {m : Mem} (hN : 2000 ≤ N) (hc : Core m) (ht : ITod (vP m) (vS m 38) m) (x : Int) : ∃ r m1 m2, pD_changed N m x = some (r, m1) ∧ pM_changed N m1 x = some (r, m2) ∧ OkU m m2 := by
  obtain ⟨-, -, -, -, ⟨hg, hr, hnm⟩, hst, -⟩ := id hc
  have hn := hg.num
  by_cases q : 0 ≤ x ∧ x ≤ 2
  · obtain ⟨m1, e1, k13, tk, it, f1⟩ := c_tlearn hN hg (vP_PE m) hst.1 ht
    have pe1 := FTd_PE (vP_PE m) f1
    obtain ⟨m2, e2, hv, it2, f2⟩ := c_findChange hN hg pe1 hst.1 k13 it
    have f12 := f1.trans f2
    have hc2 : Core m2 := hc.fr (fun b j q => f12 b j (FTd_CD q))
    have vp2 := FTd_vP f12
    have vs2 := FTd_vS f12
    obtain ⟨-, -, -, -, -, hst2, -, -, -, hwk2⟩ := id hc2
    rw [vp2] at hst2
    have hst2' := hst2.2
    rw [vs2] at hst2'
    have e3 := (vP_PQ m2)
    rw [vp2] at e3
    obtain ⟨G, hG⟩ : ∃ G, G = chgS (vP m) (vS m 38) := ⟨_, rfl⟩
    rw [← hG] at hv
    have v1 : m2 201 12 = G.1 := hv.1
    have v2 : m2 201 10 = G.2.1 := hv.2.1
    have v3 : G.2.1 ≠ -1 → m2 201 11 = G.2.2 := fun c => hv.2.2 (by show m2 201 10 ≠ -1; rw [v2]; exact c)
    have hD : pD_changed N m x = if G.2.1 = -1 then some (-1, m2) else if x = 2 then some (G.1, m2) else if x = 0 then some (G.2.1, m2) else some (m2 201 11, m2) := by
      unfold pD_changed
      rw [if_neg (by omega), if_neg (by omega), e1, Option.bind_some, e2, Option.bind_some, v1, v2]
    obtain ⟨⟨r, m3⟩, eM, hr3, f3⟩ : Rn (pM_changed N m2 x) (fun p => p.1 = (if G.2.1 = -1 then -1 else if x = 0 then G.2.1 else if x = 1 then G.2.2 else G.1) ∧ Fr FRq m2 p.2) := by
      unfold pM_changed
      refine rn_e (e_is _ _ _ _) ?_
      rw [if_pos q]
      refine rn_f (by omega) ?_
      refine rn_e (e_all hg hr e3) ?_
      have rq := rq_runs hN hc2
      rw [vp2, vs2] at rq
      refine rn_b2 (P := fun _ m4 => RW (vP m) m4 0 (allS (vP m 2 3)) (runS (vP m) (vS m 38) 1) ∧ Fr FRr m2 m4) (rn_q rq (fun r h => ⟨h.1, h.2.2.2⟩)) (fun r m4 h4 => ?_)
      dsimp only
      have f4 := FRr_q h4.2
      have hwb : WB (vP m) (runS (vP m) (vS m 38) 1) := WB.th hg 9 0 _ (WB.beg hg hst.1 (Or.inl rfl))
      refine rn_e (e_wrung hN hg hr (FRq_PQ e3 f4) hwb (fun i i0 i1 => (h4.1.2.1 i i0 i1).2.1)) ?_
      unfold pM_changed_L35
      refine r_chO (m0 := m2) (S := vS m 38) hN hg hr e3 hst2' hst.1 hwk2 (vP m 2 3).toNat N 0 (sumR (runS (vP m) (vS m 38) 1 5) (vP m 2 3).toNat, -1, -1) m4 (by omega) (by omega) (by omega) f4 (fun m5 f5 => ?_)
      rw [show chgO (vP m) (vS m 38) (vP m 2 3).toNat 0 (sumR (runS (vP m) (vS m 38) 1 5) (vP m 2 3).toNat, -1, -1) = G from hG.symm]
      by_cases q9 : G.2.1 = -1
      · exact rn_t q9 (rn_s ⟨by dsimp only; rw [if_pos q9], f5⟩)
      · refine rn_f q9 ?_
        by_cases q0 : x = 0
        · exact rn_t q0 (rn_s ⟨by dsimp only; rw [if_neg q9, if_pos q0], f5⟩)
        · refine rn_f q0 ?_
          by_cases q1 : x = 1
          · exact rn_t q1 (rn_s ⟨by dsimp only; rw [if_neg q9, if_neg q0, if_pos q1], f5⟩)
          · exact rn_f q1 (rn_s ⟨by dsimp only; rw [if_neg q9, if_neg q0, if_neg q1], f5⟩)
    dsimp only at hr3 f3
    refine ⟨r, m2, m3, ?_, eM, OkU.of hc it2 f12 f3⟩
    rw [hD, hr3]
    by_cases q9 : G.2.1 = -1
    · rw [if_pos q9, if_pos q9]
    · rw [if_neg q9, if_neg q9, v3 q9]
      rcases (show x = 0 ∨ x = 1 ∨ x = 2 by omega) with rfl | rfl | rfl <;> rfl
  · have hD : pD_changed N m x = some (-1, m) := by
      unfold pD_changed
      by_cases q3 : x < 0
      · rw [if_pos q3]
      · rw [if_neg q3, if_pos (by omega)]
    have hM : pM_changed N m x = some (-1, m) := by
      unfold pM_changed
      rw [e_is, if_neg q]
      rfl
    exact ⟨-1, m, m, hD, hM, OkU.rf hc ht⟩
