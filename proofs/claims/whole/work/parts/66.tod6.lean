/-! TODAY: changed -/
theorem WB.swp {pl S : Mem} {a b : Int} (hg : PG pl) (hb : SB pl S) (ha : 0 ≤ a ∧ a < pl 2 3) (hbb : 0 ≤ b ∧ b < pl 2 3) : WB pl (swpW pl S a b) := by
  have h0 := WB.beg hg hb (t := 1) (Or.inl rfl)
  have sa := (hb.2.1 a ha.1 ha.2).2.2.1
  have sb := (hb.2.1 b hbb.1 hbb.2).2.2.1
  unfold swpW
  refine ⟨fun p p0 p1 => ?_, fun k k0 k1 => ?_, ?_⟩
  · rw [mset_o (by omega), mset_o (by omega)]; exact h0.1 p p0 p1
  · have h := h0.2.1 k k0 k1
    have e5 : begS pl S 1 5 k = 0 := by unfold begS begP; simp (disch := omega) only [if_neg]
    simp (disch := omega) only [mset_o]
    rw [e5]
    refine ⟨h.1, ⟨by omega, ?_⟩, ?_, h.2.2.2⟩
    · by_cases q : k = b
      · rw [mset_s rfl q]; omega
      · rw [mset_o (by omega)]
        by_cases q2 : k = a
        · rw [mset_s rfl q2]; omega
        · rw [mset_o (by omega)]; omega
    · by_cases q : k = b
      · rw [mset_s rfl q]; omega
      · rw [mset_o (by omega)]
        by_cases q2 : k = a
        · rw [mset_s rfl q2]; omega
        · rw [mset_o (by omega)]; exact h.2.2.1
  · rw [mset_o (by omega), mset_o (by omega)]; exact h0.2.2
theorem beg_sheet {pl S : Mem} {i : Int} (hi : 0 ≤ i ∧ i < 6) : begS pl S 1 3 i = S 4 i := by
  unfold begS begP
  simp (disch := omega) only [if_neg, if_pos, true_and]
def FTc : Int → Int → Prop := fun b j => FTe b j ∨ (b = 201 ∧ 10 ≤ j ∧ j ≤ 12)
def z3 (m : Mem) : Int × Int × Int := (m 201 12, m 201 10, m 201 11)
theorem c_tryC {N : Nat} {pl S m : Mem} {a b : Int} (hN : 2000 ≤ N) (hg : PG pl) (he : PE pl m) (hb : SB pl S) (h6 : vW m 236 = begS pl S 1) (ha : 0 ≤ a ∧ a < pl 2 3) (hbb : 0 ≤ b ∧ b < pl 2 3) (hab : a ≠ b) : Rn (pT_tryChange N m a b) (fun m' => z3 m' = (if (z3 m).1 < swpV pl S a b then (swpV pl S a b, a, b) else z3 m) ∧ vW m' 236 = begS pl S 1 ∧ Fr FTc m m') := by
  have hn := hg.num
  have l248 : ln 248 = 6 := by decide +kernel
  unfold pT_tryChange
  refine rn_b (c_copyW (d := 243) (s := 236) (by omega)) (fun m1 hm1 => ?_)
  refine rn_t (by omega) (rn_t (by omega) ?_)
  have d1 : ∀ i, 0 ≤ i → i < 6 → m1 239 i = S 4 i := fun i i0 i1 => by
    rw [hm1.2 _ _ (by unfold FC; omega)]
    have e : vW m 236 3 i = m 239 i := vW_in (by omega)
    rw [← e, h6, beg_sheet ⟨i0, i1⟩]
  rw [d1 b (by omega) (by omega)]
  refine rn_v (rn_t (by omega) (rn_t (by omega) ?_))
  rw [mset_o (by omega), d1 a (by omega) (by omega)]
  refine rn_l (fun m2 hm2 => ?_)
  have hv2 : vW m2 243 = swpW pl S a b := by
    rw [hm2, show (246 : Int) = 243 + 3 from rfl, vW_set (by omega), vW_set (by omega), hm1.1, h6]
    rfl
  have f2 : Fr FTe m m2 := by
    rw [hm2]
    exact ((hm1.2.mono (fun b j q => by unfold FC at q; unfold FTe; omega)).set (by unfold FTe; omega)).set (by unfold FTe; omega)
  clear hm2
  have he2 : PE pl m2 := he.fr f2 (fun b j q => by unfold plc at q; unfold FTe; omega)
  have hws := WB.swp hg hb ha hbb
  refine rn_b (c_thr (a := 243) (h := 0) (e := 9) hN hg (by omega) (by omega) he2 (by rw [hv2]; exact hws) (by omega)) (fun m3 hm3 => ?_)
  have f3 : Fr FTe m m3 := f2.trans (hm3.2.mono (fun b j q => by unfold FW at q; unfold FTe; omega))
  have he3 : PE pl m3 := he.fr f3 (fun b j q => by unfold plc at q; unfold FTe; omega)
  have h5 : ∀ i, 0 ≤ i → i < 6 → m3 248 i = thS pl 9 0 (swpW pl S a b) 5 i := fun i i0 i1 => by
    have e : vW m3 243 5 i = m3 248 i := vW_in (by omega)
    rw [← e, hm3.1, hv2]
    rfl
  have hwb := WB.th hg 9 0 _ hws
  have etot : pW_wrungByAll N m3 243 = some (swpV pl S a b) := by
    unfold pW_wrungByAll
    rw [he3.d 3, show (243 : Int) + 5 = 248 from rfl, c_tot hN (by rw [l248]; omega) (by omega) (fun i i0 i1 => by rw [h5 i i0 (by omega)]; have := (hwb.2.1 i i0 i1).2; omega)]
    show some (sumR (m3 248) (pl 2 3).toNat) = _
    unfold swpV
    rw [sumR_eq (r' := thS pl 9 0 (swpW pl S a b) 5) (P := (pl 2 3).toNat) (fun i i0 i1 => h5 i i0 (by omega)) _ (Nat.le_refl _)]
  have hz : z3 m3 = z3 m := by
    unfold z3
    rw [f3 201 12 (by unfold FTe; omega), f3 201 10 (by unfold FTe; omega), f3 201 11 (by unfold FTe; omega)]
  have h63 : ∀ m', Fr (fun b j => b = 201 ∧ 10 ≤ j ∧ j ≤ 12) m3 m' → vW m' 236 = begS pl S 1 := fun m' f => by
    rw [show vW m' 236 = vW m 236 from vW_fr (fun b j q1 q2 _ => by rw [f _ _ (by omega), f3 _ _ (by unfold FTe; omega)])]
    exact h6
  refine rn_e etot ?_
  rw [show m3 201 12 = (z3 m3).1 from rfl, hz]
  refine rn_i (fun q => ?_) (fun q => ?_)
  · refine rn_e etot (rn_v (rn_v (rn_v (rn_s ⟨?_, ?_, ?_⟩))))
    · rw [if_pos q]
      unfold z3
      simp (disch := omega) only [mset_o, mset_s]
    · exact h63 _ (((Fr.rfl'.set (by omega)).set (by omega)).set (by omega))
    · exact (((f3.mono (fun b j q => Or.inl q)).set (Or.inr (by omega))).set (Or.inr (by omega))).set (Or.inr (by omega))
  · refine rn_s ⟨?_, h63 m3 Fr.rfl', f3.mono (fun b j q => Or.inl q)⟩
    rw [if_neg q]
    exact hz
theorem c_chI {N : Nat} {Q : Mem → Prop} {kk : Mem → Option Mem} {bo : Int → Mem → Option Mem} {pl S m0 : Mem} {a : Int} (hN : 2000 ≤ N) (hg : PG pl) (hb : SB pl S) (ha : 0 ≤ a ∧ a < pl 2 3) :
    ∀ (k n : Nat) (b : Int) (m : Mem), k < n → a < b → b + k = pl 2 3 → PE pl m → vW m 236 = begS pl S 1 → Fr FTc m0 m → (∀ m', z3 m' = chgI pl S a k b (z3 m) → vW m' 236 = begS pl S 1 → Fr FTc m0 m' → Rn (kk m') Q) → Rn (lpF bo (pT_findChange_L56b N a kk) n b m) Q := by
  intro k
  have hn := hg.num
  induction k with
  | zero =>
    intro n b m hkn hab hx he h6 hf hk
    obtain ⟨n, rfl⟩ : ∃ n', n = n' + 1 := ⟨n - 1, by omega⟩
    show Rn (pT_findChange_L56b N a kk (lpF bo (pT_findChange_L56b N a kk) n) b m) Q
    generalize lpF bo (pT_findChange_L56b N a kk) n = self
    unfold pT_findChange_L56b
    refine rn_f (by rw [he.d]; omega) ?_
    exact hk m rfl h6 hf
  | succ k ih =>
    intro n b m hkn hab hx he h6 hf hk
    obtain ⟨n, rfl⟩ : ∃ n', n = n' + 1 := ⟨n - 1, by omega⟩
    have ih' := ih n (b + 1)
    show Rn (pT_findChange_L56b N a kk (lpF bo (pT_findChange_L56b N a kk) n) b m) Q
    generalize lpF bo (pT_findChange_L56b N a kk) n = self at ih' ⊢
    unfold pT_findChange_L56b
    refine rn_t (by rw [he.d]; omega) ?_
    refine rn_b (c_tryC hN hg he hb h6 ha (by omega) (by omega)) (fun m1 h1 => ?_)
    refine rn_v ?_
    rw [w32_eq (x := b + 1) (by omega) (by omega)]
    refine ih' m1 (by omega) (by omega) (by omega) (he.fr h1.2.2 (fun b j q => by unfold plc at q; unfold FTc FTe; omega)) h1.2.1 (hf.trans h1.2.2) (fun m' hz h6' f' => hk m' ?_ h6' f')
    rw [hz, h1.1]
    rfl
theorem c_chO {N : Nat} {Q : Mem → Prop} {kk : Mem → Option Mem} {bo : Int → Mem → Option Mem} {pl S m0 : Mem} (hN : 2000 ≤ N) (hg : PG pl) (hb : SB pl S) :
    ∀ (k n : Nat) (a : Int) (m : Mem), k < n → 0 ≤ a → a + k = pl 2 3 → PE pl m → vW m 236 = begS pl S 1 → Fr FTc m0 m → (∀ m', z3 m' = chgO pl S k a (z3 m) → vW m' 236 = begS pl S 1 → Fr FTc m0 m' → Rn (kk m') Q) → Rn (lpF bo (pT_findChange_L41b N kk) n a m) Q := by
  intro k
  have hn := hg.num
  induction k with
  | zero =>
    intro n a m hkn ha hx he h6 hf hk
    obtain ⟨n, rfl⟩ : ∃ n', n = n' + 1 := ⟨n - 1, by omega⟩
    show Rn (pT_findChange_L41b N kk (lpF bo (pT_findChange_L41b N kk) n) a m) Q
    generalize lpF bo (pT_findChange_L41b N kk) n = self
    unfold pT_findChange_L41b
    refine rn_f (by rw [he.d]; omega) ?_
    exact hk m rfl h6 hf
  | succ k ih =>
    intro n a m hkn ha hx he h6 hf hk
    obtain ⟨n, rfl⟩ : ∃ n', n = n' + 1 := ⟨n - 1, by omega⟩
    have ih' := ih n (a + 1)
    show Rn (pT_findChange_L41b N kk (lpF bo (pT_findChange_L41b N kk) n) a m) Q
    generalize lpF bo (pT_findChange_L41b N kk) n = self at ih' ⊢
    unfold pT_findChange_L41b
    refine rn_t (by rw [he.d]; omega) (rn_v ?_)
    rw [w32_eq (x := a + 1) (by omega) (by omega)]
    unfold pT_findChange_L56
    refine c_chI (m0 := m0) (S := S) hN hg hb (by omega) (pl 2 3 - (a + 1)).toNat N (a + 1) m (by omega) (by omega) (by omega) he h6 hf (fun m1 hz h61 f1 => ?_)
    refine rn_v ?_
    rw [w32_eq (x := a + 1) (by omega) (by omega)]
    refine ih' m1 (by omega) (by omega) (by omega) ?_ h61 f1 (fun m' hz' h6' f' => hk m' ?_ h6' f')
    · sorry
    · rw [hz', hz]
      rfl
