/-! TODAY: up, home (the component) -/
theorem betF_snd {v : Nat → Int} (hv : ∀ k, 0 ≤ v k) : ∀ k, -1 ≤ (betF v k).2 ∧ (0 < k → 0 ≤ (betF v k).2)
  | 0 => by unfold betF; exact ⟨by decide, fun h => absurd h (by decide)⟩
  | k + 1 => by
    have h1 := betF_snd hv k
    have h2 := hv k
    unfold betF
    split
    · exact ⟨by show -1 ≤ v k; omega, fun _ => h2⟩
    · rename_i q
      exact ⟨h1.1, fun _ => by omega⟩
theorem betF_fst {v : Nat → Int} (hv : ∀ k, 0 ≤ v k) : ∀ k, 0 < k → 0 ≤ (betF v k).1 ∧ (betF v k).1 < k
  | k + 1, _ => by
    have h2 := hv k
    unfold betF
    split
    · show 0 ≤ (k : Int) ∧ (k : Int) < _
      omega
    · rename_i q
      by_cases hk : 0 < k
      · have := betF_fst hv k hk
        omega
      · have e : k = 0 := by omega
        subst e
        unfold betF at q
        exact absurd (show -1 < v 0 by omega) q
theorem WB.set2 {pl W : Mem} {i x : Int} (hb : WB pl W) (hx : 0 ≤ x ∧ x ≤ 8) : WB pl (mset W 2 i x) := by
  refine ⟨fun p h0 h1 => ?_, fun k h0 h1 => ?_, ?_⟩
  · rw [mset_o (by omega)]; exact hb.1 p h0 h1
  · have h := hb.2.1 k h0 h1
    simp (disch := omega) only [mset_o]
    refine ⟨h.1, h.2.1, h.2.2.1, ?_⟩
    by_cases q : k = i
    · rw [mset_s rfl q]; exact hx
    · rw [mset_o (by omega)]; exact h.2.2.2
  · rw [mset_o (by omega)]; exact hb.2.2
theorem WB.set4 {pl W : Mem} {i x : Int} (hb : WB pl W) (hx : 0 ≤ x ∧ x < pl 2 2) : WB pl (mset W 4 i x) := by
  refine ⟨fun p h0 h1 => ?_, fun k h0 h1 => ?_, ?_⟩
  · rw [mset_o (by omega)]; exact hb.1 p h0 h1
  · have h := hb.2.1 k h0 h1
    simp (disch := omega) only [mset_o]
    refine ⟨?_, h.2.1, h.2.2.1, h.2.2.2⟩
    by_cases q : k = i
    · rw [mset_s rfl q]; exact hx
    · rw [mset_o (by omega)]; exact h.1
  · rw [mset_o (by omega)]; exact hb.2.2
/-- how much more cells FTd frees once the dawn stands -/
def FTe : Int → Int → Prop := fun b _ => (242 ≤ b ∧ b ≤ 249) ∨ b = 11 ∨ b = 14 ∨ b = 17
theorem c_fRise_L {N : Nat} {Q : Mem → Prop} {kk : Mem → Option Mem} {bo : Int → Mem → Option Mem} {pl S m0 : Mem} {i : Int} (hN : 2000 ≤ N) (hg : PG pl) (hb : SB pl S) (hi : 0 ≤ i ∧ i < pl 2 3) (hk : ∀ m', (m' 232 i, m' 233 i) = betF (riseV pl S i) (9 : Int).toNat → vW m' 236 = begS pl S 1 → Fr (fun b j => FTe b j ∨ (b = 232 ∧ j = i) ∨ (b = 233 ∧ j = i)) m0 m' → Rn (kk m') Q) :
    ∀ (k n : Nat) (x : Int) (m : Mem), k < n → 0 ≤ x → x + k = (9 : Int) → PE pl m → vW m 236 = begS pl S 1 → (m 232 i, m 233 i) = betF (riseV pl S i) x.toNat → Fr (fun b j => FTe b j ∨ (b = 232 ∧ j = i) ∨ (b = 233 ∧ j = i)) m0 m → Rn (lpF bo (pT_findRise_L20b N i kk) n x m) Q := by
  intro k
  have hn := hg.num
  have hbg := WB.beg hg hb (t := 1) (Or.inl rfl)
  induction k with
  | zero =>
    intro n x m hkn h0 hx he h6 hv hf
    obtain ⟨n, rfl⟩ : ∃ n', n = n' + 1 := ⟨n - 1, by omega⟩
    show Rn (pT_findRise_L20b N i kk (lpF bo (pT_findRise_L20b N i kk) n) x m) Q
    generalize lpF bo (pT_findRise_L20b N i kk) n = self
    unfold pT_findRise_L20b
    refine rn_f (by (try rw [he.d]); omega) ?_
    refine hk m ?_ h6 hf
    rw [hv, show x = (9 : Int) by omega]
  | succ k ih =>
    intro n x m hkn h0 hx he h6 hv hf
    obtain ⟨n, rfl⟩ : ∃ n', n = n' + 1 := ⟨n - 1, by omega⟩
    have ih' := ih n (x + 1)
    show Rn (pT_findRise_L20b N i kk (lpF bo (pT_findRise_L20b N i kk) n) x m) Q
    generalize lpF bo (pT_findRise_L20b N i kk) n = self at ih' ⊢
    unfold pT_findRise_L20b
    refine rn_t (by (try rw [he.d]); omega) ?_
    refine rn_b (c_copyW (d := 243) (s := 236) (by omega)) (fun m1 hm1 => ?_)
    refine rn_t (by omega) (rn_l (fun m2 hm2 => ?_))
    have hv2 : vW m2 243 = mset (begS pl S 1) 2 i x := by
      rw [hm2, show (245 : Int) = 243 + 2 from rfl, vW_set (by omega), hm1.1, h6]
    have f2 : Fr FTe m m2 := by
      rw [hm2]
      exact (hm1.2.mono (fun b j q => by unfold FC at q; unfold FTe; omega)).set (by unfold FTe; omega)
    clear hm2
    have he2 : PE pl m2 := he.fr f2 (fun b j q => by unfold plc at q; unfold FTe; omega)
    refine rn_b (c_thr (a := 243) (h := 0) (e := 9) hN hg (by omega) (by omega) he2 (by rw [hv2]; exact (hbg.set2 (by omega))) (by omega)) (fun m3 hm3 => ?_)
    have f3 : Fr FTe m m3 := f2.trans (hm3.2.mono (fun b j q => by unfold FW at q; unfold FTe; omega))
    have ex : ((x.toNat : Nat) : Int) = x := by omega
    have hval : m3 248 i = riseV pl S i x.toNat := by
      have e : vW m3 243 5 i = m3 248 i := vW_in (by omega)
      rw [← e, hm3.1, hv2]
      unfold riseV
      rw [ex]
      rfl
    have gA : m3 232 i = m 232 i := f3 _ _ (by unfold FTe; omega)
    have gB : m3 233 i = m 233 i := f3 _ _ (by unfold FTe; omega)
    have eA : m 232 i = (betF (riseV pl S i) x.toNat).1 := by rw [← hv]
    have eB : m 233 i = (betF (riseV pl S i) x.toNat).2 := by rw [← hv]
    have hnx : betF (riseV pl S i) (x + 1).toNat = if (betF (riseV pl S i) x.toNat).2 < riseV pl S i x.toNat then (x, riseV pl S i x.toNat) else betF (riseV pl S i) x.toNat := by
      rw [show (x + 1).toNat = x.toNat + 1 by omega]
      show (if (betF (riseV pl S i) x.toNat).2 < riseV pl S i x.toNat then (((x.toNat : Nat) : Int), riseV pl S i x.toNat) else betF (riseV pl S i) x.toNat) = _
      rw [ex]
    have h63 : ∀ m', Fr (fun b j => (b = 232 ∧ j = i) ∨ (b = 233 ∧ j = i)) m3 m' → vW m' 236 = begS pl S 1 := fun m' f => by
      rw [show vW m' 236 = vW m 236 from vW_fr (fun b j q1 q2 _ => by rw [f _ _ (by omega), f3 _ _ (by unfold FTe; omega)])]
      exact h6
    have F3 : Fr (fun b j => FTe b j ∨ (b = 232 ∧ j = i) ∨ (b = 233 ∧ j = i)) m m3 := f3.mono (fun b j q => Or.inl q)
    refine rn_t (by omega) (rn_t (by omega) ?_)
    rw [hval, gB, eB]
    refine rn_i (fun q => ?_) (fun q => ?_)
    · refine rn_t (by omega) (rn_t (by omega) (rn_v ?_))
      refine rn_t (by omega) (rn_v (rn_v ?_))
      rw [w32_eq (x := x + 1) (by omega) (by omega)]
      have f4 : Fr (fun b j => (b = 232 ∧ j = i) ∨ (b = 233 ∧ j = i)) m3 (mset (mset m3 233 i (riseV pl S i x.toNat)) 232 i x) := (Fr.rfl'.set (by omega)).set (by omega)
      refine ih' _ (by omega) (by omega) (by omega) ?_ (h63 _ f4) ?_ (hf.trans (F3.trans (f4.mono (fun b j q => Or.inr q))))
      · exact (he.fr F3 (fun b j q => by unfold plc at q; unfold FTe; omega)).fr f4 (fun b j q => by unfold plc at q; omega)
      · rw [hnx, if_pos q, mset_s rfl rfl, mset_o (by omega), mset_s rfl rfl]
    · refine rn_v ?_
      rw [w32_eq (x := x + 1) (by omega) (by omega)]
      refine ih' m3 (by omega) (by omega) (by omega) (he.fr F3 (fun b j q => by unfold plc at q; unfold FTe; omega)) (h63 m3 Fr.rfl') ?_ (hf.trans F3)
      rw [hnx, if_neg q, gA, gB, eA, eB]
theorem c_fHome_L {N : Nat} {Q : Mem → Prop} {kk : Mem → Option Mem} {bo : Int → Mem → Option Mem} {pl S m0 : Mem} {i : Int} (hN : 2000 ≤ N) (hg : PG pl) (hb : SB pl S) (hi : 0 ≤ i ∧ i < pl 2 3) (hk : ∀ m', (m' 234 i, m' 235 i) = betF (homeV pl S i) (pl 2 2 : Int).toNat → vW m' 236 = begS pl S 1 → Fr (fun b j => FTe b j ∨ (b = 234 ∧ j = i) ∨ (b = 235 ∧ j = i)) m0 m' → Rn (kk m') Q) :
    ∀ (k n : Nat) (x : Int) (m : Mem), k < n → 0 ≤ x → x + k = (pl 2 2 : Int) → PE pl m → vW m 236 = begS pl S 1 → (m 234 i, m 235 i) = betF (homeV pl S i) x.toNat → Fr (fun b j => FTe b j ∨ (b = 234 ∧ j = i) ∨ (b = 235 ∧ j = i)) m0 m → Rn (lpF bo (pT_findHome_L20b N i kk) n x m) Q := by
  intro k
  have hn := hg.num
  have hbg := WB.beg hg hb (t := 1) (Or.inl rfl)
  induction k with
  | zero =>
    intro n x m hkn h0 hx he h6 hv hf
    obtain ⟨n, rfl⟩ : ∃ n', n = n' + 1 := ⟨n - 1, by omega⟩
    show Rn (pT_findHome_L20b N i kk (lpF bo (pT_findHome_L20b N i kk) n) x m) Q
    generalize lpF bo (pT_findHome_L20b N i kk) n = self
    unfold pT_findHome_L20b
    refine rn_f (by (try rw [he.d]); omega) ?_
    refine hk m ?_ h6 hf
    rw [hv, show x = (pl 2 2 : Int) by omega]
  | succ k ih =>
    intro n x m hkn h0 hx he h6 hv hf
    obtain ⟨n, rfl⟩ : ∃ n', n = n' + 1 := ⟨n - 1, by omega⟩
    have ih' := ih n (x + 1)
    show Rn (pT_findHome_L20b N i kk (lpF bo (pT_findHome_L20b N i kk) n) x m) Q
    generalize lpF bo (pT_findHome_L20b N i kk) n = self at ih' ⊢
    unfold pT_findHome_L20b
    refine rn_t (by (try rw [he.d]); omega) ?_
    refine rn_b (c_copyW (d := 243) (s := 236) (by omega)) (fun m1 hm1 => ?_)
    refine rn_t (by omega) (rn_l (fun m2 hm2 => ?_))
    have hv2 : vW m2 243 = mset (begS pl S 1) 4 i x := by
      rw [hm2, show (247 : Int) = 243 + 4 from rfl, vW_set (by omega), hm1.1, h6]
    have f2 : Fr FTe m m2 := by
      rw [hm2]
      exact (hm1.2.mono (fun b j q => by unfold FC at q; unfold FTe; omega)).set (by unfold FTe; omega)
    clear hm2
    have he2 : PE pl m2 := he.fr f2 (fun b j q => by unfold plc at q; unfold FTe; omega)
    refine rn_b (c_thr (a := 243) (h := 0) (e := 9) hN hg (by omega) (by omega) he2 (by rw [hv2]; exact (hbg.set4 (by omega))) (by omega)) (fun m3 hm3 => ?_)
    have f3 : Fr FTe m m3 := f2.trans (hm3.2.mono (fun b j q => by unfold FW at q; unfold FTe; omega))
    have ex : ((x.toNat : Nat) : Int) = x := by omega
    have hval : m3 248 i = homeV pl S i x.toNat := by
      have e : vW m3 243 5 i = m3 248 i := vW_in (by omega)
      rw [← e, hm3.1, hv2]
      unfold homeV
      rw [ex]
      rfl
    have gA : m3 234 i = m 234 i := f3 _ _ (by unfold FTe; omega)
    have gB : m3 235 i = m 235 i := f3 _ _ (by unfold FTe; omega)
    have eA : m 234 i = (betF (homeV pl S i) x.toNat).1 := by rw [← hv]
    have eB : m 235 i = (betF (homeV pl S i) x.toNat).2 := by rw [← hv]
    have hnx : betF (homeV pl S i) (x + 1).toNat = if (betF (homeV pl S i) x.toNat).2 < homeV pl S i x.toNat then (x, homeV pl S i x.toNat) else betF (homeV pl S i) x.toNat := by
      rw [show (x + 1).toNat = x.toNat + 1 by omega]
      show (if (betF (homeV pl S i) x.toNat).2 < homeV pl S i x.toNat then (((x.toNat : Nat) : Int), homeV pl S i x.toNat) else betF (homeV pl S i) x.toNat) = _
      rw [ex]
    have h63 : ∀ m', Fr (fun b j => (b = 234 ∧ j = i) ∨ (b = 235 ∧ j = i)) m3 m' → vW m' 236 = begS pl S 1 := fun m' f => by
      rw [show vW m' 236 = vW m 236 from vW_fr (fun b j q1 q2 _ => by rw [f _ _ (by omega), f3 _ _ (by unfold FTe; omega)])]
      exact h6
    have F3 : Fr (fun b j => FTe b j ∨ (b = 234 ∧ j = i) ∨ (b = 235 ∧ j = i)) m m3 := f3.mono (fun b j q => Or.inl q)
    refine rn_t (by omega) (rn_t (by omega) ?_)
    rw [hval, gB, eB]
    refine rn_i (fun q => ?_) (fun q => ?_)
    · refine rn_t (by omega) (rn_t (by omega) (rn_v ?_))
      refine rn_t (by omega) (rn_v (rn_v ?_))
      rw [w32_eq (x := x + 1) (by omega) (by omega)]
      have f4 : Fr (fun b j => (b = 234 ∧ j = i) ∨ (b = 235 ∧ j = i)) m3 (mset (mset m3 235 i (homeV pl S i x.toNat)) 234 i x) := (Fr.rfl'.set (by omega)).set (by omega)
      refine ih' _ (by omega) (by omega) (by omega) ?_ (h63 _ f4) ?_ (hf.trans (F3.trans (f4.mono (fun b j q => Or.inr q))))
      · exact (he.fr F3 (fun b j q => by unfold plc at q; unfold FTe; omega)).fr f4 (fun b j q => by unfold plc at q; omega)
      · rw [hnx, if_pos q, mset_s rfl rfl, mset_o (by omega), mset_s rfl rfl]
    · refine rn_v ?_
      rw [w32_eq (x := x + 1) (by omega) (by omega)]
      refine ih' m3 (by omega) (by omega) (by omega) (he.fr F3 (fun b j q => by unfold plc at q; unfold FTe; omega)) (h63 m3 Fr.rfl') ?_ (hf.trans F3)
      rw [hnx, if_neg q, gA, gB, eA, eB]
theorem riseV_nn {pl S : Mem} (hg : PG pl) (hb : SB pl S) {i : Int} (hi : 0 ≤ i ∧ i < pl 2 3) {k : Nat} (hk : k ≤ 8) : 0 ≤ riseV pl S i k ∧ riseV pl S i k ≤ 99 := by
  have h := (WB.th hg 9 0 _ ((WB.beg hg hb (t := 1) (Or.inl rfl)).set2 (i := i) (x := k) (by omega))).2.1 i hi.1 hi.2
  unfold riseV
  omega
theorem homeV_nn {pl S : Mem} (hg : PG pl) (hb : SB pl S) {i : Int} (hi : 0 ≤ i ∧ i < pl 2 3) {k : Nat} (hk : (k : Int) < pl 2 2) : 0 ≤ homeV pl S i k ∧ homeV pl S i k ≤ 99 := by
  have h := (WB.th hg 9 0 _ ((WB.beg hg hb (t := 1) (Or.inl rfl)).set4 (i := i) (x := k) (by omega))).2.1 i hi.1 hi.2
  unfold homeV
  omega
theorem betF_rng {v : Nat → Int} {B : Nat} (hv : ∀ k, k < B → 0 ≤ v k) : ∀ k, k ≤ B → (k = 0 → betF v k = (-1, -1)) ∧ (0 < k → (0 ≤ (betF v k).1 ∧ (betF v k).1 < k) ∧ 0 ≤ (betF v k).2)
  | 0, _ => ⟨fun _ => rfl, fun h => absurd h (by decide)⟩
  | k + 1, hk => by
    have h1 := betF_rng hv k (by omega)
    have h2 := hv k (by omega)
    refine ⟨fun h => by omega, fun _ => ?_⟩
    unfold betF
    split
    · show (0 ≤ (k : Int) ∧ (k : Int) < ((k + 1 : Nat) : Int)) ∧ 0 ≤ v k
      omega
    · rename_i q
      by_cases h0 : k = 0
      · rw [h1.1 h0] at q
        exact absurd (show (-1 : Int) < v k by omega) q
      · have h3 := h1.2 (by omega)
        exact ⟨⟨h3.1.1, by omega⟩, h3.2⟩
theorem c_findRise {N : Nat} {pl S m : Mem} {i : Int} (hN : 2000 ≤ N) (hg : PG pl) (he : PE pl m) (hb : SB pl S) (hi : 0 ≤ i ∧ i < pl 2 3) (h13 : m 201 13 = 1) (ht : ITod pl S m) : Rn (pT_findRise N m i) (fun m' => (m' 232 i, m' 233 i) = betF (riseV pl S i) 9 ∧ ITod pl S m' ∧ Fr FTd m m') := by
  have hn := hg.num
  rcases ht with h | ⟨h1, h2, h3, h4, h5⟩
  · omega
  unfold pT_findRise
  refine rn_t (by omega) ?_
  refine rn_i (fun q => ?_) (fun q => ?_)
  · refine rn_t (by omega) (rn_v ?_)
    unfold pT_findRise_L20
    have f1 : Fr (fun b j => FTe b j ∨ (b = 232 ∧ j = i) ∨ (b = 233 ∧ j = i)) m (mset m 233 i (-1)) := Fr.rfl'.set (by omega)
    refine c_fRise_L (m0 := m) (S := S) hN hg hb hi (fun m' hv h6 f => rn_s ⟨hv, ?_, f.mono (fun b j q => by unfold FTe at q; unfold FTd; omega)⟩) 9 N 0 _ (by omega) (by omega) (by omega) (he.fr f1 (fun b j q => by unfold plc at q; unfold FTe; omega)) ?_ ?_ f1
    · rw [show vW (mset m 233 i (-1)) 236 = vW m 236 from vW_fr (fun b j q1 q2 _ => mset_o (by omega))]
      exact h2.1
    · rw [mset_o (by omega), mset_s rfl rfl, q]
      rfl
    · have e : ∀ j, m' 201 j = m 201 j := fun j => f _ _ (by unfold FTe; omega)
      have e4 : ∀ j, m' 234 j = m 234 j := fun j => f _ _ (by unfold FTe; omega)
      have e5 : ∀ j, m' 235 j = m 235 j := fun j => f _ _ (by unfold FTe; omega)
      refine Or.inr ⟨by rw [e]; exact h1, h2.fr (fun b j q1 q2 q3 => f b j (by unfold FTe; omega)), fun k k0 k1 => ?_, fun k k0 k1 => by rw [e4, e5]; exact h4 k k0 k1, by simp only [e]; exact h5⟩
      by_cases qk : k = i
      · rw [qk]; exact Or.inr hv
      · rw [f 232 k (by unfold FTe; omega), f 233 k (by unfold FTe; omega)]; exact h3 k k0 k1
  · refine rn_s ⟨?_, Or.inr ⟨h1, h2, h3, h4, h5⟩, Fr.rfl'⟩
    exact (h3 i hi.1 hi.2).resolve_left q
theorem c_findHome {N : Nat} {pl S m : Mem} {i : Int} (hN : 2000 ≤ N) (hg : PG pl) (he : PE pl m) (hb : SB pl S) (hi : 0 ≤ i ∧ i < pl 2 3) (h13 : m 201 13 = 1) (ht : ITod pl S m) : Rn (pT_findHome N m i) (fun m' => (m' 234 i, m' 235 i) = betF (homeV pl S i) (pl 2 2).toNat ∧ ITod pl S m' ∧ Fr FTd m m') := by
  have hn := hg.num
  rcases ht with h | ⟨h1, h2, h3, h4, h5⟩
  · omega
  unfold pT_findHome
  refine rn_t (by omega) ?_
  refine rn_i (fun q => ?_) (fun q => ?_)
  · refine rn_t (by omega) (rn_v ?_)
    unfold pT_findHome_L20
    have f1 : Fr (fun b j => FTe b j ∨ (b = 234 ∧ j = i) ∨ (b = 235 ∧ j = i)) m (mset m 235 i (-1)) := Fr.rfl'.set (by omega)
    refine c_fHome_L (m0 := m) (S := S) hN hg hb hi (fun m' hv h6 f => rn_s ⟨hv, ?_, f.mono (fun b j q => by unfold FTe at q; unfold FTd; omega)⟩) (pl 2 2).toNat N 0 _ (by omega) (by omega) (by omega) (he.fr f1 (fun b j q => by unfold plc at q; unfold FTe; omega)) ?_ ?_ f1
    · rw [show vW (mset m 235 i (-1)) 236 = vW m 236 from vW_fr (fun b j q1 q2 _ => mset_o (by omega))]
      exact h2.1
    · rw [mset_o (by omega), mset_s rfl rfl, q]
      rfl
    · have e : ∀ j, m' 201 j = m 201 j := fun j => f _ _ (by unfold FTe; omega)
      have e4 : ∀ j, m' 232 j = m 232 j := fun j => f _ _ (by unfold FTe; omega)
      have e5 : ∀ j, m' 233 j = m 233 j := fun j => f _ _ (by unfold FTe; omega)
      refine Or.inr ⟨by rw [e]; exact h1, h2.fr (fun b j q1 q2 q3 => f b j (by unfold FTe; omega)), fun k k0 k1 => by rw [e4, e5]; exact h3 k k0 k1, fun k k0 k1 => ?_, by simp only [e]; exact h5⟩
      by_cases qk : k = i
      · rw [qk]; exact Or.inr hv
      · rw [f 234 k (by unfold FTe; omega), f 235 k (by unfold FTe; omega)]; exact h4 k k0 k1
  · refine rn_s ⟨?_, Or.inr ⟨h1, h2, h3, h4, h5⟩, Fr.rfl'⟩
    exact (h4 i hi.1 hi.2).resolve_left q
