/-! ACTS: days -/
def dayK (pl : Mem) : Nat → Int × Mem → Int × Mem
  | 0, z => z
  | k + 1, z => dayK pl k (z.1 + sumR (runS pl z.2 1 5) (pl 2 3).toNat, livS pl z.2 1)
theorem run_sum {pl S : Mem} {t : Int} (hg : PG pl) (hb : SB pl S) (ht : t = 1 ∨ t = 2) : 0 ≤ sumR (runS pl S t 5) (pl 2 3).toNat ∧ sumR (runS pl S t 5) (pl 2 3).toNat ≤ 64000 := by
  have hn := hg.num
  have hw := WB.runS hg hb ht
  have h := sumR_in (row := runS pl S t 5) (P := (pl 2 3).toNat) (fun i h0 h1 => by have := (hw.2.1 i h0 (by omega)).2; omega) (pl 2 3).toNat (Nat.le_refl _)
  omega
theorem c_days_L {N : Nat} {Q : Int × Mem → Prop} {kk : Int → Mem → Option (Int × Mem)} {bo : Int → Int → Mem → Option (Int × Mem)} {pl m0 : Mem} {c1 : Int} (hN : 2000 ≤ N) (hg : PG pl) (ho : ∀ i, 0 ≤ i → i < pl 2 3 → 0 ≤ pl 8 i ∧ pl 8 i ≤ 99) (he : PE pl m0) (hc : c1 ≤ 40) :
    ∀ (k n : Nat) (x : Int) (z : Int × Mem) (m : Mem), k < n → 0 ≤ x → x + k = c1 → vS m 38 = z.2 → SB pl z.2 → (0 ≤ z.1 ∧ z.1 ≤ 64000 * x) → Fr (FLv 194 38) m0 m → (∀ m', vS m' 38 = (dayK pl k z).2 → SB pl (dayK pl k z).2 → Fr (FLv 194 38) m0 m' → Rn (kk (dayK pl k z).1 m') Q) → Rn (lpF bo (pD_days_L27b N c1 kk) n z.1 x m) Q := by
  have l199 : ln (194 + 5) = 6 := by decide +kernel
  intro k
  induction k with
  | zero =>
    intro n x z m hkn h0 hx hv hb ha hf hk
    obtain ⟨n, rfl⟩ : ∃ n', n = n' + 1 := ⟨n - 1, by omega⟩
    show Rn (pD_days_L27b N c1 kk (lpF bo (pD_days_L27b N c1 kk) n) _ x m) Q
    generalize lpF bo (pD_days_L27b N c1 kk) n = self
    unfold pD_days_L27b
    refine rn_f (by omega) ?_
    exact hk m hv hb hf
  | succ k ih =>
    intro n x z m hkn h0 hx hv hb ha hf hk
    obtain ⟨n, rfl⟩ : ∃ n', n = n' + 1 := ⟨n - 1, by omega⟩
    have ih' := ih n (x + 1) (z.1 + sumR (runS pl z.2 1 5) (pl 2 3).toNat, livS pl z.2 1)
    show Rn (pD_days_L27b N c1 kk (lpF bo (pD_days_L27b N c1 kk) n) _ x m) Q
    generalize lpF bo (pD_days_L27b N c1 kk) n = self at ih' ⊢
    unfold pD_days_L27b
    refine rn_t (by omega) ?_
    have hs := run_sum (t := 1) hg hb (Or.inl rfl)
    have hem : PE pl m := he.fr hf (fun b j q => by unfold plc at q; unfold FLv; omega)
    refine rn_b2 (P := fun r m1 => r = sumR (runS pl z.2 1 5) (pl 2 3).toNat ∧ vS m1 38 = livS pl z.2 1 ∧ Fr (FLv 194 38) m m1) (rn_q (c_live (a := 194) (s := 38) (f := 0) hN hg hem ho (by omega) l199 (by omega) (by omega) (by rw [hv]; exact hb)) (fun r hr => by
      rw [hv, if_pos rfl] at hr
      exact ⟨hr.1, hr.2.1, hr.2.2.2⟩)) (fun r m1 hm => ?_)
    obtain ⟨hr1, hv1, f1⟩ := hm
    dsimp only
    rw [hr1, w32_eq (x := z.1 + sumR (runS pl z.2 1 5) (pl 2 3).toNat) (by omega) (by omega), w32_eq (x := x + 1) (by omega) (by omega)]
    refine rn_v (rn_v ?_)
    exact ih' m1 (by omega) (by omega) (by omega) hv1 (SB.liv hg hb (Or.inl rfl)) (by dsimp only; omega) (hf.trans f1) hk
theorem r_days_L {N : Nat} {Q : Int × Mem → Prop} {kk : Int → Mem → Option (Int × Mem)} {bo : Int → Int → Mem → Option (Int × Mem)} {pl m0 : Mem} {c1 : Int} (hN : 2000 ≤ N) (hg : PG pl) (ho : ∀ i, 0 ≤ i → i < pl 2 3 → 0 ≤ pl 8 i ∧ pl 8 i ≤ 99) (hr : PR pl) (hq : PQ pl m0) (hwk : m0 475 62 = -1) (hc : c1 ≤ 40) :
    ∀ (k n : Nat) (x : Int) (z : Int × Mem) (m : Mem), k < n → 0 ≤ x → x + k = c1 → SR pl m 0 z.2 → SB pl z.2 → z.2 0 0 + k ≤ 999 → (0 ≤ z.1 ∧ z.1 ≤ 64000 * x) → Fr (FRp 0) m0 m → (∀ m', SR pl m' 0 (dayK pl k z).2 → Fr (FRp 0) m0 m' → Rn (kk (dayK pl k z).1 m') Q) → Rn (lpF bo (pM_days_L25b N c1 kk) n z.1 x m) Q := by
  intro k
  induction k with
  | zero =>
    intro n x z m hkn h0 hx hv hb hd ha hf hk
    obtain ⟨n, rfl⟩ : ∃ n', n = n' + 1 := ⟨n - 1, by omega⟩
    show Rn (pM_days_L25b N c1 kk (lpF bo (pM_days_L25b N c1 kk) n) _ x m) Q
    generalize lpF bo (pM_days_L25b N c1 kk) n = self
    unfold pM_days_L25b
    refine rn_f (by omega) ?_
    exact hk m hv hf
  | succ k ih =>
    intro n x z m hkn h0 hx hv hb hd ha hf hk
    obtain ⟨n, rfl⟩ : ∃ n', n = n' + 1 := ⟨n - 1, by omega⟩
    have ih' := ih n (x + 1) (z.1 + sumR (runS pl z.2 1 5) (pl 2 3).toNat, livS pl z.2 1)
    show Rn (pM_days_L25b N c1 kk (lpF bo (pM_days_L25b N c1 kk) n) _ x m) Q
    generalize lpF bo (pM_days_L25b N c1 kk) n = self at ih' ⊢
    unfold pM_days_L25b
    refine rn_t (by omega) ?_
    have hs := run_sum (t := 1) hg hb (Or.inl rfl)
    have hqm : PQ pl m := hq.fr hf (fun b j q => by unfold prc at q; unfold FRp FLy; omega)
    have hwm : m 475 62 = -1 := by rw [hf _ _ (by unfold FRp FLy; omega)]; exact hwk
    refine rn_b2 (P := fun r m1 => r = sumR (runS pl z.2 1 5) (pl 2 3).toNat ∧ SR pl m1 0 (livS pl z.2 1) ∧ Fr (FRp 0) m m1) (rn_q (r_pass (v := 0) (t := 1) hN hg hr hqm ho (by omega) (Or.inl rfl) hv hb hwm) (fun r hr => ⟨hr.1, hr.2.1 (by omega), hr.2.2.2⟩)) (fun r m1 hm => ?_)
    obtain ⟨hr1, hv1, f1⟩ := hm
    dsimp only
    rw [hr1, w32_eq (x := z.1 + sumR (runS pl z.2 1 5) (pl 2 3).toNat) (by omega) (by omega), w32_eq (x := x + 1) (by omega) (by omega)]
    refine rn_v (rn_v ?_)
    have e0 : livS pl z.2 1 0 0 = min 999 (z.2 0 0 + 1) := if_pos ⟨rfl, rfl⟩
    exact ih' m1 (by omega) (by omega) (by omega) hv1 (SB.liv hg hb (Or.inl rfl)) (by dsimp only; rw [e0]; omega) (by dsimp only; omega) (hf.trans f1) hk
