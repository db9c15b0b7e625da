/-! WALKERS: the sets and what they leave (the component) -/
def begW (pl S : Mem) (w : Int) : Mem := mset (begS pl S 1) 0 7 w
def dwS (pl S : Mem) (w h p : Int) : Int := thS pl (h + 1).toNat 0 (begW pl S w) 1 p
def soR (pl S : Mem) (sn : Int → Int) (w : Int) : Nat → Bool
  | 0 => true
  | r + 1 => soR pl S sn w r && decide (dwS pl S w (sn (4 * (r : Int))) (sn (4 * (r : Int) + 2) * pl 2 0 + sn (4 * (r : Int) + 1)) = sn (4 * (r : Int) + 3))
def nbO (so : Nat → Bool) : Nat → Nat
  | 0 => 0
  | k + 1 => nbO so k + (if so k then 1 else 0)
theorem nbO_le (so : Nat → Bool) : ∀ k, nbO so k ≤ k
  | 0 => Nat.le_refl _
  | k + 1 => by
    have := nbO_le so k
    show nbO so k + (if so k then 1 else 0) ≤ k + 1
    split <;> omega
theorem nbO_mono (so : Nat → Bool) (a : Nat) : ∀ d, nbO so a ≤ nbO so (a + d)
  | 0 => Nat.le_refl _
  | d + 1 => by
    have := nbO_mono so a d
    show nbO so a ≤ nbO so (a + d) + (if so (a + d) then 1 else 0)
    split <;> omega
theorem nbO_ex (so : Nat → Bool) : ∀ T q, q < nbO so T → ∃ k, k < T ∧ so k = true ∧ nbO so k = q
  | 0, q, h => absurd h (Nat.not_lt_zero _)
  | T + 1, q, h => by
    by_cases q1 : q < nbO so T
    · obtain ⟨k, h1, h2, h3⟩ := nbO_ex so T q q1
      exact ⟨k, by omega, h2, h3⟩
    · have e : nbO so (T + 1) = nbO so T + (if so T then 1 else 0) := rfl
      by_cases q2 : so T = true
      · rw [if_pos q2] at e
        exact ⟨T, by omega, q2, by omega⟩
      · rw [if_neg q2] at e
        omega
def setN (pl : Mem) : Nat := 2 ^ (pl 2 3).toNat
theorem setN_ok {pl : Mem} (hg : PG pl) : (1 ≤ setN pl ∧ setN pl ≤ 64) ∧ shl32 1 (pl 2 3) = setN pl ∧ allS (pl 2 3) = setN pl - 1 := by
  have hn := hg.num
  have e1 : ∀ P : Nat, P ≤ 6 → (1 ≤ 2 ^ P ∧ 2 ^ P ≤ 64) ∧ shl32 1 (P : Int) = ((2 ^ P : Nat) : Int) := by decide +kernel
  have h := e1 (pl 2 3).toNat (by omega)
  have e2 : ∀ P : Nat, P ≤ 6 → allS (P : Int) = ((2 ^ P : Nat) : Int) - 1 := by decide +kernel
  have h2 := e2 (pl 2 3).toNat (by omega)
  rw [show (((pl 2 3).toNat : Nat) : Int) = pl 2 3 by omega] at h h2
  refine ⟨h.1, h.2, ?_⟩
  rw [h2]
  unfold setN
  omega
def soF (pl S : Mem) (sn : Int → Int) (K : Nat) (k : Nat) : Bool := soR pl S sn k K
/-- the sets are learnt -/
def RK (pl S m : Mem) (w : Int) : Prop := ∀ h, 0 ≤ h → h < 9 → ∀ p, 0 ≤ p → p < pl 2 2 → m (399 + w) (64 * h + p) = dwS pl S w h p
def MK (pl S m : Mem) (so : Nat → Bool) (T : Nat) : Prop := m 396 6 = nbO so T ∧ ∀ k : Nat, k < T → (so k = true → m 463 (nbO so k) = k) ∧ RK pl S m k
theorem begW_WB {pl S : Mem} (hg : PG pl) (hb : SB pl S) (w : Int) : WB pl (begW pl S w) := by
  have h := WB.beg hg hb (t := 1) (Or.inl rfl)
  refine ⟨fun p h0 h1 => ?_, fun i h0 h1 => ?_, ?_⟩
  · unfold begW; rw [mset_o (by omega)]; exact h.1 p h0 h1
  · unfold begW; simp (disch := omega) only [mset_o]; exact h.2.1 i h0 h1
  · unfold begW; rw [mset_o (by omega)]; exact h.2.2
theorem dwS_rng {pl S : Mem} (hg : PG pl) (hb : SB pl S) (w h : Int) {p : Int} (hp : 0 ≤ p ∧ p < pl 2 2) : 0 ≤ dwS pl S w h p ∧ dwS pl S w h p ≤ 99 := (WB.th hg _ 0 _ (begW_WB hg hb w)).1 p hp.1 hp.2
theorem vW_set7 (m : Mem) (a x : Int) : vW (mset m a 7 x) a = mset (vW m a) 0 7 x := by
  refine vW_ext (fun k j q q2 => ?_) (fun k j q => ?_) ?_ ?_
  · rw [mset_o (by omega)]
    unfold vW
    rw [if_neg q, if_neg q2]
  · rw [mset_o (by omega), mset_o (by omega), vW_in q]
  · rw [mset_s rfl rfl, mset_s rfl rfl]
  · rw [mset_o (by omega), mset_o (by omega)]
    rfl
theorem c_kl57 {N : Nat} {Q : Mem → Prop} {kk : Mem → Option Mem} {bo : Int → Mem → Option Mem} {pl S m0 : Mem} {w c1 : Int} (hN : 2000 ≤ N) (hg : PG pl) (hb : SB pl S) (he : PE pl m0) (hw : 0 ≤ w ∧ w < 64) (hk : ∀ m', RK pl S m' w → Fr (fun b j => FW 465 b j ∨ b = 399 + w) m0 m' → Rn (kk m') Q) :
    ∀ (k n : Nat) (x : Int) (m : Mem), k < n → 0 ≤ x → x + k = 9 → vW m 465 = thS pl x.toNat 0 (begW pl S w) → (∀ h, 0 ≤ h → h < x → ∀ p, 0 ≤ p → p < pl 2 2 → m (399 + w) (64 * h + p) = dwS pl S w h p) → Fr (fun b j => FW 465 b j ∨ b = 399 + w) m0 m → Rn (lpF bo (pK_learn_L57b N c1 w kk) n x m) Q := by
  have hn := hg.num
  intro k
  induction k with
  | zero =>
    intro n x m hkn h0 hx hv hd hf
    obtain ⟨n, rfl⟩ : ∃ n', n = n' + 1 := ⟨n - 1, by omega⟩
    show Rn (pK_learn_L57b N c1 w kk (lpF bo (pK_learn_L57b N c1 w kk) n) x m) Q
    generalize lpF bo (pK_learn_L57b N c1 w kk) n = self
    unfold pK_learn_L57b
    refine rn_f (by omega) ?_
    exact hk m (fun h q0 q1 => hd h q0 (by omega)) hf
  | succ k ih =>
    intro n x m hkn h0 hx hv hd hf
    obtain ⟨n, rfl⟩ : ∃ n', n = n' + 1 := ⟨n - 1, by omega⟩
    have ih' := ih n (x + 1)
    have hem : PE pl m := he.fr hf (fun b j q => by unfold plc at q; unfold FW; omega)
    show Rn (pK_learn_L57b N c1 w kk (lpF bo (pK_learn_L57b N c1 w kk) n) x m) Q
    generalize lpF bo (pK_learn_L57b N c1 w kk) n = self at ih' ⊢
    unfold pK_learn_L57b
    rw [w32_eq (x := x + 1) (by omega) (by omega), w32_eq (x := x * 64) (by omega) (by omega)]
    refine rn_t (by omega) ?_
    refine rn_b (c_thr (a := 465) (h := x) (e := x + 1) hN hg (by omega) (by omega) hem (by rw [hv]; exact WB.th hg _ 0 _ (begW_WB hg hb w)) h0) (fun m1 h1 => ?_)
    obtain ⟨v1, f1⟩ := h1
    have en : (x + 1).toNat = x.toNat + 1 := by omega
    have v2 : vW m1 465 = thS pl (x + 1).toNat 0 (begW pl S w) := by
      rw [v1, hv, en, thS_snoc, show (x + 1 - x).toNat = 1 by omega, show (0 : Int) + (x.toNat : Nat) = x by omega]
      rfl
    refine rn_t (by omega) (rn_t (by omega) ?_)
    refine rn_l (fun m2 hm2 => rn_v ?_)
    have r2 : ∀ j, 0 ≤ j → j < 64 → m2 (399 + w) (64 * x + j) = thS pl (x + 1).toNat 0 (begW pl S w) 1 j := fun j j0 j1 => by
      rw [hm2, mcpy_i (by omega), ← v2, vW_in (by omega)]
      congr 1; omega
    have o2 : ∀ b j, ¬ (b = 399 + w ∧ 64 * x ≤ j ∧ j < 64 * x + 64) → m2 b j = m1 b j := fun b j q => by rw [hm2, mcpy_o (by omega)]
    clear hm2
    refine ih' m2 (by omega) (by omega) (by omega) ?_ (fun h q0 q1 p p0 p1 => ?_) ?_
    · rw [← v2]
      exact vW_fr (fun b j q1 q2 _ => o2 b j (by omega))
    · by_cases q : h = x
      · rw [q, r2 p p0 (by omega)]; rfl
      · rw [o2 _ _ (by omega), f1 _ _ (by unfold FW; omega)]
        exact hd h q0 (by omega) p p0 p1
    · exact (hf.trans (f1.mono (fun b j q => Or.inl q))).trans (fun b j q => o2 b j (by omega))
theorem soR_le {pl S : Mem} {sn : Int → Int} {w : Int} {r : Nat} (h : soR pl S sn w r = false) : ∀ d, soR pl S sn w (r + d) = false
  | 0 => h
  | d + 1 => by
    show (soR pl S sn w (r + d) && _) = false
    rw [soR_le h d, Bool.false_and]
theorem c_isSo_L {N : Nat} {pl S m : Mem} {sn : Int → Int} {w : Int} {K : Nat} {bo : Int → Option Int} (hg : PG pl) (he : PE pl m) (hw : 0 ≤ w ∧ w < 64) (hK : K ≤ 16) (h3 : m 396 3 = K) (hsn : ∀ j : Int, 0 ≤ j → j < 4 * K → m 397 j = sn j) (hsr : ∀ r : Int, 0 ≤ r → r < K → (0 ≤ sn (4 * r) ∧ sn (4 * r) ≤ 8) ∧ (0 ≤ sn (4 * r + 1) ∧ sn (4 * r + 1) < pl 2 0) ∧ (0 ≤ sn (4 * r + 2) ∧ sn (4 * r + 2) < pl 2 1)) (hr : RK pl S m w) :
    ∀ (k n r : Nat), k < n → r + k = K → soR pl S sn w r = true → lpF bo (pK_isSo_L2b N m w (fun (_ : Unit) => some (1))) n (4 * (r : Int)) = some (if soR pl S sn w K then 1 else 0) := by
  have hn := hg.num
  intro k
  induction k with
  | zero =>
    intro n r hkn hx hs
    obtain ⟨n, rfl⟩ : ∃ n', n = n' + 1 := ⟨n - 1, by omega⟩
    show pK_isSo_L2b N m w _ (lpF bo (pK_isSo_L2b N m w _) n) (4 * (r : Int)) = _
    generalize lpF bo (pK_isSo_L2b N m w (fun (_ : Unit) => some (1))) n = self
    unfold pK_isSo_L2b
    have hrK : r = K := by omega
    rw [h3, w32_eq (x := (K : Int) * 4) (by omega) (by omega), if_neg (by omega), ← hrK, hs]
    rfl
  | succ k ih =>
    intro n r hkn hx hs
    obtain ⟨n, rfl⟩ : ∃ n', n = n' + 1 := ⟨n - 1, by omega⟩
    have ih' := ih n (r + 1) (by omega) (by omega)
    rw [show 4 * ((r + 1 : Nat) : Int) = 4 * (r : Int) + 4 by omega] at ih'
    have h5 := hsr r (by omega) (by omega)
    have hat := at_ph hg ⟨h5.2.1, h5.2.2⟩
    show pK_isSo_L2b N m w _ (lpF bo (pK_isSo_L2b N m w _) n) (4 * (r : Int)) = _
    generalize lpF bo (pK_isSo_L2b N m w (fun (_ : Unit) => some (1))) n = self at ih' ⊢
    unfold pK_isSo_L2b
    rw [h3, w32_eq (x := (K : Int) * 4) (by omega) (by omega), w32_eq (x := 4 * (r : Int) + 1) (by omega) (by omega), w32_eq (x := 4 * (r : Int) + 2) (by omega) (by omega), w32_eq (x := 4 * (r : Int) + 3) (by omega) (by omega), w32_eq (x := 4 * (r : Int) + 4) (by omega) (by omega), hsn (4 * (r : Int)) (by omega) (by omega), hsn (4 * (r : Int) + 1) (by omega) (by omega), hsn (4 * (r : Int) + 2) (by omega) (by omega), hsn (4 * (r : Int) + 3) (by omega) (by omega)]
    rw [if_pos (by omega), if_pos (by omega), if_pos (by omega), e_cellAt hg he, if_pos ⟨h5.2.1, h5.2.2⟩, Option.bind_some, if_neg (by omega), if_pos hw, if_pos (by omega)]
    have e0 : soR pl S sn w (r + 1) = (soR pl S sn w r && decide (dwS pl S w (sn (4 * (r : Int))) (sn (4 * (r : Int) + 2) * pl 2 0 + sn (4 * (r : Int) + 1)) = sn (4 * (r : Int) + 3))) := rfl
    generalize sn (4 * (r : Int) + 2) * pl 2 0 + sn (4 * (r : Int) + 1) = p at hat e0
    rw [w32_eq (x := sn (4 * (r : Int)) * 64) (by omega) (by omega), w32_eq (x := sn (4 * (r : Int)) * 64 + p) (by omega) (by omega), if_pos (by omega), if_pos (by omega), show (398 : Int) + 1 + w = 399 + w by omega, show sn (4 * (r : Int)) * 64 + p = 64 * sn (4 * (r : Int)) + p by omega, hr _ h5.1.1 (by omega) p hat.1.1 hat.1.2]
    rw [hs, Bool.true_and] at e0
    by_cases q : dwS pl S w (sn (4 * (r : Int))) p = sn (4 * (r : Int) + 3)
    · rw [if_pos q, Option.bind_some]
      exact ih' (by rw [e0]; exact decide_eq_true q)
    · rw [if_neg q]
      have e1 : soR pl S sn w (r + 1) = false := by rw [e0]; exact decide_eq_false q
      have e2 := soR_le e1 (K - (r + 1))
      rw [show r + 1 + (K - (r + 1)) = K by omega] at e2
      rw [e2]
      rfl
