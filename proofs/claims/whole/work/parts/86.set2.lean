/-! WALKERS: the component learns the sets -/
def FKl : Int → Int → Prop := fun b j => (b = 396 ∧ (j = 6 ∨ j = 11)) ∨ (399 ≤ b ∧ b ≤ 463) ∨ (465 ≤ b ∧ b ≤ 471) ∨ b = 11 ∨ b = 14 ∨ b = 17
def SN (pl m : Mem) (sn : Int → Int) (K : Nat) : Prop := m 396 3 = K ∧ K ≤ 16 ∧ (∀ j : Int, 0 ≤ j → j < 4 * K → m 397 j = sn j) ∧ ∀ r : Int, 0 ≤ r → r < K → (0 ≤ sn (4 * r) ∧ sn (4 * r) ≤ 8) ∧ (0 ≤ sn (4 * r + 1) ∧ sn (4 * r + 1) < pl 2 0) ∧ (0 ≤ sn (4 * r + 2) ∧ sn (4 * r + 2) < pl 2 1)
theorem SN.fr {pl m m' : Mem} {sn : Int → Int} {K : Nat} (h : SN pl m sn K) (f : ∀ b j, (b = 396 ∧ j = 3) ∨ b = 397 → m' b j = m b j) : SN pl m' sn K := ⟨by rw [f _ _ (Or.inl ⟨rfl, rfl⟩)]; exact h.1, h.2.1, fun j h0 h1 => by rw [f _ _ (Or.inr rfl)]; exact h.2.2.1 j h0 h1, h.2.2.2⟩
theorem ISeen.SN {pl m : Mem} (h : ISeen pl m) : SN pl m (fun j => m 397 j) (m 396 3).toNat := by
  obtain ⟨-, h2, h3⟩ := h
  refine ⟨by omega, by omega, fun j _ _ => rfl, fun r h0 h1 => ?_⟩
  have h4 := h3 r h0 (by omega)
  exact ⟨h4.1, h4.2.1, h4.2.2.1⟩
def MKx (pl S m : Mem) (so : Nat → Bool) (x : Nat) : Prop := m 396 6 = nbO so x ∧ ∀ k : Nat, k < x → (so k = true → m 463 (nbO so k) = k) ∧ RK pl S m k
theorem RK.fr {pl S m m' : Mem} {w : Int} (h : RK pl S m w) (f : ∀ j, m' (399 + w) j = m (399 + w) j) : RK pl S m' w := fun x h0 h1 p p0 p1 => by rw [f]; exact h x h0 h1 p p0 p1
theorem c_kl20 {N : Nat} {Q : Mem → Prop} {kk : Mem → Option Mem} {bo : Int → Mem → Option Mem} {pl S m0 : Mem} {sn : Int → Int} {K : Nat} (hN : 2000 ≤ N) (hg : PG pl) (hb : SB pl S) (he : PE pl m0) (hsn : SN pl m0 sn K) (h6 : vW m0 236 = begS pl S 1) (hk : ∀ m', MK pl S m' (soF pl S sn K) (setN pl) → Fr (fun b j => FKl b j ∧ ¬ (b = 396 ∧ j = 11)) m0 m' → Rn (kk m') Q) :
    ∀ (k n x : Nat) (m : Mem), k < n → x + k = setN pl → MKx pl S m (soF pl S sn K) x → Fr (fun b j => FKl b j ∧ ¬ (b = 396 ∧ j = 11)) m0 m → Rn (lpF bo (pK_learn_L20b N 236 kk) n (x : Int) m) Q := by
  have hn := hg.num
  have hT := setN_ok hg
  intro k
  induction k with
  | zero =>
    intro n x m hkn hx hm hf
    obtain ⟨n, rfl⟩ : ∃ n', n = n' + 1 := ⟨n - 1, by omega⟩
    have hem : PE pl m := he.fr hf (fun b j q => by unfold plc at q; unfold FKl; omega)
    show Rn (pK_learn_L20b N 236 kk (lpF bo (pK_learn_L20b N 236 kk) n) (x : Int) m) Q
    generalize lpF bo (pK_learn_L20b N 236 kk) n = self
    unfold pK_learn_L20b
    rw [hem.d 3, hT.2.1]
    refine rn_f (by omega) ?_
    have hx' : x = setN pl := by omega
    rw [hx'] at hm
    exact hk m hm hf
  | succ k ih =>
    intro n x m hkn hx hm hf
    obtain ⟨n, rfl⟩ : ∃ n', n = n' + 1 := ⟨n - 1, by omega⟩
    have ih' := ih n (x + 1)
    rw [show ((x + 1 : Nat) : Int) = (x : Int) + 1 by omega] at ih'
    have hem : PE pl m := he.fr hf (fun b j q => by unfold plc at q; unfold FKl; omega)
    show Rn (pK_learn_L20b N 236 kk (lpF bo (pK_learn_L20b N 236 kk) n) (x : Int) m) Q
    generalize lpF bo (pK_learn_L20b N 236 kk) n = self at ih' ⊢
    unfold pK_learn_L20b
    rw [hem.d 3, hT.2.1]
    refine rn_t (by omega) (rn_f (by omega) ?_)
    have v0 : vW m 236 = begS pl S 1 := by
      rw [← h6]
      exact vW_fr (fun b j q1 q2 _ => hf b j (by unfold FKl; omega))
    refine rn_b (c_copyW (m := m) (d := 465) (s := 236) (by omega)) (fun m1 h1 => ?_)
    obtain ⟨v1, f1⟩ := h1
    refine rn_l (fun m2 hm2 => ?_)
    have v2 : vW m2 465 = begW pl S x := by rw [hm2, vW_set7, v1, v0]; rfl
    have f2 : Fr (fun b j => FKl b j ∧ ¬ (b = 396 ∧ j = 11)) m m2 := by
      rw [hm2]
      exact (f1.mono (fun b j q => by unfold FC at q; unfold FKl; omega)).set (by unfold FKl; omega)
    have g2 : Fr (fun b _ => 465 ≤ b ∧ b ≤ 470) m m2 := by
      rw [hm2]
      exact (f1.mono (fun b j q => by unfold FC at q; omega)).set (by omega)
    clear hm2
    have he2 : PE pl m2 := hem.fr f2 (fun b j q => by unfold plc at q; unfold FKl; omega)
    unfold pK_learn_L57
    refine c_kl57 (m0 := m2) (w := (x : Int)) hN hg hb he2 (by omega) (fun m3 r3 f3 => ?_) 9 N 0 m2 (by omega) (by omega) (by omega) v2 (fun h q0 q1 => by omega) Fr.rfl'
    have g3 : Fr (fun b j => FKl b j ∧ ¬ (b = 396 ∧ j = 11)) m m3 := f2.trans (f3.mono (fun b j q => by unfold FW at q; unfold FKl; omega))
    have k3 : Fr (fun b _ => (465 ≤ b ∧ b ≤ 471) ∨ b = 11 ∨ b = 14 ∨ b = 17 ∨ b = 399 + (x : Int)) m m3 := (g2.mono (fun b j q => by omega)).trans (f3.mono (fun b j q => by unfold FW at q; omega))
    have fr3 := hf.trans g3
    have he3 : PE pl m3 := he.fr fr3 (fun b j q => by unfold plc at q; unfold FKl; omega)
    have sn3 : SN pl m3 sn K := hsn.fr (fun b j q => fr3 b j (by unfold FKl; omega))
    have eso : pK_isSo N m3 (x : Int) = some (if soR pl S sn x K then 1 else 0) := by
      unfold pK_isSo pK_isSo_L2
      exact c_isSo_L (w := (x : Int)) hg he3 (by omega) sn3.2.1 sn3.1 sn3.2.2.1 sn3.2.2.2 r3 K N 0 (by have := sn3.2.1; omega) (by omega) rfl
    have e6 : m3 396 6 = nbO (soF pl S sn K) x := by rw [k3 _ _ (by omega)]; exact hm.1
    have old : ∀ k : Nat, k < x → (soF pl S sn K k = true → m3 463 (nbO (soF pl S sn K) k) = k) ∧ RK pl S m3 k := fun k hk => by
      have h := hm.2 k hk
      exact ⟨fun q => by rw [k3 _ _ (by omega)]; exact h.1 q, h.2.fr (fun j => k3 _ _ (by omega))⟩
    have hnb := nbO_le (soF pl S sn K) x
    have enb : nbO (soF pl S sn K) (x + 1) = nbO (soF pl S sn K) x + (if soF pl S sn K x then 1 else 0) := rfl
    refine rn_e eso ?_
    have hso : soF pl S sn K x = soR pl S sn x K := rfl
    by_cases q : soR pl S sn x K = true
    · rw [if_pos q]
      rw [hso, if_pos q] at enb
      refine rn_f (show ¬ ((1 : Int) = 0) by omega) ?_
      rw [e6]
      refine rn_t (by omega) (rn_l (fun m4 hm4 => ?_))
      have e64 : m4 396 6 = nbO (soF pl S sn K) x := by rw [hm4, mset_o (by omega)]; exact e6
      rw [e64, w32_eq (x := (nbO (soF pl S sn K) x : Int) + 1) (by omega) (by omega), w32_eq (x := (x : Int) + 1) (by omega) (by omega)]
      refine rn_l (fun m5 hm5 => rn_v ?_)
      refine ih' m5 (by omega) (by omega) ⟨?_, fun k hk => ?_⟩ ?_
      · rw [hm5, mset_s rfl rfl, enb]; omega
      · have hmo : ∀ b j : Int, ¬ (b = 396 ∧ j = 6) → ¬ (b = 463 ∧ j = nbO (soF pl S sn K) x) → m5 b j = m3 b j := fun b j z1 z2 => by rw [hm5, mset_o z1, hm4, mset_o z2]
        by_cases qk : k = x
        · rw [qk]
          refine ⟨fun _ => ?_, r3.fr (fun j => hmo _ _ (by omega) (by omega))⟩
          rw [hm5, mset_o (by omega), hm4, mset_s rfl rfl]
        · have h := old k (by omega)
          have hlt : soF pl S sn K k = true → nbO (soF pl S sn K) k < nbO (soF pl S sn K) x := fun z => by
            have h1 := nbO_mono (soF pl S sn K) (k + 1) (x - (k + 1))
            have h2 : nbO (soF pl S sn K) (k + 1) = nbO (soF pl S sn K) k + (if soF pl S sn K k then 1 else 0) := rfl
            rw [if_pos z] at h2
            rw [show k + 1 + (x - (k + 1)) = x by omega] at h1
            omega
          exact ⟨fun z => by have := hlt z; rw [hmo _ _ (by omega) (by omega)]; exact h.1 z, h.2.fr (fun j => hmo _ _ (by omega) (by omega))⟩
      · rw [hm5, hm4]
        exact (fr3.set (by unfold FKl; omega)).set (by unfold FKl; omega)
    · rw [if_neg q]
      rw [hso, if_neg q] at enb
      rw [w32_eq (x := (x : Int) + 1) (by omega) (by omega)]
      refine rn_t rfl (rn_v ?_)
      refine ih' m3 (by omega) (by omega) ⟨by rw [enb, e6]; omega, fun k hk => ?_⟩ fr3
      by_cases qk : k = x
      · rw [qk]
        exact ⟨fun z => absurd z q, r3⟩
      · exact old k (by omega)
def IMem (pl S m : Mem) (sn : Int → Int) (K : Nat) : Prop := m 396 11 = 0 ∨ MK pl S m (soF pl S sn K) (setN pl)
theorem c_klearn {N : Nat} {pl S m : Mem} {sn : Int → Int} {K : Nat} (hN : 2000 ≤ N) (hg : PG pl) (hb : SB pl S) (he : PE pl m) (hsn : SN pl m sn K) (h6 : vW m 236 = begS pl S 1) (hi : IMem pl S m sn K) : Rn (pK_learn N m 236) (fun m' => m' 396 11 ≠ 0 ∧ MK pl S m' (soF pl S sn K) (setN pl) ∧ (m 396 11 = 0 ∨ m' = m) ∧ Fr FKl m m') := by
  have hT := setN_ok hg
  unfold pK_learn
  refine rn_i (fun q => ?_) (fun q => rn_s ⟨q, hi.resolve_left q, Or.inr rfl, Fr.rfl'⟩)
  refine rn_l (fun m1 hm1 => ?_)
  refine rn_l (fun m2 hm2 => ?_)
  have k11 : m2 396 11 = 1 := by rw [hm2, mset_o (by omega), hm1, mset_s rfl rfl]
  have k6 : m2 396 6 = 0 := by rw [hm2, mset_s rfl rfl]
  have f2 : Fr (fun b j => b = 396 ∧ (j = 6 ∨ j = 11)) m m2 := by rw [hm2, hm1]; exact (Fr.rfl'.set (by omega)).set (by omega)
  clear hm1 hm2
  unfold pK_learn_L20
  refine c_kl20 (m0 := m2) (S := S) hN hg hb (he.fr f2 (fun b j q => by unfold plc at q; omega)) (hsn.fr (fun b j q => f2 b j (by omega))) (by rw [← h6]; exact vW_fr (fun b j q1 q2 _ => f2 b j (by omega))) (fun m3 h3 f3 => rn_s ⟨?_, h3, Or.inl q, ?_⟩) (setN pl) N 0 m2 (by omega) (by omega) ⟨k6, fun k hk => absurd hk (Nat.not_lt_zero _)⟩ Fr.rfl'
  · rw [f3 _ _ (by omega), k11]; omega
  · exact (f2.mono (fun b j q => by unfold FKl; omega)).trans (f3.mono (fun b j q => q.1))
