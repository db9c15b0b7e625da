/-! IMAGE: the check, the reference, the call -/
theorem imgB_rng {pl S : Mem} (hg : PG pl) (hb : SB pl S) {j : Int} (h : 0 ≤ j ∧ j < 2 + pl 2 2 + 6 * pl 2 3) : 0 ≤ imgB pl S j ∧ imgB pl S j ≤ 255 := by
  have hn := hg.num
  have hd := hb.2.2.1
  unfold imgB
  by_cases q0 : j = 0
  · rw [if_pos q0]; omega
  rw [if_neg q0]
  by_cases q1 : j = 1
  · rw [if_pos q1]; omega
  rw [if_neg q1]
  by_cases q2 : j < 2 + pl 2 2
  · rw [if_pos q2]
    have := hb.1 (j - 2) (by omega) (by omega)
    omega
  rw [if_neg q2]
  have hi : 0 ≤ (j - 2 - pl 2 2) / 6 ∧ (j - 2 - pl 2 2) / 6 < pl 2 3 := by omega
  generalize (j - 2 - pl 2 2) / 6 = i at hi
  have hS := hb.2.1 i hi.1 hi.2
  have hp := ph_eq hg hS.1
  generalize (j - 2 - pl 2 2) % 6 = r
  by_cases r0 : r = 0
  · rw [if_pos r0]; omega
  rw [if_neg r0]
  by_cases r1 : r = 1
  · rw [if_pos r1]; omega
  rw [if_neg r1]
  by_cases r2 : r = 2
  · rw [if_pos r2]; omega
  rw [if_neg r2]
  by_cases r3 : r = 3
  · rw [if_pos r3]; omega
  rw [if_neg r3]
  by_cases r4 : r = 4
  · rw [if_pos r4]; omega
  rw [if_neg r4]; omega
def ckS (g : Int → Int) : Nat → Int
  | 0 => 223
  | k + 1 => (5 * ckS g k + g k) % 251
theorem ckS_rng (g : Int → Int) : ∀ k, 0 ≤ ckS g k ∧ ckS g k ≤ 250
  | 0 => by unfold ckS; omega
  | k + 1 => by unfold ckS; omega
theorem ck_next {g : Int → Int} {x : Int} (h0 : 0 ≤ x) (hg : 0 ≤ g x ∧ g x ≤ 255) : r32 (w32 (w32 (5 * ckS g x.toNat) + g x)) 251 = ckS g (x + 1).toNat := by
  have h := ckS_rng g x.toNat
  rw [w32_eq (x := 5 * ckS g x.toNat) (by omega) (by omega), w32_eq (x := 5 * ckS g x.toNat + g x) (by omega) (by omega), r32_eq (by omega) (by omega) (by omega) (by omega), show (x + 1).toNat = x.toNat + 1 by omega]
  show _ = (5 * ckS g x.toNat + g ((x.toNat : Nat) : Int)) % 251
  rw [show ((x.toNat : Nat) : Int) = x by omega]
theorem c_ck_L {N : Nat} {m : Mem} {a L : Int} {g : Int → Int} {kk : Int → Option Int} {bo : Int → Int → Option Int} (hL : 0 ≤ L ∧ L ≤ ln a) (hL2 : L ≤ 1600) (hm : ∀ j, 0 ≤ j → j < L → m a j = g j ∧ (0 ≤ g j ∧ g j ≤ 255)) : ∀ (k n : Nat) (x : Int), k < n → 0 ≤ x → x + k = L → lpF bo (pI_check_L6b N m a L kk) n (ckS g x.toNat) x = kk (ckS g L.toNat) := by
  intro k
  induction k with
  | zero =>
    intro n x hkn h0 hx
    obtain ⟨n, rfl⟩ : ∃ n', n = n' + 1 := ⟨n - 1, by omega⟩
    show pI_check_L6b N m a L kk (lpF bo (pI_check_L6b N m a L kk) n) _ x = _
    generalize lpF bo (pI_check_L6b N m a L kk) n = self
    unfold pI_check_L6b
    rw [if_neg (by omega), show x = L by omega]
  | succ k ih =>
    intro n x hkn h0 hx
    obtain ⟨n, rfl⟩ : ∃ n', n = n' + 1 := ⟨n - 1, by omega⟩
    have ih' := ih n (x + 1) (by omega) (by omega) (by omega)
    have hx1 := hm x h0 (by omega)
    show pI_check_L6b N m a L kk (lpF bo (pI_check_L6b N m a L kk) n) _ x = _
    generalize lpF bo (pI_check_L6b N m a L kk) n = self at ih' ⊢
    unfold pI_check_L6b
    rw [if_pos (show x < L by omega), if_pos (show x < ln a by omega), if_pos (show 0 ≤ x ∧ x < ln a by omega), hx1.1, ck_next h0 hx1.2, w32_eq (x := x + 1) (by omega) (by omega)]
    exact ih'
theorem c_ck {N : Nat} {m : Mem} {a L : Int} {g : Int → Int} (hN : 2000 ≤ N) (hL : 0 ≤ L ∧ L ≤ ln a) (hL2 : L ≤ 1600) (hm : ∀ j, 0 ≤ j → j < L → m a j = g j ∧ (0 ≤ g j ∧ g j ≤ 255)) : pI_check N m a L = some (ckS g L.toNat) := by
  unfold pI_check pI_check_L6
  exact c_ck_L hL hL2 hm L.toNat N 0 (by omega) (by omega) (by omega)
def imgL (pl : Mem) : Int := 2 + pl 2 2 + 6 * pl 2 3
def IMG (o s t : Int) (pl S m m' : Mem) : Prop := m' o s = imgL pl + 1 ∧ (∀ j, 0 ≤ j → j < imgL pl → m' t j = imgB pl S j) ∧ m' t (imgL pl) = ckS (imgB pl S) (imgL pl).toNat ∧ Fr (fun b j => (b = o ∧ j = s) ∨ b = t) m m'
theorem IW.img {o s t : Int} {pl S m m' : Mem} (hot : o ≠ t) (hL : 0 ≤ imgL pl) (h : IW o s t (imgB pl S) m m' (imgL pl)) {x : Int} (hx : x = ckS (imgB pl S) (imgL pl).toNat) : IMG o s t pl S m (mset (mset m' t (imgL pl) x) o s (imgL pl + 1)) := by
  refine ⟨mset_s rfl rfl, fun j h0 h1 => ?_, ?_, (h.2.2.set (Or.inr rfl)).set (Or.inl ⟨rfl, rfl⟩)⟩
  · rw [mset_o (by omega), mset_o (by omega)]; exact h.2.1 j h0 h1
  · rw [mset_o (by omega), mset_s rfl rfl]; exact hx
theorem c_write {N : Nat} {pl m : Mem} (hN : 2000 ≤ N) (hg : PG pl) (he : PE pl m) (hb : SB pl (vS m 38)) : Rn (pI_write N m 38) (fun m' => IMG 472 1 473 pl (vS m 38) m m') := by
  have hn := hg.num
  have l473 : ln 473 = 103 := by decide +kernel
  have hd := hb.2.2.1
  have e0 : vS m 38 0 0 = m 38 0 := rfl
  have b0 : imgB pl (vS m 38) 0 = m 38 0 / 256 := if_pos rfl
  have b1 : imgB pl (vS m 38) 1 = m 38 0 % 256 := by unfold imgB; rw [if_neg (by omega), if_pos rfl, e0]
  rw [e0] at hd
  unfold pI_write
  refine rn_l (fun m1 hm1 => ?_)
  have w1 : IW 472 1 473 (imgB pl (vS m 38)) m m1 0 := by
    rw [hm1]
    exact ⟨mset_s rfl rfl, fun j h0 h1 => by omega, Fr.rfl'.set (Or.inl ⟨rfl, rfl⟩)⟩
  clear hm1
  rw [w1.2.2 38 0 (by omega), d32_eq (by omega) (by omega) (by omega) (by omega)]
  refine rn_b (c_add w1 (by omega) b0.symm) (fun m2 w2 => ?_)
  rw [w2.2.2 38 0 (by omega), r32_eq (by omega) (by omega) (by omega) (by omega)]
  refine rn_b (c_add w2 (by omega) b1.symm) (fun m3 w3 => ?_)
  unfold pI_write_L31
  refine c_w31 (m0 := m) (g := imgB pl (vS m 38)) hN hg he (fun p h0 h1 => imgB_p ⟨h0, h1⟩) (fun m4 w4 => ?_) (pl 2 2).toNat N 0 m3 (by omega) (by omega) (by omega) w3
  unfold pI_write_L57
  refine c_w57 (m0 := m) hN hg he hb (fun m5 w5 => ?_) (pl 2 3).toNat N 0 m4 (by omega) (by omega) (by omega) (by rw [show 2 + pl 2 2 + 6 * 0 = 2 + pl 2 2 by omega]; exact w4)
  have hL : 0 ≤ imgL pl ∧ imgL pl ≤ 102 := by unfold imgL; omega
  have w6 : IW 472 1 473 (imgB pl (vS m 38)) m m5 (imgL pl) := w5
  rw [w6.1]
  refine rn_e (c_ck (g := imgB pl (vS m 38)) hN (by rw [l473]; omega) (by omega) (fun j h0 h1 => ⟨w6.2.1 j h0 h1, imgB_rng hg hb ⟨h0, h1⟩⟩)) ?_
  unfold pI_add
  rw [w6.1]
  refine rn_b (P := fun m' => IMG 472 1 473 pl (vS m 38) m m') (rn_t (by omega) (rn_t (by omega) (rn_v ?_))) (fun m' h => rn_s h)
  rw [mset_o (by omega), w6.1, w32_eq (x := imgL pl + 1) (by omega) (by omega)]
  exact rn_v (rn_s (w6.img (by decide) hL.1 rfl))
