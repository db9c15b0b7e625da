/-! IMAGE: the component -/
def imgB (pl S : Mem) (j : Int) : Int :=
  if j = 0 then S 0 0 / 256 else if j = 1 then S 0 0 % 256 else if j < 2 + pl 2 2 then S 1 (j - 2)
  else if (j - 2 - pl 2 2) % 6 = 0 then S 2 ((j - 2 - pl 2 2) / 6) % pl 2 0
  else if (j - 2 - pl 2 2) % 6 = 1 then S 2 ((j - 2 - pl 2 2) / 6) / pl 2 0
  else if (j - 2 - pl 2 2) % 6 = 2 then S 3 ((j - 2 - pl 2 2) / 6)
  else if (j - 2 - pl 2 2) % 6 = 3 then S 4 ((j - 2 - pl 2 2) / 6)
  else if (j - 2 - pl 2 2) % 6 = 4 then S 5 ((j - 2 - pl 2 2) / 6) / 256
  else S 5 ((j - 2 - pl 2 2) / 6) % 256
theorem imgB_p {pl S : Mem} {p : Int} (h : 0 ≤ p ∧ p < pl 2 2) : imgB pl S (2 + p) = S 1 p := by
  unfold imgB
  rw [if_neg (by omega), if_neg (by omega), if_pos (by omega), show 2 + p - 2 = p by omega]
theorem imgB_i {pl S : Mem} {i r : Int} (h0 : 0 ≤ pl 2 2) (hi : 0 ≤ i) (hr : 0 ≤ r ∧ r < 6) : imgB pl S (2 + pl 2 2 + 6 * i + r) = (if r = 0 then S 2 i % pl 2 0 else if r = 1 then S 2 i / pl 2 0 else if r = 2 then S 3 i else if r = 3 then S 4 i else if r = 4 then S 5 i / 256 else S 5 i % 256) := by
  unfold imgB
  rw [if_neg (by omega), if_neg (by omega), if_neg (by omega), show 2 + pl 2 2 + 6 * i + r - 2 - pl 2 2 = 6 * i + r by omega, show (6 * i + r) % 6 = r by omega, show (6 * i + r) / 6 = i by omega]
def IW (o s t : Int) (g : Int → Int) (m0 m : Mem) (k : Int) : Prop := m o s = k ∧ (∀ j, 0 ≤ j → j < k → m t j = g j) ∧ Fr (fun b j => (b = o ∧ j = s) ∨ b = t) m0 m
theorem IW.next {o s t k x : Int} {g : Int → Int} {m0 m : Mem} (hot : o ≠ t) (h : IW o s t g m0 m k) (hk : 0 ≤ k) (hx : x = g k) : IW o s t g m0 (mset (mset m t k x) o s (k + 1)) (k + 1) := by
  refine ⟨mset_s rfl rfl, fun j h0 h1 => ?_, (h.2.2.set (Or.inr rfl)).set (Or.inl ⟨rfl, rfl⟩)⟩
  rw [mset_o (by omega)]
  by_cases q : j = k
  · rw [mset_s rfl q, q]; exact hx
  · rw [mset_o (by omega)]; exact h.2.1 j h0 (by omega)
theorem c_add {k x : Int} {g : Int → Int} {m0 m : Mem} (h : IW 472 1 473 g m0 m k) (hk : 0 ≤ k ∧ k < 103) (hx : x = g k) : Rn (pI_add m x) (fun m' => IW 472 1 473 g m0 m' (k + 1)) := by
  unfold pI_add
  rw [h.1]
  refine rn_t hk.2 (rn_t hk (rn_v ?_))
  rw [mset_o (by omega), h.1, w32_eq (x := k + 1) (by omega) (by omega)]
  exact rn_v (rn_s (h.next (by decide) hk.1 hx))
theorem c_w31 {N : Nat} {Q : Mem → Prop} {kk : Mem → Option Mem} {bo : Int → Mem → Option Mem} {pl m0 : Mem} {g : Int → Int} (hN : 2000 ≤ N) (hg : PG pl) (he : PE pl m0) (hgp : ∀ p, 0 ≤ p → p < pl 2 2 → g (2 + p) = vS m0 38 1 p) (hk : ∀ m', IW 472 1 473 g m0 m' (2 + pl 2 2) → Rn (kk m') Q) :
    ∀ (k n : Nat) (x : Int) (m : Mem), k < n → 0 ≤ x → x + k = pl 2 2 → IW 472 1 473 g m0 m (2 + x) → Rn (lpF bo (pI_write_L31b N 38 kk) n x m) Q := by
  intro k
  have hn := hg.num
  induction k with
  | zero =>
    intro n x m hkn h0 hx hw
    obtain ⟨n, rfl⟩ : ∃ n', n = n' + 1 := ⟨n - 1, by omega⟩
    have hem : PE pl m := he.fr hw.2.2 (fun b j q => by unfold plc at q; omega)
    show Rn (pI_write_L31b N 38 kk (lpF bo (pI_write_L31b N 38 kk) n) x m) Q
    generalize lpF bo (pI_write_L31b N 38 kk) n = self
    unfold pI_write_L31b
    refine rn_f (by rw [hem.d]; omega) ?_
    exact hk m (by rw [show x = pl 2 2 by omega] at hw; exact hw)
  | succ k ih =>
    intro n x m hkn h0 hx hw
    obtain ⟨n, rfl⟩ : ∃ n', n = n' + 1 := ⟨n - 1, by omega⟩
    have ih' := ih n (x + 1)
    have hem : PE pl m := he.fr hw.2.2 (fun b j q => by unfold plc at q; omega)
    show Rn (pI_write_L31b N 38 kk (lpF bo (pI_write_L31b N 38 kk) n) x m) Q
    generalize lpF bo (pI_write_L31b N 38 kk) n = self at ih' ⊢
    unfold pI_write_L31b
    have e : m (38 + 1) x = g (2 + x) := by
      rw [hgp x h0 (by omega), vS_in (by omega), hw.2.2 _ _ (by omega)]
    refine rn_t (by rw [hem.d]; omega) (rn_t (by omega) ?_)
    refine rn_b (c_add hw (by omega) e) (fun m1 h1 => ?_)
    rw [w32_eq (x := x + 1) (by omega) (by omega)]
    refine rn_v (ih' m1 (by omega) (by omega) (by omega) ?_)
    rw [show 2 + (x + 1) = 2 + x + 1 by omega]
    exact h1
theorem c_w57 {N : Nat} {Q : Mem → Prop} {kk : Mem → Option Mem} {bo : Int → Mem → Option Mem} {pl m0 : Mem} (hN : 2000 ≤ N) (hg : PG pl) (he : PE pl m0) (hb : SB pl (vS m0 38)) (hk : ∀ m', IW 472 1 473 (imgB pl (vS m0 38)) m0 m' (2 + pl 2 2 + 6 * pl 2 3) → Rn (kk m') Q) :
    ∀ (k n : Nat) (x : Int) (m : Mem), k < n → 0 ≤ x → x + k = pl 2 3 → IW 472 1 473 (imgB pl (vS m0 38)) m0 m (2 + pl 2 2 + 6 * x) → Rn (lpF bo (pI_write_L57b N 38 kk) n x m) Q := by
  intro k
  have hn := hg.num
  induction k with
  | zero =>
    intro n x m hkn h0 hx hw
    obtain ⟨n, rfl⟩ : ∃ n', n = n' + 1 := ⟨n - 1, by omega⟩
    have hem : PE pl m := he.fr hw.2.2 (fun b j q => by unfold plc at q; omega)
    show Rn (pI_write_L57b N 38 kk (lpF bo (pI_write_L57b N 38 kk) n) x m) Q
    generalize lpF bo (pI_write_L57b N 38 kk) n = self
    unfold pI_write_L57b
    refine rn_f (by rw [hem.d]; omega) ?_
    exact hk m (by rw [show x = pl 2 3 by omega] at hw; exact hw)
  | succ k ih =>
    intro n x m hkn h0 hx hw
    obtain ⟨n, rfl⟩ : ∃ n', n = n' + 1 := ⟨n - 1, by omega⟩
    have ih' := ih n (x + 1)
    have hS := hb.2.1 x h0 (by omega)
    have hpos := hg.pos hS.1
    have pe : ∀ m' kz, IW 472 1 473 (imgB pl (vS m0 38)) m0 m' kz → PE pl m' := fun m' kz w => he.fr w.2.2 (fun b j q => by unfold plc at q; omega)
    have gi : ∀ r : Int, 0 ≤ r ∧ r < 6 → imgB pl (vS m0 38) (2 + pl 2 2 + 6 * x + r) = _ := fun r hr => imgB_i (by omega) h0 hr
    have hem : PE pl m := pe m _ hw
    show Rn (pI_write_L57b N 38 kk (lpF bo (pI_write_L57b N 38 kk) n) x m) Q
    generalize lpF bo (pI_write_L57b N 38 kk) n = self at ih' ⊢
    unfold pI_write_L57b
    refine rn_t (by rw [hem.d]; omega) (rn_t (by omega) ?_)
    have c0 : ∀ m' kz, IW 472 1 473 (imgB pl (vS m0 38)) m0 m' kz → ∀ kq : Int, 2 ≤ kq ∧ kq ≤ 5 → m' (38 + kq) x = vS m0 38 kq x := fun m' kz w kq hq => by
      rw [vS_in (by omega), w.2.2 _ _ (by omega)]
    rw [c0 m _ hw 2 (by omega)]
    refine rn_e (e_col (by rw [hem.d]; omega) (by omega)) ?_
    rw [hem.d 0]
    refine rn_b (c_add hw (by omega) (by rw [show 2 + pl 2 2 + 6 * x = 2 + pl 2 2 + 6 * x + 0 by omega, gi 0 (by omega), if_pos rfl])) (fun m1 w1 => ?_)
    refine rn_t (by omega) ?_
    rw [c0 m1 _ w1 2 (by omega)]
    refine rn_e (e_row (by rw [(pe m1 _ w1).d]; omega) (by omega)) ?_
    rw [(pe m1 _ w1).d 0]
    refine rn_b (c_add w1 (by omega) (by rw [gi 1 (by omega), if_neg (by omega), if_pos rfl])) (fun m2 w2 => ?_)
    refine rn_t (by omega) ?_
    rw [show 2 + pl 2 2 + 6 * x + 1 + 1 = 2 + pl 2 2 + 6 * x + 2 by omega] at w2
    rw [c0 m2 _ w2 3 (by omega)]
    refine rn_b (c_add w2 (by omega) (by rw [gi 2 (by omega), if_neg (by omega), if_neg (by omega), if_pos rfl])) (fun m3 w3 => ?_)
    refine rn_t (by omega) ?_
    rw [show 2 + pl 2 2 + 6 * x + 2 + 1 = 2 + pl 2 2 + 6 * x + 3 by omega] at w3
    rw [c0 m3 _ w3 4 (by omega)]
    refine rn_b (c_add w3 (by omega) (by rw [gi 3 (by omega), if_neg (by omega), if_neg (by omega), if_neg (by omega), if_pos rfl])) (fun m4 w4 => ?_)
    refine rn_t (by omega) ?_
    rw [show 2 + pl 2 2 + 6 * x + 3 + 1 = 2 + pl 2 2 + 6 * x + 4 by omega] at w4
    rw [c0 m4 _ w4 5 (by omega), d32_eq (by omega) (by omega) (by omega) (by omega)]
    refine rn_b (c_add w4 (by omega) (by rw [gi 4 (by omega), if_neg (by omega), if_neg (by omega), if_neg (by omega), if_neg (by omega), if_pos rfl])) (fun m5 w5 => ?_)
    refine rn_t (by omega) ?_
    rw [show 2 + pl 2 2 + 6 * x + 4 + 1 = 2 + pl 2 2 + 6 * x + 5 by omega] at w5
    rw [c0 m5 _ w5 5 (by omega), r32_eq (by omega) (by omega) (by omega) (by omega)]
    refine rn_b (c_add w5 (by omega) (by rw [gi 5 (by omega), if_neg (by omega), if_neg (by omega), if_neg (by omega), if_neg (by omega), if_neg (by omega)])) (fun m6 w6 => ?_)
    rw [w32_eq (x := x + 1) (by omega) (by omega)]
    rw [show 2 + pl 2 2 + 6 * x + 5 + 1 = 2 + pl 2 2 + 6 * (x + 1) by omega] at w6
    exact rn_v (ih' m6 (by omega) (by omega) (by omega) w6)
