/-! IMAGE: the reference, the call -/
theorem r_writes {k x : Int} {g : Int → Int} {m0 m : Mem} (h : IW 475 76 522 g m0 m k) (hk : 0 ≤ k ∧ k < 110) (hx : a32 x 255 = g k) : Rn (pM_writes m x) (fun m' => IW 475 76 522 g m0 m' (k + 1)) := by
  unfold pM_writes
  rw [h.1]
  refine rn_t hk (rn_v ?_)
  rw [mset_o (by omega), h.1, w32_eq (x := k + 1) (by omega) (by omega)]
  exact rn_v (rn_s (h.next (by decide) hk.1 hx))
theorem low8 {x : Int} (h : 0 ≤ x ∧ x ≤ 255) : a32 x 255 = x := by
  rw [a32_255n (by omega) (by omega)]; omega
theorem r_im30 {N : Nat} {Q : Int × Mem → Prop} {kk : Mem → Option (Int × Mem)} {bo : Int → Mem → Option (Int × Mem)} {pl m0 S : Mem} (hN : 2000 ≤ N) (hg : PG pl) (hr : PR pl) (hq : PQ pl m0) (hS : SR pl m0 0 S) (hb : SB pl S) (hk : ∀ m', IW 475 76 522 (imgB pl S) m0 m' (2 + pl 2 2) → Rn (kk m') Q) :
    ∀ (k n : Nat) (x : Int) (m : Mem), k < n → 0 ≤ x → x + k = 64 → IW 475 76 522 (imgB pl S) m0 m (2 + cn (pl 2 0) (pl 2 1) x) → Rn (lpF bo (pM_image_L30b N kk) n x m) Q := by
  intro k
  have hn := hg.num
  have h22 := hg.2.1
  induction k with
  | zero =>
    intro n x m hkn h0 hx hw
    obtain ⟨n, rfl⟩ : ∃ n', n = n' + 1 := ⟨n - 1, by omega⟩
    show Rn (pM_image_L30b N kk (lpF bo (pM_image_L30b N kk) n) x m) Q
    generalize lpF bo (pM_image_L30b N kk) n = self
    unfold pM_image_L30b
    refine rn_f (by omega) ?_
    rw [show x = 64 by omega, (cn_end hn.1 hn.2.1).1, ← h22] at hw
    exact hk m hw
  | succ k ih =>
    intro n x m hkn h0 hx hw
    obtain ⟨n, rfl⟩ : ∃ n', n = n' + 1 := ⟨n - 1, by omega⟩
    have ih' := ih n (x + 1)
    have hcs := cn_step (c := x) hn.1 hn.2.1 (by omega)
    have hqm : PQ pl m := hq.fr hw.2.2 (fun b j q => by unfold prc at q; omega)
    show Rn (pM_image_L30b N kk (lpF bo (pM_image_L30b N kk) n) x m) Q
    generalize lpF bo (pM_image_L30b N kk) n = self at ih' ⊢
    unfold pM_image_L30b
    refine rn_t (by omega) ?_
    rw [r32_eq (by omega) (by omega) (by omega) (by omega), d32_eq (by omega) (by omega) (by omega) (by omega)]
    refine rn_e (e_isCell hg hr hqm _ _) ?_
    by_cases hc : cellC pl x
    · obtain ⟨p, hp, hpx, hpe⟩ := ph_sur hg hc
      have hc' := hc
      unfold cellC at hc'
      rw [if_pos hc']
      have h1c := hcs.1 ⟨hc.1.2, hc.2.2⟩
      have hcp : cn (pl 2 0) (pl 2 1) x = p := by rw [h1c.2, hpe]
      have hcp1 : cn (pl 2 0) (pl 2 1) (x + 1) = p + 1 := by rw [h1c.1, hcp]
      rw [hcp] at hw
      rw [hcp1] at ih'
      have hd := hS.2.1 p hp.1 hp.2
      rw [show 64 * 0 + ph pl p = x by omega] at hd
      have hv : m 499 x = imgB pl S (2 + p) := by rw [imgB_p hp, ← hd, hw.2.2 _ _ (by omega)]
      have hb1 := hb.1 p hp.1 hp.2
      refine rn_f (by omega) (rn_t (by omega) ?_)
      refine rn_b (r_writes hw (by omega) (by rw [hv]; exact low8 (by rw [imgB_p hp]; omega))) (fun m1 w1 => ?_)
      rw [w32_eq (x := x + 1) (by omega) (by omega)]
      refine rn_v (ih' m1 (by omega) (by omega) (by omega) ?_)
      rw [show 2 + (p + 1) = 2 + p + 1 by omega]
      exact w1
    · have hc' := hc
      unfold cellC at hc'
      rw [if_neg hc']
      have hcc : ¬ (x % 8 < pl 2 0 ∧ x / 8 < pl 2 1) := fun q => hc (by unfold cellC; omega)
      rw [← hcs.2 hcc] at hw
      refine rn_t rfl (rn_v ?_)
      rw [w32_eq (x := x + 1) (by omega) (by omega)]
      exact ih' m (by omega) (by omega) (by omega) hw
theorem r_im69 {N : Nat} {Q : Int × Mem → Prop} {kk : Mem → Option (Int × Mem)} {bo : Int → Mem → Option (Int × Mem)} {pl m0 S : Mem} (hN : 2000 ≤ N) (hg : PG pl) (hr : PR pl) (hq : PQ pl m0) (hS : SR pl m0 0 S) (hb : SB pl S) (hk : ∀ m', IW 475 76 522 (imgB pl S) m0 m' (2 + pl 2 2 + 6 * pl 2 3) → Rn (kk m') Q) :
    ∀ (k n : Nat) (x : Int) (m : Mem), k < n → 0 ≤ x → x + k = pl 2 3 → IW 475 76 522 (imgB pl S) m0 m (2 + pl 2 2 + 6 * x) → Rn (lpF bo (pM_image_L69b N kk) n x m) Q := by
  intro k
  have hn := hg.num
  induction k with
  | zero =>
    intro n x m hkn h0 hx hw
    obtain ⟨n, rfl⟩ : ∃ n', n = n' + 1 := ⟨n - 1, by omega⟩
    have hqm : PQ pl m := hq.fr hw.2.2 (fun b j q => by unfold prc at q; omega)
    show Rn (pM_image_L69b N kk (lpF bo (pM_image_L69b N kk) n) x m) Q
    generalize lpF bo (pM_image_L69b N kk) n = self
    unfold pM_image_L69b
    rw [hqm.bk, hqm 480 _ (by unfold prc; omega), hr.2.2.2.1]
    refine rn_t hr.1 (rn_f (by omega) ?_)
    exact hk m (by rw [show x = pl 2 3 by omega] at hw; exact hw)
  | succ k ih =>
    intro n x m hkn h0 hx hw
    obtain ⟨n, rfl⟩ : ∃ n', n = n' + 1 := ⟨n - 1, by omega⟩
    have ih' := ih n (x + 1)
    have hSx := hb.2.1 x h0 (by omega)
    have hp := ph_eq hg hSx.1
    have hqm : PQ pl m := hq.fr hw.2.2 (fun b j q => by unfold prc at q; omega)
    have gi : ∀ r : Int, 0 ≤ r ∧ r < 6 → imgB pl S (2 + pl 2 2 + 6 * x + r) = _ := fun r hr => imgB_i (by omega) h0 hr
    have cS := hS.2.2.2.1 x h0 (by omega)
    rw [show 6 * 0 + x = x by omega] at cS
    have c0 : ∀ m' kz, IW 475 76 522 (imgB pl S) m0 m' kz → m' 500 x = ph pl (S 2 x) ∧ m' 501 x = S 3 x ∧ m' 502 x = S 4 x ∧ m' 503 x = S 5 x := fun m' kz w => by
      rw [w.2.2 500 x (by omega), w.2.2 501 x (by omega), w.2.2 502 x (by omega), w.2.2 503 x (by omega)]
      exact cS
    show Rn (pM_image_L69b N kk (lpF bo (pM_image_L69b N kk) n) x m) Q
    generalize lpF bo (pM_image_L69b N kk) n = self at ih' ⊢
    unfold pM_image_L69b
    rw [hqm.bk, hqm 480 _ (by unfold prc; omega), hr.2.2.2.1]
    refine rn_t hr.1 (rn_t (by omega) (rn_t (by omega) ?_))
    rw [(c0 m _ hw).1, r32_eq (by omega) (by omega) (by omega) (by omega)]
    refine rn_b (r_writes hw (by omega) (by rw [low8 (by omega), show 2 + pl 2 2 + 6 * x = 2 + pl 2 2 + 6 * x + 0 by omega, gi 0 (by omega), if_pos rfl]; exact hp.2.2.2.1)) (fun m1 w1 => ?_)
    refine rn_t (by omega) ?_
    rw [(c0 m1 _ w1).1, d32_eq (by omega) (by omega) (by omega) (by omega)]
    refine rn_b (r_writes w1 (by omega) (by rw [low8 (by omega), gi 1 (by omega), if_neg (by omega), if_pos rfl]; exact hp.2.2.2.2)) (fun m2 w2 => ?_)
    refine rn_t (by omega) ?_
    rw [show 2 + pl 2 2 + 6 * x + 1 + 1 = 2 + pl 2 2 + 6 * x + 2 by omega] at w2
    rw [(c0 m2 _ w2).2.1]
    refine rn_b (r_writes w2 (by omega) (by rw [low8 (by omega), gi 2 (by omega), if_neg (by omega), if_neg (by omega), if_pos rfl])) (fun m3 w3 => ?_)
    refine rn_t (by omega) ?_
    rw [show 2 + pl 2 2 + 6 * x + 2 + 1 = 2 + pl 2 2 + 6 * x + 3 by omega] at w3
    rw [(c0 m3 _ w3).2.2.1]
    refine rn_b (r_writes w3 (by omega) (by rw [low8 (by omega), gi 3 (by omega), if_neg (by omega), if_neg (by omega), if_neg (by omega), if_pos rfl])) (fun m4 w4 => ?_)
    refine rn_t (by omega) ?_
    rw [show 2 + pl 2 2 + 6 * x + 3 + 1 = 2 + pl 2 2 + 6 * x + 4 by omega] at w4
    rw [(c0 m4 _ w4).2.2.2, shr32_8 (by omega) (by omega)]
    refine rn_b (r_writes w4 (by omega) (by rw [low8 (by omega), gi 4 (by omega), if_neg (by omega), if_neg (by omega), if_neg (by omega), if_neg (by omega), if_pos rfl])) (fun m5 w5 => ?_)
    refine rn_t (by omega) ?_
    rw [show 2 + pl 2 2 + 6 * x + 4 + 1 = 2 + pl 2 2 + 6 * x + 5 by omega] at w5
    rw [(c0 m5 _ w5).2.2.2]
    refine rn_b (r_writes w5 (by omega) (by rw [a32_255n (by omega) (by omega), gi 5 (by omega), if_neg (by omega), if_neg (by omega), if_neg (by omega), if_neg (by omega), if_neg (by omega)])) (fun m6 w6 => ?_)
    rw [w32_eq (x := x + 1) (by omega) (by omega)]
    rw [show 2 + pl 2 2 + 6 * x + 5 + 1 = 2 + pl 2 2 + 6 * (x + 1) by omega] at w6
    exact rn_v (ih' m6 (by omega) (by omega) (by omega) w6)
theorem r_im163 {N : Nat} {m : Mem} {L : Int} {g : Int → Int} {kk : Int → Option (Int × Mem)} {bo : Int → Int → Option (Int × Mem)} (h76 : m 475 76 = L) (hL : 0 ≤ L ∧ L ≤ 110) (hm : ∀ j, 0 ≤ j → j < L → m 522 j = g j ∧ (0 ≤ g j ∧ g j ≤ 255)) : ∀ (k n : Nat) (x : Int), k < n → 0 ≤ x → x + k = L → lpF bo (pM_image_L163b N m kk) n (ckS g x.toNat) x = kk (ckS g L.toNat) := by
  intro k
  induction k with
  | zero =>
    intro n x hkn h0 hx
    obtain ⟨n, rfl⟩ : ∃ n', n = n' + 1 := ⟨n - 1, by omega⟩
    show pM_image_L163b N m kk (lpF bo (pM_image_L163b N m kk) n) _ x = _
    generalize lpF bo (pM_image_L163b N m kk) n = self
    unfold pM_image_L163b
    rw [if_neg (by omega), show x = L by omega]
  | succ k ih =>
    intro n x hkn h0 hx
    obtain ⟨n, rfl⟩ : ∃ n', n = n' + 1 := ⟨n - 1, by omega⟩
    have ih' := ih n (x + 1) (by omega) (by omega) (by omega)
    have hx1 := hm x h0 (by omega)
    show pM_image_L163b N m kk (lpF bo (pM_image_L163b N m kk) n) _ x = _
    generalize lpF bo (pM_image_L163b N m kk) n = self at ih' ⊢
    unfold pM_image_L163b
    rw [h76, if_pos (show x < L by omega), if_pos (show 0 ≤ x ∧ x < 110 by omega), hx1.1, ck_next h0 hx1.2, w32_eq (x := x + 1) (by omega) (by omega)]
    exact ih'
theorem r_image {N : Nat} {pl m S : Mem} (hN : 2000 ≤ N) (hg : PG pl) (hr : PR pl) (hq : PQ pl m) (hS : SR pl m 0 S) (hb : SB pl S) : Rn (pM_image N m) (fun p => p.1 = imgL pl + 1 ∧ IMG 475 76 522 pl S m p.2) := by
  have hn := hg.num
  have hd := hb.2.2.1
  have e0 : m 498 0 = S 0 0 := hS.1
  have b0 : imgB pl S 0 = S 0 0 / 256 := if_pos rfl
  have b1 : imgB pl S 1 = S 0 0 % 256 := by unfold imgB; rw [if_neg (by omega), if_pos rfl]
  unfold pM_image
  refine rn_l (fun m1 hm1 => ?_)
  have w1 : IW 475 76 522 (imgB pl S) m m1 0 := by
    rw [hm1]
    exact ⟨mset_s rfl rfl, fun j h0 h1 => by omega, Fr.rfl'.set (Or.inl ⟨rfl, rfl⟩)⟩
  clear hm1
  rw [w1.2.2 498 0 (by omega), e0, shr32_8 (by omega) (by omega)]
  refine rn_b (r_writes w1 (by omega) (by rw [b0]; exact low8 (by omega))) (fun m2 w2 => ?_)
  rw [w2.2.2 498 0 (by omega), e0]
  refine rn_b (r_writes w2 (by omega) (by rw [show (0 : Int) + 1 = 1 from rfl, b1]; exact a32_255n (by omega) (by omega))) (fun m3 w3 => ?_)
  unfold pM_image_L30
  refine r_im30 (m0 := m) (S := S) hN hg hr hq hS hb (fun m4 w4 => ?_) 64 N 0 m3 (by omega) (by omega) (by omega) (by rw [(cn_end hn.1 hn.2.1).2]; exact w3)
  unfold pM_image_L69
  refine r_im69 (m0 := m) (S := S) hN hg hr hq hS hb (fun m5 w5 => ?_) (pl 2 3).toNat N 0 m4 (by omega) (by omega) (by omega) (by rw [show 2 + pl 2 2 + 6 * 0 = 2 + pl 2 2 by omega]; exact w4)
  have hL : 0 ≤ imgL pl ∧ imgL pl ≤ 102 := by unfold imgL; omega
  have w6 : IW 475 76 522 (imgB pl S) m m5 (imgL pl) := w5
  unfold pM_image_L163
  have hl := r_im163 (N := N) (m := m5) (L := imgL pl) (g := imgB pl S) (kk := fun z1_192 => (pM_writes m5 z1_192).bind fun m194 => some (m194 475 76, m194)) (bo := fun _ _ => none) w6.1 (by omega) (fun j h0 h1 => ⟨w6.2.1 j h0 h1, imgB_rng hg hb ⟨h0, h1⟩⟩) (imgL pl).toNat N 0 (by omega) (by omega) (by omega)
  have hck := ckS_rng (imgB pl S) (imgL pl).toNat
  refine Exists.elim (p := fun r => pM_writes m5 (ckS (imgB pl S) (imgL pl).toNat) = some r ∧ IMG 475 76 522 pl S m r) ?_ (fun r h => ?_)
  · show Rn (pM_writes m5 (ckS (imgB pl S) (imgL pl).toNat)) (fun r => IMG 475 76 522 pl S m r)
    unfold pM_writes
    rw [w6.1]
    refine rn_t (by omega) (rn_v ?_)
    rw [mset_o (by omega), w6.1, w32_eq (x := imgL pl + 1) (by omega) (by omega)]
    exact rn_v (rn_s (w6.img (by decide) hL.1 (low8 (by omega))))
  · refine ⟨(r 475 76, r), hl.trans ?_, h.2.1, h.2⟩
    rw [h.1]
    rfl
theorem o_image {N : Nat} {m : Mem} (hN : 2000 ≤ N) (h : Core m) : ∃ r m1 m2, pD_image N m = some (r, m1) ∧ pM_image N m1 = some (r, m2) ∧ Core m2 ∧ Fr (fun b j => (b = 472 ∧ j = 1) ∨ b = 473 ∨ (b = 475 ∧ j = 76) ∨ b = 522) m m2 := by
  obtain ⟨h1, h2, h3, h4, ⟨hg, hr, hnm⟩, hst, hac, hse, him, hwk⟩ := id h
  have hn := hg.num
  have hL : 0 ≤ imgL (vP m) ∧ imgL (vP m) ≤ 102 := by unfold imgL; omega
  obtain ⟨m1, e1, i1⟩ := c_write hN hg (vP_PE m) hst.1
  have f1 := i1.2.2.2
  have s1 : SR (vP m) m1 0 (vS m 38) := hst.2.eq hg hst.1.2.2.2.2 (fun b j q => f1 b j (by have := FLy_b q; omega))
  have q1 : PQ (vP m) m1 := (vP_PQ m).fr f1 (fun b j q => by unfold prc at q; omega)
  obtain ⟨⟨r, m2⟩, e2, hr2, i2⟩ := r_image hN hg hr q1 s1 hst.1
  dsimp only at hr2 i2
  have f2 := i2.2.2.2
  have F : Fr (fun b j => (b = 472 ∧ j = 1) ∨ b = 473 ∨ (b = 475 ∧ j = 76) ∨ b = 522) m m2 := (f1.mono (fun b j q => by omega)).trans (f2.mono (fun b j q => by omega))
  have hD : pD_image N m = some (imgL (vP m) + 1, m1) := by
    unfold pD_image
    rw [e1, Option.bind_some, i1.1]
  refine ⟨r, m1, m2, by rw [hD, hr2], e2, ?_, F⟩
  have hp : vP m2 = vP m := vP_fr (fun b j q => F b j (by unfold plc prc at q; omega))
  unfold Core
  rw [hp]
  refine ⟨h1.fr (fun b j q => F b j (by unfold A1 at q; omega)), h2.fr (fun b j q => F b j (by unfold A2 at q; omega)), h3.fr (fun b j q => F b j (by unfold A3 at q; omega)), h4.fr (fun b j q => F b j (by unfold A4 at q; omega)), ⟨hg, hr, hnm⟩, hst.fr hg (fun b j q => F b j ?_), hac.fr hg (fun b j q => F b j ?_), hse.fr (fun b j q => F b j (by unfold A8 at q; omega)), ?_, (F _ _ (by omega)).trans hwk⟩
  · rcases q with q | q
    · omega
    · have := FLy_b q; omega
  · unfold A7 at q
    rcases q with q | q | q | ⟨v, _, _, q⟩
    · omega
    · omega
    · omega
    · have := FLy_b q; omega
  · have k1 : m2 472 1 = imgL (vP m) + 1 := by rw [f2 _ _ (by omega)]; exact i1.1
    refine ⟨by rw [i2.1, k1], by rw [k1]; omega, fun k k0 hk => ?_⟩
    rw [k1] at hk
    have k3 : m2 473 k = m1 473 k := f2 _ _ (by omega)
    rw [k3]
    by_cases q : k = imgL (vP m)
    · rw [q, i2.2.2.1, i1.2.2.1]
    · rw [i2.2.1 k k0 (by omega), i1.2.1 k k0 (by omega)]
