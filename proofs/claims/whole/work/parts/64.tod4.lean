/-! TODAY: up, home (the reference) -/
def FRq : Int → Int → Prop := fun b j => FRr b j ∨ FLy 1 b j
theorem FRq_CD {b j : Int} (h : CD b j) : ¬ FRq b j := by
  unfold FRq FRr FLy
  rcases h with h | h | h | h | h | h | h | h | h | h
  · unfold A1 at h; omega
  · unfold A2 at h; omega
  · unfold A3 at h; omega
  · unfold A4 at h; omega
  · unfold A5 plc prc at h; omega
  · unfold A6 FLy at h; omega
  · unfold A7 at h
    rcases h with h | h | h | ⟨v, _, _, h⟩
    · omega
    · omega
    · omega
    · unfold FLy at h; omega
  · unfold A8 at h; omega
  · unfold A9 at h; omega
  · unfold A10 at h; omega
theorem FRq_PQ {pl m m' : Mem} (h : PQ pl m) (f : Fr FRq m m') : PQ pl m' := h.fr f (fun b j q => FRq_CD (Or.inr (Or.inr (Or.inr (Or.inr (Or.inl (Or.inr q)))))))
theorem FRq_SR {pl m m' S : Mem} (hg : PG pl) (hb : SB pl S) (h : SR pl m 0 S) (f : Fr FRq m m') : SR pl m' 0 S := h.eq hg hb.2.2.2.2 (fun b j q => f b j (FRq_CD (Or.inr (Or.inr (Or.inr (Or.inr (Or.inr (Or.inl (Or.inr q)))))))))
theorem FRr_q {m m' : Mem} (f : Fr FRr m m') : Fr FRq m m' := f.mono (fun b j q => Or.inl q)
theorem FLy_q {m m' : Mem} (f : Fr (FLy 1) m m') : Fr FRq m m' := f.mono (fun b j q => Or.inr q)
theorem SB.set3 {pl S : Mem} {i x : Int} (hb : SB pl S) (hx : 0 ≤ x ∧ x ≤ 8) : SB pl (mset S 3 i x) := by
  refine ⟨fun p h0 h1 => ?_, fun k h0 h1 => ?_, ?_, ?_⟩
  · rw [mset_o (by omega)]; exact hb.1 p h0 h1
  · have h := hb.2.1 k h0 h1
    simp (disch := omega) only [mset_o]
    refine ⟨h.1, ?_, h.2.2⟩
    by_cases q : k = i
    · rw [mset_s rfl q]; exact hx
    · rw [mset_o (by omega)]; exact h.2.1
  · rw [mset_o (by omega)]; exact hb.2.2.1
  · rw [mset_o (by omega)]; exact hb.2.2.2
theorem SB.set2 {pl S : Mem} {i x : Int} (hb : SB pl S) (hx : 0 ≤ x ∧ x < pl 2 2) : SB pl (mset S 2 i x) := by
  refine ⟨fun p h0 h1 => ?_, fun k h0 h1 => ?_, ?_, ?_⟩
  · rw [mset_o (by omega)]; exact hb.1 p h0 h1
  · have h := hb.2.1 k h0 h1
    simp (disch := omega) only [mset_o]
    refine ⟨?_, h.2⟩
    by_cases q : k = i
    · rw [mset_s rfl q]; exact hx
    · rw [mset_o (by omega)]; exact h.1
  · rw [mset_o (by omega)]; exact hb.2.2.1
  · rw [mset_o (by omega)]; exact hb.2.2.2
theorem SB.set4 {pl S : Mem} {i x : Int} (hb : SB pl S) (hx : 1 ≤ x ∧ x ≤ 99) : SB pl (mset S 4 i x) := by
  refine ⟨fun p h0 h1 => ?_, fun k h0 h1 => ?_, ?_, ?_⟩
  · rw [mset_o (by omega)]; exact hb.1 p h0 h1
  · have h := hb.2.1 k h0 h1
    simp (disch := omega) only [mset_o]
    refine ⟨h.1, h.2.1, ?_, h.2.2.2⟩
    by_cases q : k = i
    · rw [mset_s rfl q]; exact hx
    · rw [mset_o (by omega)]; exact h.2.2.1
  · rw [mset_o (by omega)]; exact hb.2.2.1
  · rw [mset_o (by omega)]; exact hb.2.2.2
theorem SR.set3 {pl m S : Mem} {v i x : Int} (h : SR pl m v S) : SR pl (mset m 501 (6 * v + i) x) v (mset S 3 i x) := by
  obtain ⟨h1, h2, h3, h4, h5, h6⟩ := h
  refine ⟨?_, fun p h0 hp => ?_, fun c h0 hc1 hc2 => ?_, fun k h0 hk => ?_, ?_, fun j h0 hj => ?_⟩
  · rw [mset_o (by omega), mset_o (by omega)]; exact h1
  · rw [mset_o (by omega), mset_o (by omega)]; exact h2 p h0 hp
  · rw [mset_o (by omega)]; exact h3 c h0 hc1 hc2
  · have h := h4 k h0 hk
    simp (disch := omega) only [mset_o]
    refine ⟨h.1, ?_, h.2.2⟩
    by_cases q : k = i
    · rw [mset_s rfl (by omega), mset_s rfl q]
    · rw [mset_o (by omega), mset_o (by omega)]; exact h.2.1
  · rw [mset_o (by omega), mset_o (by omega)]; exact h5
  · rw [mset_o (by omega)] at hj
    rw [mset_o (by omega), mset_o (by omega)]; exact h6 j h0 hj
theorem SR.set2 {pl m S : Mem} {v i x : Int} (h : SR pl m v S) : SR pl (mset m 500 (6 * v + i) (ph pl x)) v (mset S 2 i x) := by
  obtain ⟨h1, h2, h3, h4, h5, h6⟩ := h
  refine ⟨?_, fun p h0 hp => ?_, fun c h0 hc1 hc2 => ?_, fun k h0 hk => ?_, ?_, fun j h0 hj => ?_⟩
  · rw [mset_o (by omega), mset_o (by omega)]; exact h1
  · rw [mset_o (by omega), mset_o (by omega)]; exact h2 p h0 hp
  · rw [mset_o (by omega)]; exact h3 c h0 hc1 hc2
  · have h := h4 k h0 hk
    simp (disch := omega) only [mset_o]
    refine ⟨?_, h.2⟩
    by_cases q : k = i
    · rw [mset_s rfl (by omega), mset_s rfl q]
    · rw [mset_o (by omega), mset_o (by omega)]; exact h.1
  · rw [mset_o (by omega), mset_o (by omega)]; exact h5
  · rw [mset_o (by omega)] at hj
    rw [mset_o (by omega), mset_o (by omega)]; exact h6 j h0 hj
theorem SR.set4 {pl m S : Mem} {v i x : Int} (h : SR pl m v S) : SR pl (mset m 502 (6 * v + i) x) v (mset S 4 i x) := by
  obtain ⟨h1, h2, h3, h4, h5, h6⟩ := h
  refine ⟨?_, fun p h0 hp => ?_, fun c h0 hc1 hc2 => ?_, fun k h0 hk => ?_, ?_, fun j h0 hj => ?_⟩
  · rw [mset_o (by omega), mset_o (by omega)]; exact h1
  · rw [mset_o (by omega), mset_o (by omega)]; exact h2 p h0 hp
  · rw [mset_o (by omega)]; exact h3 c h0 hc1 hc2
  · have h := h4 k h0 hk
    simp (disch := omega) only [mset_o]
    refine ⟨h.1, h.2.1, ?_, h.2.2.2⟩
    by_cases q : k = i
    · rw [mset_s rfl (by omega), mset_s rfl q]
    · rw [mset_o (by omega), mset_o (by omega)]; exact h.2.2.1
  · rw [mset_o (by omega), mset_o (by omega)]; exact h5
  · rw [mset_o (by omega)] at hj
    rw [mset_o (by omega), mset_o (by omega)]; exact h6 j h0 hj
theorem beg_set3 {pl S : Mem} {i x : Int} (hi : 0 ≤ i ∧ i < 6) : begS pl (mset S 3 i x) 1 = mset (begS pl S 1) 2 i x := by
  funext k j
  unfold begS begP
  simp (disch := omega) only [mset_o]
  unfold mset
  by_cases q : k = 2 ∧ j = i
  · rw [if_pos q, if_neg (by omega), if_neg (by omega), if_neg (by omega), if_pos (by omega), if_pos ⟨rfl, q.2⟩]
  · rw [if_neg q]
    by_cases q2 : k = 2 ∧ 0 ≤ j ∧ j < 6
    · rw [if_neg (show ¬ ((3 : Int) = 3 ∧ j = i) by omega)]
    · simp only [if_neg q2]
theorem beg_set2 {pl S : Mem} {i x : Int} (hi : 0 ≤ i ∧ i < 6) : begS pl (mset S 2 i x) 1 = mset (begS pl S 1) 4 i x := by
  funext k j
  unfold begS begP
  simp (disch := omega) only [mset_o]
  unfold mset
  by_cases q : k = 4 ∧ j = i
  · rw [if_pos q, if_neg (by omega), if_neg (by omega), if_neg (by omega), if_neg (by omega), if_neg (by omega), if_pos (by omega), if_pos ⟨rfl, q.2⟩]
  · rw [if_neg q]
    by_cases q2 : k = 4 ∧ 0 ≤ j ∧ j < 6
    · rw [if_neg (show ¬ ((2 : Int) = 2 ∧ j = i) by omega)]
    · simp only [if_neg q2]
theorem beg_set4 {pl S : Mem} {i x : Int} (hi : 0 ≤ i ∧ i < 6) : begS pl (mset S 4 i x) 1 = mset (begS pl S 1) 3 i x := by
  funext k j
  unfold begS begP
  simp (disch := omega) only [mset_o]
  unfold mset
  by_cases q : k = 3 ∧ j = i
  · rw [if_pos q, if_neg (by omega), if_neg (by omega), if_neg (by omega), if_neg (by omega), if_pos (by omega), if_pos ⟨rfl, q.2⟩]
  · rw [if_neg q]
    by_cases q2 : k = 3 ∧ 0 ≤ j ∧ j < 6
    · rw [if_neg (show ¬ ((4 : Int) = 4 ∧ j = i) by omega)]
    · simp only [if_neg q2]
/-- a day of the layer that is tried -/
theorem r_try {N : Nat} {pl m S : Mem} (hN : 2000 ≤ N) (hg : PG pl) (hr : PR pl) (hq : PQ pl m) (hS : SR pl m 1 S) (hb : SB pl S) (hwk : m 475 62 = -1) : Rn (pM_runs N m 1 1 (allS (pl 2 3))) (fun r => (∀ i, 0 ≤ i → i < pl 2 3 → r.2 510 i = thS pl 9 0 (begS pl S 1) 5 i) ∧ Fr FRr m r.2) := by
  have hW0 : mset (begS pl S 1) 0 7 63 = begS pl S 1 := mset_id rfl
  refine rn_q (r_runs_n (aw := 63) hN hg hr hq (by omega) (Or.inl rfl) hS hb (all_bits hg) hwk) (fun r hr1 => ?_)
  rw [hW0] at hr1
  exact ⟨fun i h0 h1 => (hr1.2.1.2.1 i h0 h1).2.1, hr1.2.2.2.2.2⟩
theorem r_up_L {N : Nat} {Q : Int × Mem → Prop} {kk : Int → Int → Mem → Option (Int × Mem)} {bo : Int → Int → Int → Mem → Option (Int × Mem)} {pl m0 S : Mem} {i c2 : Int} (hN : 2000 ≤ N) (hg : PG pl) (hr : PR pl) (hq : PQ pl m0) (hS : SR pl m0 0 S) (hb : SB pl S) (hwk : m0 475 62 = -1) (hi : 0 ≤ i ∧ i < pl 2 3) (hk : ∀ m', Fr FRq m0 m' → Rn (kk (betF (riseV pl S i) 9).1 (betF (riseV pl S i) 9).2 m') Q) :
    ∀ (k n : Nat) (x : Int) (m : Mem), k < n → 0 ≤ x → x + k = 9 → Fr FRq m0 m → Rn (lpF bo (pM_up_L27b N i c2 kk) n (betF (riseV pl S i) x.toNat).1 (betF (riseV pl S i) x.toNat).2 x m) Q := by
  intro k
  have hn := hg.num
  induction k with
  | zero =>
    intro n x m hkn h0 hx hf
    obtain ⟨n, rfl⟩ : ∃ n', n = n' + 1 := ⟨n - 1, by omega⟩
    show Rn (pM_up_L27b N i c2 kk (lpF bo (pM_up_L27b N i c2 kk) n) _ _ x m) Q
    generalize lpF bo (pM_up_L27b N i c2 kk) n = self
    unfold pM_up_L27b
    refine rn_f (by omega) ?_
    rw [show x.toNat = 9 by omega]
    exact hk m hf
  | succ k ih =>
    intro n x m hkn h0 hx hf
    obtain ⟨n, rfl⟩ : ∃ n', n = n' + 1 := ⟨n - 1, by omega⟩
    have ih' := ih n (x + 1)
    show Rn (pM_up_L27b N i c2 kk (lpF bo (pM_up_L27b N i c2 kk) n) _ _ x m) Q
    generalize lpF bo (pM_up_L27b N i c2 kk) n = self at ih' ⊢
    unfold pM_up_L27b
    refine rn_t (by omega) ?_
    refine rn_b (r_copies (S := S) hN hg (d := 1) (s := 0) (by omega) (by omega) (by omega) (FRq_SR hg hb hS hf) hb.2.2.2) (fun m1 h1 => ?_)
    rw [w32_eq (x := 6 + i) (by omega) (by omega)]
    refine rn_t (by omega) (rn_l (fun m2 hm2 => ?_))
    have f2 : Fr (FLy 1) m m2 := by rw [hm2]; exact h1.2.set (by unfold FLy; omega)
    have hS2 : SR pl m2 1 (mset S 3 i x) := by rw [hm2, show 6 + i = 6 * 1 + i by omega]; exact h1.1.set3
    clear hm2
    have F2 := hf.trans (FLy_q f2)
    have hq2 := FRq_PQ hq F2
    refine rn_e (e_all hg hr hq2) ?_
    refine rn_b2 (P := fun _ m3 => (∀ j, 0 ≤ j → j < pl 2 3 → m3 510 j = thS pl 9 0 (begS pl (mset S 3 i x) 1) 5 j) ∧ Fr FRr m2 m3) (r_try hN hg hr hq2 hS2 (hb.set3 (by omega)) ((F2 475 62 (by unfold FRq FRr FLy; omega)).trans hwk)) (fun r m3 h3 => ?_)
    obtain ⟨hv, f3⟩ := h3
    dsimp only
    have F3 := F2.trans (FRr_q f3)
    have ex : ((x.toNat : Nat) : Int) = x := by omega
    have hval : m3 510 i = riseV pl S i x.toNat := by
      rw [hv i hi.1 hi.2, beg_set3 (by omega)]
      unfold riseV
      rw [ex]
    have hnx : betF (riseV pl S i) (x + 1).toNat = if (betF (riseV pl S i) x.toNat).2 < riseV pl S i x.toNat then (x, riseV pl S i x.toNat) else betF (riseV pl S i) x.toNat := by
      rw [show (x + 1).toNat = x.toNat + 1 by omega]
      show (if (betF (riseV pl S i) x.toNat).2 < riseV pl S i x.toNat then (((x.toNat : Nat) : Int), riseV pl S i x.toNat) else betF (riseV pl S i) x.toNat) = _
      rw [ex]
    rw [hval, w32_eq (x := x + 1) (by omega) (by omega)]
    refine rn_t (by omega) ?_
    have ih3 := ih' m3 (by omega) (by omega) (by omega) F3
    rw [hnx] at ih3
    refine rn_i (fun q => ?_) (fun q => ?_)
    · refine rn_t (by omega) (rn_v (rn_v ?_))
      rw [if_pos q] at ih3
      exact ih3
    · refine rn_v ?_
      rw [if_neg q] at ih3
      exact ih3
theorem r_home_L {N : Nat} {Q : Int × Mem → Prop} {kk : Int → Int → Mem → Option (Int × Mem)} {bo : Int → Int → Int → Mem → Option (Int × Mem)} {pl m0 S : Mem} {i c2 : Int} (hN : 2000 ≤ N) (hg : PG pl) (hr : PR pl) (hq : PQ pl m0) (hS : SR pl m0 0 S) (hb : SB pl S) (hwk : m0 475 62 = -1) (hi : 0 ≤ i ∧ i < pl 2 3) (hk : ∀ m', Fr FRq m0 m' → Rn (kk (phx pl (betF (homeV pl S i) (pl 2 2).toNat).1) (betF (homeV pl S i) (pl 2 2).toNat).2 m') Q) :
    ∀ (k n : Nat) (x : Int) (m : Mem), k < n → 0 ≤ x → x + k = 64 → Fr FRq m0 m → Rn (lpF bo (pM_home_L27b N i c2 kk) n (phx pl (betF (homeV pl S i) (cn (pl 2 0) (pl 2 1) x).toNat).1) (betF (homeV pl S i) (cn (pl 2 0) (pl 2 1) x).toNat).2 x m) Q := by
  intro k
  have hn := hg.num
  have h22 := hg.2.1
  induction k with
  | zero =>
    intro n x m hkn h0 hx hf
    obtain ⟨n, rfl⟩ : ∃ n', n = n' + 1 := ⟨n - 1, by omega⟩
    show Rn (pM_home_L27b N i c2 kk (lpF bo (pM_home_L27b N i c2 kk) n) _ _ x m) Q
    generalize lpF bo (pM_home_L27b N i c2 kk) n = self
    unfold pM_home_L27b
    refine rn_f (by omega) ?_
    rw [show x = 64 by omega, (cn_end hn.1 hn.2.1).1, ← h22]
    exact hk m hf
  | succ k ih =>
    intro n x m hkn h0 hx hf
    obtain ⟨n, rfl⟩ : ∃ n', n = n' + 1 := ⟨n - 1, by omega⟩
    have ih' := ih n (x + 1)
    have hcs := cn_step (c := x) hn.1 hn.2.1 (by omega)
    show Rn (pM_home_L27b N i c2 kk (lpF bo (pM_home_L27b N i c2 kk) n) _ _ x m) Q
    generalize lpF bo (pM_home_L27b N i c2 kk) n = self at ih' ⊢
    unfold pM_home_L27b
    refine rn_t (by omega) ?_
    rw [r32_eq (by omega) (by omega) (by omega) (by omega), d32_eq (by omega) (by omega) (by omega) (by omega)]
    refine rn_e (e_isCell hg hr (FRq_PQ hq hf) _ _) ?_
    by_cases hc : cellC pl x
    · obtain ⟨p, hp, hpx, hpe⟩ := ph_sur hg hc
      have hc' := hc
      unfold cellC at hc'
      rw [if_pos hc']
      have h1c := hcs.1 ⟨hc.1.2, hc.2.2⟩
      have hcp : cn (pl 2 0) (pl 2 1) x = p := by rw [h1c.2, hpe]
      have hcp1 : cn (pl 2 0) (pl 2 1) (x + 1) = p + 1 := by rw [h1c.1, hcp]
      rw [hcp]
      rw [hcp1] at ih'
      refine rn_f (by omega) ?_
      refine rn_b (r_copies (S := S) hN hg (d := 1) (s := 0) (by omega) (by omega) (by omega) (FRq_SR hg hb hS hf) hb.2.2.2) (fun m1 h1 => ?_)
      rw [w32_eq (x := 6 + i) (by omega) (by omega)]
      refine rn_t (by omega) (rn_l (fun m2 hm2 => ?_))
      have f2 : Fr (FLy 1) m m2 := by rw [hm2]; exact h1.2.set (by unfold FLy; omega)
      have hS2 : SR pl m2 1 (mset S 2 i p) := by rw [hm2, show 6 + i = 6 * 1 + i by omega, ← hpx]; exact h1.1.set2
      clear hm2
      have F2 := hf.trans (FLy_q f2)
      have hq2 := FRq_PQ hq F2
      refine rn_e (e_all hg hr hq2) ?_
      refine rn_b2 (P := fun _ m3 => (∀ j, 0 ≤ j → j < pl 2 3 → m3 510 j = thS pl 9 0 (begS pl (mset S 2 i p) 1) 5 j) ∧ Fr FRr m2 m3) (r_try hN hg hr hq2 hS2 (hb.set2 hp) ((F2 475 62 (by unfold FRq FRr FLy; omega)).trans hwk)) (fun r m3 h3 => ?_)
      obtain ⟨hv, f3⟩ := h3
      dsimp only
      have F3 := F2.trans (FRr_q f3)
      have ex : ((p.toNat : Nat) : Int) = p := by omega
      have hval : m3 510 i = homeV pl S i p.toNat := by
        rw [hv i hi.1 hi.2, beg_set2 (by omega)]
        unfold homeV
        rw [ex]
      have hnx : betF (homeV pl S i) (p + 1).toNat = if (betF (homeV pl S i) p.toNat).2 < homeV pl S i p.toNat then (p, homeV pl S i p.toNat) else betF (homeV pl S i) p.toNat := by
        rw [show (p + 1).toNat = p.toNat + 1 by omega]
        show (if (betF (homeV pl S i) p.toNat).2 < homeV pl S i p.toNat then (((p.toNat : Nat) : Int), homeV pl S i p.toNat) else betF (homeV pl S i) p.toNat) = _
        rw [ex]
      rw [hval, w32_eq (x := x + 1) (by omega) (by omega)]
      refine rn_t (by omega) ?_
      have ih3 := ih' m3 (by omega) (by omega) (by omega) F3
      rw [hnx] at ih3
      refine rn_i (fun q => ?_) (fun q => ?_)
      · refine rn_t (by omega) (rn_v (rn_v ?_))
        rw [if_pos q] at ih3
        have e : phx pl p = x := by unfold phx; rw [if_neg (by omega)]; exact hpx
        rw [show phx pl (p, homeV pl S i p.toNat).1 = x from e] at ih3
        exact ih3
      · refine rn_v ?_
        rw [if_neg q] at ih3
        exact ih3
    · have hc' := hc
      unfold cellC at hc'
      rw [if_neg hc']
      have hcc : ¬ (x % 8 < pl 2 0 ∧ x / 8 < pl 2 1) := fun q => hc (by unfold cellC; omega)
      rw [← hcs.2 hcc]
      refine rn_t rfl (rn_v ?_)
      rw [w32_eq (x := x + 1) (by omega) (by omega)]
      exact ih' m (by omega) (by omega) (by omega) hf
