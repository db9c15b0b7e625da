/-! WALKERS, TELLS: the reference -/
def SNr (pl m : Mem) (sn : Int → Int) (K : Nat) : Prop := m 475 68 = K ∧ K ≤ 16 ∧ ∀ r : Int, 0 ≤ r → r < K → m 516 r = sn (4 * r) ∧ m 517 r = 8 * sn (4 * r + 2) + sn (4 * r + 1) ∧ m 518 r = sn (4 * r + 3) ∧ (0 ≤ sn (4 * r) ∧ sn (4 * r) ≤ 8) ∧ (0 ≤ sn (4 * r + 1) ∧ sn (4 * r + 1) < pl 2 0) ∧ (0 ≤ sn (4 * r + 2) ∧ sn (4 * r + 2) < pl 2 1)
theorem SNr.fr {pl m m' : Mem} {sn : Int → Int} {K : Nat} (h : SNr pl m sn K) (f : ∀ b j, (b = 475 ∧ j = 68) ∨ (516 ≤ b ∧ b ≤ 518) → m' b j = m b j) : SNr pl m' sn K := ⟨by rw [f _ _ (Or.inl ⟨rfl, rfl⟩)]; exact h.1, h.2.1, fun r h0 h1 => by rw [f 516 r (Or.inr (by omega)), f 517 r (Or.inr (by omega)), f 518 r (Or.inr (by omega))]; exact h.2.2 r h0 h1⟩
theorem r_lv25 {N : Nat} {pl S m : Mem} {sn : Int → Int} {w c1 : Int} {K : Nat} {kk : Int → Option (Int × Mem)} {bo : Int → Int → Option (Int × Mem)} (hg : PG pl) (hs : SNr pl m sn K) (htb : ∀ x, 0 ≤ x → x < 9 → ∀ p, 0 ≤ p → p < pl 2 2 → m 511 (64 * (x + 1) + ph pl p) = dwS pl S w x p) :
    ∀ (k n r : Nat), k < n → r + k = K → lpF bo (pM_leaves_L25b N m c1 w kk) n (if soR pl S sn w r then 1 else 0) (r : Int) = kk (if soR pl S sn w K then 1 else 0) := by
  obtain ⟨h68, hK, hrow⟩ := hs
  intro k
  induction k with
  | zero =>
    intro n r hkn hx
    obtain ⟨n, rfl⟩ : ∃ n', n = n' + 1 := ⟨n - 1, by omega⟩
    show pM_leaves_L25b N m c1 w kk (lpF bo (pM_leaves_L25b N m c1 w kk) n) _ (r : Int) = _
    generalize lpF bo (pM_leaves_L25b N m c1 w kk) n = self
    unfold pM_leaves_L25b
    rw [h68, if_neg (by omega), show r = K by omega]
  | succ k ih =>
    intro n r hkn hx
    obtain ⟨n, rfl⟩ : ∃ n', n = n' + 1 := ⟨n - 1, by omega⟩
    have ih' := ih n (r + 1) (by omega) (by omega)
    rw [show ((r + 1 : Nat) : Int) = (r : Int) + 1 by omega] at ih'
    obtain ⟨a1, a2, a3, b1, b2, b3⟩ := hrow r (by omega) (by omega)
    have hat := at_ph hg ⟨b2, b3⟩
    show pM_leaves_L25b N m c1 w kk (lpF bo (pM_leaves_L25b N m c1 w kk) n) _ (r : Int) = _
    generalize lpF bo (pM_leaves_L25b N m c1 w kk) n = self at ih' ⊢
    unfold pM_leaves_L25b
    rw [h68, if_pos (by omega), w32_eq (x := (r : Int) + 1) (by omega) (by omega)]
    have e0 : soR pl S sn w (r + 1) = (soR pl S sn w r && decide (dwS pl S w (sn (4 * (r : Int))) (sn (4 * (r : Int) + 2) * pl 2 0 + sn (4 * (r : Int) + 1)) = sn (4 * (r : Int) + 3))) := rfl
    by_cases q : soR pl S sn w r = true
    · rw [q, Bool.true_and] at e0
      rw [if_pos q, if_neg (show ¬ ((1 : Int) = 0) by omega), if_pos (by omega), if_pos (by omega), a1, a2, a3, ← hat.2]
      generalize sn (4 * (r : Int) + 2) * pl 2 0 + sn (4 * (r : Int) + 1) = p at hat e0
      have hph := ph_eq hg hat.1
      rw [w32_eq (x := sn (4 * (r : Int)) + 1) (by omega) (by omega), w32_eq (x := 64 * (sn (4 * (r : Int)) + 1)) (by omega) (by omega), w32_eq (x := 64 * (sn (4 * (r : Int)) + 1) + ph pl p) (by omega) (by omega), if_pos (by omega), if_pos (by omega), htb _ b1.1 (by omega) p hat.1.1 hat.1.2]
      by_cases q2 : dwS pl S w (sn (4 * (r : Int))) p = sn (4 * (r : Int) + 3)
      · rw [if_pos q2, Option.bind_some]
        rw [e0, if_pos (decide_eq_true q2)] at ih'
        exact ih'
      · rw [if_neg q2, Option.bind_some]
        rw [e0, decide_eq_false q2, if_neg (by decide)] at ih'
        exact ih'
    · rw [if_neg q, if_pos rfl, Option.bind_some]
      have q' : soR pl S sn w r = false := by
        cases h : soR pl S sn w r
        · rfl
        · exact absurd h q
      rw [q', Bool.false_and] at e0
      rw [e0, if_neg (by decide)] at ih'
      exact ih'
theorem r_lv112 {N : Nat} {Q : Int × Mem → Prop} {kk : Mem → Option (Int × Mem)} {bo : Int → Mem → Option (Int × Mem)} {m0 : Mem} {c1 w : Int} (hw : 0 ≤ w ∧ w < 64) (hk : ∀ m', (∀ j, 0 ≤ j → j < 576 → m' 519 (576 * w + j) = m0 511 (64 + j)) → Fr (fun b j => b = 519 ∧ 576 * w ≤ j ∧ j < 576 * w + 576) m0 m' → Rn (kk m') Q) :
    ∀ (k n : Nat) (x : Int) (m : Mem), k < n → 0 ≤ x → x + k = 576 → (∀ j, 0 ≤ j → j < x → m 519 (576 * w + j) = m0 511 (64 + j)) → Fr (fun b j => b = 519 ∧ 576 * w ≤ j ∧ j < 576 * w + 576) m0 m → Rn (lpF bo (pM_leaves_L112b N c1 w kk) n x m) Q := by
  intro k
  induction k with
  | zero =>
    intro n x m hkn h0 hx hm hf
    obtain ⟨n, rfl⟩ : ∃ n', n = n' + 1 := ⟨n - 1, by omega⟩
    show Rn (pM_leaves_L112b N c1 w kk (lpF bo (pM_leaves_L112b N c1 w kk) n) x m) Q
    generalize lpF bo (pM_leaves_L112b N c1 w kk) n = self
    unfold pM_leaves_L112b
    refine rn_f (by omega) ?_
    exact hk m (fun i q0 q1 => hm i q0 (by omega)) hf
  | succ k ih =>
    intro n x m hkn h0 hx hm hf
    obtain ⟨n, rfl⟩ : ∃ n', n = n' + 1 := ⟨n - 1, by omega⟩
    have ih' := ih n (x + 1)
    show Rn (pM_leaves_L112b N c1 w kk (lpF bo (pM_leaves_L112b N c1 w kk) n) x m) Q
    generalize lpF bo (pM_leaves_L112b N c1 w kk) n = self at ih' ⊢
    unfold pM_leaves_L112b
    have e1 : m 511 (64 + x) = m0 511 (64 + x) := hf _ _ (by omega)
    rw [w32_eq (x := 64 + x) (by omega) (by omega), w32_eq (x := 576 * w) (by omega) (by omega), w32_eq (x := 576 * w + x) (by omega) (by omega), w32_eq (x := x + 1) (by omega) (by omega), e1]
    refine rn_t (by omega) (rn_t (by omega) (rn_t (by omega) (rn_v (rn_v ?_))))
    refine ih' _ (by omega) (by omega) (by omega) (fun j q0 q1 => ?_) (hf.set (by omega))
    by_cases q : j = x
    · rw [q, mset_s rfl rfl]
    · rw [mset_o (by omega)]; exact hm j q0 (by omega)
def RLv (pl S m : Mem) (so : Nat → Bool) (x : Nat) : Prop := ∀ w : Nat, w < x → m 520 w = (if so w then 1 else 0) ∧ ∀ h, 0 ≤ h → h < 9 → ∀ p, 0 ≤ p → p < pl 2 2 → m 519 (576 * (w : Int) + 64 * h + ph pl p) = dwS pl S w h p
def FRl : Int → Int → Prop := fun b _ => (506 ≤ b ∧ b ≤ 513) ∨ b = 519 ∨ b = 520
theorem r_lv4 {N : Nat} {Q : Int × Mem → Prop} {kk : Int → Mem → Option (Int × Mem)} {bo : Int → Int → Mem → Option (Int × Mem)} {pl S m0 : Mem} {sn : Int → Int} {K : Nat} (hN : 2000 ≤ N) (hg : PG pl) (hr : PR pl) (hq : PQ pl m0) (hS : SR pl m0 0 S) (hb : SB pl S) (hwk : m0 475 62 = -1) (hs : SNr pl m0 sn K) (hk : ∀ m', RLv pl S m' (soF pl S sn K) (setN pl) → Fr FRl m0 m' → Rn (kk (nbO (soF pl S sn K) (setN pl)) m') Q) :
    ∀ (k n x : Nat) (m : Mem), k < n → x + k = setN pl → RLv pl S m (soF pl S sn K) x → Fr FRl m0 m → Rn (lpF bo (pM_leaves_L4b N kk) n (nbO (soF pl S sn K) x) (x : Int) m) Q := by
  have hn := hg.num
  have hT := setN_ok hg
  intro k
  induction k with
  | zero =>
    intro n x m hkn hx hl hf
    obtain ⟨n, rfl⟩ : ∃ n', n = n' + 1 := ⟨n - 1, by omega⟩
    have hqm : PQ pl m := hq.fr hf (fun b j q => by unfold prc at q; unfold FRl; omega)
    show Rn (pM_leaves_L4b N kk (lpF bo (pM_leaves_L4b N kk) n) _ (x : Int) m) Q
    generalize lpF bo (pM_leaves_L4b N kk) n = self
    unfold pM_leaves_L4b
    refine rn_e (e_all hg hr hqm) ?_
    rw [hT.2.2]
    refine rn_t (by omega) ?_
    have hx' : x = setN pl := by omega
    rw [hx'] at hl ⊢
    exact hk m hl hf
  | succ k ih =>
    intro n x m hkn hx hl hf
    obtain ⟨n, rfl⟩ : ∃ n', n = n' + 1 := ⟨n - 1, by omega⟩
    have ih' := ih n (x + 1)
    rw [show ((x + 1 : Nat) : Int) = (x : Int) + 1 by omega] at ih'
    have hqm : PQ pl m := hq.fr hf (fun b j q => by unfold prc at q; unfold FRl; omega)
    have hSm : SR pl m 0 S := hS.eq hg hb.2.2.2.2 (fun b j q => hf b j (by have := FLy_b q; unfold FRl; omega))
    have hwm : m 475 62 = -1 := by rw [hf _ _ (by unfold FRl; omega)]; exact hwk
    show Rn (pM_leaves_L4b N kk (lpF bo (pM_leaves_L4b N kk) n) _ (x : Int) m) Q
    generalize lpF bo (pM_leaves_L4b N kk) n = self at ih' ⊢
    unfold pM_leaves_L4b
    refine rn_e (e_all hg hr hqm) ?_
    rw [hT.2.2]
    refine rn_f (by omega) ?_
    refine rn_b2 (P := fun _ m1 => (∀ y, 0 ≤ y → y < 9 → TBh pl m1 y (thS pl (y + 1).toNat 0 (begW pl S x))) ∧ Fr FRr m m1) (rn_q (r_runs_n (v := 0) (t := 1) (who := (x : Int)) (aw := (x : Int)) hN hg hr hqm (by omega) (Or.inl rfl) hSm hb (fun i _ _ => rfl) hwm) (fun r hr => ⟨hr.2.2.2.1, hr.2.2.2.2.2⟩)) (fun r m1 h1 => ?_)
    obtain ⟨tb, f1⟩ := h1
    dsimp only
    have g1 : Fr FRl m0 m1 := hf.trans (f1.mono (fun b j q => by unfold FRr at q; unfold FRl; omega))
    have hs1 : SNr pl m1 sn K := hs.fr (fun b j q => g1 b j (by unfold FRl; omega))
    have hL25 : ∀ (kk' : Int → Option (Int × Mem)) c, pM_leaves_L25 N m1 c (x : Int) kk' N 1 0 = kk' (if soR pl S sn x K then 1 else 0) := fun kk' c => by
      unfold pM_leaves_L25
      have := r_lv25 (N := N) (S := S) (w := (x : Int)) (c1 := c) (kk := kk') (bo := fun _ _ => none) hg hs1 (fun y y0 y1 p p0 p1 => (tb y y0 y1).1 p p0 p1) K N 0 (by have := hs1.2.1; omega) (by omega)
      exact this
    rw [hL25]
    have enb : nbO (soF pl S sn K) (x + 1) = nbO (soF pl S sn K) x + (if soF pl S sn K x then 1 else 0) := rfl
    have hso : soF pl S sn K x = soR pl S sn x K := rfl
    have hnb := nbO_le (soF pl S sn K) x
    rw [← hso]
    generalize hy : (if soF pl S sn K x then (1 : Int) else 0) = y
    have hy2 : (if y = 0 then (0 : Int) else 1) = y := by
      rw [← hy]
      cases soF pl S sn K x <;> rfl
    have hy3 : ((nbO (soF pl S sn K) (x + 1) : Nat) : Int) = nbO (soF pl S sn K) x + y := by
      rw [enb, ← hy]
      cases soF pl S sn K x <;> rfl
    rw [hy2]
    refine rn_v (rn_t (by omega) (rn_l (fun m2 hm2 => ?_)))
    have k520 : m2 520 (x : Int) = y := by rw [hm2, mset_s rfl rfl]
    have f2 : Fr (fun b j => b = 520 ∧ j = x) m1 m2 := by rw [hm2]; exact Fr.rfl'.set ⟨rfl, rfl⟩
    clear hm2
    rw [k520, ← hy3, w32_eq (x := (nbO (soF pl S sn K) (x + 1) : Int)) (by omega) (by omega)]
    have hnb2 := nbO_le (soF pl S sn K) (x + 1)
    refine rn_t (by omega) (rn_v ?_)
    unfold pM_leaves_L112
    refine r_lv112 (m0 := m2) (w := (x : Int)) (by omega) (fun m3 h3 f3 => rn_v ?_) 576 N 0 m2 (by omega) (by omega) (by omega) (fun j q0 q1 => by omega) Fr.rfl'
    rw [w32_eq (x := (x : Int) + 1) (by omega) (by omega)]
    have F13 : ∀ b j : Int, ¬ (b = 520 ∧ j = x) → ¬ (b = 519 ∧ 576 * (x : Int) ≤ j ∧ j < 576 * (x : Int) + 576) → m3 b j = m1 b j := fun b j z1 z2 => (f3 b j z2).trans (f2 b j z1)
    refine ih' m3 (by omega) (by omega) (fun w hw => ?_) ((g1.trans (f2.mono (fun b j q => by unfold FRl; omega))).trans (f3.mono (fun b j q => by unfold FRl; omega)))
    by_cases qw : w = x
    · rw [qw]
      refine ⟨by rw [f3 _ _ (by omega), k520, hy], fun h h0 h1 p p0 p1 => ?_⟩
      have hph := ph_eq hg ⟨p0, p1⟩
      rw [show 576 * (x : Int) + 64 * h + ph pl p = 576 * (x : Int) + (64 * h + ph pl p) by omega, h3 _ (by omega) (by omega), f2 _ _ (by omega), show 64 + (64 * h + ph pl p) = 64 * (h + 1) + ph pl p by omega, (tb h h0 h1).1 p p0 p1]
      rfl
    · have ho := hl w (by omega)
      refine ⟨by rw [F13 _ _ (by omega) (by omega), f1 _ _ (by unfold FRr; omega)]; exact ho.1, fun h h0 h1 p p0 p1 => ?_⟩
      have hph := ph_eq hg ⟨p0, p1⟩
      rw [F13 _ _ (by omega) (by omega), f1 _ _ (by unfold FRr; omega)]
      exact ho.2 h h0 h1 p p0 p1
theorem r_leaves {N : Nat} {pl S m : Mem} {sn : Int → Int} {K : Nat} (hN : 2000 ≤ N) (hg : PG pl) (hr : PR pl) (hq : PQ pl m) (hS : SR pl m 0 S) (hb : SB pl S) (hwk : m 475 62 = -1) (hs : SNr pl m sn K) : Rn (pM_leaves N m) (fun r => r.1 = nbO (soF pl S sn K) (setN pl) ∧ RLv pl S r.2 (soF pl S sn K) (setN pl) ∧ Fr FRl m r.2) := by
  have hT := setN_ok hg
  unfold pM_leaves pM_leaves_L4
  exact r_lv4 (m0 := m) (S := S) hN hg hr hq hS hb hwk hs (fun m1 h1 f1 => rn_s ⟨rfl, h1, f1⟩) (setN pl) N 0 m (by omega) (by omega) (fun w hw => absurd hw (Nat.not_lt_zero _)) Fr.rfl'
theorem r_mb2 {N : Nat} {Q : Int × Mem → Prop} {kk : Mem → Option (Int × Mem)} {bo : Int → Mem → Option (Int × Mem)} {m0 : Mem} {c1 : Int} (hk : ∀ m', (∀ y, 0 ≤ y → y < 100 → m' 521 y = 0) → Fr (fun b _ => b = 521) m0 m' → Rn (kk m') Q) :
    ∀ (k n : Nat) (x : Int) (m : Mem), k < n → 0 ≤ x → x + k = 100 → (∀ y, 0 ≤ y → y < x → m 521 y = 0) → Fr (fun b _ => b = 521) m0 m → Rn (lpF bo (pM_mostBy_L2b N c1 kk) n x m) Q := by
  intro k
  induction k with
  | zero =>
    intro n x m hkn h0 hx hm hf
    obtain ⟨n, rfl⟩ : ∃ n', n = n' + 1 := ⟨n - 1, by omega⟩
    show Rn (pM_mostBy_L2b N c1 kk (lpF bo (pM_mostBy_L2b N c1 kk) n) x m) Q
    generalize lpF bo (pM_mostBy_L2b N c1 kk) n = self
    unfold pM_mostBy_L2b
    refine rn_t (by omega) ?_
    exact hk m (fun i q0 q1 => hm i q0 (by omega)) hf
  | succ k ih =>
    intro n x m hkn h0 hx hm hf
    obtain ⟨n, rfl⟩ : ∃ n', n = n' + 1 := ⟨n - 1, by omega⟩
    have ih' := ih n (x + 1) (mset m 521 x 0) (by omega) (by omega) (by omega) (fun i q0 q1 => by
      by_cases q : i = x
      · rw [mset_s rfl q]
      · rw [mset_o (by omega)]; exact hm i q0 (by omega)) (hf.set rfl)
    show Rn (pM_mostBy_L2b N c1 kk (lpF bo (pM_mostBy_L2b N c1 kk) n) x m) Q
    generalize lpF bo (pM_mostBy_L2b N c1 kk) n = self at ih' ⊢
    unfold pM_mostBy_L2b
    refine rn_f (by omega) (rn_t (by omega) (rn_v (rn_v ?_)))
    rw [w32_eq (x := x + 1) (by omega) (by omega)]
    exact ih'
theorem r_mb25 {N : Nat} {Q : Int × Mem → Prop} {kk : Int → Mem → Option (Int × Mem)} {bo : Int → Int → Mem → Option (Int × Mem)} {pl m0 : Mem} {c1 : Int} {v : Nat → Int} {so : Nat → Bool} (hg : PG pl) (hr : PR pl) (hq : PQ pl m0) (hc : 0 ≤ c1 ∧ c1 < 576) (hv : ∀ k, k < setN pl → 0 ≤ v k ∧ v k ≤ 99) (hm : ∀ k : Nat, k < setN pl → m0 520 k = (if so k then 1 else 0) ∧ m0 519 (576 * (k : Int) + c1) = v k)
    (hk : ∀ m', Fr (fun b _ => b = 521) m0 m' → Rn (kk (mlS v so (setN pl)).2 m') Q) :
    ∀ (k n x : Nat) (m : Mem), k < n → x + k = setN pl → (∀ y, 0 ≤ y → y < 100 → m 521 y = (mlS v so x).1 y) → Fr (fun b _ => b = 521) m0 m → Rn (lpF bo (pM_mostBy_L25b N c1 kk) n (mlS v so x).2 (x : Int) m) Q := by
  have hT := setN_ok hg
  intro k
  induction k with
  | zero =>
    intro n x m hkn hx hy hf
    obtain ⟨n, rfl⟩ : ∃ n', n = n' + 1 := ⟨n - 1, by omega⟩
    have hqm : PQ pl m := hq.fr hf (fun b j q => by unfold prc at q; omega)
    show Rn (pM_mostBy_L25b N c1 kk (lpF bo (pM_mostBy_L25b N c1 kk) n) _ (x : Int) m) Q
    generalize lpF bo (pM_mostBy_L25b N c1 kk) n = self
    unfold pM_mostBy_L25b
    refine rn_e (e_all hg hr hqm) ?_
    rw [hT.2.2]
    refine rn_t (by omega) ?_
    rw [show x = setN pl by omega]
    exact hk m hf
  | succ k ih =>
    intro n x m hkn hx hy hf
    obtain ⟨n, rfl⟩ : ∃ n', n = n' + 1 := ⟨n - 1, by omega⟩
    have ih' := ih n (x + 1)
    rw [show ((x + 1 : Nat) : Int) = (x : Int) + 1 by omega] at ih'
    have hqm : PQ pl m := hq.fr hf (fun b j q => by unfold prc at q; omega)
    have hmx := hm x (by omega)
    have hvx := hv x (by omega)
    have hin := mlS_in v so x
    have hrx := hin.1 (v x)
    have hnb := nbO_le so x
    show Rn (pM_mostBy_L25b N c1 kk (lpF bo (pM_mostBy_L25b N c1 kk) n) _ (x : Int) m) Q
    generalize lpF bo (pM_mostBy_L25b N c1 kk) n = self at ih' ⊢
    unfold pM_mostBy_L25b
    have e520 : m 520 (x : Int) = (if so x then 1 else 0) := (hf _ _ (by omega)).trans hmx.1
    have e519 : m 519 (576 * (x : Int) + c1) = v x := (hf _ _ (by omega)).trans hmx.2
    refine rn_e (e_all hg hr hqm) ?_
    rw [hT.2.2, e520, w32_eq (x := 576 * (x : Int)) (by omega) (by omega), w32_eq (x := 576 * (x : Int) + c1) (by omega) (by omega), e519, w32_eq (x := (x : Int) + 1) (by omega) (by omega)]
    refine rn_f (by omega) (rn_t (by omega) ?_)
    by_cases q : so x = true
    · have e1 : mlS v so (x + 1) = (fun y => if y = v x then (mlS v so x).1 (v x) + 1 else (mlS v so x).1 y, max (mlS v so x).2 ((mlS v so x).1 (v x) + 1)) := if_pos q
      rw [if_pos q]
      refine rn_f (show ¬ ((1 : Int) = 0) by omega) (rn_t (by omega) (rn_v (rn_t (by omega) (rn_t (by omega) ?_))))
      rw [hy _ hvx.1 (by omega), w32_eq (x := (mlS v so x).1 (v x) + 1) (by omega) (by omega)]
      refine rn_l (fun m1 hm1 => ?_)
      have s1 : m1 521 (v x) = (mlS v so x).1 (v x) + 1 := by rw [hm1, mset_s rfl rfl]
      have f1 : Fr (fun b _ => b = 521) m0 m1 := by rw [hm1]; exact hf.set rfl
      have y1 : ∀ y, 0 ≤ y → y < 100 → m1 521 y = (mlS v so (x + 1)).1 y := fun y y0 y1 => by
        rw [e1]
        dsimp only
        by_cases qy : y = v x
        · rw [if_pos qy, qy, s1]
        · rw [if_neg qy, hm1, mset_o (by omega)]; exact hy y y0 y1
      clear hm1
      rw [s1]
      refine rn_t (by omega) (rn_i (fun q2 => ?_) (fun q2 => ?_))
      · refine rn_t (by omega) (rn_v (rn_v ?_))
        have e2 : (mlS v so x).1 (v x) + 1 = (mlS v so (x + 1)).2 := by rw [e1]; dsimp only; omega
        rw [e2]
        exact ih' m1 (by omega) (by omega) y1 f1
      · refine rn_v ?_
        have e2 : (mlS v so x).2 = (mlS v so (x + 1)).2 := by rw [e1]; dsimp only; omega
        rw [e2]
        exact ih' m1 (by omega) (by omega) y1 f1
    · have e1 : mlS v so (x + 1) = mlS v so x := if_neg q
      rw [if_neg q]
      rw [e1] at ih'
      exact rn_t rfl (rn_v (ih' m (by omega) (by omega) hy hf))
theorem r_mb {N : Nat} {pl m : Mem} {c1 : Int} {v : Nat → Int} {so : Nat → Bool} (hN : 2000 ≤ N) (hg : PG pl) (hr : PR pl) (hq : PQ pl m) (hc : 0 ≤ c1 ∧ c1 < 576) (hv : ∀ k, k < setN pl → 0 ≤ v k ∧ v k ≤ 99) (hm : ∀ k : Nat, k < setN pl → m 520 k = (if so k then 1 else 0) ∧ m 519 (576 * (k : Int) + c1) = v k) : Rn (pM_mostBy N m c1) (fun r => r.1 = (mlS v so (setN pl)).2 ∧ Fr (fun b _ => b = 521) m r.2) := by
  have hT := setN_ok hg
  unfold pM_mostBy pM_mostBy_L2
  refine r_mb2 (m0 := m) (fun m1 h1 f1 => ?_) 100 N 0 m (by omega) (by omega) (by omega) (fun y q0 q1 => by omega) Fr.rfl'
  unfold pM_mostBy_L25
  exact r_mb25 (m0 := m1) (v := v) (so := so) hg hr (hq.fr f1 (fun b j q => by unfold prc at q; omega)) hc hv (fun k hk => by rw [f1 _ _ (by omega), f1 _ _ (by omega)]; exact hm k hk) (fun m2 f2 => rn_s ⟨rfl, f1.trans f2⟩) (setN pl) N 0 m1 (by omega) (by omega) (fun y y0 y1 => h1 y y0 y1) Fr.rfl'
