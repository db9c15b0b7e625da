/-! THE REFERENCE's runs -/
theorem rn_ba {α β γ : Type} {x : Option α} {f : α → Option β} {g : β → Option γ} {P : β → Prop} {Q : γ → Prop} (h : Rn (x.bind f) P) (k : ∀ b, P b → Rn (g b) Q) : Rn (x.bind (fun y => (f y).bind g)) Q := by
  cases x with
  | none => obtain ⟨a, e, -⟩ := h; cases e
  | some a => exact rn_b (x := f a) h k
def SR (pl m : Mem) (v : Int) (S : Mem) : Prop := m 498 v = S 0 0 ∧ (∀ p, 0 ≤ p → p < pl 2 2 → m 499 (64 * v + ph pl p) = S 1 p) ∧ (∀ c, 0 ≤ c → c < 64 → ¬ cellC pl c → m 499 (64 * v + c) = 0) ∧ (∀ i, 0 ≤ i → i < pl 2 3 → m 500 (6 * v + i) = ph pl (S 2 i) ∧ m 501 (6 * v + i) = S 3 i ∧ m 502 (6 * v + i) = S 4 i ∧ m 503 (6 * v + i) = S 5 i) ∧ m 504 v = S 0 7 ∧ (∀ j, 0 ≤ j → j < 3 * S 0 7 → m 505 (120 * v + j) = S 6 j)
def oneT (pl : Mem) (T : Int → Int → Mem → Int) (h i : Int) (W : Mem) : Option Mem := if W 2 i ≤ h ∧ bitS (W 0 7) i = 1 then (if T i h W = -1 then none else some (goS pl W i (T i h W) h)) else some W
def gaT (pl : Mem) (T : Int → Int → Mem → Int) (h : Int) : Nat → Int → Mem → Option Mem
  | 0, _, W => some W
  | k + 1, i, W => (oneT pl T h i W).bind (gaT pl T h k (i + 1))
def hrT (pl : Mem) (T : Int → Int → Mem → Int) (h : Int) (W : Mem) : Option Mem := (gaT pl T h (pl 2 3).toNat 0 W).bind (fun W => some (dryS pl W h))
def thT (pl : Mem) (T : Int → Int → Mem → Int) : Nat → Int → Mem → Option Mem
  | 0, _, W => some W
  | k + 1, h, W => (hrT pl T h W).bind (thT pl T k (h + 1))
theorem thT_add (pl : Mem) (T : Int → Int → Mem → Int) : ∀ (a b : Nat) (h : Int) (W : Mem), thT pl T (a + b) h W = (thT pl T a h W).bind (thT pl T b (h + a))
  | 0, b, h, W => by
    rw [Nat.zero_add]
    show _ = thT pl T b (h + ((0 : Nat) : Int)) W
    rw [show h + ((0 : Nat) : Int) = h by omega]
  | a + 1, b, h, W => by
    rw [show a + 1 + b = (a + b) + 1 by omega]
    show (hrT pl T h W).bind (thT pl T (a + b) (h + 1)) = ((hrT pl T h W).bind (thT pl T a (h + 1))).bind (thT pl T b (h + ((a + 1 : Nat) : Int)))
    cases hrT pl T h W with
    | none => rfl
    | some W1 =>
      show thT pl T (a + b) (h + 1) W1 = (thT pl T a (h + 1) W1).bind (thT pl T b (h + ((a + 1 : Nat) : Int)))
      rw [thT_add pl T a b (h + 1) W1, show h + 1 + (a : Int) = h + ((a + 1 : Nat) : Int) by omega]
def TBh (pl m : Mem) (x : Int) (W : Mem) : Prop := (∀ p, 0 ≤ p → p < pl 2 2 → m 511 (64 * (x + 1) + ph pl p) = W 1 p) ∧ (∀ i, 0 ≤ i → i < pl 2 3 → m 512 (6 * x + i) = ph pl (W 4 i) ∧ m 513 (6 * x + i) = W 5 i)
def FRr : Int → Int → Prop := fun b _ => 506 ≤ b ∧ b ≤ 513
theorem FRr_PQ {pl m m' : Mem} (h : PQ pl m) (f : Fr FRr m m') : PQ pl m' := h.fr f (fun b j q => by unfold prc at q; unfold FRr; omega)
theorem r_L3 {N : Nat} {Q : Int × Mem → Prop} {kk : Mem → Option (Int × Mem)} {bo : Int → Mem → Option (Int × Mem)} {pl m0 S : Mem} {v t who : Int} (hN : 2000 ≤ N) (hg : PG pl) (hr : PR pl) (hv : 0 ≤ v ∧ v < 22) (ht : t = 1 ∨ t = 2) (hq : PQ pl m0) (hS : SR pl m0 v S) (hb : SB pl S) (hk : ∀ m', (∀ p, 0 ≤ p → p < pl 2 2 → m' 508 (ph pl p) = begS pl S t 1 p ∧ m' 511 (ph pl p) = begS pl S t 1 p) → (∀ c, 0 ≤ c → c < 64 → ¬ cellC pl c → m' 508 c = 0) → Fr FRr m0 m' → Rn (kk m') Q) :
    ∀ (k n : Nat) (x : Int) (m : Mem), k < n → 0 ≤ x → x + k = 64 → (∀ p, 0 ≤ p → p < pl 2 2 → ph pl p < x → m 508 (ph pl p) = begS pl S t 1 p ∧ m 511 (ph pl p) = begS pl S t 1 p) → (∀ c, 0 ≤ c → c < x → ¬ cellC pl c → m 508 c = 0) → Fr FRr m0 m → Rn (lpF bo (pM_runs_L3b N v t who kk) n x m) Q := by
  intro k
  have hn := hg.num
  induction k with
  | zero =>
    intro n x m hkn h0 hx hd hz hf
    obtain ⟨n, rfl⟩ : ∃ n', n = n' + 1 := ⟨n - 1, by omega⟩
    show Rn (pM_runs_L3b N v t who kk (lpF bo (pM_runs_L3b N v t who kk) n) x m) Q
    generalize lpF bo (pM_runs_L3b N v t who kk) n = self
    unfold pM_runs_L3b
    refine rn_f (by omega) ?_
    refine hk m (fun p h0 h1 => ?_) (fun c h0 h1 h2 => hz c h0 (by omega) h2) hf
    have hph := ph_eq hg (p := p) ⟨h0, h1⟩
    exact hd p h0 h1 (by omega)
  | succ k ih =>
    intro n x m hkn h0 hx hd hz hf
    obtain ⟨n, rfl⟩ : ∃ n', n = n' + 1 := ⟨n - 1, by omega⟩
    have ih' := ih n (x + 1)
    show Rn (pM_runs_L3b N v t who kk (lpF bo (pM_runs_L3b N v t who kk) n) x m) Q
    generalize lpF bo (pM_runs_L3b N v t who kk) n = self at ih' ⊢
    unfold pM_runs_L3b
    have e6 : w32 (w32 (64 * v) + x) = 64 * v + x := by rw [w32_eq (x := 64 * v) (by omega) (by omega), w32_eq (by omega) (by omega)]
    rw [e6]
    refine rn_t (by omega) ?_
    refine rn_t (by omega) ?_
    refine rn_t (by omega) ?_
    refine rn_l (fun m1 hm1 => ?_)
    rw [r32_eq (by omega) (by omega) (by omega) (by omega), d32_eq (by omega) (by omega) (by omega) (by omega)]
    have f1 : Fr (fun b j => b = 508 ∧ j = x) m m1 := by rw [hm1]; exact Fr.rfl'.set ⟨rfl, rfl⟩
    have hf1 : Fr FRr m0 m1 := hf.trans (f1.mono (fun b j q => by unfold FRr; omega))
    have a8 : m1 508 x = m0 499 (64 * v + x) := by rw [hm1, mset_s rfl rfl]; exact hf _ _ (by unfold FRr; omega)
    clear hm1
    have hqq : PQ pl m1 → Rn ((pM_isCell m1 (x % 8) (x / 8)).bind fun r40 => (if r40 = 0 then some (m1) else if 0 ≤ x ∧ x < 64 then if 0 ≤ x ∧ x < 64 then if 0 ≤ v ∧ v < 22 then (pM_tells0 N m1 0 x (m1 508 x) (m1 498 v) 5).bind fun (r82, m82) => (pM_least m82 99 r82).bind fun r85 => (pM_least m82 99 (w32 ((m1 508 x) + (w32 (t * r85))))).bind fun r90 => if 0 ≤ x ∧ x < 64 then (some (mset m82 508 x r90)).bind fun m93 => some (m93) else none else none else none else none)) (fun m2 => Fr (fun b j => b = 506 ∨ (b = 507 ∧ 1 ≤ j ∧ j ≤ 4) ∨ (b = 508 ∧ j = x)) m1 m2 ∧ (¬ cellC pl x → m2 508 x = 0) ∧ (∀ p, 0 ≤ p → p < pl 2 2 → ph pl p = x → m2 508 x = begS pl S t 1 p)) := by
      intro hq1
      refine rn_e (e_isCell hg hr hq1 _ _) ?_
      by_cases hc : cellC pl x
      · obtain ⟨p, hp, hpx, -⟩ := ph_sur hg hc
        have hc' := hc
        unfold cellC at hc'
        rw [if_pos hc']
        have hw := hb.1 p hp.1 hp.2
        have h9 := hb.2.2.1
        have b8 : m1 508 x = S 1 p := by rw [a8, ← hpx]; exact hS.2.1 p hp.1 hp.2
        have b9 : m1 498 v = S 0 0 := (hf1 _ _ (by unfold FRr; omega)).trans hS.1
        have hfn := fallS_nn pl p (S 1 p) (S 0 0)
        have hfb := fallS_big hg hp (d := S 1 p) (y := S 0 0) (by omega) (by omega)
        refine rn_f (by omega) ?_
        refine rn_t (by omega) ?_
        refine rn_t (by omega) ?_
        refine rn_t (by omega) ?_
        rw [b8, b9]
        refine rn_b2 (P := fun r m2 => r = fallS pl p (S 1 p) (S 0 0) ∧ Fr (fun b j => b = 506 ∨ (b = 507 ∧ 1 ≤ j ∧ j ≤ 4)) m1 m2) ?_ (fun r m2 hm2 => ?_)
        · rw [← hpx]
          exact r_val (w := 0) (h := 0) (v := 0) (e := 0) hN hg hr hq1 (by omega) hp (by omega) (by omega) (by omega) (by omega) (by omega) (fun q => by omega) (fun q => by omega) (by omega)
        · obtain ⟨hr1, f2⟩ := hm2
          dsimp only
          refine rn_e (e_least _ _ _) ?_
          refine rn_e (e_least _ _ _) ?_
          refine rn_t (by omega) ?_
          rw [hr1]
          have hw1 : w32 (t * min 99 (fallS pl p (S 1 p) (S 0 0))) = t * min 99 (fallS pl p (S 1 p) (S 0 0)) := by rcases ht with rfl | rfl <;> exact w32_eq (by omega) (by omega)
          have hw2 : w32 (S 1 p + t * min 99 (fallS pl p (S 1 p) (S 0 0))) = S 1 p + t * min 99 (fallS pl p (S 1 p) (S 0 0)) := by rcases ht with rfl | rfl <;> exact w32_eq (by omega) (by omega)
          rw [hw1, hw2]
          refine rn_v (rn_s ⟨?_, fun c => absurd hc c, fun q h0 h1 hqx => ?_⟩)
          · exact (f2.mono (fun b j q => by omega)).set (by omega)
          · have e : q = p := ph_inj hg ⟨h0, h1⟩ hp (hqx.trans hpx.symm)
            rw [mset_s rfl rfl, e]
            unfold begS begP
            rw [if_neg (by omega), if_neg (by omega), if_pos (by omega), if_pos (by omega)]
            rcases ht with rfl | rfl <;> omega
      · have hc' := hc
        unfold cellC at hc'
        rw [if_neg hc']
        refine rn_t rfl (rn_s ⟨Fr.rfl', fun _ => ?_, fun p h0 h1 hpx => ?_⟩)
        · rw [a8]
          exact hS.2.2.1 x h0 (by omega) hc
        · have hph := ph_eq hg (p := p) ⟨h0, h1⟩
          exact absurd (by unfold cellC; rw [← hpx, hph.2.2.2.1, hph.2.2.2.2]; exact ⟨hph.1, hph.2.1⟩) hc
    have hq1 : PQ pl m1 := FRr_PQ hq hf1
    refine rn_ba (hqq hq1) (fun m2 hm2 => ?_)
    obtain ⟨f2, g1, g2⟩ := hm2
    refine rn_t (by omega) ?_
    refine rn_t (by omega) ?_
    refine rn_v (rn_v ?_)
    rw [w32_eq (by omega) (by omega)]
    have f3 : Fr (fun b j => b = 506 ∨ (b = 507 ∧ 1 ≤ j ∧ j ≤ 4) ∨ (b = 508 ∧ j = x) ∨ (b = 511 ∧ j = x)) m (mset m2 511 x (m2 508 x)) := (((f1.mono (fun b j q => by omega)).trans (f2.mono (fun b j q => by omega))).set (by omega))
    refine ih' _ (by omega) (by omega) (by omega) (fun p h0 h1 hpx => ?_) (fun c h0 h1 h2 => ?_) (hf.trans (f3.mono (fun b j q => by unfold FRr; omega)))
    · by_cases e : ph pl p = x
      · rw [e, mset_o (by omega), mset_s rfl rfl]
        exact ⟨g2 p h0 h1 e, g2 p h0 h1 e⟩
      · rw [f3 508 _ (by omega), f3 511 _ (by omega)]
        exact hd p h0 h1 (by omega)
    · by_cases e : c = x
      · rw [mset_o (by omega), e]
        exact g1 (by rw [← e]; exact h2)
      · rw [f3 508 _ (by omega)]
        exact hz c h0 (by omega) h2
theorem r_L117 {N : Nat} {Q : Int × Mem → Prop} {kk : Mem → Option (Int × Mem)} {bo : Int → Mem → Option (Int × Mem)} {pl m0 : Mem} {v who : Int} (hg : PG pl) (hr : PR pl) (hq : PQ pl m0) (hv : 0 ≤ v ∧ v < 22) (hk : ∀ m', (∀ b j, m' b j = if b = 509 ∧ 0 ≤ j ∧ j < pl 2 3 then m0 500 (6 * v + j) else if b = 510 ∧ 0 ≤ j ∧ j < pl 2 3 then 0 else m0 b j) → Rn (kk m') Q) :
    ∀ (k n : Nat) (x : Int) (m : Mem), k < n → 0 ≤ x → x + k = pl 2 3 → (∀ b j, m b j = if b = 509 ∧ 0 ≤ j ∧ j < x then m0 500 (6 * v + j) else if b = 510 ∧ 0 ≤ j ∧ j < x then 0 else m0 b j) → Rn (lpF bo (pM_runs_L117b N v who kk) n x m) Q := by
  intro k
  have hn := hg.num
  obtain ⟨h1, h2, h3, h4, -⟩ := hr
  induction k with
  | zero =>
    intro n x m hkn h0 hx hm
    obtain ⟨n, rfl⟩ : ∃ n', n = n' + 1 := ⟨n - 1, by omega⟩
    show Rn (pM_runs_L117b N v who kk (lpF bo (pM_runs_L117b N v who kk) n) x m) Q
    generalize lpF bo (pM_runs_L117b N v who kk) n = self
    unfold pM_runs_L117b
    have e1 : m 475 13 = pl 475 13 := by rw [hm, if_neg (by omega), if_neg (by omega)]; exact hq.bk
    have e2 : m 480 (pl 475 13) = pl 2 3 := by rw [hm, if_neg (by omega), if_neg (by omega), hq _ _ (by unfold prc; omega)]; exact h4
    rw [e1, e2]
    refine rn_t h1 ?_
    refine rn_f (by omega) ?_
    refine hk m ?_
    rw [show pl 2 3 = x by omega]
    exact hm
  | succ k ih =>
    intro n x m hkn h0 hx hm
    obtain ⟨n, rfl⟩ : ∃ n', n = n' + 1 := ⟨n - 1, by omega⟩
    have ih' := ih n (x + 1) (mset (mset m 509 x (m0 500 (6 * v + x))) 510 x 0) (by omega) (by omega) (by omega) (fun b j => by
      unfold mset
      by_cases q : b = 510 ∧ j = x
      · rw [if_pos q, if_neg (by omega), if_pos (by omega)]
      · rw [if_neg q]
        by_cases q1 : b = 509 ∧ j = x
        · rw [if_pos q1, if_pos (by omega), q1.2]
        · rw [if_neg q1, hm b j]
          by_cases q2 : b = 509 ∧ 0 ≤ j ∧ j < x
          · rw [if_pos q2, if_pos (by omega)]
          · rw [if_neg q2, if_neg (show ¬ (b = 509 ∧ 0 ≤ j ∧ j < x + 1) by omega)]
            by_cases q3 : b = 510 ∧ 0 ≤ j ∧ j < x
            · rw [if_pos q3, if_pos (by omega)]
            · rw [if_neg q3, if_neg (by omega)])
    show Rn (pM_runs_L117b N v who kk (lpF bo (pM_runs_L117b N v who kk) n) x m) Q
    generalize lpF bo (pM_runs_L117b N v who kk) n = self at ih' ⊢
    unfold pM_runs_L117b
    have e1 : m 475 13 = pl 475 13 := by rw [hm, if_neg (by omega), if_neg (by omega)]; exact hq.bk
    have e2 : m 480 (pl 475 13) = pl 2 3 := by rw [hm, if_neg (by omega), if_neg (by omega), hq _ _ (by unfold prc; omega)]; exact h4
    have e3 : m 500 (6 * v + x) = m0 500 (6 * v + x) := by rw [hm, if_neg (by omega), if_neg (by omega)]
    have e6 : w32 (w32 (6 * v) + x) = 6 * v + x := by rw [w32_eq (x := 6 * v) (by omega) (by omega), w32_eq (by omega) (by omega)]
    rw [e1, e2, e6, e3]
    refine rn_t h1 ?_
    refine rn_t (by omega) ?_
    refine rn_t (by omega) ?_
    refine rn_t (by omega) ?_
    refine rn_v ?_
    refine rn_t (by omega) ?_
    refine rn_v (rn_v ?_)
    rw [w32_eq (by omega) (by omega)]
    exact ih'
theorem r_L177 {N : Nat} {Q : Int × Mem → Prop} {kk : Mem → Option (Int × Mem)} {bo : Int → Mem → Option (Int × Mem)} {pl m0 : Mem} {v who h : Int} {T : Int → Int → Mem → Int} (hN : 2000 ≤ N) (hg : PG pl) (hr : PR pl) (hv : 0 ≤ v ∧ v < 22) (hh : 0 ≤ h ∧ h ≤ 8)
    (hT : ∀ i W m', 0 ≤ i → i < pl 2 3 → (∀ b j, b = 475 ∨ b = 514 → m' b j = m0 b j) → PQ pl m' → RW pl m' v who W → WB pl W → r_to N m' i h = some (phx pl (T i h W)) ∧ (T i h W = -1 ∨ (0 ≤ T i h W ∧ T i h W < pl 2 2))) :
    ∀ (k n : Nat) (x : Int) (m W : Mem), k < n → 0 ≤ x → x + k = pl 2 3 → PQ pl m → RW pl m v who W → WB pl W → Fr FRr m0 m → (∀ m' W', gaT pl T h k x W = some W' → RW pl m' v who W' → WB pl W' → Fr FRw m m' → Rn (kk m') Q) → (∀ m', gaT pl T h k x W = none → Fr FRr m0 m' → Q (0, m')) → Rn (lpF bo (pM_runs_L177b N v who h kk) n x m) Q := by
  intro k
  have hn := hg.num
  have hr' := hr
  obtain ⟨h1, h2, h3, h4, -⟩ := hr'
  induction k with
  | zero =>
    intro n x m W hkn h0 hx hq hW hb hf hk hz
    obtain ⟨n, rfl⟩ : ∃ n', n = n' + 1 := ⟨n - 1, by omega⟩
    show Rn (pM_runs_L177b N v who h kk (lpF bo (pM_runs_L177b N v who h kk) n) x m) Q
    generalize lpF bo (pM_runs_L177b N v who h kk) n = self
    unfold pM_runs_L177b
    rw [hq.bk, hq 480 _ (by unfold prc; omega), h4]
    refine rn_t h1 ?_
    refine rn_f (by omega) ?_
    exact hk m W rfl hW hb Fr.rfl'
  | succ k ih =>
    intro n x m W hkn h0 hx hq hW hb hf hk hz
    obtain ⟨n, rfl⟩ : ∃ n', n = n' + 1 := ⟨n - 1, by omega⟩
    have hgo : ∀ m1 W1, oneT pl T h x W = some W1 → RW pl m1 v who W1 → WB pl W1 → Fr FRw m m1 → Rn (lpF bo (pM_runs_L177b N v who h kk) n (x + 1) m1) Q := by
      intro m1 W1 ho hW1 hb1 hf1
      have hf1r : Fr FRr m m1 := hf1.mono (fun b j q => by unfold FRw at q; unfold FRr; omega)
      have e : gaT pl T h (k + 1) x W = gaT pl T h k (x + 1) W1 := by
        show (oneT pl T h x W).bind _ = _
        rw [ho]
        rfl
      exact ih n (x + 1) m1 W1 (by omega) (by omega) (by omega) (FRr_PQ hq hf1r) hW1 hb1 (hf.trans hf1r) (fun m' W' h1 h2 h3 h4 => hk m' W' (e.trans h1) h2 h3 (hf1.trans h4)) (fun m' h1 h2 => hz m' (e.trans h1) h2)
    show Rn (pM_runs_L177b N v who h kk (lpF bo (pM_runs_L177b N v who h kk) n) x m) Q
    generalize lpF bo (pM_runs_L177b N v who h kk) n = self at hgo ⊢
    unfold pM_runs_L177b
    have hw := hW.2.1 x h0 (by omega)
    have e6 : w32 (w32 (6 * v) + x) = 6 * v + x := by rw [w32_eq (x := 6 * v) (by omega) (by omega), w32_eq (by omega) (by omega)]
    rw [hq.bk, hq 480 _ (by unfold prc; omega), h4, e6, hw.2.2.1]
    refine rn_t h1 ?_
    refine rn_t (by omega) ?_
    refine rn_t (by omega) ?_
    have hbit : a32 (shr32 who x) 1 = bitS (W 0 7) x := hw.2.2.2.2
    rw [hbit]
    refine rn_i (fun q => ?_) (fun q => ?_)
    · refine rn_v ?_
      rw [w32_eq (by omega) (by omega)]
      exact hgo m W (by unfold oneT; rw [if_neg (by omega)]) hW hb Fr.rfl'
    · refine rn_i (fun q2 => ?_) (fun q2 => ?_)
      · obtain ⟨t1, t2⟩ := hT x W m h0 (by omega) (fun b j hbj => hf b j (by unfold FRr; omega)) hq hW hb
        refine rn_b2 (P := fun r m2 => (T x h W = -1 → r = 0) ∧ (T x h W ≠ -1 → r = 1 ∧ RW pl m2 v who (goS pl W x (T x h W) h)) ∧ Fr FRw m m2) (r_works hN hg hr hq hv hW hb ⟨h0, by omega⟩ hh t1 t2) (fun r m2 hm2 => ?_)
        obtain ⟨g1, g2, g3⟩ := hm2
        dsimp only
        by_cases ht : T x h W = -1
        · refine rn_t (g1 ht) (rn_s (hz m2 ?_ (hf.trans (g3.mono (fun b j q => by unfold FRw at q; unfold FRr; omega)))))
          show (oneT pl T h x W).bind _ = none
          unfold oneT
          rw [if_pos ⟨by omega, q2⟩, if_pos ht]
          rfl
        · refine rn_f (by rw [(g2 ht).1]; omega) (rn_v ?_)
          rw [w32_eq (by omega) (by omega)]
          refine hgo m2 _ ?_ (g2 ht).2 (hb.go ⟨h0, by omega⟩ (by omega)) g3
          unfold oneT
          rw [if_pos ⟨by omega, q2⟩, if_neg ht]
      · refine rn_v ?_
        rw [w32_eq (by omega) (by omega)]
        exact hgo m W (by unfold oneT; rw [if_neg (fun c => q2 c.2)]) hW hb Fr.rfl'
