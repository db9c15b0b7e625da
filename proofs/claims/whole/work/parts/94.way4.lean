/-! WAY: the reference, and the call -/
theorem beg_up {pl S : Mem} {i : Int} (hi : 0 ≤ i ∧ i < 6) : begS pl S 1 2 i = S 3 i := by
  unfold begS begP
  rw [if_neg (by omega), if_neg (by omega), if_neg (by omega), if_pos ⟨rfl, hi⟩]
theorem r_wy49 {N : Nat} {m : Mem} {c1 c3 : Int} {n : Nat} {kk : Int → Option (Int × Mem)} {bo : Int → Int → Option (Int × Mem)} (hn : n ≤ 5) : ∀ k nn j : Nat, k < nn → j + k = n → lpF bo (pM_way_L49b N m c1 (n : Int) c3 kk) nn ((5 ^ j : Nat) : Int) (j : Int) = kk ((5 ^ n : Nat) : Int) := by
  intro k
  induction k with
  | zero =>
    intro nn j hkn hj
    obtain ⟨nn, rfl⟩ : ∃ n', nn = n' + 1 := ⟨nn - 1, by omega⟩
    show pM_way_L49b N m c1 (n : Int) c3 kk (lpF bo (pM_way_L49b N m c1 (n : Int) c3 kk) nn) _ (j : Int) = _
    generalize lpF bo (pM_way_L49b N m c1 (n : Int) c3 kk) nn = self
    unfold pM_way_L49b
    rw [if_neg (by omega), show j = n by omega]
  | succ k ih =>
    intro nn j hkn hj
    obtain ⟨nn, rfl⟩ : ∃ n', nn = n' + 1 := ⟨nn - 1, by omega⟩
    have ih' := ih nn (j + 1) (by omega) (by omega)
    have hp : 5 ^ j ≤ 5 ^ 4 := Nat.pow_le_pow_right (by decide) (by omega)
    rw [show ((5 ^ (j + 1) : Nat) : Int) = ((5 ^ j : Nat) : Int) * 5 by rw [Nat.pow_succ]; omega, show ((j + 1 : Nat) : Int) = (j : Int) + 1 by omega] at ih'
    show pM_way_L49b N m c1 (n : Int) c3 kk (lpF bo (pM_way_L49b N m c1 (n : Int) c3 kk) nn) _ (j : Int) = _
    generalize lpF bo (pM_way_L49b N m c1 (n : Int) c3 kk) nn = self at ih' ⊢
    unfold pM_way_L49b
    rw [if_pos (by omega)]
    have hp2 : (0 : Int) ≤ ((5 ^ j : Nat) : Int) ∧ ((5 ^ j : Nat) : Int) ≤ 625 := ⟨Int.natCast_nonneg _, Int.ofNat_le.mpr hp⟩
    generalize ((5 ^ j : Nat) : Int) = y at *
    rw [w32_eq (x := y * 5) (by omega) (by omega), w32_eq (x := (j : Int) + 1) (by omega) (by omega)]
    exact ih'
theorem r_wy109 {N : Nat} {Q : Int × Mem → Prop} {kk : Mem → Option (Int × Mem)} {bo : Int → Int → Mem → Option (Int × Mem)} {m0 : Mem} {c1 c2 c3 c4 c5 c6 : Int} {n x : Nat} (hn : n ≤ 5) (hx : x < 4000) (hk : ∀ m', (∀ t : Nat, t < n → m' 514 t = dgN n t x) → Fr (fun b _ => b = 514) m0 m' → Rn (kk m') Q) :
    ∀ (k nn : Nat) (m : Mem), k ≤ n → k < nn → (∀ t : Nat, k ≤ t → t < n → m 514 t = dgN n t x) → Fr (fun b _ => b = 514) m0 m → Rn (lpF bo (pM_way_L109b N c1 c2 c3 c4 c5 c6 kk) nn ((x / 5 ^ (n - k) : Nat) : Int) ((k : Int) - 1) m) Q := by
  intro k
  induction k with
  | zero =>
    intro nn m hkn hn2 hm hf
    obtain ⟨nn, rfl⟩ : ∃ n', nn = n' + 1 := ⟨nn - 1, by omega⟩
    show Rn (pM_way_L109b N c1 c2 c3 c4 c5 c6 kk (lpF bo (pM_way_L109b N c1 c2 c3 c4 c5 c6 kk) nn) _ _ m) Q
    generalize lpF bo (pM_way_L109b N c1 c2 c3 c4 c5 c6 kk) nn = self
    unfold pM_way_L109b
    refine rn_t (by omega) ?_
    exact hk m (fun t ht => hm t (Nat.zero_le _) ht) hf
  | succ k ih =>
    intro nn m hkn hn2 hm hf
    obtain ⟨nn, rfl⟩ : ∃ n', nn = n' + 1 := ⟨nn - 1, by omega⟩
    have hd : x / 5 ^ (n - 1 - k) ≤ x := Nat.div_le_self _ _
    have e1 : x / 5 ^ (n - k) = x / 5 ^ (n - 1 - k) / 5 := by
      rw [Nat.div_div_eq_div_mul, show n - k = (n - 1 - k) + 1 by omega, Nat.pow_succ]
    have edg : dgN n k x = ((x / 5 ^ (n - 1 - k) % 5 : Nat) : Int) := rfl
    have ih' := ih nn
    rw [e1] at ih'
    show Rn (pM_way_L109b N c1 c2 c3 c4 c5 c6 kk (lpF bo (pM_way_L109b N c1 c2 c3 c4 c5 c6 kk) nn) _ _ m) Q
    generalize lpF bo (pM_way_L109b N c1 c2 c3 c4 c5 c6 kk) nn = self at ih' ⊢
    unfold pM_way_L109b
    rw [show n - (k + 1) = n - 1 - k by omega]
    generalize x / 5 ^ (n - 1 - k) = y at *
    rw [show ((k + 1 : Nat) : Int) - 1 = (k : Int) by omega, r32_eq (by omega) (by omega) (by omega) (by omega), d32_eq (by omega) (by omega) (by omega) (by omega), show (k : Int) + -1 = (k : Int) - 1 by omega, w32_eq (x := (k : Int) - 1) (by omega) (by omega)]
    refine rn_f (by omega) (rn_t (by omega) (rn_v (rn_v (rn_v ?_))))
    rw [show (y : Int) / 5 = ((y / 5 : Nat) : Int) by omega]
    refine ih' _ (by omega) (by omega) (fun t t0 t1 => ?_) (hf.set rfl)
    by_cases q : t = k
    · subst q
      rw [mset_s rfl rfl, edg]
      omega
    · rw [mset_o (by omega)]
      exact hm t (by omega) t1
theorem r_wy199 {N : Nat} {Q : Int × Mem → Prop} {kk : Mem → Option (Int × Mem)} {bo : Int → Mem → Option (Int × Mem)} {m0 : Mem} {c1 c3 c4 c5 c6 : Int} {n : Nat} (hn : n ≤ 5) (hk : ∀ m', (∀ t : Nat, t < n → m' 515 t = m0 514 t) → Fr (fun b _ => b = 515) m0 m' → Rn (kk m') Q) :
    ∀ (k nn j : Nat) (m : Mem), k < nn → j + k = n → (∀ t : Nat, t < j → m 515 t = m0 514 t) → Fr (fun b _ => b = 515) m0 m → Rn (lpF bo (pM_way_L199b N c1 (n : Int) c3 c4 c5 c6 kk) nn (j : Int) m) Q := by
  intro k
  induction k with
  | zero =>
    intro nn j m hkn hj hm hf
    obtain ⟨nn, rfl⟩ : ∃ n', nn = n' + 1 := ⟨nn - 1, by omega⟩
    show Rn (pM_way_L199b N c1 (n : Int) c3 c4 c5 c6 kk (lpF bo (pM_way_L199b N c1 (n : Int) c3 c4 c5 c6 kk) nn) (j : Int) m) Q
    generalize lpF bo (pM_way_L199b N c1 (n : Int) c3 c4 c5 c6 kk) nn = self
    unfold pM_way_L199b
    refine rn_f (by omega) ?_
    exact hk m (fun t ht => hm t (by omega)) hf
  | succ k ih =>
    intro nn j m hkn hj hm hf
    obtain ⟨nn, rfl⟩ : ∃ n', nn = n' + 1 := ⟨nn - 1, by omega⟩
    have ih' := ih nn (j + 1) (mset m 515 j (m 514 j)) (by omega) (by omega) (fun t ht => by
      by_cases q : t = j
      · subst q; rw [mset_s rfl rfl]; exact hf _ _ (by omega)
      · rw [mset_o (by omega)]; exact hm t (by omega)) (hf.set rfl)
    rw [show ((j + 1 : Nat) : Int) = (j : Int) + 1 by omega] at ih'
    show Rn (pM_way_L199b N c1 (n : Int) c3 c4 c5 c6 kk (lpF bo (pM_way_L199b N c1 (n : Int) c3 c4 c5 c6 kk) nn) (j : Int) m) Q
    generalize lpF bo (pM_way_L199b N c1 (n : Int) c3 c4 c5 c6 kk) nn = self at ih' ⊢
    unfold pM_way_L199b
    rw [w32_eq (x := (j : Int) + 1) (by omega) (by omega)]
    exact rn_t (by omega) (rn_t (by omega) (rn_t (by omega) (rn_v (rn_v ih'))))
def FRy : Int → Int → Prop := fun b _ => 506 ≤ b ∧ b ≤ 515
def Zr (n : Nat) (m : Mem) (z : Int × Nat) : Prop := -1 ≤ z.1 ∧ (z.1 = -1 ∨ ∀ k : Nat, k < n → m 515 k = dgN n k z.2)
theorem r_wday {N : Nat} {pl S m : Mem} {i up : Int} {n x : Nat} (hN : 2000 ≤ N) (hg : PG pl) (hr : PR pl) (hq : PQ pl m) (hS : SR pl m 0 S) (hb : SB pl S) (hi : 0 ≤ i ∧ i < pl 2 3) (hup : up = S 3 i) (hn : 1 ≤ n ∧ n ≤ 5) (hun : up + n ≤ 9) (h62 : m 475 62 = i) (h63 : m 475 63 = up) (h64 : m 475 64 = n) (hd : ∀ t : Nat, t < n → m 514 t = dgN n t x) :
    Rn (pM_runs N m 0 1 (allS (pl 2 3))) (fun r => (wayF pl i up n (thS pl up.toNat 0 (begS pl S 1)) x = none → r.1 = 0) ∧ (∀ a, wayF pl i up n (thS pl up.toNat 0 (begS pl S 1)) x = some a → r.1 = 1 ∧ r.2 513 (6 * (up + n - 1) + i) = a) ∧ Fr FRr m r.2) := by
  have hnn := hg.num
  have hSi := hb.2.1 i hi.1 hi.2
  have hW0 : mset (begS pl S 1) 0 7 63 = begS pl S 1 := mset_id rfl
  have hbB := WB.beg hg hb (t := 1) (Or.inl rfl)
  have hlB : LW i up (begS pl S 1) := by
    refine ⟨?_, rfl⟩
    rw [hup]
    exact beg_up (by omega)
  have hday := way_day (g := fun k => dgN n k x) hg hi (by omega : 0 ≤ up ∧ up + n ≤ 9) hbB hlB (fun k => dgN_in n k x)
  refine rn_q (r_runs (T := wT pl i up n (fun k => dgN n k x)) (v := 0) (t := 1) (aw := 63) hN hg hr hq (by omega) (Or.inl rfl) hS hb (all_bits hg) ?_) (fun r hr1 => ?_)
  · intro j h W m' j0 j1 h0 h1 hm' hq' hW hbW
    have hWj := hbW.2.1 j j0 j1
    have hwet := wet_in (d := W 1) hg hWj.1
    have k62 : m' 475 62 = i := by rw [hm' _ _ (Or.inl rfl)]; exact h62
    have k63 : m' 475 63 = up := by rw [hm' _ _ (Or.inl rfl)]; exact h63
    have k64 : m' 475 64 = n := by rw [hm' _ _ (Or.inl rfl)]; exact h64
    have ewet : pM_wettest N m' (m' 509 j) = some (phx pl (wetS pl (W 1) (W 4 j))) := by
      rw [(hW.2.1 j j0 j1).1, r_wet (d := W 1) hN hg hr hq' hWj.1 hW.1]
      unfold phx
      rw [if_neg (by omega)]
    by_cases ql : j = i ∧ up ≤ h ∧ h < up + n
    · have eT : wT pl i up n (fun k => dgN n k x) j h W = bsd pl (W 4 j) (dgN n (h - up).toNat x) := if_pos ql
      have hdg := dgN_in n (h - up).toNat x
      rw [eT]
      refine ⟨?_, bsd_rng hg hWj.1 hdg⟩
      unfold r_to
      rw [k62, k63, k64, if_pos ql.1, e_is, w32_eq (x := up + n) (by omega) (by omega), w32_eq (x := up + n - 1) (by omega) (by omega), w32_eq (x := h - up) (by omega) (by omega), if_pos (by omega), Option.bind_some, if_neg (show ¬ ((1 : Int) = 0) by omega), if_pos (by omega), if_pos (by omega), (hW.2.1 j j0 j1).1]
      have e514 : m' 514 (h - up) = dgN n (h - up).toNat x := by
        rw [hm' _ _ (Or.inr rfl), ← hd (h - up).toNat (by omega)]
        congr 1; omega
      rw [e514, e_stepTo hg hr hq' hWj.1 hdg]
      rfl
    · have eT : wT pl i up n (fun k => dgN n k x) j h W = wetS pl (W 1) (W 4 j) := if_neg ql
      rw [eT]
      refine ⟨?_, Or.inr hwet⟩
      unfold r_to
      rw [k62]
      by_cases qi : j = i
      · rw [if_pos qi, k63, k64, e_is, w32_eq (x := up + n) (by omega) (by omega), w32_eq (x := up + n - 1) (by omega) (by omega), if_neg (by omega), Option.bind_some, if_pos rfl, if_pos (by omega), ewet]
        rfl
      · rw [if_neg qi, if_pos (by omega), ewet]
        rfl
  · rw [hW0] at hr1
    obtain ⟨c1, c2, c3⟩ := hr1
    refine ⟨fun he => c2 (hday.1 he), fun a ha => ?_, c3⟩
    obtain ⟨W', Wx, d1, d2, d3⟩ := hday.2 a ha
    have c4 := c1 W' d1
    refine ⟨c4.1, ?_⟩
    have tb := c4.2.2.2.1 (up + n - 1) Wx (by omega) (by omega) (by rw [show up + (n : Int) - 1 + 1 = up + n by omega]; exact d2)
    rw [(tb.2 i hi.1 hi.2).2, d3]
theorem r_wy93 {N : Nat} {Q : Int × Mem → Prop} {kk : Int → Mem → Option (Int × Mem)} {bo : Int → Int → Mem → Option (Int × Mem)} {pl S m0 : Mem} {i up c3 : Int} {n : Nat} (hN : 2000 ≤ N) (hg : PG pl) (hr : PR pl) (hq : PQ pl m0) (hS : SR pl m0 0 S) (hb : SB pl S) (hi : 0 ≤ i ∧ i < pl 2 3) (hup : up = S 3 i) (hn : 1 ≤ n ∧ n ≤ 5) (hun : up + n ≤ 9) (h62 : m0 475 62 = i) (h63 : m0 475 63 = up) (h64 : m0 475 64 = n) :
    ∀ (k nn x : Nat) (z : Int × Nat) (m : Mem), k < nn → x + k = 5 ^ n → Zr n m z → Fr FRy m0 m → (∀ m', Zr n m' (flN (wayF pl i up n (thS pl up.toNat 0 (begS pl S 1))) k x z) → Fr FRy m0 m' → Rn (kk (flN (wayF pl i up n (thS pl up.toNat 0 (begS pl S 1))) k x z).1 m') Q) → Rn (lpF bo (pM_way_L93b N i (n : Int) c3 ((5 ^ n : Nat) : Int) kk) nn z.1 (x : Int) m) Q := by
  have hnn := hg.num
  have hSi := hb.2.1 i hi.1 hi.2
  have hp5 : 5 ^ n ≤ 5 ^ 5 := Nat.pow_le_pow_right (by decide) hn.2
  have h55 : 5 ^ 5 = 3125 := by decide
  intro k
  induction k with
  | zero =>
    intro nn x z m hkn hx hz hf hk
    obtain ⟨nn, rfl⟩ : ∃ n', nn = n' + 1 := ⟨nn - 1, by omega⟩
    show Rn (pM_way_L93b N i (n : Int) c3 ((5 ^ n : Nat) : Int) kk (lpF bo (pM_way_L93b N i (n : Int) c3 ((5 ^ n : Nat) : Int) kk) nn) _ (x : Int) m) Q
    generalize lpF bo (pM_way_L93b N i (n : Int) c3 ((5 ^ n : Nat) : Int) kk) nn = self
    unfold pM_way_L93b
    refine rn_f (by omega) ?_
    exact hk m hz hf
  | succ k ih =>
    intro nn x z m hkn hx hz hf hk
    obtain ⟨nn, rfl⟩ : ∃ n', nn = n' + 1 := ⟨nn - 1, by omega⟩
    have ih' := ih nn (x + 1)
    rw [show ((x + 1 : Nat) : Int) = (x : Int) + 1 by omega] at ih'
    show Rn (pM_way_L93b N i (n : Int) c3 ((5 ^ n : Nat) : Int) kk (lpF bo (pM_way_L93b N i (n : Int) c3 ((5 ^ n : Nat) : Int) kk) nn) _ (x : Int) m) Q
    generalize lpF bo (pM_way_L93b N i (n : Int) c3 ((5 ^ n : Nat) : Int) kk) nn = self at ih' ⊢
    unfold pM_way_L93b
    rw [w32_eq (x := (n : Int) - 1) (by omega) (by omega), w32_eq (x := (x : Int) + 1) (by omega) (by omega)]
    refine rn_t (by omega) (rn_v ?_)
    unfold pM_way_L109
    have hst := r_wy109 (N := N) (m0 := m) (c1 := i) (c2 := (n : Int)) (c3 := c3) (c4 := ((5 ^ n : Nat) : Int)) (c5 := z.1) (c6 := (x : Int)) (n := n) (x := x) (bo := fun _ _ _ => none) (Q := Q) (kk := fun n137 => (pM_all n137).bind fun r141 => (pM_runs N n137 0 1 r141).bind fun (r144, m144) => if r144 = 0 then (some ((x : Int) + 1)).bind fun x6_225 => self z.1 x6_225 m144 else if 0 ≤ w32 ((w32 (6 * (w32 ((w32 ((m144 475 63) + n)) - 1)))) + i) ∧ w32 ((w32 (6 * (w32 ((w32 ((m144 475 63) + n)) - 1)))) + i) < 54 then if z.1 < m144 513 (w32 ((w32 (6 * (w32 ((w32 ((m144 475 63) + n)) - 1)))) + i)) then if 0 ≤ w32 ((w32 (6 * (w32 ((w32 ((m144 475 63) + n)) - 1)))) + i) ∧ w32 ((w32 (6 * (w32 ((w32 ((m144 475 63) + n)) - 1)))) + i) < 54 then (some (m144 513 (w32 ((w32 (6 * (w32 ((w32 ((m144 475 63) + n)) - 1)))) + i)))).bind fun x5_194 => pM_way_L199 N i n c3 ((5 ^ n : Nat) : Int) x5_194 x (fun n225 => (some ((x : Int) + 1)).bind fun x6_225 => self x5_194 x6_225 n225) N 0 m144 else none else (some ((x : Int) + 1)).bind fun x6_225 => self z.1 x6_225 m144 else none) hn.2 (by omega) (fun m1 h514 f1 => ?_) n N m (Nat.le_refl _) (by omega) (fun t t0 t1 => absurd t1 (by omega)) Fr.rfl'
    · rw [Nat.sub_self, Nat.pow_zero, Nat.div_one] at hst
      exact hst
    · dsimp only
      have g1 : Fr FRy m0 m1 := hf.trans (f1.mono (fun b j q => by unfold FRy; omega))
      have hq1 : PQ pl m1 := hq.fr g1 (fun b j q => by unfold prc at q; unfold FRy; omega)
      have hS1 : SR pl m1 0 S := hS.eq hg hb.2.2.2.2 (fun b j q => g1 b j (by have := FLy_b q; unfold FRy; omega))
      refine rn_e (e_all hg hr hq1) ?_
      refine rn_b2 (P := fun r m2 => (wayF pl i up n (thS pl up.toNat 0 (begS pl S 1)) x = none → r = 0) ∧ (∀ a, wayF pl i up n (thS pl up.toNat 0 (begS pl S 1)) x = some a → r = 1 ∧ m2 513 (6 * (up + n - 1) + i) = a) ∧ Fr FRr m1 m2) (r_wday (x := x) hN hg hr hq1 hS1 hb hi hup hn hun (by rw [g1 _ _ (by unfold FRy; omega)]; exact h62) (by rw [g1 _ _ (by unfold FRy; omega)]; exact h63) (by rw [g1 _ _ (by unfold FRy; omega)]; exact h64) h514) (fun r m2 h2 => ?_)
      obtain ⟨w1, w2, f2⟩ := h2
      dsimp only
      have g2 : Fr FRy m0 m2 := g1.trans (f2.mono (fun b j q => by unfold FRr at q; unfold FRy; omega))
      have e63 : m2 475 63 = up := by rw [g2 _ _ (by unfold FRy; omega)]; exact h63
      have z2 : Zr n m2 z := ⟨hz.1, hz.2.imp id (fun q t ht => by rw [f2 _ _ (by unfold FRr; omega), f1 _ _ (by omega)]; exact q t ht)⟩
      have estep : flN (wayF pl i up n (thS pl up.toNat 0 (begS pl S 1))) (k + 1) x z = flN (wayF pl i up n (thS pl up.toNat 0 (begS pl S 1))) k (x + 1) (jd z (wayF pl i up n (thS pl up.toNat 0 (begS pl S 1)) x) x) := rfl
      rw [estep] at hk
      generalize hF : wayF pl i up n (thS pl up.toNat 0 (begS pl S 1)) = F at *
      cases hFx : F x with
      | none =>
        rw [hFx] at hk
        refine rn_t (w1 hFx) (rn_v ?_)
        exact ih' z m2 (by omega) (by omega) z2 g2 hk
      | some a =>
        rw [hFx] at hk
        obtain ⟨hr1, ha⟩ := w2 a hFx
        have eix : w32 (w32 (6 * w32 (w32 (m2 475 63 + (n : Int)) - 1)) + i) = 6 * (up + n - 1) + i := by
          rw [e63, w32_eq (x := up + n) (by omega) (by omega), w32_eq (x := up + n - 1) (by omega) (by omega), w32_eq (x := 6 * (up + n - 1)) (by omega) (by omega), w32_eq (x := 6 * (up + n - 1) + i) (by omega) (by omega)]
        have evl : m2 513 (w32 (w32 (6 * w32 (w32 (m2 475 63 + (n : Int)) - 1)) + i)) = a := by rw [eix]; exact ha
        refine rn_f (by omega) (rn_t (by rw [eix]; omega) (rn_i (fun q => ?_) (fun q => ?_)))
        · rw [evl] at q
          refine rn_t (by rw [eix]; omega) (rn_v ?_)
          rw [evl]
          have ej : jd z (some a) x = (a, x) := if_pos q
          rw [ej] at hk
          unfold pM_way_L199
          refine r_wy199 (N := N) (m0 := m2) hn.2 (fun m3 h3 f3 => ?_) n N 0 m2 (by omega) (by omega) (fun t ht => absurd ht (Nat.not_lt_zero _)) Fr.rfl'
          refine rn_v (ih' (a, x) m3 (by omega) (by omega) ⟨by dsimp only; have := hz.1; omega, Or.inr (fun t ht => ?_)⟩ (g2.trans (f3.mono (fun b j q => by unfold FRy; omega))) hk)
          rw [h3 t ht, f2 _ _ (by unfold FRr; omega)]
          exact h514 t ht
        · rw [evl] at q
          have ej : jd z (some a) x = z := if_neg q
          rw [ej] at hk
          exact rn_v (ih' z m2 (by omega) (by omega) z2 g2 hk)
