/-! ACTS: chance -/
def gv (v : Int) : Int := (1103515245 * v + 12345) % 2147483648
def dv (v : Int) : Int := w32 (r64 (d64 (gv v) 64) 100)
theorem r64_p31 {a : Int} (h0 : 0 ≤ a) (h1 : a < 9223372036854775808) : r64 a 2147483648 = a % 2147483648 := by
  have e : d64 a 2147483648 = a / 2147483648 := by
    unfold d64
    rw [Int64.toInt_div, to64 ⟨by omega, by omega⟩, to64 ⟨by omega, by omega⟩, Int.tdiv_eq_ediv_of_nonneg h0]
    exact Int.bmod_eq_of_le (by omega) (by omega)
  have h2 : Int64.ofInt a / Int64.ofInt 2147483648 = Int64.ofInt (d64 a 2147483648) := by unfold d64; rw [of64]
  unfold r64
  rw [h2, e, mul64, sub64, w64_eq (x := a / 2147483648 * 2147483648) (by omega) (by omega), to64]
  · rw [w64_eq (by omega) (by omega)]; omega
  · exact inL_64 _
theorem gv_in (v : Int) : 0 ≤ gv v ∧ gv v < 2147483648 := by unfold gv; omega
theorem gv_e {v : Int} (h : 0 ≤ v ∧ v < 2147483648) : r64 (w64 (w64 (1103515245 * v) + 12345)) 2147483648 = gv v := by
  rw [w64_eq (x := 1103515245 * v) (by omega) (by omega), w64_eq (by omega) (by omega), r64_p31 (by omega) (by omega)]
  rfl
theorem c_draw {m : Mem} {v : Int} (e : m 0 14 = v) (h : 0 ≤ v ∧ v < 2147483648) : pD_draw m 100 = some (dv v, mset m 0 14 (gv v)) := by
  have hg := gv_in v
  unfold pD_draw
  rw [e, gv_e h, Option.bind_some, w32_eq (x := gv v) (by omega) (by omega), Option.bind_some, if_neg (show ¬ ((100 : Int) < 1) by omega), if_pos (show (100 : Int) ≠ 0 by omega)]
  rfl
theorem r_draw {m : Mem} {v : Int} (e : m 475 53 = v) (h : 0 ≤ v ∧ v < 2147483648) : pM_draw m 100 = some (dv v, mset m 475 53 (gv v)) := by
  unfold pM_draw
  rw [e, gv_e h, Option.bind_some, if_pos (show (100 : Int) ≠ 0 by omega), mset_s rfl rfl]
  rfl
theorem c_drawR {m : Mem} {v : Int} (e : m 0 14 = v) (h : 0 ≤ v ∧ v < 2147483648) : Rn (pD_draw m 100) (fun p => p.1 = dv v ∧ p.2 0 14 = gv v ∧ Fr (fun b j => b = 0 ∧ j = 14) m p.2) := by
  refine ⟨_, c_draw e h, ?_⟩
  dsimp only
  exact ⟨rfl, mset_s rfl rfl, Fr.rfl'.set ⟨rfl, rfl⟩⟩
theorem r_drawR {m : Mem} {v : Int} (e : m 475 53 = v) (h : 0 ≤ v ∧ v < 2147483648) : Rn (pM_draw m 100) (fun p => p.1 = dv v ∧ p.2 475 53 = gv v ∧ Fr (fun b j => b = 475 ∧ j = 53) m p.2) := by
  refine ⟨_, r_draw e h, ?_⟩
  dsimp only
  exact ⟨rfl, mset_s rfl rfl, Fr.rfl'.set ⟨rfl, rfl⟩⟩
def fl (pl : Mem) (v : Int) : Int := if dv v < pl 2 4 then 1 else 0
def fT (pl : Mem) (v : Int) : Int := if fl pl v = 0 then 1 else 2
theorem fT_12 (pl : Mem) (v : Int) : fT pl v = 1 ∨ fT pl v = 2 := by unfold fT; split <;> omega
def chK (pl : Mem) : Nat → Int × Int × Mem → Int × Int × Mem
  | 0, z => z
  | k + 1, z => chK pl k (z.1 + (if fl pl z.2.1 = 0 then 0 else 1), gv z.2.1, livS pl z.2.2 (fT pl z.2.1))
theorem c_ch_L {N : Nat} {Q : Int × Mem → Prop} {kk : Int → Mem → Option (Int × Mem)} {bo : Int → Int → Mem → Option (Int × Mem)} {pl m0 : Mem} {c1 : Int} (hN : 2000 ≤ N) (hg : PG pl) (ho : ∀ i, 0 ≤ i → i < pl 2 3 → 0 ≤ pl 8 i ∧ pl 8 i ≤ 99) (he : PE pl m0) (hc : c1 ≤ 40) :
    ∀ (k n : Nat) (x : Int) (z : Int × Int × Mem) (m : Mem), k < n → 0 ≤ x → x + k = c1 → m 0 14 = z.2.1 → (0 ≤ z.2.1 ∧ z.2.1 < 2147483648) → vS m 38 = z.2.2 → SB pl z.2.2 → (0 ≤ z.1 ∧ z.1 ≤ x) → Fr (fun b j => FLv 194 38 b j ∨ (b = 0 ∧ j = 14)) m0 m → (∀ m', m' 0 14 = (chK pl k z).2.1 → (0 ≤ (chK pl k z).2.1 ∧ (chK pl k z).2.1 < 2147483648) → vS m' 38 = (chK pl k z).2.2 → SB pl (chK pl k z).2.2 → Fr (fun b j => FLv 194 38 b j ∨ (b = 0 ∧ j = 14)) m0 m' → Rn (kk (chK pl k z).1 m') Q) → Rn (lpF bo (pD_chance_L27b N c1 kk) n z.1 x m) Q := by
  have l199 : ln (194 + 5) = 6 := by decide +kernel
  intro k
  induction k with
  | zero =>
    intro n x z m hkn h0 hx hsd hsr hv hb ha hf hk
    obtain ⟨n, rfl⟩ : ∃ n', n = n' + 1 := ⟨n - 1, by omega⟩
    show Rn (pD_chance_L27b N c1 kk (lpF bo (pD_chance_L27b N c1 kk) n) _ x m) Q
    generalize lpF bo (pD_chance_L27b N c1 kk) n = self
    unfold pD_chance_L27b
    refine rn_f (by omega) ?_
    exact hk m hsd hsr hv hb hf
  | succ k ih =>
    intro n x z m hkn h0 hx hsd hsr hv hb ha hf hk
    obtain ⟨n, rfl⟩ : ∃ n', n = n' + 1 := ⟨n - 1, by omega⟩
    have ih' := ih n (x + 1) (z.1 + (if fl pl z.2.1 = 0 then 0 else 1), gv z.2.1, livS pl z.2.2 (fT pl z.2.1))
    show Rn (pD_chance_L27b N c1 kk (lpF bo (pD_chance_L27b N c1 kk) n) _ x m) Q
    generalize lpF bo (pD_chance_L27b N c1 kk) n = self at ih' ⊢
    unfold pD_chance_L27b
    refine rn_t (by omega) ?_
    refine rn_b2 (P := fun r m1 => r = dv z.2.1 ∧ m1 0 14 = gv z.2.1 ∧ Fr (fun b j => b = 0 ∧ j = 14) m m1) (c_drawR hsd hsr) (fun r ma hma => ?_)
    obtain ⟨hra, sa, fma⟩ := hma
    dsimp only
    rw [hra]
    have fa : Fr (fun b j => FLv 194 38 b j ∨ (b = 0 ∧ j = 14)) m0 ma := hf.trans (fma.mono (fun b j q => Or.inr q))
    have va : vS ma 38 = z.2.2 := by
      rw [← hv]
      exact vS_fr (fun b j q1 q2 _ => fma b j (by omega))
    have hem : PE pl ma := he.fr fa (fun b j q => by unfold plc at q; unfold FLv; omega)
    rw [hem.d 4]
    refine rn_v (rn_v (rn_v ?_))
    rw [show (if dv z.2.1 < pl 2 4 then (1 : Int) else 0) = fl pl z.2.1 from rfl]
    refine rn_b2 (P := fun _ m1 => vS m1 38 = livS pl z.2.2 (fT pl z.2.1) ∧ Fr (FLv 194 38) ma m1) (rn_q (c_live (a := 194) (s := 38) (f := fl pl z.2.1) hN hg hem ho (by omega) l199 (by omega) (by omega) (by rw [va]; exact hb)) (fun r hr => by
      rw [va] at hr
      exact ⟨hr.2.1, hr.2.2.2⟩)) (fun r m1 hm => ?_)
    obtain ⟨hv1, f1⟩ := hm
    dsimp only
    have hfl : 0 ≤ (if fl pl z.2.1 = 0 then (0 : Int) else 1) ∧ (if fl pl z.2.1 = 0 then (0 : Int) else 1) ≤ 1 := by split <;> omega
    rw [w32_eq (x := z.1 + (if fl pl z.2.1 = 0 then (0 : Int) else 1)) (by omega) (by omega), w32_eq (x := x + 1) (by omega) (by omega)]
    refine rn_v ?_
    exact ih' m1 (by omega) (by omega) (by omega) ((f1 _ _ (by unfold FLv; omega)).trans sa) (gv_in _) hv1 (SB.liv hg hb (fT_12 _ _)) (by dsimp only; omega) (fa.trans (f1.mono (fun b j q => Or.inl q))) hk
theorem r_ch_L {N : Nat} {Q : Int × Mem → Prop} {kk : Int → Mem → Option (Int × Mem)} {bo : Int → Int → Mem → Option (Int × Mem)} {pl m0 : Mem} {c1 : Int} (hN : 2000 ≤ N) (hg : PG pl) (ho : ∀ i, 0 ≤ i → i < pl 2 3 → 0 ≤ pl 8 i ∧ pl 8 i ≤ 99) (hr : PR pl) (hq : PQ pl m0) (hwk : m0 475 62 = -1) (hc : c1 ≤ 40) :
    ∀ (k n : Nat) (x : Int) (z : Int × Int × Mem) (m : Mem), k < n → 0 ≤ x → x + k = c1 → m 475 53 = z.2.1 → (0 ≤ z.2.1 ∧ z.2.1 < 2147483648) → SR pl m 0 z.2.2 → SB pl z.2.2 → z.2.2 0 0 + k ≤ 999 → (0 ≤ z.1 ∧ z.1 ≤ x) → Fr (fun b j => FRp 0 b j ∨ (b = 475 ∧ j = 53)) m0 m → (∀ m', m' 475 53 = (chK pl k z).2.1 → SR pl m' 0 (chK pl k z).2.2 → Fr (fun b j => FRp 0 b j ∨ (b = 475 ∧ j = 53)) m0 m' → Rn (kk (chK pl k z).1 m') Q) → Rn (lpF bo (pM_chance_L25b N c1 kk) n z.1 x m) Q := by
  intro k
  induction k with
  | zero =>
    intro n x z m hkn h0 hx hsd hsr hv hb hd ha hf hk
    obtain ⟨n, rfl⟩ : ∃ n', n = n' + 1 := ⟨n - 1, by omega⟩
    show Rn (pM_chance_L25b N c1 kk (lpF bo (pM_chance_L25b N c1 kk) n) _ x m) Q
    generalize lpF bo (pM_chance_L25b N c1 kk) n = self
    unfold pM_chance_L25b
    refine rn_f (by omega) ?_
    exact hk m hsd hv hf
  | succ k ih =>
    intro n x z m hkn h0 hx hsd hsr hv hb hd ha hf hk
    obtain ⟨n, rfl⟩ : ∃ n', n = n' + 1 := ⟨n - 1, by omega⟩
    have ih' := ih n (x + 1) (z.1 + (if fl pl z.2.1 = 0 then 0 else 1), gv z.2.1, livS pl z.2.2 (fT pl z.2.1))
    show Rn (pM_chance_L25b N c1 kk (lpF bo (pM_chance_L25b N c1 kk) n) _ x m) Q
    generalize lpF bo (pM_chance_L25b N c1 kk) n = self at ih' ⊢
    unfold pM_chance_L25b
    refine rn_t (by omega) ?_
    refine rn_b2 (P := fun r m1 => r = dv z.2.1 ∧ m1 475 53 = gv z.2.1 ∧ Fr (fun b j => b = 475 ∧ j = 53) m m1) (r_drawR hsd hsr) (fun r ma hma => ?_)
    obtain ⟨hra, sa, fma⟩ := hma
    dsimp only
    rw [hra]
    have fa : Fr (fun b j => FRp 0 b j ∨ (b = 475 ∧ j = 53)) m0 ma := hf.trans (fma.mono (fun b j q => Or.inr q))
    have va : SR pl ma 0 z.2.2 := hv.eq hg hb.2.2.2.2 (fun b j q => fma b j (by have := FLy_b q; omega))
    have hqm : PQ pl ma := hq.fr fa (fun b j q => by unfold prc at q; unfold FRp FLy; omega)
    have hwm : ma 475 62 = -1 := by rw [fa _ _ (by unfold FRp FLy; omega)]; exact hwk
    rw [hqm.bk, hqm 485 _ (by unfold prc; omega), hr.2.2.2.2.1]
    refine rn_t hr.1 (rn_v (rn_v (rn_v (rn_v ?_))))
    rw [show (if dv z.2.1 < pl 2 4 then (1 : Int) else 0) = fl pl z.2.1 from rfl]
    refine rn_b2 (P := fun _ m1 => SR pl m1 0 (livS pl z.2.2 (fT pl z.2.1)) ∧ Fr (FRp 0) ma m1) (rn_q (r_pass (v := 0) (t := fT pl z.2.1) hN hg hr hqm ho (by omega) (fT_12 _ _) va hb hwm) (fun r hr => ⟨hr.2.1 (by omega), hr.2.2.2⟩)) (fun r m1 hm => ?_)
    obtain ⟨hv1, f1⟩ := hm
    dsimp only
    have hfl : 0 ≤ (if fl pl z.2.1 = 0 then (0 : Int) else 1) ∧ (if fl pl z.2.1 = 0 then (0 : Int) else 1) ≤ 1 := by split <;> omega
    rw [w32_eq (x := z.1 + (if fl pl z.2.1 = 0 then (0 : Int) else 1)) (by omega) (by omega), w32_eq (x := x + 1) (by omega) (by omega)]
    refine rn_v ?_
    have e0 : livS pl z.2.2 (fT pl z.2.1) 0 0 = min 999 (z.2.2 0 0 + 1) := if_pos ⟨rfl, rfl⟩
    exact ih' m1 (by omega) (by omega) (by omega) ((f1 _ _ (by unfold FRp FLy; omega)).trans sa) (gv_in _) hv1 (SB.liv hg hb (fT_12 _ _)) (by dsimp only; rw [e0]; omega) (by dsimp only; omega) (fa.trans (f1.mono (fun b j q => Or.inl q))) hk
