/-! WAY: the component's search -/
def FY (d : Int) : Int → Int → Prop := fun b j => (b = 250 ∧ j = 4) ∨ b = 253 ∨ (b = 252 ∧ d ≤ j) ∨ (254 + 7 * d ≤ b ∧ b ≤ 295) ∨ b = 11 ∨ b = 14 ∨ b = 17
def Zm (n : Nat) (m : Mem) (z : Int × Nat) : Prop := m 250 4 = z.1 ∧ -1 ≤ z.1 ∧ (z.1 = -1 ∨ ∀ k : Nat, k < n → m 253 k = dgN n k z.2)
theorem Zm.fr {n : Nat} {m m' : Mem} {z : Int × Nat} (h : Zm n m z) (f : ∀ b j, (b = 250 ∧ j = 4) ∨ b = 253 → m' b j = m b j) : Zm n m' z := ⟨by rw [f _ _ (Or.inl ⟨rfl, rfl⟩)]; exact h.1, h.2.1, h.2.2.imp id (fun k y hy => by rw [f _ _ (Or.inr rfl)]; exact k y hy)⟩
theorem c_judge {n x : Nat} {m : Mem} {z : Int × Nat} {a : Int} (hn : n ≤ 5) (ha : 0 ≤ a) (hz : Zm n m z) (hd : ∀ k : Nat, k < n → m 252 k = dgN n k x) : Rn (pY_judge m a) (fun m' => Zm n m' (jd z (some a) x) ∧ Fr (fun b j => (b = 250 ∧ j = 4) ∨ b = 253) m m') := by
  unfold pY_judge jd
  dsimp only
  rw [hz.1]
  by_cases q : z.1 < a
  · rw [if_pos q, if_pos q]
    refine rn_v (rn_v (rn_s ⟨⟨?_, by dsimp only; omega, Or.inr (fun k hk => ?_)⟩, ?_⟩))
    · rw [mcpy_o (by omega), mset_s rfl rfl]
    · rw [mcpy_i (by omega), mset_o (by omega), show (0 : Int) + ((k : Int) - 0) = k by omega]
      exact hd k hk
    · exact (Fr.rfl'.set (Or.inl ⟨rfl, rfl⟩)).cpy (fun j _ _ => Or.inr rfl)
  · rw [if_neg q, if_neg q]
    exact rn_s ⟨hz, Fr.rfl'⟩
theorem dig_pre {q s e : Nat} (hs : s < 5) : (5 * q + s) / 5 ^ (e + 1) % 5 = q / 5 ^ e % 5 := by
  rw [Nat.pow_succ, Nat.mul_comm (5 ^ e) 5, ← Nat.div_div_eq_div_mul, show (5 * q + s) / 5 = q by omega]
noncomputable def gY (N : Nat) (f : Nat) : Nat → Int → Int → Mem → Option Mem := pgY N f
theorem gY_0 (N f : Nat) (d s : Int) (m : Mem) : gY N (f + 1) 0 d s m = pY_search_b N (gY N f) m d := rfl
theorem gY_1 (N f : Nat) (d s : Int) (m : Mem) : gY N (f + 1) 1 d s m = pY_tryStep_b N (gY N f) m d s := rfl
/-- the search below a depth does what the numbers do -/
def SL (N : Nat) (pl : Mem) (i up : Int) (n : Nat) (F : Nat → Option Int) (r : Nat) : Prop :=
  ∀ (f d q : Nat) (W m : Mem) (z : Int × Nat), 2 * r ≤ f → d + r = n → PE pl m → m 250 5 = i → m 250 6 = n → vW m (254 + 7 * (d : Int)) = W → WB pl W → LW i up W → Zm n m z → (∀ k : Nat, k < d → m 252 k = ((q / 5 ^ (d - 1 - k) % 5 : Nat) : Int)) → (∀ y, y < 5 ^ r → F (q * 5 ^ r + y) = evD pl i up r d W (fun k => dgN n k (q * 5 ^ r + y))) → Rn (gY N f 0 d 0 m) (fun m' => Zm n m' (flN F (5 ^ r) (q * 5 ^ r) z) ∧ Fr (FY d) m m')
theorem c_step {N : Nat} {pl : Mem} {i up : Int} {n : Nat} {F : Nat → Option Int} {r : Nat} (hN : 2000 ≤ N) (hg : PG pl) (hi : 0 ≤ i ∧ i < pl 2 3) (hup : 0 ≤ up ∧ up + n ≤ 9) (hn5 : n ≤ 5) (ih : 0 < r → SL N pl i up n F r) {f d q s : Nat} {W m : Mem} {z : Int × Nat} (hf : 2 * r ≤ f) (hd : d + (r + 1) = n) (hs : s < 5) (he : PE pl m) (h5 : m 250 5 = i) (h6 : m 250 6 = n) (hW : vW m (254 + 7 * (d : Int)) = W) (hb : WB pl W) (hl : LW i up W) (hz : Zm n m z) (hpre : ∀ k : Nat, k < d → m 252 k = ((q / 5 ^ (d - 1 - k) % 5 : Nat) : Int))
    (hF : ∀ y, y < 5 ^ r → F ((5 * q + s) * 5 ^ r + y) = if bsd pl (W 4 i) s = -1 then none else evD pl i up r (d + 1) (nxW pl i (up + d) W (bsd pl (W 4 i) s)) (fun k => dgN n k ((5 * q + s) * 5 ^ r + y))) :
    Rn (pY_tryStep_b N (gY N f) m d s) (fun m' => Zm n m' (flN F (5 ^ r) ((5 * q + s) * 5 ^ r) z) ∧ Fr (fun b j => FY (d + 1) b j ∨ (b = 252 ∧ j = d)) m m') := by
  have hn := hg.num
  have hWi := hb.2.1 i hi.1 hi.2
  have e2 : m (254 + 7 * (d : Int) + 2) i = up := by rw [← hl.1, ← hW, vW_in (by omega)]
  have e4 : m (254 + 7 * (d : Int) + 4) i = W 4 i := by rw [← hW, vW_in (by omega)]
  unfold pY_tryStep_b
  rw [h5, e2, e4, w32_eq (x := (d : Int) + 1) (by omega) (by omega), w32_eq (x := up + (d : Int)) (by omega) (by omega)]
  refine rn_t (by omega) (rn_t (by omega) (rn_t (by omega) (rn_v (rn_t (by omega) ?_))))
  have hbs := e_bsd (st := (s : Int)) hg he hWi.1 (by omega)
  refine rn_e hbs.1 ?_
  generalize bsd pl (W 4 i) (s : Int) = p at hbs hF
  by_cases qp : p = -1
  · refine rn_t qp (rn_s ⟨?_, Fr.rfl'⟩)
    rw [flN_none F _ _ _ (fun y hy => by rw [hF y hy, if_pos qp])]
    exact hz
  · have hp : 0 ≤ p ∧ p < pl 2 2 := by omega
    refine rn_f qp (rn_t (by omega) (rn_l (fun m1 hm1 => ?_)))
    have s1 : m1 252 (d : Int) = s := by rw [hm1, mset_s rfl rfl]
    have f1 : Fr (fun b j => b = 252 ∧ j = d) m m1 := by rw [hm1]; exact Fr.rfl'.set ⟨rfl, rfl⟩
    clear hm1
    have v1 : vW m1 (254 + 7 * (d : Int)) = W := by
      rw [← hW]
      exact vW_fr (fun b j q1 q2 _ => f1 b j (by omega))
    refine rn_b (c_copyW (m := m1) (d := 254 + 7 * ((d : Int) + 1)) (s := 254 + 7 * (d : Int)) (by omega)) (fun m2 h2 => ?_)
    obtain ⟨v2, f2⟩ := h2
    rw [v1] at v2
    have g2 : Fr (fun b j => FY (d + 1) b j ∨ (b = 252 ∧ j = d)) m m2 := (f1.mono (fun b j q => Or.inr q)).trans (f2.mono (fun b j q => by unfold FC at q; unfold FY; omega))
    have k5 : m2 250 5 = i := by rw [g2 _ _ (by unfold FY; omega)]; exact h5
    have he2 : PE pl m2 := he.fr g2 (fun b j q => by unfold plc at q; unfold FY; omega)
    rw [k5]
    refine rn_b (c_go (m := m2) (a := 254 + 7 * ((d : Int) + 1)) (h := up + d) hN hg he2 (by omega) (by rw [v2]; exact hb) hi hp (by omega)) (fun m3 h3 => ?_)
    obtain ⟨v3, f3⟩ := h3
    rw [v2] at v3
    have g3 : Fr (fun b j => FY (d + 1) b j ∨ (b = 252 ∧ j = d)) m m3 := g2.trans (f3.mono (fun b j q => by unfold FW at q; unfold FY; omega))
    have k53 : m3 250 5 = i := by rw [g3 _ _ (by unfold FY; omega)]; exact h5
    have k63 : m3 250 6 = n := by rw [g3 _ _ (by unfold FY; omega)]; exact h6
    have he3 : PE pl m3 := he.fr g3 (fun b j q => by unfold plc at q; unfold FY; omega)
    have c3 : Fr (fun b j => (b = 252 ∧ j = d) ∨ (254 + 7 * ((d : Int) + 1) ≤ b ∧ b ≤ 295) ∨ b = 11 ∨ b = 14 ∨ b = 17) m m3 := ((f1.mono (fun b j q => Or.inl q)).trans (f2.mono (fun b j q => by unfold FC at q; omega))).trans (f3.mono (fun b j q => by unfold FW at q; omega))
    have z3 : Zm n m3 z := hz.fr (fun b j q => c3 b j (by omega))
    have pre3 : ∀ k : Nat, k < d + 1 → m3 252 k = (((5 * q + s) / 5 ^ (d + 1 - 1 - k) % 5 : Nat) : Int) := fun k hk => by
      by_cases qk : k = d
      · subst qk
        rw [show k + 1 - 1 - k = 0 by omega, Nat.pow_zero, Nat.div_one, show (5 * q + s) % 5 = s by omega, f3 _ _ (by unfold FW; omega), f2 _ _ (by unfold FC; omega)]
        exact s1
      · rw [c3 _ _ (by omega), hpre k (by omega), show d + 1 - 1 - k = (d - 1 - k) + 1 by omega, dig_pre hs]
    rw [k53, k63]
    by_cases qr : r = 0
    · subst qr
      refine rn_t (by omega) (rn_t (by omega) ?_)
      have eh : m3 (254 + 7 * ((d : Int) + 1) + 5) i = goS pl W i p (up + d) 5 i := by rw [← v3, vW_in (by omega)]
      rw [eh]
      have hb5 := ((hb.go (h := up + d) hi hp).2.1 i hi.1 hi.2).2.1.1
      refine rn_b (c_judge (n := n) (x := (5 * q + s) * 5 ^ 0) (z := z) hn5 hb5 z3 (fun k hk => ?_)) (fun m4 h4 => rn_s ⟨?_, ?_⟩)
      · have := pre3 k (by omega)
        rw [this]
        unfold dgN
        rw [Nat.pow_zero, Nat.mul_one, show n - 1 - k = d + 1 - 1 - k by omega]
      · have e1 := hF 0 (by decide)
        rw [if_neg qp] at e1
        have e3 : F ((5 * q + s) * 5 ^ 0) = some (goS pl W i p (up + d) 5 i) := by
          rw [Nat.add_zero] at e1
          rw [e1, ← nxW_5]
          rfl
        have e5 : flN F (5 ^ 0) ((5 * q + s) * 5 ^ 0) z = jd z (some (goS pl W i p (up + d) 5 i)) ((5 * q + s) * 5 ^ 0) := by
          rw [← e3]; rfl
        rw [e5]
        exact h4.1
      · exact g3.trans (h4.2.mono (fun b j q => by unfold FY; omega))
    · refine rn_f (by omega) ?_
      rw [show m3 2 3 = pl 2 3 from he3.d 3, w32_eq (x := i + 1) (by omega) (by omega)]
      have hb3 := hb.go (h := up + d) hi hp
      refine rn_b (c_goAll (m := m3) (a := 254 + 7 * ((d : Int) + 1)) (h := up + d) hN hg (by omega) (by omega) (Int.le_refl _) he3 (by rw [v3]; exact hb3) (by omega)) (fun m4 h4 => ?_)
      obtain ⟨v4, f4⟩ := h4
      rw [v3] at v4
      have he4 : PE pl m4 := FW_PE he3 (by omega) f4
      refine rn_b (c_dry (m := m4) (a := 254 + 7 * ((d : Int) + 1)) (h := up + d) hN hg (by omega) (by omega) he4 (by rw [v4]; exact WB.ga hg _ _ _ hb3 (by omega) (by omega))) (fun m5 h5' => ?_)
      obtain ⟨v5, f5⟩ := h5'
      rw [v4] at v5
      have c5 : Fr (fun b j => (254 + 7 * ((d : Int) + 1) ≤ b ∧ b ≤ 295) ∨ b = 11 ∨ b = 14 ∨ b = 17) m3 m5 := (f4.mono (fun b j q => by unfold FW at q; omega)).trans (f5.mono (fun b j q => by unfold FW at q; omega))
      have he5 : PE pl m5 := FW_PE he4 (by omega) f5
      have hih := ih (by omega) f (d + 1) (5 * q + s) (nxW pl i (up + d) W p) m5 z hf (by omega) he5 (by rw [c5 _ _ (by omega)]; exact k53) (by rw [c5 _ _ (by omega)]; exact k63) (by rw [show ((d + 1 : Nat) : Int) = (d : Int) + 1 by omega, v5]; rfl) (WB.nx hg hb hi hp) hl.nx (z3.fr (fun b j q => c5 b j (by omega))) (fun k hk => by rw [c5 _ _ (by omega)]; exact pre3 k hk) (fun y hy => by rw [hF y hy, if_neg qp])
      rw [show ((d + 1 : Nat) : Int) = (d : Int) + 1 by omega] at hih
      refine rn_b hih (fun m6 h6' => rn_s ⟨h6'.1, ?_⟩)
      exact (g3.trans (c5.mono (fun b j q => by unfold FY; omega))).trans (h6'.2.mono (fun b j q => Or.inl q))
theorem c_srL {N : Nat} {Q : Mem → Prop} {pl : Mem} {i up : Int} {n : Nat} {F : Nat → Option Int} {r : Nat} {kk : Mem → Option Mem} {bo : Int → Mem → Option Mem} (hN : 2000 ≤ N) (hg : PG pl) (hi : 0 ≤ i ∧ i < pl 2 3) (hup : 0 ≤ up ∧ up + n ≤ 9) (hn5 : n ≤ 5) (ih : 0 < r → SL N pl i up n F r) {f d q : Nat} {W m0 : Mem} {z : Int × Nat} (hf : 2 * r + 1 ≤ f) (hd : d + (r + 1) = n) (he : PE pl m0) (h5 : m0 250 5 = i) (h6 : m0 250 6 = n) (hW : vW m0 (254 + 7 * (d : Int)) = W) (hb : WB pl W) (hl : LW i up W) (hpre : ∀ k : Nat, k < d → m0 252 k = ((q / 5 ^ (d - 1 - k) % 5 : Nat) : Int))
    (hF : ∀ s y, s < 5 → y < 5 ^ r → F ((5 * q + s) * 5 ^ r + y) = if bsd pl (W 4 i) s = -1 then none else evD pl i up r (d + 1) (nxW pl i (up + d) W (bsd pl (W 4 i) s)) (fun k => dgN n k ((5 * q + s) * 5 ^ r + y)))
    (hk : ∀ m', Zm n m' (flN F (5 * 5 ^ r) (5 * q * 5 ^ r) z) → Fr (fun b j => FY (d + 1) b j ∨ (b = 252 ∧ j = d)) m0 m' → Rn (kk m') Q) :
    ∀ (k nn s : Nat) (m : Mem), k < nn → s + k = 5 → Zm n m (flN F (s * 5 ^ r) (5 * q * 5 ^ r) z) → Fr (fun b j => FY (d + 1) b j ∨ (b = 252 ∧ j = d)) m0 m → Rn (lpF bo (pY_search_L50b N (gY N f) d kk) nn (s : Int) m) Q := by
  intro k
  induction k with
  | zero =>
    intro nn s m hkn hs hz hfr
    obtain ⟨nn, rfl⟩ : ∃ n', nn = n' + 1 := ⟨nn - 1, by omega⟩
    show Rn (pY_search_L50b N (gY N f) d kk (lpF bo (pY_search_L50b N (gY N f) d kk) nn) (s : Int) m) Q
    generalize lpF bo (pY_search_L50b N (gY N f) d kk) nn = self
    unfold pY_search_L50b
    refine rn_f (by omega) ?_
    rw [show s = 5 by omega] at hz
    exact hk m hz hfr
  | succ k ihk =>
    intro nn s m hkn hs hz hfr
    obtain ⟨nn, rfl⟩ : ∃ n', nn = n' + 1 := ⟨nn - 1, by omega⟩
    have ih' := ihk nn (s + 1)
    rw [show ((s + 1 : Nat) : Int) = (s : Int) + 1 by omega] at ih'
    have hem : PE pl m := he.fr hfr (fun b j q => by unfold plc at q; unfold FY; omega)
    show Rn (pY_search_L50b N (gY N f) d kk (lpF bo (pY_search_L50b N (gY N f) d kk) nn) (s : Int) m) Q
    generalize lpF bo (pY_search_L50b N (gY N f) d kk) nn = self at ih' ⊢
    unfold pY_search_L50b
    rw [w32_eq (x := (s : Int) + 1) (by omega) (by omega)]
    refine rn_t (by omega) ?_
    obtain ⟨f', rfl⟩ : ∃ f', f = f' + 1 := ⟨f - 1, by omega⟩
    have e1 : gY N (f' + 1) 1 (d : Int) (s : Int) m = pY_tryStep_b N (gY N f') m d s := rfl
    rw [e1]
    refine rn_b (c_step (q := q) (W := W) hN hg hi hup hn5 ih (by omega) hd (by omega) hem (by rw [hfr _ _ (by unfold FY; omega)]; exact h5) (by rw [hfr _ _ (by unfold FY; omega)]; exact h6) (by rw [← hW]; exact vW_fr (fun b j q1 q2 _ => hfr b j (by unfold FY; omega))) hb hl hz (fun k hk => by rw [hfr _ _ (by unfold FY; omega)]; exact hpre k hk) (fun y hy => hF s y (by omega) hy)) (fun m1 h1 => rn_v ?_)
    refine ih' m1 (by omega) (by omega) ?_ (hfr.trans h1.2)
    have e2 := flN_add F (s * 5 ^ r) (5 ^ r) (5 * q * 5 ^ r) z
    rw [show (s + 1) * 5 ^ r = s * 5 ^ r + 5 ^ r from by rw [Nat.add_mul, Nat.one_mul], e2, show 5 * q * 5 ^ r + s * 5 ^ r = (5 * q + s) * 5 ^ r from by rw [Nat.add_mul]]
    exact h1.1
theorem c_srch1 {N : Nat} {pl : Mem} {i up : Int} {n : Nat} {F : Nat → Option Int} {r : Nat} (hN : 2000 ≤ N) (hg : PG pl) (hi : 0 ≤ i ∧ i < pl 2 3) (hup : 0 ≤ up ∧ up + n ≤ 9) (hn5 : n ≤ 5) (ih : 0 < r → SL N pl i up n F r) : SL N pl i up n F (r + 1) := by
  have hn := hg.num
  intro f d q W m z hf hd he h5 h6 hW hb hl hz hpre hF
  obtain ⟨f, rfl⟩ : ∃ f', f = f' + 1 := ⟨f - 1, by omega⟩
  rw [gY_0]
  unfold pY_search_b
  have e2 : m (254 + 7 * (d : Int) + 2) i = up := by rw [← hl.1, ← hW, vW_in (by omega)]
  rw [h5, h6, e2, w32_eq (x := up + (d : Int)) (by omega) (by omega)]
  refine rn_f (by omega) (rn_t (by omega) (rn_t (by omega) (rn_t (by omega) (rn_t (by omega) (rn_t (by omega) ?_)))))
  refine rn_b (c_goAll (m := m) (a := 254 + 7 * (d : Int)) (h := up + d) (i := 0) (e := i) hN hg (by omega) (by omega) (by omega) he (by rw [hW]; exact hb) (by omega)) (fun m1 h1 => ?_)
  obtain ⟨v1, f1⟩ := h1
  rw [hW, show (i - 0).toNat = i.toNat by omega] at v1
  have c1 : Fr (fun b j => (254 + 7 * (d : Int) ≤ b ∧ b ≤ 295) ∨ b = 11 ∨ b = 14 ∨ b = 17) m m1 := f1.mono (fun b j q => by unfold FW at q; omega)
  have hb1 : WB pl (gaS pl (up + d) i.toNat 0 W) := WB.ga hg _ 0 _ hb (by omega) (by omega)
  have ep : 5 ^ (r + 1) = 5 * 5 ^ r := by rw [Nat.pow_succ, Nat.mul_comm]
  have eq5 : q * 5 ^ (r + 1) = 5 * q * 5 ^ r := by rw [ep, ← Nat.mul_assoc, Nat.mul_comm q 5]
  unfold pY_search_L50
  refine c_srL (m0 := m1) (z := z) (q := q) hN hg hi hup hn5 ih (by omega) hd (FW_PE he (by omega) f1) (by rw [c1 _ _ (by omega)]; exact h5) (by rw [c1 _ _ (by omega)]; exact h6) v1 hb1 (hl.ga _ _) (fun k hk => by rw [c1 _ _ (by omega)]; exact hpre k hk) (fun s y hs hy => ?_) (fun m2 z2 f2 => rn_s ⟨by rw [eq5, ep]; exact z2, (c1.mono (fun b j q => by (try unfold FY); omega)).trans (f2.mono (fun b j q => by unfold FY at q; (try unfold FY); omega))⟩) 5 N 0 m1 (by omega) (by omega) ?_ Fr.rfl'
  · have hbl := pow_block (q := q) hs hy
    have hp5 : s * 5 ^ r + y < 5 ^ (r + 1) := by
      rw [ep]
      have : (s + 1) * 5 ^ r ≤ 5 * 5 ^ r := Nat.mul_le_mul_right _ (by omega)
      rw [Nat.add_mul, Nat.one_mul] at this
      omega
    have h7 := hF (s * 5 ^ r + y) hp5
    rw [← Nat.add_assoc, hbl.1] at h7
    rw [h7]
    have hdg : dgN n d ((5 * q + s) * 5 ^ r + y) = s := by
      unfold dgN
      rw [show n - 1 - d = r by omega, hbl.2]
      omega
    show (if bsd pl (gaS pl (up + d) i.toNat 0 W 4 i) (dgN n d ((5 * q + s) * 5 ^ r + y)) = -1 then none else evD pl i up r (d + 1) (nxW pl i (up + d) (gaS pl (up + d) i.toNat 0 W) (bsd pl (gaS pl (up + d) i.toNat 0 W 4 i) (dgN n d ((5 * q + s) * 5 ^ r + y)))) _) = _
    rw [hdg]
  · rw [Nat.zero_mul]
    exact hz.fr (fun b j q => c1 b j (by omega))
theorem c_srch {N : Nat} {pl : Mem} {i up : Int} {n : Nat} {F : Nat → Option Int} (hN : 2000 ≤ N) (hg : PG pl) (hi : 0 ≤ i ∧ i < pl 2 3) (hup : 0 ≤ up ∧ up + n ≤ 9) (hn5 : n ≤ 5) : ∀ r : Nat, SL N pl i up n F (r + 1) := by
  have hn := hg.num
  intro r
  induction r with
  | zero => exact c_srch1 hN hg hi hup hn5 (r := 0) (fun h => absurd h (Nat.lt_irrefl 0))
  | succ r ih => exact c_srch1 hN hg hi hup hn5 (fun _ => ih)
