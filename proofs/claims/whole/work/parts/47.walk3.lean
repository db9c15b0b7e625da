/-! the component's Walk: an hour -/
theorem PE.rfl' (pl : Mem) : PE pl pl := fun _ _ _ => rfl
theorem wet_in {pl : Mem} {d : Int → Int} {p : Int} (hg : PG pl) (hp : 0 ≤ p ∧ p < pl 2 2) : 0 ≤ wetS pl d p ∧ wetS pl d p < pl 2 2 := by
  obtain ⟨-, b1⟩ := e_bsd hg (PE.rfl' pl) hp (st := 1) (by omega)
  obtain ⟨-, b2⟩ := e_bsd hg (PE.rfl' pl) hp (st := 2) (by omega)
  obtain ⟨-, b3⟩ := e_bsd hg (PE.rfl' pl) hp (st := 3) (by omega)
  obtain ⟨-, b4⟩ := e_bsd hg (PE.rfl' pl) hp (st := 4) (by omega)
  exact pick_in (pick_in (pick_in (pick_in hp b1) b2) b3) b4
theorem WB.one {pl W : Mem} {h i : Int} (hg : PG pl) (hb : WB pl W) (hi : 0 ≤ i ∧ i < pl 2 3) : WB pl (oneS pl h i W) := by
  unfold oneS
  split
  · exact hb.go hi (wet_in hg (hb.2.1 i hi.1 hi.2).1)
  · exact hb
theorem WB.ga {pl : Mem} {h : Int} (hg : PG pl) : ∀ (k : Nat) (i : Int) (W : Mem), WB pl W → 0 ≤ i → i + k ≤ pl 2 3 → WB pl (gaS pl h k i W)
  | 0, _, _, hb, _, _ => hb
  | k + 1, i, W, hb, h0, h1 => WB.ga hg k (i + 1) _ (hb.one hg ⟨h0, by omega⟩) (by omega) (by omega)
theorem sunS_nn (pl : Mem) (p d y h : Int) : 0 ≤ sunS pl p d y h := by unfold sunS; omega
theorem fallS_nn (pl : Mem) (p d y : Int) : 0 ≤ fallS pl p d y := by unfold fallS; omega
theorem WB.dry {pl W : Mem} {h : Int} (hb : WB pl W) : WB pl (dryS pl W h) := by
  refine ⟨fun p h0 h1 => ?_, fun i h0 h1 => ?_, ?_⟩
  · unfold dryS
    rw [if_pos ⟨rfl, h0, h1⟩]
    have := hb.1 p h0 h1
    have := sunS_nn pl p (W 1 p) (W 0 9) h
    omega
  · unfold dryS
    simp only [show ¬ ((4 : Int) = 1) by omega, show ¬ ((5 : Int) = 1) by omega, show ¬ ((3 : Int) = 1) by omega, show ¬ ((2 : Int) = 1) by omega, false_and, if_false]
    exact hb.2.1 i h0 h1
  · exact hb.2.2
theorem WB.hr {pl W : Mem} {h : Int} (hg : PG pl) (hb : WB pl W) : WB pl (hrS pl h W) := (WB.ga hg _ 0 W hb (by omega) (by have := hg.num; omega)).dry
theorem WB.th {pl : Mem} (hg : PG pl) : ∀ (k : Nat) (h : Int) (W : Mem), WB pl W → WB pl (thS pl k h W)
  | 0, _, _, hb => hb
  | k + 1, h, W, hb => WB.th hg k (h + 1) _ (hb.hr hg)
theorem c_goAll_L {N : Nat} {Q : Mem → Prop} {kk : Mem → Option Mem} {bo : Int → Mem → Option Mem} {pl : Mem} {a h e : Int} (hN : 2000 ≤ N) (hg : PG pl) (ha : 194 ≤ a) (hh : 0 ≤ h ∧ h ≤ 8) (he3 : e ≤ pl 2 3) :
    ∀ (k n : Nat) (i : Int) (m : Mem), k < n → PE pl m → WB pl (vW m a) → 0 ≤ i → (i + k = e ∨ (k = 0 ∧ e ≤ i)) → (∀ m', vW m' a = gaS pl h k i (vW m a) → Fr (FW a) m m' → Rn (kk m') Q) → Rn (lpF bo (pW_goAll_L3b N a e h kk) n i m) Q := by
  intro k
  have hn := hg.num
  induction k with
  | zero =>
    intro n i m hkn he hb h0 hi hk
    obtain ⟨n, rfl⟩ : ∃ n', n = n' + 1 := ⟨n - 1, by omega⟩
    show Rn (pW_goAll_L3b N a e h kk (lpF bo (pW_goAll_L3b N a e h kk) n) i m) Q
    generalize lpF bo (pW_goAll_L3b N a e h kk) n = self
    unfold pW_goAll_L3b
    refine rn_f (by omega) ?_
    exact hk m rfl Fr.rfl'
  | succ k ih =>
    intro n i m hkn he hb h0 hi hk
    obtain ⟨n, rfl⟩ : ∃ n', n = n' + 1 := ⟨n - 1, by omega⟩
    have hie : i + ((k + 1 : Nat) : Int) = e := by omega
    have hgo : ∀ m1, vW m1 a = oneS pl h i (vW m a) → Fr (FW a) m m1 → Rn (lpF bo (pW_goAll_L3b N a e h kk) n (i + 1) m1) Q := by
      intro m1 hv hf
      refine ih n (i + 1) m1 (by omega) (FW_PE he ha hf) (by rw [hv]; exact hb.one hg ⟨h0, by omega⟩) (by omega) (by omega) (fun m' hv' hf' => hk m' ?_ (hf.trans hf'))
      rw [hv', hv]
      rfl
    show Rn (pW_goAll_L3b N a e h kk (lpF bo (pW_goAll_L3b N a e h kk) n) i m) Q
    generalize lpF bo (pW_goAll_L3b N a e h kk) n = self at hgo ⊢
    unfold pW_goAll_L3b
    have hw := hb.2.1 i h0 (by omega)
    have w2 : vW m a 2 i = m (a + 2) i := vW_in (by omega)
    have w4 : vW m a 4 i = m (a + 4) i := vW_in (by omega)
    refine rn_t (by omega) ?_
    refine rn_t (by omega) ?_
    refine rn_i (fun q => ?_) (fun q => ?_)
    · refine rn_v ?_
      rw [w32_eq (by omega) (by omega)]
      refine hgo m ?_ Fr.rfl'
      unfold oneS
      rw [if_neg (by rw [w2]; omega)]
    · refine rn_i (fun q2 => ?_) (fun q2 => ?_)
      · refine rn_t (by omega) ?_
        have hwet := c_wet (N := N) (a := a) (p := m (a + 4) i) hN hg he (by rw [← w4]; exact hw.1)
        refine rn_e hwet.1 ?_
        refine rn_b (c_go hN hg he ha hb ⟨h0, by omega⟩ hwet.2 hh) (fun m1 h1 => ?_)
        refine rn_v ?_
        rw [w32_eq (by omega) (by omega)]
        refine hgo m1 ?_ h1.2
        unfold oneS
        have e1 : (vW m a) 1 = fun j => if 0 ≤ j ∧ j < 64 then m (a + 1) j else 0 := by
          funext j
          unfold vW
          by_cases q : 0 ≤ j ∧ j < 64
          · rw [if_pos (Or.inl ⟨rfl, q.1, q.2⟩), if_pos q]
          · rw [if_neg (by omega), if_neg q, if_neg (by omega)]
        have hwe : wetS pl (vW m a 1) (vW m a 4 i) = wetS pl (m (a + 1)) (m (a + 4) i) := by
          rw [w4]
          have hbs : ∀ st, (0 ≤ st ∧ st ≤ 4) → (bsd pl (m (a + 4) i) st = -1 ∨ (0 ≤ bsd pl (m (a + 4) i) st ∧ bsd pl (m (a + 4) i) st < pl 2 2)) := fun st hs => (e_bsd hg (PE.rfl' pl) (by rw [← w4]; exact hw.1) hs).2
          have pk : ∀ b x, (0 ≤ b ∧ b < pl 2 2) → (x = -1 ∨ (0 ≤ x ∧ x < pl 2 2)) → pick (vW m a 1) b x = pick (m (a + 1)) b x := by
            intro b x hb hx
            unfold pick
            by_cases q : x = -1
            · rw [if_pos q, if_pos q]
            · rw [if_neg q, if_neg q, vW_in (by omega), vW_in (by omega)]
          have p0 : 0 ≤ m (a + 4) i ∧ m (a + 4) i < pl 2 2 := by rw [← w4]; exact hw.1
          unfold wetS
          rw [pk _ _ p0 (hbs 1 (by omega))]
          have p1 := pick_in (d := m (a + 1)) p0 (hbs 1 (by omega))
          rw [pk _ _ p1 (hbs 2 (by omega))]
          have p2 := pick_in (d := m (a + 1)) p1 (hbs 2 (by omega))
          rw [pk _ _ p2 (hbs 3 (by omega))]
          have p3 := pick_in (d := m (a + 1)) p2 (hbs 3 (by omega))
          rw [pk _ _ p3 (hbs 4 (by omega))]
        rw [if_pos ⟨by rw [w2]; omega, q2⟩, h1.1, hwe]
      · refine rn_v ?_
        rw [w32_eq (by omega) (by omega)]
        refine hgo m ?_ Fr.rfl'
        unfold oneS
        rw [if_neg (fun c => q2 c.2)]
theorem c_goAll {N : Nat} {pl m : Mem} {a h i e : Int} (hN : 2000 ≤ N) (hg : PG pl) (ha : 194 ≤ a) (hh : 0 ≤ h ∧ h ≤ 8) (he3 : e ≤ pl 2 3) (he : PE pl m) (hb : WB pl (vW m a)) (h0 : 0 ≤ i) : Rn (pW_goAll N m a i e h) (fun m' => vW m' a = gaS pl h (e - i).toNat i (vW m a) ∧ Fr (FW a) m m') := by
  have hn := hg.num
  unfold pW_goAll pW_goAll_L3
  exact c_goAll_L hN hg ha hh he3 (e - i).toNat N i m (by omega) he hb h0 (by omega) (fun m' hv hf => rn_s ⟨hv, hf⟩)
/-! the sun -/
def dryP (pl W : Mem) (h x : Int) : Mem := fun k j => if k = 1 ∧ 0 ≤ j ∧ j < x then W 1 j - min (W 1 j) (sunS pl j (W 1 j) (W 0 9) h) else W k j
theorem fc5_row (m : Mem) (a p h : Int) (pl : Mem) (v : Int) : fc5 m a p h pl (a + 6) v = if v = 4 then h else if v = 3 then m a 9 else if v = 2 then m (a + 1) p else if v = 1 then p / pl 2 0 else if v = 0 then p % pl 2 0 else m (a + 6) v := by
  unfold fc5
  simp only [mset_row]
theorem fc5_fr (m : Mem) (a p h : Int) (pl : Mem) : Fr (fun b _ => b = a + 6) m (fc5 m a p h pl) := by
  unfold fc5
  exact Fr.set (Fr.set (Fr.set (Fr.set (Fr.set Fr.rfl' rfl) rfl) rfl) rfl) rfl
theorem dryP_next {pl W : Mem} {h x : Int} (hx : 0 ≤ x) : mset (dryP pl W h x) 1 x (W 1 x - min (W 1 x) (sunS pl x (W 1 x) (W 0 9) h)) = dryP pl W h (x + 1) := by
  funext k j
  unfold mset dryP
  by_cases q : k = 1 ∧ j = x
  · rw [if_pos q, if_pos (by omega), q.2]
  · rw [if_neg q]
    by_cases q2 : k = 1 ∧ 0 ≤ j ∧ j < x
    · rw [if_pos q2, if_pos (by omega)]
    · rw [if_neg q2, if_neg (by omega)]
theorem c_dry_L {N : Nat} {Q : Mem → Prop} {kk : Mem → Option Mem} {bo : Int → Mem → Option Mem} {pl m0 W : Mem} {a h : Int} (hN : 2000 ≤ N) (hg : PG pl) (ha : 194 ≤ a) (hh : 0 ≤ h ∧ h ≤ 8) (hb : WB pl W) (hk : ∀ m', vW m' a = dryS pl W h → Fr (FW a) m0 m' → Rn (kk m') Q) :
    ∀ (k n : Nat) (x : Int) (m : Mem), k < n → PE pl m → 0 ≤ x → x + k = pl 2 2 → vW m a = dryP pl W h x → Fr (FW a) m0 m → Rn (lpF bo (pW_dryUp_L2b N a h kk) n x m) Q := by
  intro k
  have hn := hg.num
  induction k with
  | zero =>
    intro n x m hkn he h0 hx hv hf
    obtain ⟨n, rfl⟩ : ∃ n', n = n' + 1 := ⟨n - 1, by omega⟩
    show Rn (pW_dryUp_L2b N a h kk (lpF bo (pW_dryUp_L2b N a h kk) n) x m) Q
    generalize lpF bo (pW_dryUp_L2b N a h kk) n = self
    unfold pW_dryUp_L2b
    refine rn_f (by rw [he.d]; omega) ?_
    refine hk m ?_ hf
    rw [hv, show x = pl 2 2 by omega]
    rfl
  | succ k ih =>
    intro n x m hkn he h0 hx hv hf
    obtain ⟨n, rfl⟩ : ∃ n', n = n' + 1 := ⟨n - 1, by omega⟩
    have hp : 0 ≤ x ∧ x < pl 2 2 := by omega
    have hc := hg.pos hp
    have hcr := pl_cell hc.1 hc.2.1 (by rw [← hc.2.2]; exact hp)
    have hgo : ∀ m1, vW m1 a = dryP pl W h (x + 1) → Fr (FW a) m m1 → Rn (lpF bo (pW_dryUp_L2b N a h kk) n (x + 1) m1) Q := by
      intro m1 hv1 hf1
      exact ih n (x + 1) m1 (by omega) (FW_PE he ha hf1) (by omega) (by omega) hv1 (hf.trans hf1)
    show Rn (pW_dryUp_L2b N a h kk (lpF bo (pW_dryUp_L2b N a h kk) n) x m) Q
    generalize lpF bo (pW_dryUp_L2b N a h kk) n = self at hgo ⊢
    unfold pW_dryUp_L2b
    have hw := hb.1 x hp.1 hp.2
    have h9 := hb.2.2
    have w1 : m (a + 1) x = W 1 x := by
      rw [← vW_in (m := m) (a := a) (k := 1) (j := x) (by omega), hv]
      unfold dryP
      rw [if_neg (by omega)]
    have w9 : m a 9 = W 0 9 := by
      rw [← vW_9 m a, hv]
      unfold dryP
      rw [if_neg (by omega)]
    have hs := sunS_nn pl x (W 1 x) (W 0 9) h
    refine rn_t (by rw [he.d]; omega) ?_
    refine rn_t (by omega) ?_
    rw [w1]
    refine rn_i (fun q => ?_) (fun q => ?_)
    · refine rn_e (e_face hg he ha hp) ?_
      have f5 := fc5_fr m a x h pl
      have he5 : PE pl (fc5 m a x h pl) := he.fr f5 (fun b j q => by unfold plc at q; omega)
      obtain ⟨r, hr, hr0⟩ := e_told' (fc5 m a x h pl) 12
      rw [he5 12 2 (by unfold plc; omega)] at hr0
      refine rn_e hr ?_
      have q9 : ∀ v, 0 ≤ v → v < 5 → fc5 m a x h pl (a + 6) v = fx (x % pl 2 0) (x / pl 2 0) (W 1 x) (W 0 9) h 0 0 v := by
        intro v h0 h7
        rw [fc5_row, w1, w9]
        unfold fx
        rcases (show v = 0 ∨ v = 1 ∨ v = 2 ∨ v = 3 ∨ v = 4 by omega) with rfl | rfl | rfl | rfl | rfl <;> rfl
      refine rn_b2 (P := fun y n => max 0 y = sunS pl x (W 1 x) (W 0 9) h ∧ big y ∧ Fr (fun b _ => b = a + 6 ∨ b = 14) m n) ?_ (fun y n hy => ?_)
      · rcases hr0 with ⟨rfl, ht⟩ | ⟨rfl, ht⟩
        · refine rn_f (by decide) ?_
          refine rn_b2 (P := fun y n => y = sv pl 1 (fx (x % pl 2 0) (x / pl 2 0) (W 1 x) (W 0 9) h 0 0) 1 ∧ big y ∧ Fr (fun b _ => b = 12 + 2) (fc5 m a x h pl) n) (u_val (w := 1) rfl hN hg he5 ha (by omega) (fun v h0 h7 => q9 v h0 (by unfold bnd at h7; simpa using h7)) (fun v _ _ => fx_big (by omega) (by omega) (by omega) (by omega) (by omega) (by omega) (by omega) v) ht) (fun y n hy => ?_)
          refine rn_s ⟨?_, hy.2.1, fun b j hb => ?_⟩
          · show max 0 y = _
            rw [hy.1]
            rfl
          · show n b j = _
            rw [hy.2.2 b j (by omega)]
            exact f5 b j (fun q => hb (Or.inl q))
        · refine rn_t rfl ?_
          refine rn_s ⟨?_, by unfold big; omega, f5.mono (fun b j q => Or.inl q)⟩
          unfold sunS
          rw [sv_f (su := 12) rfl ht]
      · obtain ⟨hy1, hyb, hyf⟩ := hy
        dsimp only
        have k1 : n (a + 1) x = W 1 x := (hyf _ _ (by omega)).trans w1
        unfold big at hyb
        rw [k1, show max 0 (min (W 1 x) y) = min (W 1 x) (sunS pl x (W 1 x) (W 0 9) h) by omega, w32_eq (x := W 1 x - min (W 1 x) (sunS pl x (W 1 x) (W 0 9) h)) (by omega) (by omega)]
        refine rn_t (by omega) ?_
        refine rn_t (by omega) ?_
        refine rn_t (by omega) ?_
        refine rn_v ?_
        refine rn_v ?_
        rw [w32_eq (by omega) (by omega)]
        refine hgo _ ?_ ?_
        · rw [vW_set (by omega), show vW n a = vW m a from vW_fr (fun b j h1 h2 _ => hyf b j (by omega)), hv]
          exact dryP_next h0
        · exact (hyf.mono (fun b j q => by unfold FW; omega)).set (by unfold FW; omega)
    · refine rn_v ?_
      rw [w32_eq (by omega) (by omega)]
      refine hgo m ?_ Fr.rfl'
      rw [hv, ← dryP_next h0]
      refine (mset_id ?_).symm
      show dryP pl W h x 1 x = _
      unfold dryP
      rw [if_neg (by omega)]
      omega
theorem c_dry {N : Nat} {pl m : Mem} {a h : Int} (hN : 2000 ≤ N) (hg : PG pl) (ha : 194 ≤ a) (hh : 0 ≤ h ∧ h ≤ 8) (he : PE pl m) (hb : WB pl (vW m a)) : Rn (pW_dryUp N m a h) (fun m' => vW m' a = dryS pl (vW m a) h ∧ Fr (FW a) m m') := by
  have hn := hg.num
  unfold pW_dryUp pW_dryUp_L2
  refine c_dry_L (m0 := m) hN hg ha hh hb (fun m' hv hf => rn_s ⟨hv, hf⟩) (pl 2 2).toNat N 0 m (by omega) he (by omega) (by omega) ?_ Fr.rfl'
  funext k j
  unfold dryP
  rw [if_neg (by omega)]
theorem c_thr_L {N : Nat} {Q : Mem → Prop} {kk : Mem → Option Mem} {bo : Int → Mem → Option Mem} {pl : Mem} {a e : Int} (hN : 2000 ≤ N) (hg : PG pl) (ha : 194 ≤ a) (he9 : e ≤ 9) :
    ∀ (k n : Nat) (h : Int) (m : Mem), k < n → PE pl m → WB pl (vW m a) → 0 ≤ h → (h + k = e ∨ (k = 0 ∧ e ≤ h)) → (∀ m', vW m' a = thS pl k h (vW m a) → Fr (FW a) m m' → Rn (kk m') Q) → Rn (lpF bo (pW_through_L2b N a e kk) n h m) Q := by
  intro k
  have hn := hg.num
  induction k with
  | zero =>
    intro n h m hkn he hb h0 hi hk
    obtain ⟨n, rfl⟩ : ∃ n', n = n' + 1 := ⟨n - 1, by omega⟩
    show Rn (pW_through_L2b N a e kk (lpF bo (pW_through_L2b N a e kk) n) h m) Q
    generalize lpF bo (pW_through_L2b N a e kk) n = self
    unfold pW_through_L2b
    refine rn_f (by omega) ?_
    exact hk m rfl Fr.rfl'
  | succ k ih =>
    intro n h m hkn he hb h0 hi hk
    obtain ⟨n, rfl⟩ : ∃ n', n = n' + 1 := ⟨n - 1, by omega⟩
    have hgo : ∀ m1, vW m1 a = hrS pl h (vW m a) → Fr (FW a) m m1 → Rn (lpF bo (pW_through_L2b N a e kk) n (h + 1) m1) Q := by
      intro m1 hv hf
      refine ih n (h + 1) m1 (by omega) (FW_PE he ha hf) (by rw [hv]; exact hb.hr hg) (by omega) (by omega) (fun m' hv' hf' => hk m' ?_ (hf.trans hf'))
      rw [hv', hv]
      rfl
    show Rn (pW_through_L2b N a e kk (lpF bo (pW_through_L2b N a e kk) n) h m) Q
    generalize lpF bo (pW_through_L2b N a e kk) n = self at hgo ⊢
    unfold pW_through_L2b
    refine rn_t (by omega) ?_
    rw [he.d 3]
    refine rn_b (c_goAll hN hg ha (by omega) (by omega) he hb (by omega)) (fun m1 h1 => ?_)
    rw [Int.sub_zero] at h1
    have he1 := FW_PE he ha h1.2
    have hb1 : WB pl (vW m1 a) := by rw [h1.1]; exact WB.ga hg _ 0 _ hb (by omega) (by omega)
    refine rn_b (c_dry hN hg ha (by omega) he1 hb1) (fun m2 h2 => ?_)
    refine rn_v ?_
    rw [w32_eq (by omega) (by omega)]
    refine hgo m2 ?_ (h1.2.trans h2.2)
    rw [h2.1, h1.1]
    rfl
theorem c_thr {N : Nat} {pl m : Mem} {a h e : Int} (hN : 2000 ≤ N) (hg : PG pl) (ha : 194 ≤ a) (he9 : e ≤ 9) (he : PE pl m) (hb : WB pl (vW m a)) (h0 : 0 ≤ h) : Rn (pW_through N m a h e) (fun m' => vW m' a = thS pl (e - h).toNat h (vW m a) ∧ Fr (FW a) m m') := by
  unfold pW_through pW_through_L2
  exact c_thr_L hN hg ha he9 (e - h).toNat N h m (by omega) he hb h0 (by omega) (fun m' hv hf => rn_s ⟨hv, hf⟩)
