/-! THE REFERENCE's plan, beside the component's -/
def prc (b j : Int) : Prop := (b = 475 ∧ (j = 13 ∨ j = 41)) ∨ b = 477 ∨ b = 478 ∨ b = 480 ∨ (484 ≤ b ∧ b ≤ 490)
def PQ (pl m : Mem) : Prop := ∀ b j, prc b j → m b j = pl b j
theorem PQ.fr {S : Int → Int → Prop} {pl m m' : Mem} (h : PQ pl m) (f : Fr S m m') (hs : ∀ b j, prc b j → ¬ S b j) : PQ pl m' := fun b j q => (f b j (hs b j q)).trans (h b j q)
theorem PQ.rfl' (pl : Mem) : PQ pl pl := fun _ _ _ => rfl
/-- a law on both sides -/
def LR (m : Mem) (w : Int) : Prop := (m (9 + 3 * w) 2 = 0 ∧ m 486 (3 * m 475 13 + w) = -1) ∨ (0 < m (9 + 3 * w) 2 ∧ 0 ≤ m 486 (3 * m 475 13 + w) ∧ m 487 (3 * m 475 13 + w) = m 486 (3 * m 475 13 + w) + m (9 + 3 * w) 2 ∧ m 487 (3 * m 475 13 + w) ≤ 1600 ∧ RcOk (m 488) (m 489) (1600 * m 475 13 + m 486 (3 * m 475 13 + w)) (codeOf m w))
def PR (m : Mem) : Prop := (0 ≤ m 475 13 ∧ m 475 13 < 2) ∧ m 477 (m 475 13) = m 2 0 ∧ m 478 (m 475 13) = m 2 1 ∧ m 480 (m 475 13) = m 2 3 ∧ m 485 (m 475 13) = m 2 4 ∧ ((m 475 41 = 0 ∧ m 2 0 = 0) ∨ (m 475 41 = 1 ∧ 2 ≤ m 2 0)) ∧ (∀ i, 0 ≤ i → i < m 2 3 → m 484 (6 * m 475 13 + i) = m 8 i) ∧ ∀ w, 0 ≤ w → w < 3 → LR m w
theorem PQ.bk {pl m : Mem} (h : PQ pl m) : m 475 13 = pl 475 13 := h _ _ (by unfold prc; omega)
theorem e_is (m : Mem) (x a b : Int) : pM_is m x a b = some (if a ≤ x ∧ x ≤ b then 1 else 0) := by
  unfold pM_is
  by_cases h1 : x < a
  · rw [if_pos h1, if_neg (by omega)]
  · rw [if_neg h1]
    by_cases h2 : b < x
    · rw [if_pos h2, if_neg (by omega)]
    · rw [if_neg h2, if_pos (by omega)]
theorem e_least (m : Mem) (x y : Int) : pM_least m x y = some (min x y) := by
  unfold pM_least
  split <;> (congr 1; omega)
theorem e_isCell {pl m : Mem} (hg : PG pl) (hr : PR pl) (hq : PQ pl m) (c r : Int) : pM_isCell m c r = some (if (0 ≤ c ∧ c < pl 2 0) ∧ (0 ≤ r ∧ r < pl 2 1) then 1 else 0) := by
  have hn := hg.num
  obtain ⟨h1, h2, h3, h4, h5, h6, h7, h8⟩ := hr
  have hb := hq.bk
  have e2 : m 477 (pl 475 13) = pl 2 0 := (hq _ _ (by unfold prc; omega)).trans h2
  have e3 : m 478 (pl 475 13) = pl 2 1 := (hq _ _ (by unfold prc; omega)).trans h3
  have e4 : m 475 41 = pl 475 41 := hq _ _ (by unfold prc; omega)
  unfold pM_isCell
  rw [hb, e2, e3, e4]
  rcases h6 with ⟨h6, h9⟩ | ⟨h6, h9⟩
  · rw [if_pos h6, if_neg (by omega)]
  · rw [if_neg (by omega), if_pos h1, e_is, e_is, w32_eq (x := pl 2 0 - 1) (by omega) (by omega), w32_eq (x := pl 2 1 - 1) (by omega) (by omega)]
    simp only [Option.bind_some]
    by_cases q1 : 0 ≤ c ∧ c < pl 2 0
    · by_cases q2 : 0 ≤ r ∧ r < pl 2 1
      · rw [if_pos (show 0 ≤ c ∧ c ≤ pl 2 0 - 1 by omega), if_neg (by omega), if_pos h1, if_pos (show 0 ≤ r ∧ r ≤ pl 2 1 - 1 by omega), if_neg (by omega), if_pos ⟨q1, q2⟩]
      · rw [if_pos (show 0 ≤ c ∧ c ≤ pl 2 0 - 1 by omega), if_neg (by omega), if_pos h1, if_neg (show ¬ (0 ≤ r ∧ r ≤ pl 2 1 - 1) by omega), if_pos rfl, if_neg (fun c => q2 c.2)]
    · rw [if_neg (show ¬ (0 ≤ c ∧ c ≤ pl 2 0 - 1) by omega), if_pos rfl, if_neg (fun c => q1 c.1)]
/-- a CELL's place in the reference -/
def ph (pl : Mem) (p : Int) : Int := 8 * (p / pl 2 0) + p % pl 2 0
theorem ph_eq {pl : Mem} (hg : PG pl) {p : Int} (hp : 0 ≤ p ∧ p < pl 2 2) : (0 ≤ p % pl 2 0 ∧ p % pl 2 0 < pl 2 0) ∧ (0 ≤ p / pl 2 0 ∧ p / pl 2 0 < pl 2 1) ∧ (0 ≤ ph pl p ∧ ph pl p < 64) ∧ ph pl p % 8 = p % pl 2 0 ∧ ph pl p / 8 = p / pl 2 0 := by
  have hc := hg.pos hp
  have hcr := pl_cell hc.1 hc.2.1 (by rw [← hc.2.2]; exact hp)
  unfold ph
  omega
theorem ph_inj {pl : Mem} (hg : PG pl) {p q : Int} (hp : 0 ≤ p ∧ p < pl 2 2) (hq : 0 ≤ q ∧ q < pl 2 2) (h : ph pl p = ph pl q) : p = q := by
  have h1 := ph_eq hg hp
  have h2 := ph_eq hg hq
  have hc := hg.pos hp
  have hcr := pl_cell hc.1 hc.2.1 (by rw [← hc.2.2]; exact hp)
  have hcq := pl_cell hc.1 hc.2.1 (by rw [← hc.2.2]; exact hq)
  have e1 : p % pl 2 0 = q % pl 2 0 := by omega
  have e2 : p / pl 2 0 = q / pl 2 0 := by omega
  rw [hcr.2.2, hcq.2.2, e1, e2]
/-- every place that is a CELL is some p's -/
theorem ph_sur {pl : Mem} (hg : PG pl) {c : Int} (h : (0 ≤ c % 8 ∧ c % 8 < pl 2 0) ∧ (0 ≤ c / 8 ∧ c / 8 < pl 2 1)) : ∃ p, (0 ≤ p ∧ p < pl 2 2) ∧ ph pl p = c ∧ p = c / 8 * pl 2 0 + c % 8 := by
  have hn := hg.num
  have h2 := hg.2.1
  have hC : (2 ≤ pl 2 0 ∧ pl 2 0 ≤ 8) ∧ (2 ≤ pl 2 1 ∧ pl 2 1 ≤ 8) := by rcases hg.1 with q | q <;> omega
  refine ⟨c / 8 * pl 2 0 + c % 8, ?_, ?_, rfl⟩
  · rw [h2]
    generalize pl 2 0 = C at *
    rcases (show C = 2 ∨ C = 3 ∨ C = 4 ∨ C = 5 ∨ C = 6 ∨ C = 7 ∨ C = 8 by omega) with rfl | rfl | rfl | rfl | rfl | rfl | rfl <;> omega
  · unfold ph
    generalize pl 2 0 = C at *
    rcases (show C = 2 ∨ C = 3 ∨ C = 4 ∨ C = 5 ∨ C = 6 ∨ C = 7 ∨ C = 8 by omega) with rfl | rfl | rfl | rfl | rfl | rfl | rfl <;> omega
theorem step_ar {C R p : Int} (hC : 2 ≤ C ∧ C ≤ 8) (hR : 2 ≤ R ∧ R ≤ 8) (hp : 0 ≤ p ∧ p < C * R) :
    (0 < p % C → (p - 1) % C = p % C - 1 ∧ (p - 1) / C = p / C) ∧ (p % C + 1 < C → (p + 1) % C = p % C + 1 ∧ (p + 1) / C = p / C) ∧ ((p < C ↔ p / C < 1) ∧ (p - C) % C = p % C ∧ (p - C) / C = p / C - 1) ∧ ((p + C < C * R ↔ p / C + 1 < R) ∧ (p + C) % C = p % C ∧ (p + C) / C = p / C + 1) := by
  rcases (show C = 2 ∨ C = 3 ∨ C = 4 ∨ C = 5 ∨ C = 6 ∨ C = 7 ∨ C = 8 by omega) with rfl | rfl | rfl | rfl | rfl | rfl | rfl <;> omega
def phx (pl : Mem) (x : Int) : Int := if x = -1 then -1 else ph pl x
theorem e_stepTo {pl m : Mem} {p st : Int} (hg : PG pl) (hr : PR pl) (hq : PQ pl m) (hp : 0 ≤ p ∧ p < pl 2 2) (hs : 0 ≤ st ∧ st ≤ 4) : pM_stepTo m (ph pl p) st = some (phx pl (bsd pl p st)) := by
  have hn := hg.num
  have hc := hg.pos hp
  have h := ph_eq hg hp
  have hb := (e_bsd hg (PE.rfl' pl) hp hs).2
  have ha := step_ar hc.1 hc.2.1 (by rw [← hc.2.2]; exact hp)
  rw [← hc.2.2] at ha
  have er : r32 (ph pl p) 8 = p % pl 2 0 := by rw [r32_eq (by omega) (by omega) (by omega) (by omega)]; exact h.2.2.2.1
  have ed : d32 (ph pl p) 8 = p / pl 2 0 := by rw [d32_eq (by omega) (by omega) (by omega) (by omega)]; exact h.2.2.2.2
  unfold pM_stepTo
  rw [er, ed]
  simp only [Option.bind_some]
  unfold phx bsd
  rcases (show st = 0 ∨ st = 1 ∨ st = 2 ∨ st = 3 ∨ st = 4 by omega) with rfl | rfl | rfl | rfl | rfl
  · simp (disch := omega) only [if_neg, if_true, Int.add_zero, w32_eq]
    rw [e_isCell hg hr hq, if_pos (by omega)]
    simp (disch := omega) only [Option.bind_some, if_neg, w32_eq]
    rfl
  · simp (disch := omega) only [if_neg, if_true, Int.add_zero, w32_eq]
    rw [e_isCell hg hr hq]
    by_cases q : 0 < p % pl 2 0
    · rw [if_pos (by omega), if_pos q]
      simp (disch := omega) only [Option.bind_some, if_neg, w32_eq]
      unfold ph
      have hcr := pl_cell hc.1 hc.2.1 (by rw [← hc.2.2]; exact hp)
      have h3 : 0 ≤ p / pl 2 0 * pl 2 0 := Int.mul_nonneg hcr.2.1.1 (by omega)
      rw [(ha.1 q).1, (ha.1 q).2, if_neg (show ¬ (p - 1 = -1) by omega), Int.sub_eq_add_neg]
    · rw [if_neg (by omega), if_neg q]
      rfl
  · simp (disch := omega) only [if_neg, if_true, Int.add_zero, w32_eq]
    rw [e_isCell hg hr hq]
    by_cases q : p % pl 2 0 + 1 < pl 2 0
    · rw [if_pos (by omega), if_pos q]
      simp (disch := omega) only [Option.bind_some, if_neg, w32_eq]
      unfold ph
      rw [(ha.2.1 q).1, (ha.2.1 q).2]
    · rw [if_neg (by omega), if_neg q]
      rfl
  · simp (disch := omega) only [if_neg, if_true, Int.add_zero, w32_eq]
    rw [e_isCell hg hr hq]
    by_cases q : p < pl 2 0
    · rw [if_neg (by omega), if_pos q]
      rfl
    · rw [if_pos (by omega), if_neg q]
      simp (disch := omega) only [Option.bind_some, if_neg, w32_eq]
      unfold ph
      rw [ha.2.2.1.2.1, ha.2.2.1.2.2]
      rfl
  · simp (disch := omega) only [if_neg, if_true, Int.add_zero, w32_eq]
    rw [e_isCell hg hr hq]
    by_cases q : p + pl 2 0 < pl 2 2
    · rw [if_pos (by omega), if_pos q]
      simp (disch := omega) only [Option.bind_some, if_neg, w32_eq]
      unfold ph
      rw [ha.2.2.2.2.1, ha.2.2.2.2.2]
    · rw [if_neg (by omega), if_neg q]
      rfl
theorem r_wet {N : Nat} {pl m : Mem} {p : Int} {d : Int → Int} (hN : 2000 ≤ N) (hg : PG pl) (hr : PR pl) (hq : PQ pl m) (hp : 0 ≤ p ∧ p < pl 2 2) (hd : ∀ q, 0 ≤ q → q < pl 2 2 → m 508 (ph pl q) = d q) : pM_wettest N m (ph pl p) = some (ph pl (wetS pl d p)) := by
  have hn := hg.num
  have b1 := (e_bsd hg (PE.rfl' pl) hp (st := 1) (by omega)).2
  have b2 := (e_bsd hg (PE.rfl' pl) hp (st := 2) (by omega)).2
  have b3 := (e_bsd hg (PE.rfl' pl) hp (st := 3) (by omega)).2
  have b4 := (e_bsd hg (PE.rfl' pl) hp (st := 4) (by omega)).2
  have i1 := pick_in (d := d) hp b1
  have i2 := pick_in (d := d) i1 b2
  have i3 := pick_in (d := d) i2 b3
  have i4 := pick_in (d := d) i3 b4
  obtain ⟨n, rfl⟩ : ∃ n, N = n + 5 := ⟨N - 5, by omega⟩
  have step : ∀ (k : Int → Option Int) (self : Int → Int → Option Int) (b st : Int), 0 ≤ b ∧ b < pl 2 2 → (1 ≤ st ∧ st ≤ 4) → pM_wettest_L4b (n + 5) m (ph pl p) k self (ph pl b) st = self (ph pl (pick d b (bsd pl p st))) (st + 1) := by
    intro k self b st hb hst
    have hxi := (e_bsd hg (PE.rfl' pl) hp (st := st) (by omega)).2
    unfold pM_wettest_L4b pick
    rw [if_pos (by omega), e_stepTo hg hr hq hp (by omega)]
    generalize bsd pl p st = x at hxi
    show (if phx pl x = -1 then self (ph pl b) (w32 (st + 1)) else if 0 ≤ phx pl x ∧ phx pl x < 64 then if 0 ≤ ph pl b ∧ ph pl b < 64 then if m 508 (ph pl b) < m 508 (phx pl x) then self (phx pl x) (w32 (st + 1)) else self (ph pl b) (w32 (st + 1)) else none else none) = _
    rw [w32_eq (by omega) (by omega)]
    have hpb := ph_eq hg hb
    unfold phx
    by_cases q : x = -1
    · simp only [if_pos q, if_true]
    · have hpx := ph_eq hg (p := x) (by omega)
      simp only [if_neg q]
      rw [if_neg (by omega), if_pos (by omega), if_pos (by omega), hd b hb.1 hb.2, hd x (by omega) (by omega)]
      split <;> rfl
  unfold pM_wettest pM_wettest_L4
  show pM_wettest_L4b _ m _ _ (lpF _ _ (n + 4)) (ph pl p) 1 = _
  rw [step _ _ p 1 hp (by omega)]
  show pM_wettest_L4b _ m _ _ (lpF _ _ (n + 3)) _ 2 = _
  rw [step _ _ _ 2 i1 (by omega)]
  show pM_wettest_L4b _ m _ _ (lpF _ _ (n + 2)) _ 3 = _
  rw [step _ _ _ 3 i2 (by omega)]
  show pM_wettest_L4b _ m _ _ (lpF _ _ (n + 1)) _ 4 = _
  rw [step _ _ _ 4 i3 (by omega)]
  show pM_wettest_L4b _ m _ _ (lpF _ _ n) _ 5 = _
  unfold pM_wettest_L4b
  rw [if_neg (by omega)]
  rfl
/-- the value that the reference takes of a law -/
theorem r_val {N : Nat} {pl m : Mem} {w p d y h v e dflt : Int} (hN : 2000 ≤ N) (hg : PG pl) (hr : PR pl) (hq : PQ pl m) (hw : 0 ≤ w ∧ w < 3) (hp : 0 ≤ p ∧ p < pl 2 2) (hd : 0 ≤ d ∧ d ≤ 100) (hy : 0 ≤ y ∧ y ≤ 1000) (hh : 0 ≤ h ∧ h ≤ 100) (hv : 0 ≤ v ∧ v ≤ 100) (he : 0 ≤ e ∧ e ≤ 100) (h5 : 1 ≤ w → m 507 5 = h) (h6 : w = 2 → m 507 6 = v ∧ m 507 7 = e) (hdf : 0 ≤ dflt) : Rn (pM_tells0 N m w (ph pl p) d y dflt) (fun q => q.1 = max 0 (sv pl w (fx (p % pl 2 0) (p / pl 2 0) d y h v e) dflt) ∧ Fr (fun b j => b = 506 ∨ (b = 507 ∧ 1 ≤ j ∧ j ≤ 4)) m q.2) := by
  have hn := hg.num
  have hph := ph_eq hg hp
  have hb1 := hr.1
  have hl := hr.2.2.2.2.2.2.2 w hw.1 hw.2
  have hbk := hq.bk
  have q6 : ∀ j, m 486 j = pl 486 j := fun j => hq _ _ (by unfold prc; omega)
  have q7 : ∀ j, m 487 j = pl 487 j := fun j => hq _ _ (by unfold prc; omega)
  have e2 : w32 (w32 (3 * pl 475 13) + w) = 3 * pl 475 13 + w := by rw [w32_eq (x := 3 * pl 475 13) (by omega) (by omega), w32_eq (by omega) (by omega)]
  have er : r32 (ph pl p) 8 = p % pl 2 0 := by rw [r32_eq (by omega) (by omega) (by omega) (by omega)]; exact hph.2.2.2.1
  have ed : d32 (ph pl p) 8 = p / pl 2 0 := by rw [d32_eq (by omega) (by omega) (by omega) (by omega)]; exact hph.2.2.2.2
  unfold pM_tells0
  rw [hbk, e2, q6, er, ed]
  refine rn_t (by omega) ?_
  rcases hl with ⟨ht, hl⟩ | ⟨ht, hl0, hl1, hl2, hl3⟩
  · refine rn_t hl (rn_s ⟨?_, Fr.rfl'⟩)
    rw [sv_f (su := 9 + 3 * w) rfl (by omega)]
    show dflt = _
    omega
  · refine rn_f (by omega) ?_
    refine rn_v (rn_v (rn_v (rn_l (fun m1 hm1 => ?_))))
    have f1 : Fr (fun b j => b = 507 ∧ 1 ≤ j ∧ j ≤ 4) m m1 := by
      rw [hm1]
      exact (((Fr.rfl'.set (by omega)).set (by omega)).set (by omega)).set (by omega)
    have hg2 := hg.2.2.2.2 w hw.1 hw.2
    have hfx := fun k => fx_big (c := p % pl 2 0) (r := p / pl 2 0) (d := d) (y := y) (h := h) (v := v) (e := e) (by omega) (by omega) hd hy hh hv he k
    obtain ⟨x, hx, hev⟩ := (hg2.2 ht).2 _ (fun v _ _ => hfx v)
    have hq1 : PQ pl m1 := hq.fr f1 (fun b j q => by unfold prc at q; omega)
    have q8 : m1 488 = pl 488 := by funext j; exact hq1 _ _ (by unfold prc; omega)
    have q9 : m1 489 = pl 489 := by funext j; exact hq1 _ _ (by unfold prc; omega)
    have hcl := codeOf_len pl w
    have k5 : m1 507 5 = m 507 5 := f1 _ _ (by omega)
    have k6 : m1 507 6 = m 507 6 := f1 _ _ (by omega)
    have k7 : m1 507 7 = m 507 7 := f1 _ _ (by omega)
    have a1 : m1 507 1 = p % pl 2 0 := by rw [hm1]; simp (disch := omega) only [mset_o, mset_s]
    have a2 : m1 507 2 = p / pl 2 0 := by rw [hm1]; simp (disch := omega) only [mset_o, mset_s]
    have a3 : m1 507 3 = d := by rw [hm1]; simp (disch := omega) only [mset_o, mset_s]
    have a4 : m1 507 4 = y := by rw [hm1]; simp (disch := omega) only [mset_s]
    clear hm1
    have hf : ∀ k, 0 ≤ k → k < bnd w → m1 507 (k + 1) = fx (p % pl 2 0) (p / pl 2 0) d y h v e k := by
      intro k hk0 hk
      unfold bnd at hk
      unfold fx
      rcases (show k = 0 ∨ k = 1 ∨ k = 2 ∨ k = 3 ∨ (k = 4 ∧ 1 ≤ w) ∨ (k = 5 ∧ w = 2) ∨ (k = 6 ∧ w = 2) by (split at hk; omega; split at hk <;> omega)) with rfl | rfl | rfl | rfl | ⟨rfl, hk1⟩ | ⟨rfl, hk1⟩ | ⟨rfl, hk1⟩
      · exact a1
      · exact a2
      · exact a3
      · exact a4
      · exact k5.trans (h5 hk1)
      · exact k6.trans (h6 hk1).1
      · exact k7.trans (h6 hk1).2
    have h := r_reckons (N := N) (μ := m1) (w := w) (bk := pl 475 13) (f := pl 486 (3 * pl 475 13 + w)) (e := pl 487 (3 * pl 475 13 + w)) (fc := fx (p % pl 2 0) (p / pl 2 0) d y h v e) (L := codeOf pl w) (v := x) (B := bnd w) (by rw [hcl]; omega) hq1.bk hb1 hw hf (fun k _ _ => hfx k) (fun c hc q => ((hg2.2 ht).1 c hc q).2) (hq1 _ _ (by unfold prc; omega)) (hq1 _ _ (by unfold prc; omega)) (by rw [hcl]; omega) (by rw [q8, q9]; exact hl3) hev
    refine rn_b2 (P := fun r m2 => r = x ∧ ∀ b j, b ≠ 506 → m2 b j = m1 b j) h (fun r m2 hm2 => ?_)
    obtain ⟨rfl, hm2⟩ := hm2
    dsimp only
    have f2 : Fr (fun b j => b = 506 ∨ (b = 507 ∧ 1 ≤ j ∧ j ≤ 4)) m m2 := fun b j hb => (hm2 b j (fun q => hb (Or.inl q))).trans (f1 b j (fun q => hb (Or.inr q)))
    rw [sv_t (su := 9 + 3 * w) rfl ht, vl_of hev]
    unfold big at hx
    refine rn_i (fun q => rn_s ⟨?_, f2⟩) (fun q => rn_s ⟨?_, f2⟩)
    · show (0 : Int) = _
      omega
    · show w32 r = _
      rw [w32_eq (by omega) (by omega)]
      omega
