/-! VALLEY: the component's ends -/
theorem c_cL32 {N : Nat} {m0 : Mem} {Q : Mem → Prop} {kk : Mem → Option Mem} (hN : 2000 ≤ N) (hk : ∀ m', Fr (fun b j => b = 20) m0 m' → (∀ p, 0 ≤ p → p < 64 → m' 20 p = 0) → Rn (kk m') Q) : Rn (pP_clear_L32 N 19 kk N 0 m0) Q := by
  refine rl_IM (I := fun x m => (0 ≤ x ∧ x ≤ 64) ∧ Fr (fun b j => b = 20) m0 m ∧ ∀ p, 0 ≤ p → p < x → m 20 p = 0) (v := fun x _ => (64 - x).toNat) (fun self x m h ih => ?_) N 0 m0 ⟨by decide, Fr.rfl', fun c c0 c1 => absurd c0 (by omega)⟩ (by show (64 - (0 : Int)).toNat < N; omega)
  obtain ⟨hx, f, hz⟩ := h
  unfold pP_clear_L32b
  refine rn_i (fun q => rn_t (by omega) (rn_v ?_)) (fun q => hk m f (fun c c0 c1 => hz c c0 (by omega)))
  rw [w32_eq (x := x + 1) (by omega) (by omega)]
  refine rn_v (ih (x + 1) _ ⟨by omega, f.set rfl, fun c c0 c1 => ?_⟩ (by show (64 - (x + 1)).toNat < (64 - x).toNat; omega))
  by_cases e : c = x
  · rw [e]; exact mset_s rfl rfl
  · rw [mset_o (by omega)]; exact hz c c0 (by omega)
theorem c_cL53 {N : Nat} {m0 : Mem} {Q : Mem → Prop} {kk : Mem → Option Mem} (hN : 2000 ≤ N) (hk : ∀ m', Fr (fun b j => b = 21) m0 m' → Rn (kk m') Q) : Rn (pP_clear_L53 N 19 kk N 0 m0) Q := by
  refine rl_IM (I := fun x m => (0 ≤ x ∧ x ≤ 36) ∧ Fr (fun b j => b = 21) m0 m) (v := fun x _ => (36 - x).toNat) (fun self x m h ih => ?_) N 0 m0 ⟨by decide, Fr.rfl'⟩ (by show (36 - (0 : Int)).toNat < N; omega)
  obtain ⟨hx, f⟩ := h
  unfold pP_clear_L53b
  refine rn_i (fun q => rn_t (by omega) (rn_v ?_)) (fun q => hk m f)
  rw [w32_eq (x := x + 1) (by omega) (by omega)]
  exact rn_v (ih (x + 1) _ ⟨by omega, f.set rfl⟩ (by show (36 - (x + 1)).toNat < (36 - x).toNat; omega))
theorem c_clear {N : Nat} {m : Mem} (hN : 2000 ≤ N) : Rn (pP_clear N m 19) (fun m' => CLR m' ∧ Fr (fun b j => 19 ≤ b ∧ b ≤ 34) m m') := by
  unfold pP_clear
  refine rn_l (fun m1 h1 => rn_l (fun m2 h2 => rn_l (fun m3 h3 => rn_l (fun m4 h4 => rn_l (fun m5 h5 => rn_l (fun m6 h6 => ?_))))))
  have e3 : m6 19 3 = 0 := by rw [h6, mset_o (by omega), h5, mset_o (by omega), h4, mset_s rfl rfl]
  have e4 : m6 19 4 = 0 := by rw [h6, mset_o (by omega), h5, mset_s rfl rfl]
  have f6 : Fr (fun b j => 19 ≤ b ∧ b ≤ 34) m m6 := by
    rw [h6, h5, h4, h3, h2, h1]
    exact (((((Fr.rfl'.set (by omega)).set (by omega)).set (by omega)).set (by omega)).set (by omega)).set (by omega)
  clear h1 h2 h3 h4 h5 h6
  refine c_cL32 hN (fun m7 f7 z7 => c_cL53 hN (fun m8 f8 => ?_))
  unfold pU_clear
  refine rn_v (rn_v (rn_v (rn_s ⟨⟨⟨?_, ?_⟩, fun p p0 p1 => ?_, ?_, ?_, ?_⟩, ?_⟩)))
  · simp (disch := omega) only [mset_o]
    rw [f8 _ _ (by omega), f7 _ _ (by omega)]; exact e3
  · simp (disch := omega) only [mset_o]
    rw [f8 _ _ (by omega), f7 _ _ (by omega)]; exact e4
  · simp (disch := omega) only [mset_o]
    rw [f8 _ _ (by omega)]; exact z7 p p0 p1
  · simp (disch := omega) only [mset_o, mset_s]
  · simp (disch := omega) only [mset_o, mset_s]
  · exact mset_s rfl rfl
  · exact ((((f6.trans (f7.mono (fun b j c => by omega))).trans (f8.mono (fun b j c => by omega))).set (by omega)).set (by omega)).set (by omega)
def FCr : Int → Int → Prop := fun b _ => 18 ≤ b ∧ b ≤ 37
theorem SPt.NV {T : Int → Int} {L : Int} {t : Mem} {en : Int → Int} (h : SPt T L t en) : NVt t := fun k k0 k1 c => ((h.2.1.2 k k0 k1).2.2).2 c
/-- the component reads the text -/
theorem c_read {N : Nat} {T : Int → Int} {L ib : Int} {m : Mem} (hN : 4000 ≤ N) (hL : 0 ≤ L ∧ L ≤ 1600) (hT : ∀ j, 0 ≤ j → j < L → m 1 j = T j) (hB : ∀ j, 0 ≤ j → j < L → 0 ≤ T j ∧ T j ≤ 255) (hib : ib = 0 ∨ ib = 1) (h1 : m 475 1 = L) (h13 : m 475 13 = 1 - ib) (hR : ∀ j, 0 ≤ j → j < L → m 476 j = T j) : Rn (pR_read N m L) (fun r => Fr FCr m r.2 ∧ (r.1 ≠ 0 → r.2 18 1 = 0 ∧ r.2 18 2 = -1) ∧ ∃ t en, SPt T L t en ∧ ((r.1 = 1 ∧ ∃ k' x', (1 ≤ x' ∧ x' ≤ 80) ∧ r.2 19 5 = x' ∧ ∀ mr, STA (RTj T L t en) ib mr → ∀ (KR : Int → Mem → Option (Int × Mem)) (Q : Int × Mem → Prop), (∀ mr', RDY (RTj T L t en) ib k' r.2 mr' → Fr (FV ib) mr mr' → Rn (KR x' mr') Q) → Rn (RV N KR mr) Q) ∨ (r.1 = 0 ∧ 1 ≤ r.2 18 1 ∧ ∀ mr, STA (RTj T L t en) ib mr → ∀ (KR : Int → Mem → Option (Int × Mem)) (Q : Int × Mem → Prop), (∀ x' mr', mr' 475 8 = r.2 18 1 → mr' 475 9 = r.2 18 2 → Fr (FV ib) mr mr' → Rn (KR x' mr') Q) → Rn (RV N KR mr) Q))) := by
  unfold pR_read
  refine rn_l (fun m1 e1 => rn_l (fun m2 e2 => rn_l (fun m3 e3 => rn_l (fun m4 e4 => ?_))))
  have a1 : m4 18 1 = 0 := by rw [e4, mset_o (by omega), e3, mset_o (by omega), e2, mset_o (by omega), e1, mset_s rfl rfl]
  have a2 : m4 18 2 = -1 := by rw [e4, mset_o (by omega), e3, mset_o (by omega), e2, mset_s rfl rfl]
  have a7 : m4 18 7 = 0 := by rw [e4, mset_o (by omega), e3, mset_s rfl rfl]
  have a8 : m4 18 8 = 0 := by rw [e4, mset_s rfl rfl]
  have f4 : Fr (fun b j => b = 18) m m4 := by
    rw [e4, e3, e2, e1]
    exact (((Fr.rfl'.set (by omega)).set (by omega)).set (by omega)).set (by omega)
  clear e1 e2 e3 e4
  refine rn_b (c_clear (by omega)) (fun m5 h5 => ?_)
  obtain ⟨hcl, f5⟩ := h5
  rw [show min L 1600 = L by omega]
  refine rn_b (c_split (T := T) (by omega) (fun j j0 j1 => ?_) hB hL) (fun m6 h6 => ?_)
  · rw [f5 _ _ (by omega), f4 _ _ (by omega)]
    exact hT j j0 j1
  obtain ⟨en, hs⟩ := h6.t
  have f6 : Fr FSp m5 m6 := h6.1
  have b18 : ∀ j, j ≠ 6 → m6 18 j = m4 18 j := fun j hj => by rw [f6 _ _ (by unfold FSp; omega), f5 _ _ (by omega)]
  have hc : CKt m6 m6 0 := ⟨⟨by decide, by have := hs.1; omega⟩, (b18 7 (by decide)).trans a7, fun _ _ _ => rfl, (b18 8 (by decide)).trans a8⟩
  have hcl6 : CLR m6 := by
    have g : ∀ b j, 19 ≤ b ∧ b ≤ 34 → m6 b j = m5 b j := fun b j q => f6 _ _ (by unfold FSp; omega)
    obtain ⟨⟨c1, c2⟩, c3, c4, c5, c6⟩ := hcl
    exact ⟨⟨(g _ _ (by omega)).trans c1, (g _ _ (by omega)).trans c2⟩, fun p p0 p1 => (g _ _ (by omega)).trans (c3 p p0 p1), (g _ _ (by omega)).trans c4, (g _ _ (by omega)).trans c5, (g _ _ (by omega)).trans c6⟩
  have f46 : Fr FCr m m6 := ((f4.mono (fun b j c => by unfold FCr; omega)).trans (f5.mono (fun b j c => by unfold FCr; omega))).trans (f6.mono (fun b j c => by unfold FSp at c; unfold FCr; omega))
  have hex : ∃ mr, STA (RTj T L m6 en) ib mr := by
    obtain ⟨a, -, ha⟩ := r_begins (N := N) (Q := fun r => STA (RTj T L m6 en) ib r.2) (K := fun m => some (0, m)) (mr := m) (by omega) hL hs hib h1 h13 hR (fun m1 hs1 _ _ => rn_s hs1)
    exact ⟨_, ha⟩
  have hz : Pn (pR_read_L41 N (fun n122 => some (0, n122)) N 0 m6) (GP (min 19 (m6 18 10))) := gk_read (by omega) (fun m _ => pn_s gp0) N 0 m6 ⟨(b18 1 (by decide)).trans a1, (b18 2 (by decide)).trans a2, by omega⟩
  refine rn_q (Rn.and (o_first (N := N) (T := T) hN hL hs hs.NV hib hc hcl6 (fun j j0 j1 => by rw [f46 1 j (by unfold FCr; omega)]; exact hT j j0 j1) hex) hz) (fun r hr => ⟨?_, fun q => ?_, m6, en, hs, hr.1.2⟩)
  · exact f46.trans (hr.1.1.mono (fun b j c => by unfold FCv at c; unfold FCr; omega))
  · have := hr.2 q
    exact ⟨this.1, this.2.1⟩
/-- the plan is copied -/
def CPY (m m' : Mem) : Prop := Fr (fun b j => 2 ≤ b ∧ b ≤ 17) m m' ∧ (∀ j, 0 ≤ j → j ≤ 5 → m' 2 j = m 19 j) ∧ (∀ j, 0 ≤ j → j < 64 → m' 3 j = m 20 j) ∧ (∀ j, 0 ≤ j → j < 36 → m' 4 j = m 21 j) ∧ (∀ b j, 5 ≤ b ∧ b ≤ 8 → 0 ≤ j → j < 6 → m' b j = m (b + 17) j) ∧ ∀ w, 0 ≤ w → w < 3 → m' (9 + 3 * w) 2 = m (26 + 3 * w) 2 ∧ ∀ j, 0 ≤ j → j < m (26 + 3 * w) 2 → m' (10 + 3 * w) j = m (27 + 3 * w) j
theorem c_ucopy {m : Mem} {a0 a1 n : Int} (hn : m a1 2 = n) (h : 0 ≤ n ∧ n ≤ 1600) (ha : a1 + 1 ≠ a0) : Rn (pU_copyOf m a0 a1) (fun m' => Fr (fun b j => (b = a0 ∧ j = 2) ∨ b = a0 + 1) m m' ∧ m' a0 2 = n ∧ ∀ j, 0 ≤ j → j < n → m' (a0 + 1) j = m (a1 + 1) j) := by
  unfold pU_copyOf
  rw [hn]
  refine rn_l (fun m1 h1 => ?_)
  have e : m1 a0 2 = n := by rw [h1]; exact mset_s rfl rfl
  have f : Fr (fun b j => (b = a0 ∧ j = 2) ∨ b = a0 + 1) m m1 := by rw [h1]; exact Fr.rfl'.set (Or.inl ⟨rfl, rfl⟩)
  have e1 : ∀ j, m1 (a1 + 1) j = m (a1 + 1) j := fun j => by rw [h1]; exact mset_o (by omega)
  rw [e]
  refine rn_t (by omega) (rn_v (rn_s ⟨f.cpy (fun j _ _ => Or.inr rfl), ?_, fun j j0 j1 => ?_⟩))
  · rw [mcpy_o (by omega)]; exact e
  · rw [mcpy_i (by omega), show 0 + (j - 0) = j by omega]; exact e1 j
theorem c_copyP {m : Mem} (hl : ∀ w, 0 ≤ w → w < 3 → 0 ≤ m (26 + 3 * w) 2 ∧ m (26 + 3 * w) 2 ≤ 1600) : Rn (pP_copyOf m 2 19) (CPY m) := by
  have l0 := hl 0 (by decide) (by decide)
  have l1 := hl 1 (by decide) (by decide)
  have l2 := hl 2 (by decide) (by decide)
  unfold pP_copyOf
  refine rn_l (fun m1 h1 => rn_l (fun m2 h2 => rn_l (fun m3 h3 => rn_l (fun m4 h4 => rn_l (fun m5 h5 => rn_l (fun m6 h6 => ?_))))))
  have g : Fr (fun b j => b = 2) m m6 := by
    rw [h6, h5, h4, h3, h2, h1]
    exact (((((Fr.rfl'.set (by omega)).set (by omega)).set (by omega)).set (by omega)).set (by omega)).set (by omega)
  have e2 : ∀ j, 0 ≤ j → j ≤ 5 → m6 2 j = m 19 j := by
    intro j j0 j1
    rcases (show j = 0 ∨ j = 1 ∨ j = 2 ∨ j = 3 ∨ j = 4 ∨ j = 5 by omega) with rfl | rfl | rfl | rfl | rfl | rfl
    · rw [h6, h5, h4, h3, h2, h1]; simp (disch := omega) only [mset_o, mset_s]
    · rw [h6, h5, h4, h3, h2, h1]; simp (disch := omega) only [mset_o, mset_s]
    · rw [h6, h5, h4, h3, h2, h1]; simp (disch := omega) only [mset_o, mset_s]
    · rw [h6, h5, h4, h3, h2, h1]; simp (disch := omega) only [mset_o, mset_s]
    · rw [h6, h5, h4, h3, h2, h1]; simp (disch := omega) only [mset_o, mset_s]
    · rw [h6, h5, h4, h3, h2, h1]; simp (disch := omega) only [mset_o, mset_s]
  clear h1 h2 h3 h4 h5 h6
  refine rn_l (fun m7 h7 => rn_l (fun m8 h8 => rn_l (fun m9 h9 => rn_l (fun m10 h10 => rn_l (fun m11 h11 => rn_l (fun m12 h12 => ?_))))))
  have g2 : Fr (fun b j => 3 ≤ b ∧ b ≤ 8) m6 m12 := by
    rw [h12, h11, h10, h9, h8, h7]
    exact (((((Fr.rfl'.cpy (fun j _ _ => by omega)).cpy (fun j _ _ => by omega)).cpy (fun j _ _ => by omega)).cpy (fun j _ _ => by omega)).cpy (fun j _ _ => by omega)).cpy (fun j _ _ => by omega)
  have i3 : ∀ j, 0 ≤ j → j < 64 → m12 3 j = m 20 j := fun j j0 j1 => by
    rw [h12, h11, h10, h9, h8]
    simp (disch := omega) only [mcpy_o]
    rw [h7, mcpy_i (by omega), show 0 + (j - 0) = j by omega]
    exact g _ _ (by omega)
  have i4 : ∀ j, 0 ≤ j → j < 36 → m12 4 j = m 21 j := fun j j0 j1 => by
    rw [h12, h11, h10, h9]
    simp (disch := omega) only [mcpy_o]
    rw [h8, mcpy_i (by omega), show 0 + (j - 0) = j by omega, h7, mcpy_o (by omega)]
    exact g _ _ (by omega)
  have i5 : ∀ j, 0 ≤ j → j < 6 → m12 5 j = m 22 j := fun j j0 j1 => by
    rw [h12, h11, h10]
    simp (disch := omega) only [mcpy_o]
    rw [h9, mcpy_i (by omega), show 0 + (j - 0) = j by omega, h8, mcpy_o (by omega), h7, mcpy_o (by omega)]
    exact g _ _ (by omega)
  have i6 : ∀ j, 0 ≤ j → j < 6 → m12 6 j = m 23 j := fun j j0 j1 => by
    rw [h12, h11]
    simp (disch := omega) only [mcpy_o]
    rw [h10, mcpy_i (by omega), show 0 + (j - 0) = j by omega, h9, mcpy_o (by omega), h8, mcpy_o (by omega), h7, mcpy_o (by omega)]
    exact g _ _ (by omega)
  have i7 : ∀ j, 0 ≤ j → j < 6 → m12 7 j = m 24 j := fun j j0 j1 => by
    rw [h12, mcpy_o (by omega), h11, mcpy_i (by omega), show 0 + (j - 0) = j by omega, h10, mcpy_o (by omega), h9, mcpy_o (by omega), h8, mcpy_o (by omega), h7, mcpy_o (by omega)]
    exact g _ _ (by omega)
  have i8 : ∀ j, 0 ≤ j → j < 6 → m12 8 j = m 25 j := fun j j0 j1 => by
    rw [h12, mcpy_i (by omega), show 0 + (j - 0) = j by omega, h11, mcpy_o (by omega), h10, mcpy_o (by omega), h9, mcpy_o (by omega), h8, mcpy_o (by omega), h7, mcpy_o (by omega)]
    exact g _ _ (by omega)
  clear h7 h8 h9 h10 h11 h12
  have hi : ∀ b j, 19 ≤ b → m12 b j = m b j := fun b j q => (g2 _ _ (by omega)).trans (g _ _ (by omega))
  refine rn_b (c_ucopy (n := m 26 2) (hi 26 2 (by decide)) l0 (by decide)) (fun m13 h13 => ?_)
  obtain ⟨f13, v13, w13⟩ := h13
  refine rn_b (c_ucopy (n := m 29 2) ((f13 _ _ (by omega)).trans (hi 29 2 (by decide))) l1 (by decide)) (fun m14 h14 => ?_)
  obtain ⟨f14, v14, w14⟩ := h14
  refine rn_b (c_ucopy (n := m 32 2) ((f14 _ _ (by omega)).trans ((f13 _ _ (by omega)).trans (hi 32 2 (by decide)))) l2 (by decide)) (fun m15 h15 => ?_)
  obtain ⟨f15, v15, w15⟩ := h15
  have k3 : ∀ b j, b ≤ 8 → m15 b j = m12 b j := fun b j q => by rw [f15 _ _ (by omega), f14 _ _ (by omega), f13 _ _ (by omega)]
  refine rn_s ⟨?_, fun j j0 j1 => ?_, fun j j0 j1 => (k3 _ _ (by decide)).trans (i3 j j0 j1), fun j j0 j1 => (k3 _ _ (by decide)).trans (i4 j j0 j1), fun b j hb j0 j1 => ?_, fun w w0 w1 => ?_⟩
  · exact ((((g.mono (fun b j c => by omega)).trans (g2.mono (fun b j c => by omega))).trans (f13.mono (fun b j c => by omega))).trans (f14.mono (fun b j c => by omega))).trans (f15.mono (fun b j c => by omega))
  · rw [k3 _ _ (by decide), g2 _ _ (by omega)]
    exact e2 j j0 j1
  · rw [k3 _ _ (by omega)]
    rcases (show b = 5 ∨ b = 6 ∨ b = 7 ∨ b = 8 by omega) with rfl | rfl | rfl | rfl
    · exact i5 j j0 j1
    · exact i6 j j0 j1
    · exact i7 j j0 j1
    · exact i8 j j0 j1
  · rcases (show w = 0 ∨ w = 1 ∨ w = 2 by omega) with rfl | rfl | rfl
    · refine ⟨?_, fun j j0 j1 => ?_⟩
      · show m15 9 2 = m 26 2
        rw [f15 _ _ (by omega), f14 _ _ (by omega)]; exact v13
      · show m15 10 j = m 27 j
        rw [f15 _ _ (by omega), f14 _ _ (by omega)]
        exact (w13 j j0 j1).trans (hi 27 j (by decide))
    · refine ⟨?_, fun j j0 j1 => ?_⟩
      · show m15 12 2 = m 29 2
        rw [f15 _ _ (by omega)]; exact v14
      · show m15 13 j = m 30 j
        rw [f15 _ _ (by omega)]
        exact (w14 j j0 j1).trans ((f13 30 j (by omega)).trans (hi 30 j (by decide)))
    · refine ⟨?_, fun j j0 j1 => ?_⟩
      · show m15 15 2 = m 32 2
        exact v15
      · show m15 16 j = m 33 j
        exact (w15 j j0 j1).trans ((f14 33 j (by omega)).trans ((f13 33 j (by omega)).trans (hi 33 j (by decide))))
/-- the first state of a plan -/
theorem c_start {N : Nat} {m : Mem} (hN : 2000 ≤ N) : Rn (pS_startOf N m 38) (fun m' => Fr (fun b j => 38 ≤ b ∧ b ≤ 43) m m' ∧ (m' 38 0 = 0 ∧ m' 38 7 = 0) ∧ (∀ j, 0 ≤ j → j < 64 → m' 39 j = m 3 j) ∧ (∀ j, 0 ≤ j → j < 6 → m' 40 j = m 5 j ∧ m' 41 j = m 6 j ∧ m' 42 j = m 7 j ∧ m' 43 j = 0)) := by
  unfold pS_startOf
  refine rn_l (fun m1 h1 => rn_l (fun m2 h2 => ?_))
  have a0 : m2 38 0 = 0 := by rw [h2, mset_o (by omega), h1, mset_s rfl rfl]
  have a7 : m2 38 7 = 0 := by rw [h2, mset_s rfl rfl]
  have f2 : Fr (fun b j => b = 38) m m2 := by rw [h2, h1]; exact (Fr.rfl'.set (by omega)).set (by omega)
  clear h1 h2
  refine rn_l (fun m3 h3 => rn_l (fun m4 h4 => rn_l (fun m5 h5 => rn_l (fun m6 h6 => ?_))))
  have f6 : Fr (fun b j => 39 ≤ b ∧ b ≤ 42) m2 m6 := by
    rw [h6, h5, h4, h3]
    exact (((Fr.rfl'.cpy (fun j _ _ => by omega)).cpy (fun j _ _ => by omega)).cpy (fun j _ _ => by omega)).cpy (fun j _ _ => by omega)
  have i1 : ∀ j, 0 ≤ j → j < 64 → m6 39 j = m 3 j := fun j j0 j1 => by
    rw [h6, mcpy_o (by omega), h5, mcpy_o (by omega), h4, mcpy_o (by omega), h3, mcpy_i (by omega), show 0 + (j - 0) = j by omega]
    exact f2 _ _ (by omega)
  have i2 : ∀ j, 0 ≤ j → j < 6 → m6 40 j = m 5 j := fun j j0 j1 => by
    rw [h6, mcpy_o (by omega), h5, mcpy_o (by omega), h4, mcpy_i (by omega), show 0 + (j - 0) = j by omega, h3, mcpy_o (by omega)]
    exact f2 _ _ (by omega)
  have i3 : ∀ j, 0 ≤ j → j < 6 → m6 41 j = m 6 j := fun j j0 j1 => by
    rw [h6, mcpy_o (by omega), h5, mcpy_i (by omega), show 0 + (j - 0) = j by omega, h4, mcpy_o (by omega), h3, mcpy_o (by omega)]
    exact f2 _ _ (by omega)
  have i4 : ∀ j, 0 ≤ j → j < 6 → m6 42 j = m 7 j := fun j j0 j1 => by
    rw [h6, mcpy_i (by omega), show 0 + (j - 0) = j by omega, h5, mcpy_o (by omega), h4, mcpy_o (by omega), h3, mcpy_o (by omega)]
    exact f2 _ _ (by omega)
  clear h3 h4 h5 h6
  unfold pS_startOf_L72
  refine rl_IM (I := fun x m' => (0 ≤ x ∧ x ≤ 6) ∧ Fr (fun b j => b = 43) m6 m' ∧ ∀ j, 0 ≤ j → j < x → m' 43 j = 0) (v := fun x _ => (6 - x).toNat) (fun self x m' h ih => ?_) N 0 m6 ⟨by decide, Fr.rfl', fun c c0 c1 => absurd c0 (by omega)⟩ (by show (6 - (0 : Int)).toNat < N; omega)
  obtain ⟨hx, f, hz⟩ := h
  unfold pS_startOf_L72b
  refine rn_i (fun q => rn_t (by omega) (rn_v ?_)) (fun q => rn_s ⟨?_, ⟨?_, ?_⟩, fun j j0 j1 => ?_, fun j j0 j1 => ⟨?_, ?_, ?_, hz j j0 (by omega)⟩⟩)
  · rw [w32_eq (x := x + 1) (by omega) (by omega)]
    refine rn_v (ih (x + 1) _ ⟨by omega, f.set rfl, fun c c0 c1 => ?_⟩ (by show (6 - (x + 1)).toNat < (6 - x).toNat; omega))
    by_cases e : c = x
    · rw [e]; exact mset_s rfl rfl
    · rw [mset_o (by omega)]; exact hz c c0 (by omega)
  · exact ((f2.mono (fun b j c => by omega)).trans (f6.mono (fun b j c => by omega))).trans (f.mono (fun b j c => by omega))
  · rw [f _ _ (by omega), f6 _ _ (by omega)]; exact a0
  · rw [f _ _ (by omega), f6 _ _ (by omega)]; exact a7
  · rw [f _ _ (by omega)]; exact i1 j j0 j1
  · rw [f _ _ (by omega)]; exact i2 j j0 j1
  · rw [f _ _ (by omega)]; exact i3 j j0 j1
  · rw [f _ _ (by omega)]; exact i4 j j0 j1
