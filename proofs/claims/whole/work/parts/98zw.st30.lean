/-! VALLEY: both answers are one -/
def FKg : Int → Int → Prop := fun b j => FBg b j ∨ (b = 475 ∧ (j = 10 ∨ j = 11 ∨ j = 13 ∨ j = 41))
def BGn (ib : Int) (mr m : Mem) : Prop := m 498 0 = 0 ∧ (∀ c, 0 ≤ c → c < 64 → m 499 c = mr 479 (64 * ib + c)) ∧ (∀ c, 0 ≤ c → c < 6 → m 500 c = mr 481 (6 * ib + c) ∧ m 501 c = mr 482 (6 * ib + c) ∧ m 502 c = mr 483 (6 * ib + c) ∧ m 503 c = 0) ∧ m 504 0 = 0 ∧ m 475 52 = 0 ∧ m 475 68 = 0
theorem r_goes {N : Nat} {ib x : Int} {mr : Mem} (hN : 2000 ≤ N) (hib : ib = 0 ∨ ib = 1) (h8 : mr 475 8 = 0) (h29 : mr 475 29 = ib) : Rn (KRv N x mr) (fun r => r.1 = x ∧ Fr FKg mr r.2 ∧ (r.2 475 10 = 0 ∧ r.2 475 13 = ib ∧ r.2 475 41 = 1) ∧ BGn ib mr r.2) := by
  unfold KRv
  refine rn_l (fun m1 e1 => rn_l (fun m2 e2 => ?_))
  have a8 : m2 475 8 = 0 := by rw [e2, mset_o (by omega), e1, mset_o (by omega)]; exact h8
  have a29 : m2 475 29 = ib := by rw [e2, mset_o (by omega), e1, mset_o (by omega)]; exact h29
  have a10 : m2 475 10 = 0 := by rw [e2, mset_o (by omega), e1, mset_s rfl rfl]; exact h8
  have f2 : Fr (fun b j => b = 475 ∧ (j = 10 ∨ j = 11)) mr m2 := by rw [e2, e1]; exact (Fr.rfl'.set (by omega)).set (by omega)
  clear e1 e2
  refine rn_f (by omega) (rn_l (fun m3 e3 => rn_l (fun m4 e4 => ?_)))
  have b13 : m4 475 13 = ib := by rw [e4, mset_o (by omega), e3, mset_s rfl rfl]; exact a29
  have b41 : m4 475 41 = 1 := by rw [e4, mset_s rfl rfl]
  have f4 : Fr (fun b j => b = 475 ∧ (j = 13 ∨ j = 41)) m2 m4 := by rw [e4, e3]; exact (Fr.rfl'.set (by omega)).set (by omega)
  clear e3 e4
  refine rn_b (r_begin hN hib b13) (fun m5 h5 => rn_s ⟨rfl, ?_, ⟨?_, ?_, ?_⟩, ?_⟩)
  · exact ((f2.mono (fun b j c => Or.inr ⟨c.1, by omega⟩)).trans (f4.mono (fun b j c => Or.inr ⟨c.1, by omega⟩))).trans (h5.1.mono (fun b j c => Or.inl c))
  · show m5 475 10 = 0
    rw [h5.1 _ _ (by unfold FBg FLy; omega), f4 _ _ (by omega)]; exact a10
  · show m5 475 13 = ib
    rw [h5.1 _ _ (by unfold FBg FLy; omega)]; exact b13
  · show m5 475 41 = 1
    rw [h5.1 _ _ (by unfold FBg FLy; omega)]; exact b41
  · have al : ∀ b j, 476 ≤ b → m4 b j = mr b j := fun b j q => by rw [f4 _ _ (by omega), f2 _ _ (by omega)]
    obtain ⟨-, c1, c2, c3, c4, c5, c6⟩ := h5
    refine ⟨c1, fun c c0 c1' => ?_, fun c c0 c1' => ?_, c4, c5, c6⟩
    · show m5 499 c = _
      rw [c2 c c0 c1']; exact al _ _ (by decide)
    · have := c3 c c0 c1'
      rw [al _ _ (by decide), al _ _ (by decide), al _ _ (by decide)] at this
      exact this
def FCo : Int → Int → Prop := fun b j => (b = 0 ∧ j = 1) ∨ (2 ≤ b ∧ b ≤ 43) ∨ (b = 52 ∧ j = 2) ∨ (b = 396 ∧ j = 3) ∨ FGc b j
theorem Core.new {RT : Int → Mem → Prop} {m m1 m2 m12 mr : Mem} {ib k : Int} (h : Core m) (hib : ib = 0 ∨ ib = 1) (hD : DR (NP ib m12 mr)) (fa : Fr FCo m m1) (a2 : m1 0 1 = 0 ∧ m1 52 2 = 0 ∧ m1 396 3 = 0) (a3 : m1 18 1 = 0 ∧ m1 18 2 = -1) (hno : NoC m1)
    (p2 : ∀ j, 0 ≤ j → j ≤ 5 → m1 2 j = m12 19 j) (p4 : ∀ j, 0 ≤ j → j < 36 → m1 4 j = m12 21 j) (p8 : ∀ j, 0 ≤ j → j < 6 → m1 8 j = m12 25 j) (pw : ∀ w, 0 ≤ w → w < 3 → m1 (9 + 3 * w) 2 = m12 (26 + 3 * w) 2 ∧ ∀ j, 0 ≤ j → j < m12 (26 + 3 * w) 2 → m1 (10 + 3 * w) j = m12 (27 + 3 * w) j)
    (s0 : m1 38 0 = 0 ∧ m1 38 7 = 0) (s1 : ∀ j, 0 ≤ j → j < 64 → m1 39 j = m12 20 j) (s2 : ∀ j, 0 ≤ j → j < 6 → m1 40 j = m12 22 j ∧ m1 41 j = m12 23 j ∧ m1 42 j = m12 24 j ∧ m1 43 j = 0)
    (fb : Fr (fun b j => FVs ib b j ∨ FKg b j) m1 m2) (t2 : m2 475 1 = 0) (b1 : m2 475 10 = 0 ∧ m2 475 13 = ib ∧ m2 475 41 = 1) (b2 : m2 475 11 = -1) (fr : Fr FKg mr m2) (hb : BGn ib mr m2) : OkV m m2 := by
  obtain ⟨hT, h2, h3, -, h5, h8, h9, h10, h11, h12⟩ := h
  obtain ⟨g1, g2, g3, g4, g5, g6⟩ := hb
  have lo : ∀ b j, b ≤ 474 → m2 b j = m1 b j := fun b j q => fb b j (fun c => by
    rcases c with c | c
    · have := FVs_V c
      unfold FVs FV at c
      omega
    · unfold FKg FBg FLy at c
      omega)
  have hi : ∀ b j, (477 ≤ b ∧ b ≤ 497) → m2 b j = mr b j := fun b j q => fr b j (by unfold FKg FBg FLy; omega)
  have v17 : ∀ b j, (b = 2 ∨ b = 4 ∨ (8 ≤ b ∧ b ≤ 10) ∨ b = 12 ∨ b = 13 ∨ b = 15 ∨ b = 16) → vP m2 b j = m1 b j := fun b j q => (vP_in (Or.inl q)).trans (lo b j (by omega))
  have e2 : ∀ j, 0 ≤ j → j ≤ 4 → vP m2 2 j = NP ib m12 mr 2 j := fun j j0 j1 => by
    rw [v17 2 j (by omega), NP_pl (by omega)]
    exact p2 j j0 (by omega)
  have e13 : NP ib m12 mr 475 13 = ib := NP_bk
  have e41 : NP ib m12 mr 475 41 = 1 := by
    unfold NP
    rw [if_neg (by omega), if_neg (by omega), if_pos ⟨rfl, rfl⟩]
  have hplan : PG (vP m2) ∧ PR (vP m2) ∧ INm (vP m2) := by
    refine plan_ok hD e2 (fun j j0 j1 => ?_) (fun j j0 j1 => ?_) (fun w w0 w1 => ?_) (fun b j q => ?_)
    · rw [v17 4 j (by omega), NP_pl (by omega)]
      exact p4 j j0 j1
    · rw [v17 8 j (by omega), NP_pl (by omega)]
      exact p8 j j0 j1
    · obtain ⟨w2, w3⟩ := pw w w0 w1
      have l1 : vP m2 (9 + 3 * w) 2 = m12 (26 + 3 * w) 2 := (v17 _ _ (by omega)).trans w2
      have l2 : NP ib m12 mr (9 + 3 * w) 2 = m12 (26 + 3 * w) 2 := by
        rw [NP_pl (by omega), show 9 + 3 * w + 17 = 26 + 3 * w by omega]
      refine ⟨l1.trans l2.symm, ?_⟩
      unfold codeOf
      rw [l1, l2]
      refine List.map_congr_left (fun j hj => ?_)
      have hj' := List.mem_range.1 hj
      rw [v17 (10 + 3 * w) _ (by omega), NP_pl (b := 10 + 3 * w) (by omega), show 10 + 3 * w + 17 = 27 + 3 * w by omega, w3 j (by omega) (by omega)]
    · have hv : vP m2 b j = m2 b j := vP_in (by omega)
      rw [hv]
      rcases q with ⟨rfl, q | q⟩ | q
      · rw [q, e13]; exact b1.2.1
      · rw [q, e41]; exact b1.2.2
      · rw [NP_rf (by omega) (by omega)]
        exact hi b j (by omega)
  have hst : ISt (vP m2) m2 := by
    refine st_ok hD e13 e2 ⟨(lo _ _ (by decide)).trans s0.1, (lo _ _ (by decide)).trans s0.2⟩ (fun j j0 j1 => ?_) (fun j j0 j1 => ?_) g1 (fun c c0 c1 => ?_) (fun c c0 c1 => ?_) g4
    · rw [lo _ _ (by decide), NP_pl (by omega)]
      exact s1 j j0 j1
    · rw [lo 40 j (by decide), lo 41 j (by decide), lo 42 j (by decide), lo 43 j (by decide), NP_pl (b := 5) (by omega), NP_pl (b := 6) (by omega), NP_pl (b := 7) (by omega)]
      exact s2 j j0 j1
    · rw [NP_rf (by omega) (by omega)]
      exact g2 c c0 c1
    · rw [NP_rf (b := 481) (by omega) (by omega), NP_rf (b := 482) (by omega) (by omega), NP_rf (b := 483) (by omega) (by omega)]
      exact g3 c c0 c1
  have far : ∀ b j, ¬ FCo b j → ¬ FVl b j → ¬ FKg b j → m2 b j = m b j := fun b j q1 q2 q3 => (fb b j (fun c => c.elim (fun d => q2 (FVs_V d)) q3)).trans (fa b j q1)
  have l01 : m2 0 1 = 0 := (lo _ _ (by decide)).trans a2.1
  have l52 : m2 52 2 = 0 := (lo _ _ (by decide)).trans a2.2.1
  have l396 : m2 396 3 = 0 := (lo _ _ (by decide)).trans a2.2.2
  refine ⟨⟨⟨t2.trans l01.symm, by rw [l01]; decide, fun i i0 i1 => ?_⟩, ?_, ?_, ⟨?_, ?_⟩, hplan, hst, ⟨?_, ?_, ?_, ?_, fun i i0 i1 => ?_⟩, ⟨?_, ?_, fun i i0 i1 => ?_⟩, ?_, ?_⟩, Or.inl ?_⟩
  · rw [l01] at i1
    omega
  · exact h2.fr (fun b j q => by
      unfold A2 at q
      refine (fb b j (fun c => ?_)).trans (fa b j (by unfold FCo FGc; omega))
      rcases c with c | c
      · unfold FVs FV at c
        omega
      · unfold FKg FBg FLy at c
        omega)
  · exact h3.fr (fun b j q => far b j (by unfold A3 at q; unfold FCo FGc; omega) (by unfold A3 at q; unfold FVl; omega) (by unfold A3 at q; unfold FKg FBg FLy; omega))
  · rw [b1.1, lo 18 1 (by decide)]; exact a3.1.symm
  · rw [b2, lo 18 2 (by decide)]; exact a3.2.symm
  · rw [far 475 51 (by unfold FCo FGc; omega) (by unfold FVl; omega) (by unfold FKg FBg FLy; omega), far 52 1 (by unfold FCo FGc; omega) (by unfold FVl; omega) (by unfold FKg FBg FLy; omega)]
    exact h9.1
  · rw [l52]; exact g5
  · rw [far 52 1 (by unfold FCo FGc; omega) (by unfold FVl; omega) (by unfold FKg FBg FLy; omega)]
    exact h9.2.2.1
  · rw [l52]; decide
  · rw [l52] at i1
    omega
  · rw [l396]; exact g6
  · rw [l396]; decide
  · rw [l396] at i1
    omega
  · exact h11.fr (fun b j q => far b j (by unfold A9 at q; unfold FCo FGc; omega) (by unfold A9 at q; unfold FVl; omega) (by unfold A9 at q; unfold FKg FBg FLy; omega))
  · rw [far 475 62 (by unfold FCo FGc; omega) (by unfold FVl; omega) (by unfold FKg FBg FLy; omega)]
    exact h12
  · exact hno.fr (fun b j q => lo b j (by unfold FGc at q; omega))
