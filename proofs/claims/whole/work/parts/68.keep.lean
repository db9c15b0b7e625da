/-! ACTS: kept, forgotten -/
theorem c_keepA {m : Mem} (h1 : 0 ≤ m 52 1 ∧ m 52 1 < 20) (h2 : 0 ≤ m 52 2 ∧ m 52 2 ≤ 20) : Rn (pA_keep m 38) (fun m' => vS m' (54 + 7 * ((m 52 1 + m 52 2) % 20)) = vS m 38 ∧ m' 52 1 = (if m 52 2 = 20 then (m 52 1 + 1) % 20 else m 52 1) ∧ m' 52 2 = (if m 52 2 = 20 then 20 else m 52 2 + 1) ∧ Fr (fun b j => (b = 52 ∧ (j = 1 ∨ j = 2)) ∨ FS (54 + 7 * ((m 52 1 + m 52 2) % 20)) b j) m m') := by
  unfold pA_keep
  rw [w32_eq (x := m 52 1 + m 52 2) (by omega) (by omega), r32_eq (by omega) (by omega) (by omega) (by omega)]
  generalize hs : (m 52 1 + m 52 2) % 20 = s
  refine rn_t (by omega) ?_
  refine rn_b (c_copyS (d := 54 + 7 * s) (s := 38) (by omega)) (fun m1 hm => ?_)
  obtain ⟨hv, f⟩ := hm
  have e1 : m1 52 1 = m 52 1 := f _ _ (by unfold FS; omega)
  have e2 : m1 52 2 = m 52 2 := f _ _ (by unfold FS; omega)
  have fz := f.mono (T := fun b j => (b = 52 ∧ (j = 1 ∨ j = 2)) ∨ FS (54 + 7 * s) b j) (fun b j q => Or.inr q)
  refine rn_i (fun q => ?_) (fun q => ?_)
  · rw [e2, w32_eq (x := m 52 2 + 1) (by omega) (by omega)]
    refine rn_v (rn_s ⟨?_, ?_, ?_, fz.set (by omega)⟩)
    · rw [← hv]
      exact vS_fr (fun b j q1 q2 _ => mset_o (by omega))
    · rw [if_neg (by omega), mset_o (by omega)]; exact e1
    · rw [if_neg (by omega), mset_s rfl rfl]
  · rw [e1, w32_eq (x := m 52 1 + 1) (by omega) (by omega), r32_eq (by omega) (by omega) (by omega) (by omega)]
    refine rn_v (rn_s ⟨?_, ?_, ?_, fz.set (by omega)⟩)
    · rw [← hv]
      exact vS_fr (fun b j q1 q2 _ => mset_o (by omega))
    · rw [if_pos (by omega), mset_s rfl rfl]
    · rw [if_pos (by omega), mset_o (by omega), e2]; omega
def FG (m : Mem) : Mem := mset (mset (mset (mset (mset (mset m 201 13 0) 201 14 0) 250 5 (-1)) 296 6 0) 396 11 0) 396 12 0
def NoC (m : Mem) : Prop := (m 201 13 = 0 ∧ m 201 14 = 0) ∧ m 250 5 = -1 ∧ m 296 6 = 0 ∧ m 396 11 = 0 ∧ m 396 12 = 0
def FGc : Int → Int → Prop := fun b j => (b = 201 ∧ (j = 13 ∨ j = 14)) ∨ (b = 250 ∧ j = 5) ∨ (b = 296 ∧ j = 6) ∨ (b = 396 ∧ (j = 11 ∨ j = 12))
theorem e_forget (m : Mem) : pD_forgetAnswers m = some (FG m) := rfl
theorem FG_fr (m : Mem) : Fr FGc m (FG m) := by
  unfold FG
  exact (((((Fr.rfl'.set (by unfold FGc; omega)).set (by unfold FGc; omega)).set (by unfold FGc; omega)).set (by unfold FGc; omega)).set (by unfold FGc; omega)).set (by unfold FGc; omega)
theorem FG_no (m : Mem) : NoC (FG m) := by
  unfold NoC FG
  refine ⟨⟨?_, ?_⟩, ?_, ?_, ?_, ?_⟩
  · rw [mset_o (by omega), mset_o (by omega), mset_o (by omega), mset_o (by omega), mset_o (by omega), mset_s rfl rfl]
  · rw [mset_o (by omega), mset_o (by omega), mset_o (by omega), mset_o (by omega), mset_s rfl rfl]
  · rw [mset_o (by omega), mset_o (by omega), mset_o (by omega), mset_s rfl rfl]
  · rw [mset_o (by omega), mset_o (by omega), mset_s rfl rfl]
  · rw [mset_o (by omega), mset_s rfl rfl]
  · rw [mset_s rfl rfl]
theorem NoC.fr {m m' : Mem} (h : NoC m) (f : ∀ b j, FGc b j → m' b j = m b j) : NoC m' := by
  unfold FGc at f
  unfold NoC
  simp (disch := omega) only [f]
  exact h
theorem c_act {m : Mem} (h1 : 0 ≤ m 52 1 ∧ m 52 1 < 20) (h2 : 0 ≤ m 52 2 ∧ m 52 2 ≤ 20) : Rn (pD_beginAct m) (fun m' => vS m' (54 + 7 * ((m 52 1 + m 52 2) % 20)) = vS m 38 ∧ m' 52 1 = (if m 52 2 = 20 then (m 52 1 + 1) % 20 else m 52 1) ∧ m' 52 2 = (if m 52 2 = 20 then 20 else m 52 2 + 1) ∧ NoC m' ∧ Fr (fun b j => (b = 52 ∧ (j = 1 ∨ j = 2)) ∨ FS (54 + 7 * ((m 52 1 + m 52 2) % 20)) b j ∨ FGc b j) m m') := by
  unfold pD_beginAct
  refine rn_b (c_keepA h1 h2) (fun m1 hm => ?_)
  obtain ⟨hv, e1, e2, f⟩ := hm
  refine rn_e (e_forget m1) (rn_s ?_)
  have g := FG_fr m1
  refine ⟨?_, ?_, ?_, FG_no m1, (f.mono (fun b j q => by rcases q with q | q; exact Or.inl q; exact Or.inr (Or.inl q))).trans (g.mono (fun b j q => Or.inr (Or.inr q)))⟩
  · rw [← hv]
    generalize hs : (m 52 1 + m 52 2) % 20 = s
    exact vS_fr (fun b j q1 q2 _ => g b j (by unfold FGc; omega))
  · rw [g _ _ (by unfold FGc; omega)]; exact e1
  · rw [g _ _ (by unfold FGc; omega)]; exact e2
theorem r_keeps {N : Nat} {pl m S : Mem} {F n : Int} (hN : 2000 ≤ N) (hg : PG pl) (hF : m 475 51 = F) (hn : m 475 52 = n) (h1 : 0 ≤ F ∧ F < 20) (h2 : 0 ≤ n ∧ n ≤ 20) (hS : SR pl m 0 S) (h7 : 0 ≤ S 0 7 ∧ S 0 7 ≤ 40) : Rn (pM_keeps N m) (fun m' => SR pl m' (2 + (F + n) % 20) S ∧ m' 475 51 = (if n = 20 then (F + 1) % 20 else F) ∧ m' 475 52 = (if n = 20 then 20 else n + 1) ∧ Fr (fun b j => (b = 475 ∧ (j = 51 ∨ j = 52)) ∨ FLy (2 + (F + n) % 20) b j) m m') := by
  have key : Rn (if m 475 52 = 20 then (some (mset m 475 51 (r32 (w32 ((m 475 51) + 1)) 20))).bind fun m19 => (some (mset m19 475 52 (w32 ((m19 475 52) - 1)))).bind fun m29 => some (m29) else some (m)) (fun m1 => m1 475 51 = (if n = 20 then (F + 1) % 20 else F) ∧ m1 475 52 = (if n = 20 then 19 else n) ∧ Fr (fun b j => b = 475 ∧ (j = 51 ∨ j = 52)) m m1) := by
    rw [hn, hF]
    refine rn_i (fun q => ?_) (fun q => ?_)
    · rw [w32_eq (x := F + 1) (by omega) (by omega), r32_eq (by omega) (by omega) (by omega) (by omega)]
      refine rn_v (rn_v (rn_s ⟨?_, ?_, (Fr.rfl'.set (by omega)).set (by omega)⟩))
      · rw [if_pos q, mset_o (by omega), mset_s rfl rfl]
      · rw [if_pos q, mset_s rfl rfl, mset_o (by omega), hn, w32_eq (by omega) (by omega)]; omega
    · exact rn_s ⟨by rw [if_neg q]; exact hF, by rw [if_neg q]; exact hn, Fr.rfl'⟩
  unfold pM_keeps
  refine rn_b key (fun m1 hm => ?_)
  obtain ⟨e1, e2, f⟩ := hm
  have hS1 : SR pl m1 0 S := hS.eq hg h7.2 (fun b j q => f b j (by unfold FLy at q; omega))
  have es : pM_slot m1 (m1 475 52) = some (2 + (F + n) % 20) := by
    unfold pM_slot
    rw [e1, e2]
    by_cases q : n = 20
    · rw [if_pos q, if_pos q, w32_eq (x := (F + 1) % 20 + 19) (by omega) (by omega), r32_eq (by omega) (by omega) (by omega) (by omega), w32_eq (by omega) (by omega)]
      congr 1; omega
    · rw [if_neg q, if_neg q, w32_eq (x := F + n) (by omega) (by omega), r32_eq (by omega) (by omega) (by omega) (by omega), w32_eq (by omega) (by omega)]
  refine rn_e es ?_
  generalize hs : (F + n) % 20 = s
  refine rn_b (r_copies (S := S) hN hg (d := 2 + s) (s := 0) (by omega) (by omega) (by omega) hS1 h7) (fun m2 h2' => ?_)
  obtain ⟨hS2, f2⟩ := h2'
  have k1 : m2 475 51 = m1 475 51 := f2 _ _ (by unfold FLy; omega)
  have k2 : m2 475 52 = m1 475 52 := f2 _ _ (by unfold FLy; omega)
  refine rn_v (rn_s ⟨?_, ?_, ?_, ?_⟩)
  · exact hS2.eq hg h7.2 (fun b j q => mset_o (by unfold FLy at q; omega))
  · rw [mset_o (by omega), k1]; exact e1
  · rw [mset_s rfl rfl, k2, e2]
    by_cases q : n = 20
    · rw [if_pos q, if_pos q]; rfl
    · rw [if_neg q, if_neg q, w32_eq (by omega) (by omega)]
  · exact ((f.mono (fun b j q => Or.inl q)).trans (f2.mono (fun b j q => Or.inr q))).set (Or.inl (by omega))
theorem IActs.push {pl m m2 S : Mem} (h : IActs pl m) (hb : SB pl S) (e1 : m2 52 1 = (if m 52 2 = 20 then (m 52 1 + 1) % 20 else m 52 1)) (e2 : m2 52 2 = (if m 52 2 = 20 then 20 else m 52 2 + 1)) (e3 : m2 475 51 = m2 52 1) (e4 : m2 475 52 = m2 52 2) (eS : vS m2 (54 + 7 * ((m 52 1 + m 52 2) % 20)) = S) (eR : SR pl m2 (2 + (m 52 1 + m 52 2) % 20) S) (hg : PG pl) (fD : ∀ b j, 54 ≤ b → b ≤ 193 → ¬ FS (54 + 7 * ((m 52 1 + m 52 2) % 20)) b j → m2 b j = m b j) (fM : ∀ v b j, 2 ≤ v → v < 22 → v ≠ 2 + (m 52 1 + m 52 2) % 20 → FLy v b j → m2 b j = m b j) : IActs pl m2 := by
  obtain ⟨h1, h2, h3, h4, h5⟩ := h
  have r1 : 0 ≤ m2 52 1 ∧ m2 52 1 < 20 := by
    rw [e1]
    by_cases q : m 52 2 = 20
    · rw [if_pos q]; omega
    · rw [if_neg q]; exact h3
  have r2 : 0 ≤ m2 52 2 ∧ m2 52 2 ≤ 20 := by
    rw [e2]
    by_cases q : m 52 2 = 20
    · rw [if_pos q]; omega
    · rw [if_neg q]; omega
  refine ⟨e3, e4, r1, r2, fun k h0 hk => ?_⟩
  by_cases q : (m2 52 1 + k) % 20 = (m 52 1 + m 52 2) % 20
  · rw [q, eS]; exact ⟨hb, eR⟩
  · obtain ⟨k', hk0, hk1, hkk⟩ : ∃ k', 0 ≤ k' ∧ k' < m 52 2 ∧ (m2 52 1 + k) % 20 = (m 52 1 + k') % 20 := by
      by_cases z : m 52 2 = 20
      · rw [if_pos z] at e1 e2
        exact ⟨k + 1, by omega, by omega, by omega⟩
      · rw [if_neg z] at e1 e2
        exact ⟨k, by omega, by omega, by omega⟩
    rw [hkk] at q ⊢
    have h6 := h5 k' hk0 hk1
    generalize (m 52 1 + k') % 20 = t at *
    have ht : 0 ≤ t ∧ t < 20 := by omega
    have e : vS m2 (54 + 7 * t) = vS m (54 + 7 * t) := vS_fr (fun b j q1 q2 _ => fD b j (by omega) (by omega) (by unfold FS; omega))
    rw [e]
    exact ⟨h6.1, h6.2.eq hg h6.1.2.2.2.2 (fun b j z => fM (2 + t) b j (by omega) (by omega) (by omega) z)⟩
def CA (b j : Int) : Prop := A1 b j ∨ A2 b j ∨ A4 b j ∨ A5 b j ∨ A8 b j ∨ A9 b j ∨ A10 b j
theorem Core.act {m m' : Mem} (h : Core m) (f : ∀ b j, CA b j → m' b j = m b j) (n3 : ISeed m') (n6 : ISt (vP m) m') (n7 : IActs (vP m) m') : Core m' := by
  obtain ⟨h1, h2, h3, h4, ⟨h5, h6, h7⟩, h8, h9, h10, h11, h12⟩ := h
  have hp : vP m' = vP m := vP_fr (fun b j q => f b j (Or.inr (Or.inr (Or.inr (Or.inl q)))))
  unfold Core
  rw [hp]
  exact ⟨h1.fr (fun b j q => f b j (Or.inl q)), h2.fr (fun b j q => f b j (Or.inr (Or.inl q))), n3, h4.fr (fun b j q => f b j (Or.inr (Or.inr (Or.inl q)))), ⟨h5, h6, h7⟩, n6, n7, h10.fr (fun b j q => f b j (Or.inr (Or.inr (Or.inr (Or.inr (Or.inl q)))))), h11.fr (fun b j q => f b j (Or.inr (Or.inr (Or.inr (Or.inr (Or.inr (Or.inl q))))))), (f _ _ (Or.inr (Or.inr (Or.inr (Or.inr (Or.inr (Or.inr ⟨rfl, rfl⟩))))))).trans h12⟩
