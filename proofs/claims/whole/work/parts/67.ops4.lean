/-! SMALL CALLS: refusals, feed, end, seed -/
def FSm : Int → Int → Prop := fun b j => (b = 0 ∧ (j = 1 ∨ j = 14)) ∨ b = 1 ∨ b = 474 ∨ b = 476 ∨ b = 497 ∨ (b = 475 ∧ (j = 1 ∨ j = 53))
def OkS (m m2 : Mem) : Prop := Core m2 ∧ Fr FSm m m2
theorem Core.sm {m m' : Mem} (h : Core m) (f : Fr FSm m m') (n1 : ITape m') (n2 : IRef m') (n3 : ISeed m') : Core m' := by
  obtain ⟨h1, h2, h3, h4, ⟨h5, h6, h7⟩, h8, h9, h10, h11, h12⟩ := h
  have hp : vP m' = vP m := vP_fr (fun b j q => f b j (by unfold plc prc at q; unfold FSm; omega))
  unfold Core
  rw [hp]
  refine ⟨n1, n2, n3, h4.fr (fun b j q => f b j (by unfold A4 at q; unfold FSm; omega)), ⟨h5, h6, h7⟩, h8.fr h5 (fun b j q => f b j (by unfold A6 FLy at q; unfold FSm; omega)), h9.fr h5 (fun b j q => f b j ?_), h10.fr (fun b j q => f b j (by unfold A8 at q; unfold FSm; omega)), h11.fr (fun b j q => f b j (by unfold A9 at q; unfold FSm; omega)), (f _ _ (by unfold FSm; omega)).trans h12⟩
  unfold A7 at q
  unfold FSm
  rcases q with q | q | q | ⟨v, _, _, q⟩
  · omega
  · omega
  · omega
  · unfold FLy at q; omega
theorem OkS.rf {m : Mem} (h : Core m) : OkS m m := ⟨h, Fr.rfl'⟩
def R1 (m : Mem) (k : Int) : Mem := mset m 474 k (w32 (m 474 k + 1))
def R2 (m : Mem) (k : Int) : Mem := mset (R1 m k) 497 k (w32 (m 497 k + 1))
theorem R1_e {m : Mem} {k : Int} (h : 0 ≤ k ∧ k < 6) : pD_refuse m k = some (-1, R1 m k) := e_refD h
theorem R2_e {m : Mem} {k : Int} (h : 0 ≤ k ∧ k < 6) : pM_refuses (R1 m k) k = some (-1, R2 m k) := by
  rw [e_refM h]
  unfold R2
  rw [show R1 m k 497 k = m 497 k from mset_o (by omega)]
theorem R2_fr (m : Mem) (k : Int) : Fr (fun b j => (b = 474 ∨ b = 497) ∧ j = k) m (R2 m k) := (Fr.rfl'.set (by omega)).set (by omega)
theorem R2_ok {m : Mem} (h : Core m) {k : Int} (hk : 0 ≤ k ∧ k < 6) : OkS m (R2 m k) := by
  have f := R2_fr m k
  have f' : Fr FSm m (R2 m k) := f.mono (fun b j q => by unfold FSm; omega)
  refine ⟨h.sm f' (h.1.fr (fun b j q => f b j (by unfold A1 at q; omega))) ?_ (h.2.2.1.fr (fun b j q => f b j (by unfold A3 at q; omega))), f'⟩
  refine h.2.1.two hk (fun j => ?_) (fun j => ?_)
  · unfold R2 R1
    by_cases q : j = k
    · rw [mset_o (by omega), mset_s rfl q, if_pos q]
    · rw [mset_o (by omega), mset_o (by omega), if_neg q]
  · unfold R2 R1
    by_cases q : j = k
    · rw [mset_s rfl q, if_pos q]
    · rw [mset_o (by omega), mset_o (by omega), if_neg q]
theorem o_seed {m : Mem} (h : Core m) {x : Int} (hx : x < 2147483648) : ∃ r m1 m2, pD_seed m x = some (r, m1) ∧ pM_seed m1 x = some (r, m2) ∧ OkS m m2 := by
  by_cases q : x < 0
  · refine ⟨0, R1 m 5, R2 m 5, ?_, ?_, R2_ok h (by omega)⟩
    · unfold pD_seed
      rw [if_pos q, R1_e (by omega)]
      rfl
    · unfold pM_seed
      rw [if_pos q, R2_e (by omega)]
      rfl
  · refine ⟨1, mset m 0 14 x, mset (mset m 0 14 x) 475 53 x, ?_, ?_, ?_⟩
    · unfold pD_seed
      rw [if_neg q]
      rfl
    · unfold pM_seed
      rw [if_neg q]
      rfl
    · have f : Fr (fun b j => (b = 0 ∧ j = 14) ∨ (b = 475 ∧ j = 53)) m (mset (mset m 0 14 x) 475 53 x) := (Fr.rfl'.set (by omega)).set (by omega)
      have f' := f.mono (T := FSm) (fun b j q => by unfold FSm; omega)
      refine ⟨h.sm f' (h.1.fr (fun b j q => f b j (by unfold A1 at q; omega))) (h.2.1.fr (fun b j q => f b j (by unfold A2 at q; omega))) ?_, f'⟩
      unfold ISeed
      rw [mset_s rfl rfl, mset_o (by omega), mset_s rfl rfl]
      omega
theorem o_end {m : Mem} (h : Core m) (x : Int) : ∃ r m1 m2, pD_end m x = some (r, m1) ∧ pM_end m1 x = some (r, m2) ∧ OkS m m2 := by
  obtain ⟨t1, t2, t3⟩ := id h.1
  by_cases q : 0 ≤ x ∧ x ≤ m 0 1
  · refine ⟨1, mset m 0 1 x, mset (mset m 0 1 x) 475 1 x, ?_, ?_, ?_⟩
    · unfold pD_end jn
      dsimp only
      rw [if_neg (show ¬ x < 0 by omega), if_neg (by omega)]
      rfl
    · unfold pM_end jn
      dsimp only
      rw [if_neg (show ¬ x < 0 by omega), if_neg (by rw [mset_o (by omega)]; omega)]
      rfl
    · have f : Fr (fun b j => (b = 0 ∧ j = 1) ∨ (b = 475 ∧ j = 1)) m (mset (mset m 0 1 x) 475 1 x) := (Fr.rfl'.set (by omega)).set (by omega)
      have f' := f.mono (T := FSm) (fun b j q => by unfold FSm; omega)
      refine ⟨h.sm f' ?_ (h.2.1.fr (fun b j q => f b j (by unfold A2 at q; omega))) (h.2.2.1.fr (fun b j q => f b j (by unfold A3 at q; omega))), f'⟩
      unfold ITape
      rw [mset_s rfl rfl, mset_o (by omega), mset_s rfl rfl]
      refine ⟨rfl, by omega, fun i i0 i1 => ?_⟩
      simp (disch := omega) only [mset_o]
      exact t3 i i0 (by omega)
  · refine ⟨0, R1 m 0, R2 m 0, ?_, ?_, R2_ok h (by omega)⟩
    · unfold pD_end jn
      dsimp only
      by_cases q1 : x < 0
      · rw [if_pos q1, R1_e (by omega)]
        rfl
      · rw [if_neg q1, if_pos (by omega), R1_e (by omega)]
        rfl
    · have e : R1 m 0 475 1 = m 475 1 := mset_o (by omega)
      unfold pM_end jn
      dsimp only
      by_cases q1 : x < 0
      · rw [if_pos q1, R2_e (by omega)]
        rfl
      · rw [if_neg q1, if_pos (by rw [e]; omega), R2_e (by omega)]
        rfl
theorem o_feed {N : Nat} {m : Mem} (hN : 2000 ≤ N) (h : Core m) (a b c d e : Int) : ∃ r m1 m2, pD_feed N m a b c d e = some (r, m1) ∧ pM_feed N m1 a b c d e = some (r, m2) ∧ OkS m m2 := by
  obtain ⟨t1, t2, t3⟩ := id h.1
  by_cases q : m 0 1 + 20 ≤ 1600
  · have e1 : FT 0 1 5 (five a b c d e) m 475 1 = m 475 1 := by unfold FT; rw [if_neg (by omega), if_neg (by omega)]
    refine ⟨m 0 1 + 20, FT 0 1 5 (five a b c d e) m, FT 475 476 5 (five a b c d e) (FT 0 1 5 (five a b c d e) m), c_feed hN t2.1 q, ?_, ?_⟩
    · rw [r_feed hN (by rw [e1]; omega) (by rw [e1]; omega), e1, t1]
    · have f : Fr (fun b j => (b = 0 ∧ j = 1) ∨ b = 1 ∨ b = 476 ∨ (b = 475 ∧ j = 1)) m (FT 475 476 5 (five a b c d e) (FT 0 1 5 (five a b c d e) m)) := fun b j q => by
        unfold FT
        rw [if_neg (by omega), if_neg (by omega), if_neg (by omega), if_neg (by omega)]
      have f' := f.mono (T := FSm) (fun b j q => by unfold FSm; omega)
      refine ⟨h.sm f' ?_ (h.2.1.fr (fun b j q => f b j (by unfold A2 at q; omega))) (h.2.2.1.fr (fun b j q => f b j (by unfold A3 at q; omega))), f'⟩
      generalize hg : five a b c d e = g at e1 ⊢
      generalize hm1 : FT 0 1 5 g m = m1 at e1 ⊢
      have g1 : m1 0 1 = m 0 1 + 20 := by rw [← hm1]; exact (if_pos ⟨rfl, rfl⟩ : _ = m 0 1 + 4 * 5).trans (by omega)
      have k1 : FT 475 476 5 g m1 475 1 = m 0 1 + 20 := (if_pos ⟨rfl, rfl⟩ : _ = m1 475 1 + 4 * 5).trans (by omega)
      have k2 : FT 475 476 5 g m1 0 1 = m 0 1 + 20 := by unfold FT; rw [if_neg (by omega), if_neg (by omega)]; exact g1
      unfold ITape
      rw [k1, k2]
      refine ⟨rfl, by omega, fun i i0 i1 => ?_⟩
      have k3 : FT 475 476 5 g m1 1 i = m1 1 i := by unfold FT; rw [if_neg (by omega), if_neg (by omega)]
      rw [k3]
      have k4 : m1 476 i = m 476 i := by rw [← hm1]; unfold FT; rw [if_neg (by omega), if_neg (by omega)]
      by_cases z : i < m 0 1
      · have k5 : FT 475 476 5 g m1 476 i = m1 476 i := by unfold FT; rw [if_neg (by omega), if_neg (by omega)]
        have k6 : m1 1 i = m 1 i := by rw [← hm1]; unfold FT; rw [if_neg (by omega), if_neg (by omega)]
        rw [k5, k4, k6]
        exact t3 i i0 z
      · have k5 : FT 475 476 5 g m1 476 i = a32 (shr32 (g ((i - m 0 1) / 4)) (24 - 8 * ((i - m 0 1) % 4))) 255 := by
          unfold FT
          rw [if_neg (by omega), if_pos (by omega), e1, t1]
        have k6 : m1 1 i = a32 (shr32 (g ((i - m 0 1) / 4)) (24 - 8 * ((i - m 0 1) % 4))) 255 := by
          rw [← hm1]
          unfold FT
          rw [if_neg (by omega), if_pos (by omega)]
        rw [k5, k6]
        exact ⟨rfl, a32_255 _⟩
  · refine ⟨-1, R1 m 0, R2 m 0, ?_, ?_, R2_ok h (by omega)⟩
    · unfold pD_feed
      rw [w32_eq (x := m 0 1 + 20) (by omega) (by omega), if_pos (by omega), R1_e (by omega)]
      rfl
    · have e : R1 m 0 475 1 = m 475 1 := mset_o (by omega)
      unfold pM_feed
      rw [e, w32_eq (x := m 475 1 + 20) (by omega) (by omega), if_pos (by omega), R2_e (by omega)]
      rfl
