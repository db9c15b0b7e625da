/-! VALLEY: the statements' small steps, the reference -/
def FRb : Int → Int → Prop := fun b j => b = 475 ∧ (j = 8 ∨ j = 9)
def BADr (kd pl : Int) (m m' : Mem) : Prop := m' 475 8 = kd ∧ m' 475 9 = pl ∧ Fr FRb m m'
def LVr (RT : Int → Mem → Prop) (k : Int) (m : Mem) : Prop := RT k m ∧ m 475 8 = 0
theorem BADr.mk' {m : Mem} {kd pl : Int} : BADr kd pl m (mset (mset m 475 8 kd) 475 9 pl) := by
  refine ⟨?_, mset_s rfl rfl, (Fr.rfl'.set (by unfold FRb; omega)).set (by unfold FRb; omega)⟩
  rw [mset_o (by omega), mset_s rfl rfl]
theorem rd_lex {m : Mem} (h : 0 < m 475 8) : pM_lex m = some m := by
  unfold pM_lex
  by_cases q : m 475 12 = -1
  · rw [if_pos q]
  · rw [if_neg q, e_blame0 h]
    rfl
theorem rd_must {N : Nat} {m : Mem} {w : Int} (h : 0 < m 475 8) : pM_must_ N m w = some m := by
  unfold pM_must_
  rw [rd_lex h]
  show (if 0 < m 475 8 then _ else _) = _
  rw [if_pos h]
theorem rd_sign {N : Nat} {m : Mem} {w : Int} (h : 0 < m 475 8) : pM_must N m w = some m := by
  refine rn_eq ?_
  unfold pM_must
  refine rn_e (rd_lex h) ?_
  have e : ∃ y, pM_isSign m w = some y := by
    unfold pM_isSign
    by_cases q : m 475 3 = 3
    · rw [if_pos q]
      by_cases q2 : m 475 6 = w
      · exact ⟨_, if_pos q2⟩
      · exact ⟨_, if_neg q2⟩
    · exact ⟨_, if_neg q⟩
  obtain ⟨y, ey⟩ := e
  refine rn_e ey (rn_b (P := fun z => z = m) ?_ (fun z hz => ?_))
  · refine rn_i (fun _ => ?_) (fun _ => rn_s rfl)
    rw [e_blame0 h]
    exact rn_s rfl
  · rw [hz]
    exact rn_f (by omega) (rn_s rfl)
theorem rd_num {N : Nat} {m : Mem} {a b : Int} (h : 0 < m 475 8) : pM_number N m a b = some (0, m) := by
  unfold pM_number
  rw [rd_lex h]
  show (if 0 < m 475 8 then _ else _) = _
  rw [if_pos h]
theorem rd_cell {N : Nat} {m : Mem} (h : 0 < m 475 8) (h29 : m 475 29 = 0 ∨ m 475 29 = 1) : pM_cellTold N m = some (0, m) := by
  unfold pM_cellTold
  rw [if_pos (by omega), rd_num h]
  show (if 0 ≤ m 475 29 ∧ m 475 29 < 2 then _ else _) = _
  rw [if_pos (by omega), rd_num h]
  rfl
theorem rk_word {N : Nat} {t m : Mem} {RT : Int → Mem → Prop} {k w : Int} (i : Nat) (hL : LX N t RT) (hn : ∀ k, 0 ≤ k → k < t 18 6 → t 35 k ≠ 26 → t 35 k ≠ 27 → k + 1 < t 18 6) (hk : 0 ≤ k ∧ k < t 18 6) (hi : i < 24) (hw : w = ownW i) (h : LVr RT k m) : Rn (pM_must_ N m w) (fun m' => (t 35 k = i ∧ LVr RT (k + 1) m' ∧ Fr FRa m m') ∨ (t 35 k ≠ i ∧ BADr 1 (plcT t k) m m')) := by
  subst hw
  have hr := hL.1 _ _ h.1
  unfold pM_must_
  rcases r_lexM hr h.2 with ⟨e1, l⟩ | ⟨e1, e2⟩
  · refine rn_e e1 (rn_f (by have := h.2; omega) (rn_e (e_word i hr l hi) ?_))
    by_cases q : t 35 k = i
    · rw [if_pos q]
      refine rn_v (rn_t h.2 (rn_q (P := fun m' => RT (k + 1) m' ∧ Fr FRa m m') ?_ (fun m' hm => Or.inl ⟨q, ⟨hm.1, ?_⟩, hm.2⟩)))
      · exact rn_b (hL.2.2 k m h.1 hk.1 (hn k hk.1 hk.2 (by omega) (by omega))) (fun m' hm => rn_s hm)
      · rw [hm.2 _ _ (by unfold FRa; omega)]; exact h.2
    · rw [if_neg q]
      refine rn_b (P := fun z => z = mset (mset m 475 8 1) 475 9 (plcT t k)) ?_ (fun z hz => ?_)
      · refine rn_t rfl ?_
        rw [e_blame h.2, plc_live hr l]
        exact rn_s rfl
      · rw [hz]
        refine rn_f ?_ (rn_s (Or.inr ⟨q, BADr.mk'⟩))
        rw [mset_o (by omega), mset_s rfl rfl]
        decide
  · refine rn_e e2 (rn_t ?_ (rn_s (Or.inr ⟨by omega, BADr.mk'⟩)))
    rw [mset_o (by omega), mset_s rfl rfl]
    decide
theorem rk_sign {N : Nat} {t m : Mem} {RT : Int → Mem → Prop} {k x : Int} (hL : LX N t RT) (hn : ∀ k, 0 ≤ k → k < t 18 6 → t 35 k ≠ 26 → t 35 k ≠ 27 → k + 1 < t 18 6) (hk : 0 ≤ k ∧ k < t 18 6) (hx : isSg x) (h : LVr RT k m) : Rn (pM_must N m x) (fun m' => (t 35 k = x ∧ LVr RT (k + 1) m' ∧ Fr FRa m m') ∨ (t 35 k ≠ x ∧ BADr 1 (plcT t k) m m')) := by
  have hr := hL.1 _ _ h.1
  have hxn : x ≠ 26 ∧ x ≠ 27 := by unfold isSg at hx; omega
  unfold pM_must
  rcases r_lexM hr h.2 with ⟨e1, l⟩ | ⟨e1, e2⟩
  · refine rn_e e1 (rn_e (e_sign hr l hx) ?_)
    by_cases q : t 35 k = x
    · rw [if_pos q]
      refine rn_v (rn_t h.2 (rn_q (P := fun m' => RT (k + 1) m' ∧ Fr FRa m m') ?_ (fun m' hm => Or.inl ⟨q, ⟨hm.1, ?_⟩, hm.2⟩)))
      · exact rn_b (hL.2.2 k m h.1 hk.1 (hn k hk.1 hk.2 (by omega) (by omega))) (fun m' hm => rn_s hm)
      · rw [hm.2 _ _ (by unfold FRa; omega)]; exact h.2
    · rw [if_neg q]
      refine rn_b (P := fun z => z = mset (mset m 475 8 1) 475 9 (plcT t k)) ?_ (fun z hz => ?_)
      · refine rn_t rfl ?_
        rw [e_blame h.2, plc_live hr l]
        exact rn_s rfl
      · rw [hz]
        refine rn_f ?_ (rn_s (Or.inr ⟨q, BADr.mk'⟩))
        rw [mset_o (by omega), mset_s rfl rfl]
        decide
  · have h8 : 0 < mset (mset m 475 8 1) 475 9 (plcT t k) 475 8 := by rw [mset_o (by omega), mset_s rfl rfl]; decide
    have hd := rd_sign (N := N) (w := x) h8
    unfold pM_must at hd
    rw [rd_lex h8] at hd
    rw [e2]
    exact rn_is hd (Or.inr ⟨by omega, BADr.mk'⟩)
theorem rk_num {N : Nat} {t m : Mem} {RT : Int → Mem → Prop} {k a b : Int} (hL : LX N t RT) (hn : ∀ k, 0 ≤ k → k < t 18 6 → t 35 k ≠ 26 → t 35 k ≠ 27 → k + 1 < t 18 6) (hk : 0 ≤ k ∧ k < t 18 6) (h : LVr RT k m) : Rn (pM_number N m a b) (fun r => (t 35 k = 25 ∧ (a ≤ t 37 k ∧ t 37 k ≤ b) ∧ r.1 = t 37 k ∧ LVr RT (k + 1) r.2 ∧ Fr FRa m r.2) ∨ (t 35 k = 25 ∧ ¬ (a ≤ t 37 k ∧ t 37 k ≤ b) ∧ BADr 4 (t 36 k) m r.2) ∨ (t 35 k ≠ 25 ∧ BADr 1 (plcT t k) m r.2)) := by
  have hr := hL.1 _ _ h.1
  have h8 := h.2
  unfold pM_number
  rcases r_lexM hr h8 with ⟨e1, l⟩ | ⟨e1, e2⟩
  · refine rn_e e1 (rn_f (by omega) ?_)
    have h4 := plc_live hr l
    have h36 := hr.1
    by_cases q : t 35 k = 25
    · have q3 : m 475 3 = 2 ∧ m 475 6 = t 37 k := by
        obtain ⟨-, z | ⟨-, -, z | z | z | z⟩⟩ := hr
        · omega
        · omega
        · exact z.2
        · omega
        · have := z.1; unfold isSg at this; omega
      refine rn_b (P := fun z => z = m) (rn_t q3.1 (rn_s rfl)) (fun z hz => ?_)
      rw [hz]
      refine rn_b (P := fun z => ((a ≤ t 37 k ∧ t 37 k ≤ b) ∧ z = m) ∨ (¬ (a ≤ t 37 k ∧ t 37 k ≤ b) ∧ z = mset (mset m 475 8 4) 475 9 (t 36 k))) ?_ (fun z hz => ?_)
      · refine rn_t h8 ?_
        rw [q3.2]
        unfold pM_is
        by_cases c1 : t 37 k < a
        · rw [if_pos c1]
          refine rn_v (rn_t rfl ?_)
          rw [e_blame h8, h36]
          exact rn_s (Or.inr ⟨by omega, rfl⟩)
        · rw [if_neg c1]
          by_cases c2 : b < t 37 k
          · rw [if_pos c2]
            refine rn_v (rn_t rfl ?_)
            rw [e_blame h8, h36]
            exact rn_s (Or.inr ⟨by omega, rfl⟩)
          · rw [if_neg c2]
            exact rn_v (rn_f (by decide) (rn_s (Or.inl ⟨by omega, rfl⟩)))
      · rcases hz with ⟨z1, rfl⟩ | ⟨z1, rfl⟩
        · refine rn_v (rn_t h8 (rn_b (hL.2.2 k z h.1 hk.1 (hn k hk.1 hk.2 (by omega) (by omega))) (fun m' hm => rn_s (Or.inl ⟨q, z1, q3.2, ⟨hm.1, ?_⟩, hm.2⟩))))
          exact (hm.2 475 8 (by unfold FRa; omega)).trans h8
        · refine rn_v (rn_f ?_ (rn_s (Or.inr (Or.inl ⟨q, z1, BADr.mk'⟩))))
          rw [mset_o (by omega), mset_s rfl rfl]
          decide
    · have q3 : m 475 3 ≠ 2 := by
        obtain ⟨-, z | ⟨-, -, z | z | z | z⟩⟩ := hr
        · rcases z.2 with z2 | z2
          · omega
          · omega
        · omega
        · omega
        · omega
        · omega
      have e8 : mset (mset m 475 8 1) 475 9 (plcT t k) 475 8 = 1 := by rw [mset_o (by omega), mset_s rfl rfl]
      refine rn_b (P := fun z => z = mset (mset m 475 8 1) 475 9 (plcT t k)) ?_ (fun z hz => ?_)
      · refine rn_f q3 ?_
        rw [e_blame h8, h4]
        exact rn_s rfl
      · rw [hz]
        refine rn_b (P := fun z => z = mset (mset m 475 8 1) 475 9 (plcT t k)) (rn_f (by omega) (rn_s rfl)) (fun z hz => ?_)
        rw [hz]
        exact rn_v (rn_f (by omega) (rn_s (Or.inr (Or.inr ⟨q, BADr.mk'⟩))))
  · refine rn_e e2 (rn_t ?_ (rn_s (Or.inr (Or.inr ⟨by omega, BADr.mk'⟩))))
    rw [mset_o (by omega), mset_s rfl rfl]
    decide
theorem rk_counts {N : Nat} {t m : Mem} {RT : Int → Mem → Prop} {k x : Int} (hL : LX N t RT) (hk : 0 ≤ k ∧ k + 1 < t 18 6) (h : LVr RT k m) : Rn (pM_counts N m x) (fun r => (x = 0 ∧ r.1 = 1 ∧ LVr RT (k + 1) r.2 ∧ Fr FRa m r.2) ∨ (x ≠ 0 ∧ r.1 = 0 ∧ BADr 6 (t 36 k) m r.2)) := by
  have h36 := (hL.1 _ _ h.1).1
  have h8 := h.2
  unfold pM_counts
  by_cases q : x = 0
  · refine rn_b (P := fun z => z = m) (rn_t h8 (rn_t q (rn_s rfl))) (fun z hz => ?_)
    rw [hz]
    refine rn_b (P := fun m' => RT (k + 1) m' ∧ Fr FRa m m') (rn_t h8 (rn_b (hL.2.2 k m h.1 hk.1 hk.2) (fun m' hm => rn_s hm))) (fun m' hm => ?_)
    have e8 : m' 475 8 = 0 := by rw [hm.2 _ _ (by unfold FRa; omega)]; exact h8
    exact rn_t e8 (rn_s (Or.inl ⟨q, rfl, ⟨hm.1, e8⟩, hm.2⟩))
  · have e8 : mset (mset m 475 8 6) 475 9 (t 36 k) 475 8 = 6 := by rw [mset_o (by omega), mset_s rfl rfl]
    refine rn_b (P := fun z => z = mset (mset m 475 8 6) 475 9 (t 36 k)) ?_ (fun z hz => ?_)
    · refine rn_t h8 (rn_f q ?_)
      rw [e_blame h8, h36]
      exact rn_s rfl
    · rw [hz]
      refine rn_b (P := fun z => z = mset (mset m 475 8 6) 475 9 (t 36 k)) (rn_f (by omega) (rn_s rfl)) (fun z hz => ?_)
      rw [hz]
      exact rn_f (by omega) (rn_s (Or.inr ⟨q, rfl, BADr.mk'⟩))
