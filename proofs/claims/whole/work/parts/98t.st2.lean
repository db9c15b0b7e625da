/-! VALLEY: the statements' small steps, the component -/
def TEq (t m : Mem) : Prop := ∀ b j, (b = 35 ∨ b = 36 ∨ b = 37 ∨ (b = 18 ∧ j = 6)) → m b j = t b j
def NXt (t : Mem) : Prop := (1 ≤ t 18 6 ∧ t 18 6 ≤ 1601) ∧ (∀ k, 0 ≤ k → k < t 18 6 → t 35 k ≠ 26 → t 35 k ≠ 27 → k + 1 < t 18 6)
def CKt (t m : Mem) (k : Int) : Prop := (0 ≤ k ∧ k < t 18 6) ∧ m 18 7 = k ∧ TEq t m ∧ m 18 8 = 0
def FRk : Int → Int → Prop := fun b j => b = 18 ∧ (j = 1 ∨ j = 2)
def BADk (kd pl : Int) (m m' : Mem) : Prop := m' 18 1 = kd ∧ m' 18 2 = pl ∧ Fr FRk m m'
theorem SPt.NX {T : Int → Int} {L : Int} {t : Mem} {en : Int → Int} (hL : 0 ≤ L ∧ L ≤ 1600) (h : SPt T L t en) : NXt t := ⟨⟨by have := h.1; omega, by have := h.1; omega⟩, fun k k0 k1 a b => (h.2.2 k k0 k1).2 ⟨a, b⟩⟩
theorem CKt.fr {t m m' : Mem} {k : Int} {S : Int → Int → Prop} (h : CKt t m k) (f : Fr S m m') (hs : ∀ b j, S b j → ¬ (b = 35 ∨ b = 36 ∨ b = 37 ∨ (b = 18 ∧ (j = 6 ∨ j = 7 ∨ j = 8)))) : CKt t m' k := by
  refine ⟨h.1, ?_, fun b j q => ?_, ?_⟩
  · rw [f _ _ (fun c => hs _ _ c (by omega))]; exact h.2.1
  · rw [f _ _ (fun c => hs _ _ c (by omega))]; exact h.2.2.1 b j q
  · rw [f _ _ (fun c => hs _ _ c (by omega))]; exact h.2.2.2
theorem ck_pass {t m : Mem} {k : Int} (hz : NXt t) (h : CKt t m k) (hk : k + 1 < t 18 6) : pR_pass m = some (mset m 18 7 (k + 1)) ∧ CKt t (mset m 18 7 (k + 1)) (k + 1) := by
  obtain ⟨h1, h2, h3, h4⟩ := h
  have hz1 := hz.1
  refine ⟨?_, by omega, mset_s rfl rfl, fun b j q => ?_, ?_⟩
  · unfold pR_pass
    rw [h2, h3 18 6 (by omega), w32_eq (x := t 18 6 - 1) (by omega) (by omega), if_pos (by omega), w32_eq (x := k + 1) (by omega) (by omega)]
    rfl
  · rw [mset_o (by omega)]; exact h3 b j q
  · rw [mset_o (by omega)]; exact h4
theorem ck_astray {t m : Mem} {k : Int} (hz : NXt t) (h : CKt t m k) : Rn (pR_astray m) (fun r => r.1 = 0 ∧ BADk 1 (plcT t k) m r.2) := by
  obtain ⟨h1, h2, h3, h4⟩ := h
  have hz1 := hz.1
  have e35 := h3 35 k (by omega)
  have e36 := h3 36 k (by omega)
  have e37 := h3 37 k (by omega)
  unfold pR_astray
  refine rn_l (fun m1 hm1 => ?_)
  have a1 : m1 18 1 = 1 := by rw [hm1, mset_s rfl rfl]
  have a7 : m1 18 7 = k := by rw [hm1, mset_o (by omega)]; exact h2
  have a35 : m1 35 k = t 35 k := by rw [hm1, mset_o (by omega)]; exact e35
  have a36 : m1 36 k = t 36 k := by rw [hm1, mset_o (by omega)]; exact e36
  have a37 : m1 37 k = t 37 k := by rw [hm1, mset_o (by omega)]; exact e37
  have f1 : Fr FRk m m1 := by rw [hm1]; exact Fr.rfl'.set (by unfold FRk; omega)
  rw [a7]
  refine rn_t (by omega) ?_
  rw [a35]
  unfold plcT
  refine rn_i (fun q => ?_) (fun q => ?_)
  · refine rn_t (by omega) (rn_v (rn_s ⟨rfl, ?_, ?_, f1.set (by unfold FRk; omega)⟩))
    · show mset m1 18 2 (m1 37 k) 18 1 = 1
      rw [mset_o (by omega)]; exact a1
    · show mset m1 18 2 (m1 37 k) 18 2 = _
      rw [mset_s rfl rfl, if_pos q]; exact a37
  · refine rn_t (by omega) (rn_v (rn_s ⟨rfl, ?_, ?_, f1.set (by unfold FRk; omega)⟩))
    · show mset m1 18 2 (m1 36 k) 18 1 = 1
      rw [mset_o (by omega)]; exact a1
    · show mset m1 18 2 (m1 36 k) 18 2 = _
      rw [mset_s rfl rfl, if_neg q]; exact a36
theorem ck_wrong {t m : Mem} {k x : Int} (hz : NXt t) (h : CKt t m k) : Rn (pR_wrong m x) (fun r => r.1 = 0 ∧ BADk x (t 36 k) m r.2) := by
  obtain ⟨h1, h2, h3, h4⟩ := h
  have hz1 := hz.1
  unfold pR_wrong
  refine rn_l (fun m1 hm1 => ?_)
  have a1 : m1 18 1 = x := by rw [hm1, mset_s rfl rfl]
  have a7 : m1 18 7 = k := by rw [hm1, mset_o (by omega)]; exact h2
  have a36 : m1 36 k = t 36 k := by rw [hm1, mset_o (by omega)]; exact h3 36 k (by omega)
  have f1 : Fr FRk m m1 := by rw [hm1]; exact Fr.rfl'.set (by unfold FRk; omega)
  rw [a7]
  refine rn_t (by omega) (rn_v (rn_s ⟨rfl, ?_, ?_, f1.set (by unfold FRk; omega)⟩))
  · show mset m1 18 2 (m1 36 k) 18 1 = x
    rw [mset_o (by omega)]; exact a1
  · show mset m1 18 2 (m1 36 k) 18 2 = _
    rw [mset_s rfl rfl]; exact a36
theorem ck_take {t m : Mem} {k x : Int} (hz : NXt t) (h : CKt t m k) (hx : x ≠ 26 ∧ x ≠ 27) : Rn (pR_take m x) (fun r => (t 35 k = x ∧ r.1 = 1 ∧ r.2 = mset m 18 7 (k + 1) ∧ CKt t r.2 (k + 1)) ∨ (t 35 k ≠ x ∧ r.1 = 0 ∧ BADk 1 (plcT t k) m r.2)) := by
  have hz1 := hz.1
  have h1 := h.1
  have e35 := h.2.2.1 35 k (by omega)
  unfold pR_take
  rw [h.2.1, e35]
  refine rn_t (by omega) (rn_i (fun q => ?_) (fun q => ?_))
  · have hp := ck_pass hz h (hz.2 k h1.1 h1.2 (by omega) (by omega))
    exact rn_e hp.1 (rn_s (Or.inl ⟨q, rfl, rfl, hp.2⟩))
  · exact rn_b (ck_astray hz h) (fun r hr => rn_s (Or.inr ⟨q, hr.1, hr.2⟩))
theorem ck_num {t m : Mem} {k a b : Int} (hz : NXt t) (h : CKt t m k) : Rn (pR_takeNumber m a b) (fun r => (t 35 k = 25 ∧ (a ≤ t 37 k ∧ t 37 k ≤ b) ∧ r.1 = 1 ∧ r.2 = mset m 18 7 (k + 1) ∧ CKt t r.2 (k + 1) ∧ pR_lastValue r.2 = some (t 37 k)) ∨ (t 35 k = 25 ∧ ¬ (a ≤ t 37 k ∧ t 37 k ≤ b) ∧ r.1 = 0 ∧ BADk 4 (t 36 k) m r.2) ∨ (t 35 k ≠ 25 ∧ r.1 = 0 ∧ BADk 1 (plcT t k) m r.2)) := by
  have hz1 := hz.1
  have h1 := h.1
  have e35 := h.2.2.1 35 k (by omega)
  have e37 := h.2.2.1 37 k (by omega)
  unfold pR_takeNumber
  rw [h.2.1, e35, e37]
  refine rn_t (by omega) (rn_i (fun q => rn_t (by omega) ?_) (fun q => ?_))
  · refine rn_jl (fun J hJ => ?_)
    have goJ : ¬ (a ≤ t 37 k ∧ t 37 k ≤ b) → Rn (J ()) (fun r => (t 35 k = 25 ∧ (a ≤ t 37 k ∧ t 37 k ≤ b) ∧ r.1 = 1 ∧ r.2 = mset m 18 7 (k + 1) ∧ CKt t r.2 (k + 1) ∧ pR_lastValue r.2 = some (t 37 k)) ∨ (t 35 k = 25 ∧ ¬ (a ≤ t 37 k ∧ t 37 k ≤ b) ∧ r.1 = 0 ∧ BADk 4 (t 36 k) m r.2) ∨ (t 35 k ≠ 25 ∧ r.1 = 0 ∧ BADk 1 (plcT t k) m r.2)) := by
      intro c
      rw [hJ]
      exact rn_b (ck_wrong hz h) (fun r hr => rn_s (Or.inr (Or.inl ⟨q, c, hr.1, hr.2⟩)))
    refine rn_i (fun c => goJ (by omega)) (fun c => rn_t (by omega) (rn_i (fun c2 => goJ (by omega)) (fun c2 => ?_)))
    have hk1 := hz.2 k h1.1 h1.2 (by omega) (by omega)
    have hp := ck_pass hz h hk1
    refine rn_e hp.1 (rn_s (Or.inl ⟨q, by omega, rfl, rfl, hp.2, ?_⟩))
    show pR_lastValue (mset m 18 7 (k + 1)) = _
    unfold pR_lastValue
    rw [mset_s rfl rfl, w32_eq (x := k + 1 - 1) (by omega) (by omega), if_pos (by omega), if_pos (by omega), mset_o (by omega), show k + 1 - 1 = k by omega, e37]
  · exact rn_b (ck_astray hz h) (fun r hr => rn_s (Or.inr (Or.inr ⟨q, hr.1, hr.2⟩)))
