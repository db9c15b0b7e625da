/-! VALLEY: the reference sees the signs that the component saw -/
def SPt (T : Int → Int) (L : Int) (t : Mem) (en : Int → Int) : Prop := (1 ≤ t 18 6 ∧ t 18 6 ≤ L + 1) ∧ CHp T L t en (t 18 6) ∧ (∀ k, 0 ≤ k → k < t 18 6 → (k + 1 < t 18 6 ↔ (t 35 k ≠ 26 ∧ t 35 k ≠ 27)))
def RTi (T : Int → Int) (L : Int) (t : Mem) (en : Int → Int) (k : Int) (m : Mem) : Prop := RTc m (t 35 k) (t 36 k) (t 37 k) ∧ m 475 2 = L ∧ (∀ j, 0 ≤ j → j < L → m 476 j = T j) ∧ (t 35 k ≠ 26 → t 35 k ≠ 27 → m 475 5 = en (k + 1) ∧ (t 35 k ≤ 24 → m 475 7 = packW (fun j => T (t 36 k + j)) (t 37 k).toNat))
theorem SPo.t {T : Int → Int} {L : Int} {m t : Mem} (h : SPo T L m t) : ∃ en, SPt T L t en := by
  obtain ⟨-, en, n, h1, h2, h3, h4⟩ := h
  exact ⟨en, by rw [h1]; exact h2, by rw [h1]; exact h3, by rw [h1]; exact h4⟩
theorem SPt.fr {T : Int → Int} {L : Int} {t t' : Mem} {en : Int → Int} (h : SPt T L t en) (hf : ∀ b j, (b = 35 ∨ b = 36 ∨ b = 37 ∨ (b = 18 ∧ j = 6)) → t' b j = t b j) : SPt T L t' en := by
  obtain ⟨h1, h2, h3⟩ := h
  have e6 : t' 18 6 = t 18 6 := hf _ _ (by omega)
  refine ⟨by rw [e6]; exact h1, ⟨h2.1, fun k k0 k1 => ?_⟩, fun k k0 k1 => ?_⟩
  · rw [e6] at k1
    rw [hf 35 k (by omega), hf 36 k (by omega), hf 37 k (by omega)]
    exact h2.2 k k0 k1
  · rw [e6] at k1 ⊢
    rw [hf 35 k (by omega)]
    exact h3 k k0 k1
theorem RTi.gt {T : Int → Int} {L : Int} {t : Mem} {en : Int → Int} {k : Int} {m : Mem} {N : Nat} (hN : 2000 ≤ N) (hL : 0 ≤ L ∧ L ≤ 1600) (h : SPt T L t en) (hk : 0 ≤ k ∧ k < t 18 6) (h5 : m 475 5 = en k) (h2 : m 475 2 = L) (hT : ∀ j, 0 ≤ j → j < L → m 476 j = T j) : Rn (pM_ahead N m) (fun m' => RTi T L t en k m' ∧ Fr FRa m m') := by
  have hc := h.2.1.2 k hk.1 hk.2
  refine rn_q (r_ahd hN h5 h2 hT hL hc.1 hc.2.1) (fun m' hm => ⟨⟨hm.1, ?_, fun j j0 j1 => ?_, hm.2.1⟩, hm.2.2⟩)
  · rw [hm.2.2 _ _ (by unfold FRa; omega)]; exact h2
  · rw [hm.2.2 _ _ (by unfold FRa; omega)]; exact hT j j0 j1
theorem RTi.fr {T : Int → Int} {L : Int} {t : Mem} {en : Int → Int} {k : Int} {m m' : Mem} (h : RTi T L t en k m) (hf : ∀ b j, (b = 475 ∧ ((2 ≤ j ∧ j ≤ 7) ∨ j = 12)) ∨ b = 476 → m' b j = m b j) : RTi T L t en k m' := by
  obtain ⟨h1, h2, h3, h4⟩ := h
  refine ⟨?_, by rw [hf _ _ (by omega)]; exact h2, fun j j0 j1 => by rw [hf _ _ (by omega)]; exact h3 j j0 j1, fun a b => ?_⟩
  · unfold RTc at h1 ⊢
    rw [hf 475 3 (by omega), hf 475 4 (by omega), hf 475 6 (by omega), hf 475 7 (by omega), hf 475 12 (by omega)]
    exact h1
  · rw [hf 475 5 (by omega), hf 475 7 (by omega)]
    exact h4 a b
theorem RTi.LX {T : Int → Int} {L : Int} {t : Mem} {en : Int → Int} {N : Nat} (hN : 2000 ≤ N) (hL : 0 ≤ L ∧ L ≤ 1600) (h : SPt T L t en) : LX N t (RTi T L t en) := by
  refine ⟨fun k m hr => hr.1, fun k m m' hr hf => hr.fr hf, fun k m hr k0 k1 => ?_⟩
  have hc := (h.2.2 k k0 (by omega)).1 k1
  exact RTi.gt hN hL h ⟨by omega, k1⟩ (hr.2.2.2 hc.1 hc.2).1 hr.2.1 hr.2.2.1
theorem RTi.tt {T : Int → Int} {L : Int} {t t' : Mem} {en : Int → Int} {k : Int} {m : Mem} (h : RTi T L t en k m) (hf : ∀ b j, (b = 35 ∨ b = 36 ∨ b = 37) → t' b j = t b j) : RTi T L t' en k m := by
  obtain ⟨h1, h2, h3, h4⟩ := h
  unfold RTi
  rw [hf 35 k (by omega), hf 36 k (by omega), hf 37 k (by omega)]
  exact ⟨h1, h2, h3, h4⟩
theorem SPt.WT {T : Int → Int} {L : Int} {t : Mem} {en : Int → Int} (hL : 0 ≤ L ∧ L ≤ 1600) (h : SPt T L t en) (h9 : (t 18 9 = 8 ∧ t 18 10 = 26) ∨ (t 18 9 = 9 ∧ t 18 10 = 29) ∨ (t 18 9 = 10 ∧ t 18 10 = 32)) : WT t := by
  refine ⟨⟨by have := h.1; omega, by have := h.1; omega⟩, fun k k0 k1 a b => (h.2.2 k k0 k1).2 ⟨a, b⟩, fun k k0 k1 a => ((h.2.1.2 k k0 k1).2.2.2 a), by omega, by omega⟩
