/-! VALLEY: what both sides hold of the new plan; statements side by side -/
def NP (ib : Int) (mc mr : Mem) : Mem := fun b j => if 2 ≤ b ∧ b ≤ 17 then mc (b + 17) j else if b = 475 ∧ j = 13 then ib else if b = 475 ∧ j = 41 then 1 else mr b j
def Dz (P : Mem) : Prop := ((2 ≤ P 2 0 ∧ P 2 0 ≤ 8) ∧ (2 ≤ P 2 1 ∧ P 2 1 ≤ 8)) ∧ P 2 2 = P 2 0 * P 2 1 ∧ (0 ≤ P 475 13 ∧ P 475 13 < 2) ∧ P 477 (P 475 13) = P 2 0 ∧ P 478 (P 475 13) = P 2 1 ∧ P 475 41 = 1
def Dm (P : Mem) : Prop := (0 ≤ P 2 4 ∧ P 2 4 ≤ 100) ∧ P 485 (P 475 13) = P 2 4
def Dd (P : Mem) : Prop := (∀ p, 0 ≤ p → p < P 2 2 → (0 ≤ P 3 p ∧ P 3 p ≤ 99) ∧ P 479 (64 * P 475 13 + ph P p) = P 3 p) ∧ (∀ c, 0 ≤ c → c < 64 → ¬ cellC P c → P 479 (64 * P 475 13 + c) = 0)
def Dq (P : Mem) (i : Int) : Prop := (0 ≤ P 8 i ∧ P 8 i ≤ 99 ∧ P 484 (6 * P 475 13 + i) = P 8 i) ∧ nameOK P i ∧ ((0 ≤ P 5 i ∧ P 5 i < P 2 2) ∧ P 481 (6 * P 475 13 + i) = ph P (P 5 i)) ∧ ((0 ≤ P 6 i ∧ P 6 i ≤ 8) ∧ P 482 (6 * P 475 13 + i) = P 6 i) ∧ ((1 ≤ P 7 i ∧ P 7 i ≤ 99) ∧ P 483 (6 * P 475 13 + i) = P 7 i)
def Dp (P : Mem) : Prop := (0 ≤ P 2 3 ∧ P 2 3 ≤ 6) ∧ P 480 (P 475 13) = P 2 3 ∧ ∀ i, 0 ≤ i → i < P 2 3 → Dq P i
def Dl (P : Mem) (w : Int) : Prop := (0 ≤ P (9 + 3 * w) 2 ∧ P (9 + 3 * w) 2 ≤ 1600) ∧ (0 < P (9 + 3 * w) 2 → goodL w (codeOf P w)) ∧ LR P w ∧ (0 < P (9 + 3 * w) 2 → P 487 (3 * P 475 13 + w) ≤ P 475 28)
def DR (P : Mem) : Prop := Dz P ∧ Dm P ∧ Dd P ∧ Dp P ∧ (∀ w, 0 ≤ w → w < 3 → Dl P w) ∧ (0 ≤ P 475 28 ∧ P 475 28 ≤ 1600)
theorem Dz.fr {P P' : Mem} (h : Dz P) (f : ∀ b j, ((b = 2 ∧ j ≤ 2) ∨ (b = 475 ∧ (j = 13 ∨ j = 41)) ∨ b = 477 ∨ b = 478) → P' b j = P b j) : Dz P' := by
  unfold Dz at h ⊢
  rw [f 2 0 (by omega), f 2 1 (by omega), f 2 2 (by omega), f 475 13 (by omega), f 475 41 (by omega), f 477 _ (by omega), f 478 _ (by omega)]
  exact h
theorem Dm.fr {P P' : Mem} (h : Dm P) (f : ∀ b j, ((b = 2 ∧ j = 4) ∨ (b = 475 ∧ j = 13) ∨ b = 485) → P' b j = P b j) : Dm P' := by
  unfold Dm at h ⊢
  rw [f 2 4 (by omega), f 475 13 (by omega), f 485 _ (by omega)]
  exact h
theorem ph_ceq {P P' : Mem} (h : P' 2 0 = P 2 0) (p : Int) : ph P' p = ph P p := by
  unfold ph
  rw [h]
theorem Dd.fr {P P' : Mem} (h : Dd P) (f : ∀ b j, ((b = 2 ∧ j ≤ 2) ∨ (b = 475 ∧ j = 13) ∨ b = 3 ∨ b = 479) → P' b j = P b j) : Dd P' := by
  have e0 := f 2 0 (by omega)
  unfold Dd cellC at h ⊢
  rw [e0, f 2 1 (by omega), f 2 2 (by omega), f 475 13 (by omega)]
  refine ⟨fun p p0 p1 => ?_, fun c c0 c1 c2 => ?_⟩
  · rw [ph_ceq e0, f 3 p (by omega), f 479 _ (by omega)]
    exact h.1 p p0 p1
  · rw [f 479 _ (by omega)]
    exact h.2 c c0 c1 c2
theorem nameOK.fr {P P' : Mem} {i : Int} (h : nameOK P i) (f : ∀ b j, ((b = 475 ∧ j = 13) ∨ (b = 4 ∧ 6 * i ≤ j ∧ j < 6 * i + 6) ∨ (b = 490 ∧ j = 6 * P 475 13 + i)) → P' b j = P b j) : nameOK P' i := by
  have e : ∀ k : Int, 0 ≤ k → k < 6 → P' 4 (6 * i + k) = P 4 (6 * i + k) := fun k k0 k1 => f 4 _ (by omega)
  obtain ⟨n, h1, h2, h3, h4⟩ := h
  refine ⟨n, h1, fun k k0 k1 => ?_, fun k k0 k1 => ?_, ?_⟩
  · rw [e k (by omega) (by omega)]; exact h2 k k0 k1
  · rw [e k (by omega) (by omega)]; exact h3 k k0 k1
  · rw [f 475 13 (by omega), f 490 _ (by omega), h4]
    refine packW_ext (fun j hj => ?_)
    have := e (j : Int) (by omega) (by omega)
    simp only [this]
theorem Dq.fr {P P' : Mem} {i : Int} (h : Dq P i) (f : ∀ b j, ((b = 2 ∧ j ≤ 2) ∨ (b = 475 ∧ j = 13) ∨ (b = 4 ∧ 6 * i ≤ j ∧ j < 6 * i + 6) ∨ ((5 ≤ b ∧ b ≤ 8) ∧ j = i) ∨ (((481 ≤ b ∧ b ≤ 484) ∨ b = 490) ∧ j = 6 * P 475 13 + i)) → P' b j = P b j) : Dq P' i := by
  have e0 := f 2 0 (by omega)
  obtain ⟨h1, h2, h3, h4, h5⟩ := h
  have h2' : nameOK P' i := h2.fr (fun b j q => f b j (by omega))
  unfold Dq
  rw [f 475 13 (by omega), f 8 i (by omega), f 5 i (by omega), f 6 i (by omega), f 7 i (by omega), f 2 2 (by omega), ph_ceq e0, f 481 _ (by omega), f 482 _ (by omega), f 483 _ (by omega), f 484 _ (by omega)]
  exact ⟨h1, h2', h3, h4, h5⟩
theorem Dp.fr {P P' : Mem} (h : Dp P) (f : ∀ b j, ((b = 2 ∧ j ≤ 3) ∨ (b = 475 ∧ j = 13) ∨ (4 ≤ b ∧ b ≤ 8) ∨ b = 480 ∨ (481 ≤ b ∧ b ≤ 484) ∨ b = 490) → P' b j = P b j) : Dp P' := by
  obtain ⟨h1, h2, h3⟩ := h
  refine ⟨by rw [f 2 3 (by omega)]; exact h1, by rw [f 475 13 (by omega), f 2 3 (by omega), f 480 _ (by omega)]; exact h2, fun i i0 i1 => ?_⟩
  rw [f 2 3 (by omega)] at i1
  exact (h3 i i0 i1).fr (fun b j q => f b j (by omega))
theorem Dl.fr {P P' : Mem} {w : Int} (h : Dl P w) (f : ∀ b j, ((b = 9 + 3 * w ∧ j = 2) ∨ b = 10 + 3 * w ∨ (b = 475 ∧ j = 13) ∨ ((b = 486 ∨ b = 487) ∧ j = 3 * P 475 13 + w) ∨ ((b = 488 ∨ b = 489) ∧ j < 1600 * P 475 13 + P 475 28)) → P' b j = P b j) (h28 : P 475 28 ≤ P' 475 28) : Dl P' w := by
  have e1 := f (9 + 3 * w) 2 (by omega)
  have e2 : codeOf P' w = codeOf P w := by
    unfold codeOf
    rw [e1]
    exact List.map_congr_left (fun j _ => by rw [f (10 + 3 * w) _ (by omega)])
  obtain ⟨h1, h2, h3, h4⟩ := h
  unfold Dl LR at *
  rw [e1, e2, f 475 13 (by omega), f 486 _ (by omega), f 487 _ (by omega)]
  refine ⟨h1, h2, ?_, fun q => by have := h4 q; omega⟩
  rcases h3 with h3 | ⟨a, b, c, d, e⟩
  · exact Or.inl h3
  · have h4' := h4 a
    refine Or.inr ⟨a, b, c, d, e.eq' (fun j j0 j1 => ?_)⟩
    have hl : ((codeOf P w).length : Int) = P (9 + 3 * w) 2 := by
      unfold codeOf
      rw [List.length_map, List.length_range]
      omega
    rw [f 488 j (by omega), f 489 j (by omega)]
    exact ⟨rfl, rfl⟩
theorem DR.PG {P : Mem} (h : DR P) : PG P := ⟨Or.inr h.1.1, h.1.2.1, h.2.2.2.1.1, h.2.1.1, fun w w0 w1 => ⟨(h.2.2.2.2.1 w w0 w1).1, (h.2.2.2.2.1 w w0 w1).2.1⟩⟩
theorem DR.PR {P : Mem} (h : DR P) : PR P := ⟨h.1.2.2.1, h.1.2.2.2.1, h.1.2.2.2.2.1, h.2.2.2.1.2.1, h.2.1.2, Or.inr ⟨h.1.2.2.2.2.2, h.1.1.1.1⟩, fun i i0 i1 => (h.2.2.2.1.2.2 i i0 i1).1.2.2, fun w w0 w1 => (h.2.2.2.2.1 w w0 w1).2.2.1⟩
theorem DR.INm {P : Mem} (h : DR P) : INm P := fun i i0 i1 => ⟨⟨(h.2.2.2.1.2.2 i i0 i1).1.1, (h.2.2.2.1.2.2 i i0 i1).1.2.1⟩, (h.2.2.2.1.2.2 i i0 i1).2.1⟩
