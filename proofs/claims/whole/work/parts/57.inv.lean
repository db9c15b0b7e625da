/-! WHAT HOLDS BETWEEN CALLS -/
def vP (m : Mem) : Mem := fun b j => if (b = 2 ∨ b = 4 ∨ (8 ≤ b ∧ b ≤ 10) ∨ b = 12 ∨ b = 13 ∨ b = 15 ∨ b = 16) ∨ ((b = 475 ∧ (j = 13 ∨ j = 41)) ∨ b = 477 ∨ b = 478 ∨ b = 480 ∨ (484 ≤ b ∧ b ≤ 490)) then m b j else 0
theorem vP_in {m : Mem} {b j : Int} (h : (b = 2 ∨ b = 4 ∨ (8 ≤ b ∧ b ≤ 10) ∨ b = 12 ∨ b = 13 ∨ b = 15 ∨ b = 16) ∨ ((b = 475 ∧ (j = 13 ∨ j = 41)) ∨ b = 477 ∨ b = 478 ∨ b = 480 ∨ (484 ≤ b ∧ b ≤ 490))) : vP m b j = m b j := if_pos h
theorem vP_PE (m : Mem) : PE (vP m) m := fun b j q => (vP_in (by unfold plc at q; omega)).symm
theorem vP_PQ (m : Mem) : PQ (vP m) m := fun b j q => (vP_in (by unfold prc at q; omega)).symm
theorem vP_fr {m m' : Mem} (h : ∀ b j, (plc b ∨ prc b j) → m' b j = m b j) : vP m' = vP m := by
  funext b j
  unfold vP
  split
  · rename_i q; exact h b j (by unfold plc prc; omega)
  · rfl
theorem vP_Fr {S : Int → Int → Prop} {m m' : Mem} (f : Fr S m m') (hs : ∀ b j, (plc b ∨ prc b j) → ¬ S b j) : vP m' = vP m := vP_fr (fun b j q => f b j (hs b j q))
def packW (f : Int → Int) : Nat → Int
  | 0 => 0
  | k + 1 => 256 * packW f k + f k
def nameOK (pl : Mem) (i : Int) : Prop := ∃ n : Nat, (1 ≤ n ∧ n ≤ 6) ∧ (∀ k : Int, 0 ≤ k → k < n → 1 ≤ pl 4 (6 * i + k) ∧ pl 4 (6 * i + k) ≤ 26) ∧ (∀ k : Int, (n : Int) ≤ k → k < 6 → pl 4 (6 * i + k) = 0) ∧ pl 490 (6 * pl 475 13 + i) = packW (fun k => pl 4 (6 * i + k) + 96) n
def ITape (m : Mem) : Prop := m 475 1 = m 0 1 ∧ (0 ≤ m 0 1 ∧ m 0 1 ≤ 1600) ∧ ∀ i, 0 ≤ i → i < m 0 1 → m 476 i = m 1 i ∧ (0 ≤ m 1 i ∧ m 1 i ≤ 255)
def IRef (m : Mem) : Prop := ∀ k, 0 ≤ k → k < 6 → m 497 k = m 474 k
def ISeed (m : Mem) : Prop := m 475 53 = m 0 14 ∧ (0 ≤ m 0 14 ∧ m 0 14 < 2147483648)
def IFault (m : Mem) : Prop := m 475 10 = m 18 1 ∧ m 475 11 = m 18 2
def INm (pl : Mem) : Prop := ∀ i, 0 ≤ i → i < pl 2 3 → (0 ≤ pl 8 i ∧ pl 8 i ≤ 99) ∧ nameOK pl i
def IActs (pl m : Mem) : Prop := m 475 51 = m 52 1 ∧ m 475 52 = m 52 2 ∧ (0 ≤ m 52 1 ∧ m 52 1 < 20) ∧ (0 ≤ m 52 2 ∧ m 52 2 ≤ 20) ∧ ∀ k, 0 ≤ k → k < m 52 2 → SB pl (vS m (54 + 7 * ((m 52 1 + k) % 20))) ∧ SR pl m (2 + (m 52 1 + k) % 20) (vS m (54 + 7 * ((m 52 1 + k) % 20)))
def ISeen (pl m : Mem) : Prop := m 475 68 = m 396 3 ∧ (0 ≤ m 396 3 ∧ m 396 3 ≤ 16) ∧ ∀ r, 0 ≤ r → r < m 396 3 → (0 ≤ m 397 (4 * r) ∧ m 397 (4 * r) ≤ 8) ∧ (0 ≤ m 397 (4 * r + 1) ∧ m 397 (4 * r + 1) < pl 2 0) ∧ (0 ≤ m 397 (4 * r + 2) ∧ m 397 (4 * r + 2) < pl 2 1) ∧ (0 ≤ m 397 (4 * r + 3) ∧ m 397 (4 * r + 3) ≤ 99) ∧ m 516 r = m 397 (4 * r) ∧ m 517 r = 8 * m 397 (4 * r + 2) + m 397 (4 * r + 1) ∧ m 518 r = m 397 (4 * r + 3)
def IImg (m : Mem) : Prop := m 475 76 = m 472 1 ∧ (0 ≤ m 472 1 ∧ m 472 1 ≤ 103) ∧ ∀ k, 0 ≤ k → k < m 472 1 → m 522 k = m 473 k
def ISt (pl m : Mem) : Prop := SB pl (vS m 38) ∧ SR pl m 0 (vS m 38)
def Core (m : Mem) : Prop := ITape m ∧ IRef m ∧ ISeed m ∧ IFault m ∧ (PG (vP m) ∧ PR (vP m) ∧ INm (vP m)) ∧ ISt (vP m) m ∧ IActs (vP m) m ∧ ISeen (vP m) m ∧ IImg m ∧ m 475 62 = -1
def A1 (b j : Int) : Prop := (b = 0 ∧ j = 1) ∨ b = 1 ∨ (b = 475 ∧ j = 1) ∨ b = 476
def A2 (b _j : Int) : Prop := b = 474 ∨ b = 497
def A3 (b j : Int) : Prop := (b = 0 ∧ j = 14) ∨ (b = 475 ∧ j = 53)
def A4 (b j : Int) : Prop := (b = 18 ∧ (j = 1 ∨ j = 2)) ∨ (b = 475 ∧ (j = 10 ∨ j = 11))
def A5 (b j : Int) : Prop := plc b ∨ prc b j
def A6 (b j : Int) : Prop := (38 ≤ b ∧ b ≤ 44) ∨ FLy 0 b j
def A7 (b j : Int) : Prop := (b = 52 ∧ (j = 1 ∨ j = 2)) ∨ (54 ≤ b ∧ b ≤ 193) ∨ (b = 475 ∧ (j = 51 ∨ j = 52)) ∨ (∃ v, 2 ≤ v ∧ v < 22 ∧ FLy v b j)
def A8 (b j : Int) : Prop := (b = 396 ∧ j = 3) ∨ b = 397 ∨ (b = 475 ∧ j = 68) ∨ (516 ≤ b ∧ b ≤ 518)
def A9 (b j : Int) : Prop := (b = 472 ∧ j = 1) ∨ b = 473 ∨ (b = 475 ∧ j = 76) ∨ b = 522
def A10 (b j : Int) : Prop := b = 475 ∧ j = 62
theorem ITape.fr {m m' : Mem} (h : ITape m) (f : ∀ b j, A1 b j → m' b j = m b j) : ITape m' := by
  unfold A1 at f
  unfold ITape
  simp (disch := omega) only [f]
  exact h
theorem IRef.fr {m m' : Mem} (h : IRef m) (f : ∀ b j, A2 b j → m' b j = m b j) : IRef m' := by
  unfold A2 at f
  unfold IRef
  simp (disch := omega) only [f]
  exact h
theorem ISeed.fr {m m' : Mem} (h : ISeed m) (f : ∀ b j, A3 b j → m' b j = m b j) : ISeed m' := by
  unfold A3 at f
  unfold ISeed
  simp (disch := omega) only [f]
  exact h
theorem IFault.fr {m m' : Mem} (h : IFault m) (f : ∀ b j, A4 b j → m' b j = m b j) : IFault m' := by
  unfold A4 at f
  unfold IFault
  simp (disch := omega) only [f]
  exact h
theorem ISeen.fr {pl m m' : Mem} (h : ISeen pl m) (f : ∀ b j, A8 b j → m' b j = m b j) : ISeen pl m' := by
  unfold A8 at f
  unfold ISeen
  simp (disch := omega) only [f]
  exact h
theorem IImg.fr {m m' : Mem} (h : IImg m) (f : ∀ b j, A9 b j → m' b j = m b j) : IImg m' := by
  unfold A9 at f
  unfold IImg
  simp (disch := omega) only [f]
  exact h
theorem ISt.fr {pl m m' : Mem} (hg : PG pl) (h : ISt pl m) (f : ∀ b j, A6 b j → m' b j = m b j) : ISt pl m' := by
  have e : vS m' 38 = vS m 38 := vS_fr (fun b j h1 h2 _ => f b j (Or.inl (by omega)))
  unfold ISt
  rw [e]
  exact ⟨h.1, h.2.eq hg h.1.2.2.2.2 (fun b j q => f b j (Or.inr q))⟩
theorem IActs.fr {pl m m' : Mem} (hg : PG pl) (h : IActs pl m) (f : ∀ b j, A7 b j → m' b j = m b j) : IActs pl m' := by
  obtain ⟨h1, h2, h3, h4, h5⟩ := h
  have e1 : m' 52 1 = m 52 1 := f _ _ (by unfold A7; omega)
  have e2 : m' 52 2 = m 52 2 := f _ _ (by unfold A7; omega)
  refine ⟨by rw [f 475 51 (by unfold A7; omega), e1]; exact h1, by rw [f 475 52 (by unfold A7; omega), e2]; exact h2, by rw [e1]; exact h3, by rw [e2]; exact h4, fun k h0 hk => ?_⟩
  rw [e2] at hk
  have h6 := h5 k h0 hk
  rw [e1]
  have hz : 0 ≤ (m 52 1 + k) % 20 ∧ (m 52 1 + k) % 20 < 20 := by omega
  have e : vS m' (54 + 7 * ((m 52 1 + k) % 20)) = vS m (54 + 7 * ((m 52 1 + k) % 20)) := vS_fr (fun b j q1 q2 _ => f b j (Or.inr (Or.inl (by omega))))
  rw [e]
  exact ⟨h6.1, h6.2.eq hg h6.1.2.2.2.2 (fun b j q => f b j (Or.inr (Or.inr (Or.inr ⟨_, by omega, by omega, q⟩))))⟩
/-- what Core rests on -/
def CD (b j : Int) : Prop := A1 b j ∨ A2 b j ∨ A3 b j ∨ A4 b j ∨ A5 b j ∨ A6 b j ∨ A7 b j ∨ A8 b j ∨ A9 b j ∨ A10 b j
theorem Core.fr {m m' : Mem} (h : Core m) (f : ∀ b j, CD b j → m' b j = m b j) : Core m' := by
  obtain ⟨h1, h2, h3, h4, ⟨h5, h6, h7⟩, h8, h9, h10, h11, h12⟩ := h
  have hp : vP m' = vP m := vP_fr (fun b j q => f b j (Or.inr (Or.inr (Or.inr (Or.inr (Or.inl q))))))
  unfold Core
  rw [hp]
  exact ⟨h1.fr (fun b j q => f b j (Or.inl q)), h2.fr (fun b j q => f b j (Or.inr (Or.inl q))), h3.fr (fun b j q => f b j (Or.inr (Or.inr (Or.inl q)))), h4.fr (fun b j q => f b j (Or.inr (Or.inr (Or.inr (Or.inl q))))), ⟨h5, h6, h7⟩, h8.fr h5 (fun b j q => f b j (Or.inr (Or.inr (Or.inr (Or.inr (Or.inr (Or.inl q))))))), h9.fr h5 (fun b j q => f b j (Or.inr (Or.inr (Or.inr (Or.inr (Or.inr (Or.inr (Or.inl q)))))))), h10.fr (fun b j q => f b j (Or.inr (Or.inr (Or.inr (Or.inr (Or.inr (Or.inr (Or.inr (Or.inl q))))))))), h11.fr (fun b j q => f b j (Or.inr (Or.inr (Or.inr (Or.inr (Or.inr (Or.inr (Or.inr (Or.inr (Or.inl q)))))))))), (f _ _ (Or.inr (Or.inr (Or.inr (Or.inr (Or.inr (Or.inr (Or.inr (Or.inr (Or.inr ⟨rfl, rfl⟩)))))))))).trans h12⟩
