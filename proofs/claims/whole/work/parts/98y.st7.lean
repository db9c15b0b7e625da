/-! VALLEY: statements side by side: DEW -/
theorem j_cnt0 {N : Nat} {t mc0 : Mem} {RT : Int → Mem → Prop} {ib k0 k : Int} {pre : Mem → Mem → Prop} {X : Option (Int × Mem)} {G : Int × Mem → Option Mem} (hL : LX N t RT) (hk : 0 ≤ k ∧ k + 1 < t 18 6) (hl : LVf RT ib k pre) (h : Rn X (SQt t RT ib k0 mc0 (nxP RT (k + 1) pre) (fun m' => G (1, m')))) : Rn X (SQt t RT ib k0 mc0 pre (fun mr => (pM_counts N mr 0).bind G)) := by
  refine rn_q h (fun r hr => ⟨hr.1, ?_⟩)
  have up : ∀ mr0 mr, pre mr0 mr → ∀ Q, (∀ m', nxP RT (k + 1) pre mr0 m' → Rn (G (1, m')) Q) → Rn ((pM_counts N mr 0).bind G) Q := by
    intro mr0 mr hp Q hQ
    refine rn_b (rk_counts (x := 0) hL hk (hl mr0 mr hp).1) (fun s hs => ?_)
    obtain ⟨s1, s2⟩ := s
    rcases hs with ⟨-, e, l, f⟩ | ⟨c, -⟩
    · have e' : s1 = 1 := e
      rw [e']
      exact hQ s2 ⟨mr, hp, f, l⟩
    · exact absurd rfl c
  rcases hr.2 with ⟨a1, k', b1, c1, d1⟩ | ⟨a1, b1, c1⟩
  · exact Or.inl ⟨a1, k', b1, c1, fun mr0 mr hp => up mr0 mr hp _ (fun m' hm => d1 mr0 m' hm)⟩
  · exact Or.inr ⟨a1, b1, fun mr0 mr hp => up mr0 mr hp _ (fun m' hm => c1 mr0 m' hm)⟩
def PRf (RT : Int → Mem → Prop) (ib k : Int) (mc : Mem) (pre : Mem → Mem → Prop) : Prop := ∀ mr0 mr, pre mr0 mr → RDY RT ib k mc mr0 ∧ Fr FRa mr0 mr
theorem nxP_PRf {RT : Int → Mem → Prop} {ib k k' : Int} {mc : Mem} {pre : Mem → Mem → Prop} (h : PRf RT ib k mc pre) : PRf RT ib k mc (nxP RT k' pre) := by
  intro mr0 m' hp
  obtain ⟨mr, h1, h2, h3⟩ := hp
  exact ⟨(h mr0 mr h1).1, (h mr0 mr h1).2.trans h2⟩
theorem pre0_LVf {RT : Int → Mem → Prop} {ib k : Int} {mc : Mem} : LVf RT ib k (fun a b => b = a ∧ RDY RT ib k mc a) := by
  rintro mr0 mr ⟨rfl, h⟩
  exact ⟨h.1, Fr.rfl', h.2.1⟩
theorem pre0_PRf {RT : Int → Mem → Prop} {ib k : Int} {mc : Mem} : PRf RT ib k mc (fun a b => b = a ∧ RDY RT ib k mc a) := by
  rintro mr0 mr ⟨rfl, h⟩
  exact ⟨h, Fr.rfl'⟩
theorem RDY.z {RT : Int → Mem → Prop} {ib k : Int} {mc mr : Mem} (h : RDY RT ib k mc mr) : mr 477 ib = mc 19 0 ∧ mr 478 ib = mc 19 1 ∧ ((2 ≤ mc 19 0 ∧ mc 19 0 ≤ 8) ∧ (2 ≤ mc 19 1 ∧ mc 19 1 ≤ 8)) ∧ mc 19 2 = mc 19 0 * mc 19 1 := by
  obtain ⟨h1, h2, h3, h4, h5, -⟩ := h.2.2.1.1
  rw [NP_bk] at h4 h5
  rw [NP_rf (b := 477) (by omega) (by omega), NP_pl (b := 2) (by omega)] at h4
  rw [NP_rf (b := 478) (by omega) (by omega), NP_pl (b := 2) (by omega)] at h5
  rw [NP_pl (b := 2) (by omega), NP_pl (b := 2) (by omega)] at h1
  rw [NP_pl (b := 2) (by omega), NP_pl (b := 2) (by omega), NP_pl (b := 2) (by omega)] at h2
  exact ⟨h4, h5, h1, h2⟩
theorem ph_at {P : Mem} {x y : Int} (hx : 0 ≤ x ∧ x < P 2 0) : ph P (y * P 2 0 + x) = 8 * y + x := by
  unfold ph
  rw [Int.add_comm (y * P 2 0) x, Int.add_mul_ediv_right _ _ (by omega), Int.add_mul_emod_self_right, Int.ediv_eq_zero_of_lt hx.1 hx.2, Int.emod_eq_of_lt hx.1 hx.2]
  omega
theorem at_lt {C R x y : Int} (hx : 0 ≤ x ∧ x < C) (hy : 0 ≤ y ∧ y < R) : 0 ≤ y * C + x ∧ y * C + x < C * R := by
  have h1 : 0 ≤ y * C := Int.mul_nonneg hy.1 (by omega)
  have h2 : (y + 1) * C ≤ R * C := Int.mul_le_mul_of_nonneg_right (by omega) (by omega)
  rw [Int.add_mul, Int.one_mul] at h2
  rw [Int.mul_comm C R]
  omega
theorem Dd.put {P P' : Mem} {x y v : Int} (hg : PG P) (hz : Dz P) (h : Dd P) (hx : 0 ≤ x ∧ x < P 2 0) (hy : 0 ≤ y ∧ y < P 2 1) (hv : 0 ≤ v ∧ v ≤ 99) (f : ∀ b j, ((b = 2 ∧ j ≤ 2) ∨ (b = 475 ∧ j = 13) ∨ (b = 3 ∧ j ≠ y * P 2 0 + x) ∨ (b = 479 ∧ j ≠ 64 * P 475 13 + (8 * y + x))) → P' b j = P b j) (h1 : P' 3 (y * P 2 0 + x) = v) (h2 : P' 479 (64 * P 475 13 + (8 * y + x)) = v) : Dd P' := by
  have e0 := f 2 0 (by omega)
  have e1 := f 2 1 (by omega)
  have e2 := f 2 2 (by omega)
  have e13 := f 475 13 (by omega)
  have hat := at_lt hx hy
  rw [← hz.2.1] at hat
  have hph := ph_at (P := P) (y := y) hx
  have hd : (8 * y + x) % 8 = x ∧ (8 * y + x) / 8 = y := by
    have := hz.1
    omega
  unfold Dd cellC at *
  rw [e0, e1, e2, e13]
  refine ⟨fun p p0 p1 => ?_, fun c c0 c1 c2 => ?_⟩
  · rw [ph_ceq e0]
    by_cases q : p = y * P 2 0 + x
    · subst q
      rw [hph, h1, h2]
      exact ⟨hv, rfl⟩
    · have hne : ph P p ≠ 8 * y + x := fun c => q (ph_inj hg ⟨p0, p1⟩ hat (c.trans hph.symm))
      rw [f 3 p (by omega), f 479 _ (by omega)]
      exact h.1 p p0 p1
  · rw [f 479 _ (Or.inr (Or.inr (Or.inr ⟨rfl, fun c3 => c2 ?_⟩)))]
    · exact h.2 c c0 c1 c2
    · have : c = 8 * y + x := by omega
      subst this
      rw [hd.1, hd.2]
      exact ⟨hx, hy⟩
