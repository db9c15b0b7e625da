/-! VALLEY: statements side by side: a place -/
theorem SQt.cg {t : Mem} {RT : Int → Mem → Prop} {ib k0 : Int} {mc0 : Mem} {pre : Mem → Mem → Prop} {rf rf' : Mem → Option Mem} {X : Option (Int × Mem)} (h : Rn X (SQt t RT ib k0 mc0 pre rf)) (he : ∀ mr0 mr, pre mr0 mr → rf' mr = rf mr) : Rn X (SQt t RT ib k0 mc0 pre rf') := by
  refine rn_q h (fun r hr => ⟨hr.1, ?_⟩)
  rcases hr.2 with ⟨a1, k', b1, c1, d1⟩ | ⟨a1, b1, c1⟩
  · exact Or.inl ⟨a1, k', b1, c1, fun mr0 mr hp => by rw [he mr0 mr hp]; exact d1 mr0 mr hp⟩
  · exact Or.inr ⟨a1, b1, fun mr0 mr hp => by rw [he mr0 mr hp]; exact c1 mr0 mr hp⟩
def GcB (N : Nat) (G : Int × Mem → Option Mem) (v : Int) : Int × Mem → Option Mem := fun q => G (w32 ((w32 (8 * q.1)) + v), q.2)
noncomputable def GcA (N : Nat) (G : Int × Mem → Option Mem) : Int × Mem → Option Mem := fun p => (if 0 ≤ p.2 475 29 ∧ p.2 475 29 < 2 then (pM_number N p.2 0 (w32 ((p.2 478 (p.2 475 29)) - 1))).bind (GcB N G p.1) else none)
theorem e_cellT {N : Nat} {mr : Mem} {C ib : Int} {G : Int × Mem → Option Mem} (h29 : mr 475 29 = ib) (hib : ib = 0 ∨ ib = 1) (hC : 2 ≤ C ∧ C ≤ 8) (h : mr 477 ib = C) : (pM_cellTold N mr).bind G = (pM_number N mr 0 (C - 1)).bind (GcA N G) := by
  unfold pM_cellTold
  rw [h29, if_pos (by omega), h, w32_eq (x := C - 1) (by omega) (by omega), Option.bind_assoc]
  congr 1
  funext p
  unfold GcA
  by_cases q : 0 ≤ p.2 475 29 ∧ p.2 475 29 < 2
  · rw [if_pos q]
    show Option.bind (if 0 ≤ p.2 475 29 ∧ p.2 475 29 < 2 then _ else _) G = _
    rw [if_pos q, Option.bind_assoc]
    rfl
  · rw [if_neg q]
    show Option.bind (if 0 ≤ p.2 475 29 ∧ p.2 475 29 < 2 then _ else _) G = _
    rw [if_neg q]
    rfl
theorem j_cell' {N : Nat} {t mc0 mc : Mem} {RT : Int → Mem → Prop} {ib k0 k C R : Int} {pre : Mem → Mem → Prop} {F : Int × Mem → Option (Int × Mem)} {G : Int × Mem → Option Mem} (hL : LX N t RT) (hz : NXt t) (hib : ib = 0 ∨ ib = 1) (hC : (2 ≤ C ∧ C ≤ 8) ∧ (2 ≤ R ∧ R ≤ 8)) (hc0 : mc 19 0 = C) (hc1 : mc 19 1 = R) (hpre : ∀ mr0 mr, pre mr0 mr → mr 477 ib = C ∧ mr 478 ib = R) (hf : Fr FCv mc0 mc) (hc : CKt t mc k) (hl : LVf RT ib k pre) (hF : ∀ m', Rn (F (-1, m')) (fun r => r.1 = 0 ∧ Fr FCw m' r.2)) (hG : ∀ v, DDk ib (fun m => G (v, m)))
    (hk : (0 ≤ t 37 k ∧ t 37 k < C) → (0 ≤ t 37 (k + 1) ∧ t 37 (k + 1) < R) → CKt t (mset (mset mc 18 7 (k + 1)) 18 7 (k + 1 + 1)) (k + 1 + 1) → Rn (F (t 37 (k + 1) * C + t 37 k, mset (mset mc 18 7 (k + 1)) 18 7 (k + 1 + 1))) (SQt t RT ib k0 mc0 (nxP RT (k + 1 + 1) (nxP RT (k + 1) pre)) (fun m' => G (8 * t 37 (k + 1) + t 37 k, m')))) :
    Rn ((pR_takeCell mc).bind F) (SQt t RT ib k0 mc0 pre (fun mr => (pM_cellTold N mr).bind G)) := by
  refine SQt.cg (rf := fun mr => (pM_number N mr 0 (C - 1)).bind (GcA N G)) ?_ (fun mr0 mr hp => e_cellT (hl mr0 mr hp).2.2 hib hC.1 (hpre mr0 mr hp).1)
  have dB : ∀ v w, DDk ib (fun m => GcB N G v (w, m)) := fun v w => hG (w32 ((w32 (8 * w)) + v))
  have dA : ∀ v, DDk ib (fun m => GcA N G (v, m)) := by
    intro v m h8 h29
    show Rn (if 0 ≤ m 475 29 ∧ m 475 29 < 2 then _ else _) _
    refine rn_t (by omega) ?_
    show Rn ((pM_number N m 0 (w32 ((m 478 (m 475 29)) - 1))).bind (GcB N G v)) _
    rw [rd_num h8]
    exact dB v 0 m h8 h29
  unfold pR_takeCell
  rw [Option.bind_assoc, hc0, w32_eq (x := C - 1) (by omega) (by omega)]
  refine j_num' hL hz hf hc hl (fun m' => ?_) dA (fun q1 q2 q3 q4 => ?_)
  · exact hF m'
  have f1 : Fr FCv mc0 (mset mc 18 7 (k + 1)) := hf.set (by unfold FCv; omega)
  show Rn (Option.bind (if (1 : Int) = 0 then _ else _) F) _
  rw [if_neg (by decide), q3]
  show Rn (Option.bind (Option.bind (pR_takeNumber (mset mc 18 7 (k + 1)) 0 (w32 ((mset mc 18 7 (k + 1) 19 1) - 1))) _) F) _
  rw [Option.bind_assoc, mset_o (by omega), hc1, w32_eq (x := R - 1) (by omega) (by omega)]
  have e2 : ∀ mr0 mr, nxP RT (k + 1) pre mr0 mr → (GcA N G (t 37 k, mr)) = (pM_number N mr 0 (R - 1)).bind (GcB N G (t 37 k)) := by
    intro mr0 m' hp
    obtain ⟨mr, h1, h2, h3⟩ := hp
    have e29 : m' 475 29 = ib := (h2 475 29 (by unfold FRa; omega)).trans (hl mr0 mr h1).2.2
    show (if 0 ≤ m' 475 29 ∧ m' 475 29 < 2 then _ else _) = _
    rw [if_pos (by omega)]
    show (pM_number N m' 0 (w32 ((m' 478 (m' 475 29)) - 1))).bind _ = _
    rw [e29, h2 478 ib (by unfold FRa; omega), (hpre mr0 mr h1).2, w32_eq (x := R - 1) (by omega) (by omega)]
  refine SQt.cg ?_ e2
  refine j_num' hL hz f1 q4 (nxP_LVf hl) (fun m' => ?_) (dB _) (fun p1 p2 p3 p4 => ?_)
  · exact hF m'
  show Rn (Option.bind (if (1 : Int) = 0 then _ else _) F) _
  rw [if_neg (by decide), p3]
  have ecell : pP_cellAt (mset (mset mc 18 7 (k + 1)) 18 7 (k + 1 + 1)) 19 (t 37 k) (t 37 (k + 1)) = some (t 37 (k + 1) * C + t 37 k) := by
    have hm : 0 ≤ t 37 (k + 1) * C ∧ t 37 (k + 1) * C ≤ 7 * 8 := ⟨Int.mul_nonneg p2.1 (by omega), Int.mul_le_mul (by omega) hC.1.2 (by omega) (by decide)⟩
    unfold pP_cellAt
    rw [mset_o (by omega), mset_o (by omega), mset_o (by omega), mset_o (by omega), hc0, hc1, if_neg (by omega), if_pos (by omega), if_neg (by omega), if_pos (by omega), w32_eq (x := t 37 (k + 1) * C) (by omega) (by omega), w32_eq (x := t 37 (k + 1) * C + t 37 k) (by omega) (by omega)]
  show Rn (Option.bind (Option.bind (pP_cellAt (mset (mset mc 18 7 (k + 1)) 18 7 (k + 1 + 1)) 19 (t 37 k) (t 37 (k + 1))) _) F) _
  rw [ecell]
  have h := hk ⟨by omega, by omega⟩ ⟨by omega, by omega⟩ p4
  have e3 : (fun m' => GcB N G (t 37 k) (t 37 (k + 1), m')) = (fun m' => G (8 * t 37 (k + 1) + t 37 k, m')) := by
    funext m'
    unfold GcB
    show G (w32 ((w32 (8 * t 37 (k + 1))) + t 37 k), m') = _
    rw [w32_eq (x := 8 * t 37 (k + 1)) (by omega) (by omega), w32_eq (x := 8 * t 37 (k + 1) + t 37 k) (by omega) (by omega)]
  rw [e3]
  exact h
theorem j_cell {N : Nat} {t mc0 mc : Mem} {RT : Int → Mem → Prop} {ib k0 k C R : Int} {pre : Mem → Mem → Prop} {F : Int × Mem → Option (Int × Mem)} {G : Int × Mem → Option Mem} (hL : LX N t RT) (hz : NXt t) (hib : ib = 0 ∨ ib = 1) (hC : (2 ≤ C ∧ C ≤ 8) ∧ (2 ≤ R ∧ R ≤ 8)) (hc0 : mc 19 0 = C) (hc1 : mc 19 1 = R) (hpre : ∀ mr0 mr, pre mr0 mr → mr 477 ib = C ∧ mr 478 ib = R) (hf : Fr FCv mc0 mc) (hc : CKt t mc k) (hl : LVf RT ib k pre) (hF : ∀ m', F (-1, m') = some (0, m')) (hG : ∀ v, DDk ib (fun m => G (v, m)))
    (hk : (0 ≤ t 37 k ∧ t 37 k < C) → (0 ≤ t 37 (k + 1) ∧ t 37 (k + 1) < R) → CKt t (mset (mset mc 18 7 (k + 1)) 18 7 (k + 1 + 1)) (k + 1 + 1) → Rn (F (t 37 (k + 1) * C + t 37 k, mset (mset mc 18 7 (k + 1)) 18 7 (k + 1 + 1))) (SQt t RT ib k0 mc0 (nxP RT (k + 1 + 1) (nxP RT (k + 1) pre)) (fun m' => G (8 * t 37 (k + 1) + t 37 k, m')))) :
    Rn ((pR_takeCell mc).bind F) (SQt t RT ib k0 mc0 pre (fun mr => (pM_cellTold N mr).bind G)) := j_cell' hL hz hib hC hc0 hc1 hpre hf hc hl (fun m' => by rw [hF]; exact rn_s ⟨rfl, Fr.rfl'⟩) hG hk
