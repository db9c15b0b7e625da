/-! VALLEY: statements side by side: PERSON, pieces -/
def GI (b x : Int) (k : Mem → Option Mem) : Int × Mem → Option Mem := fun (r, m) => if 0 ≤ x ∧ x < 12 then (some (mset m b x r)).bind k else none
def GQz (x : Int) : Mem → Option Mem := fun m211 => if m211 475 8 = 0 then if 0 ≤ m211 475 29 ∧ m211 475 29 < 2 then if 0 ≤ m211 475 29 ∧ m211 475 29 < 2 then (some (mset m211 480 (m211 475 29) (w32 ((m211 480 (m211 475 29)) + 1)))).bind fun m231 => some m231 else none else none else some m211
noncomputable def GQ4 (N : Nat) (x : Int) : Mem → Option Mem := fun m => (pM_must_ N m 1870095731).bind fun m => (pM_number N m 0 99).bind (GI 484 x (GQz x))
noncomputable def GQ3 (N : Nat) (x : Int) : Mem → Option Mem := fun m => (pM_must_ N m 495672714612).bind fun m => (pM_number N m 1 99).bind (GI 483 x (GQ4 N x))
noncomputable def GQ2 (N : Nat) (x : Int) : Mem → Option Mem := fun m => (pM_must_ N m 30064).bind fun m => (pM_number N m 0 8).bind (GI 482 x (GQ3 N x))
noncomputable def GQ1 (N : Nat) (x : Int) : Mem → Option Mem := fun m => (pM_must_ N m 24948).bind fun m => (pM_cellTold N m).bind (GI 481 x (GQ2 N x))
theorem FV_i {ib x b i : Int} (hi : 0 ≤ i ∧ i < 6) (hx : x = 6 * ib + i) (hb : (481 ≤ b ∧ b ≤ 484) ∨ b = 490) : FV ib b x := Or.inr (Or.inr (Or.inr (Or.inl ⟨hb, by omega⟩)))
theorem GI_dd {ib i x b v : Int} {K : Mem → Option Mem} (hib : ib = 0 ∨ ib = 1) (hi : 0 ≤ i ∧ i < 6) (hx : x = 6 * ib + i) (hb : (481 ≤ b ∧ b ≤ 484) ∨ b = 490) (h : DDk ib K) : DDk ib (fun m => GI b x K (v, m)) := by
  intro m h8 h29
  show Rn (if 0 ≤ x ∧ x < 12 then _ else _) _
  refine rn_t (by omega) (rn_v ?_)
  refine rn_q (h (mset m b x v) (by rw [mset_o (by omega)]; exact h8) (by rw [mset_o (by omega)]; exact h29)) (fun m' hm => ⟨hm.1.trans (mset_o (by omega)), hm.2.1.trans (mset_o (by omega)), (Fr.set Fr.rfl' (FV_i hi hx hb)).trans hm.2.2⟩)
theorem DDk.num {N : Nat} {ib a b : Int} {G : Int × Mem → Option Mem} (h : ∀ v, DDk ib (fun m => G (v, m))) : DDk ib (fun m => (pM_number N m a b).bind G) := by
  intro m h8 h29
  show Rn ((pM_number N m a b).bind G) _
  rw [rd_num h8]
  exact h 0 m h8 h29
theorem DDk.cell {N : Nat} {ib : Int} {G : Int × Mem → Option Mem} (hib : ib = 0 ∨ ib = 1) (h : ∀ v, DDk ib (fun m => G (v, m))) : DDk ib (fun m => (pM_cellTold N m).bind G) := by
  intro m h8 h29
  show Rn ((pM_cellTold N m).bind G) _
  rw [rd_cell h8 (by omega)]
  exact h 0 m h8 h29
theorem DDk.word {N : Nat} {ib w : Int} {G : Mem → Option Mem} (h : DDk ib G) : DDk ib (fun m => (pM_must_ N m w).bind G) := by
  intro m h8 h29
  show Rn ((pM_must_ N m w).bind G) _
  rw [rd_must h8]
  exact h m h8 h29
theorem GQz_dd {ib x : Int} : DDk ib (GQz x) := by
  intro m h8 h29
  show Rn (if m 475 8 = 0 then _ else _) _
  exact rn_f (by omega) (rn_s ⟨rfl, rfl, Fr.rfl'⟩)
theorem GQ4_dd {N : Nat} {ib i x : Int} (hib : ib = 0 ∨ ib = 1) (hi : 0 ≤ i ∧ i < 6) (hx : x = 6 * ib + i) : DDk ib (GQ4 N x) := DDk.word (DDk.num (fun _ => GI_dd hib hi hx (by omega) GQz_dd))
theorem GQ3_dd {N : Nat} {ib i x : Int} (hib : ib = 0 ∨ ib = 1) (hi : 0 ≤ i ∧ i < 6) (hx : x = 6 * ib + i) : DDk ib (GQ3 N x) := DDk.word (DDk.num (fun _ => GI_dd hib hi hx (by omega) (GQ4_dd hib hi hx)))
theorem GQ2_dd {N : Nat} {ib i x : Int} (hib : ib = 0 ∨ ib = 1) (hi : 0 ≤ i ∧ i < 6) (hx : x = 6 * ib + i) : DDk ib (GQ2 N x) := DDk.word (DDk.num (fun _ => GI_dd hib hi hx (by omega) (GQ3_dd hib hi hx)))
theorem GQ1_dd {N : Nat} {ib i x : Int} (hib : ib = 0 ∨ ib = 1) (hi : 0 ≤ i ∧ i < 6) (hx : x = 6 * ib + i) : DDk ib (GQ1 N x) := DDk.word (DDk.cell hib (fun _ => GI_dd hib hi hx (by omega) (GQ2_dd hib hi hx)))
/-- what is known of the reference's memory within a person's statement -/
def FNi (x : Int) : Int → Int → Prop := fun b j => FRa b j ∨ (((481 ≤ b ∧ b ≤ 484) ∨ b = 490) ∧ j = x)
def PN (RT : Int → Mem → Prop) (ib k0 : Int) (mc : Mem) (x : Int) (vals : Int → Int) (D : Int → Prop) (k : Int) : Mem → Mem → Prop := fun mr0 mr => RDY RT ib k0 mc mr0 ∧ LVr RT k mr ∧ Fr (FNi x) mr0 mr ∧ ∀ b, D b → mr b x = vals b
theorem SQt.mo {t : Mem} {RT : Int → Mem → Prop} {ib k0 : Int} {mc0 : Mem} {pre pre' : Mem → Mem → Prop} {rf : Mem → Option Mem} {X : Option (Int × Mem)} (h : Rn X (SQt t RT ib k0 mc0 pre rf)) (he : ∀ mr0 mr, pre' mr0 mr → pre mr0 mr) : Rn X (SQt t RT ib k0 mc0 pre' rf) := by
  refine rn_q h (fun r hr => ⟨hr.1, ?_⟩)
  rcases hr.2 with ⟨a1, k', b1, c1, d1⟩ | ⟨a1, b1, c1⟩
  · exact Or.inl ⟨a1, k', b1, c1, fun mr0 mr hp => d1 mr0 mr (he mr0 mr hp)⟩
  · exact Or.inr ⟨a1, b1, fun mr0 mr hp => c1 mr0 mr (he mr0 mr hp)⟩
theorem PN_nx {RT : Int → Mem → Prop} {ib k0 k k' x : Int} {mc : Mem} {vals : Int → Int} {D : Int → Prop} (hD : ∀ b, D b → b ≠ 475) {mr0 m' : Mem} (h : nxP RT k' (PN RT ib k0 mc x vals D k) mr0 m') : PN RT ib k0 mc x vals D k' mr0 m' := by
  obtain ⟨mr, h1, h2, h3⟩ := h
  refine ⟨h1.1, h3, h1.2.2.1.trans (h2.mono (fun b j c => Or.inl c)), fun b hb => ?_⟩
  rw [h2 b x (fun c => hD b hb c.1)]
  exact h1.2.2.2 b hb
theorem PN_LVf {RT : Int → Mem → Prop} {ib k0 k i x : Int} {mc : Mem} {vals : Int → Int} {D : Int → Prop} (hi : 0 ≤ i ∧ i < 6) (hx : x = 6 * ib + i) : LVf RT ib k (PN RT ib k0 mc x vals D k) := by
  intro mr0 mr h
  refine ⟨h.2.1, h.2.2.1.mono (fun b j c => ?_), ?_⟩
  · rcases c with c | ⟨c, rfl⟩
    · exact FV_a c
    · exact FV_i hi hx c
  · rw [h.2.2.1 475 29 (by unfold FNi FRa; omega)]
    exact h.1.2.1
theorem PN_set {N : Nat} {t : Mem} {RT : Int → Mem → Prop} {ib k0 k x b : Int} {mc : Mem} {vals : Int → Int} {D : Int → Prop} (hL : LX N t RT) (hb : (481 ≤ b ∧ b ≤ 484) ∨ b = 490) {mr0 mr : Mem} (h : PN RT ib k0 mc x vals D k mr0 mr) : PN RT ib k0 mc x vals (fun c => D c ∨ c = b) k mr0 (mset mr b x (vals b)) := by
  refine ⟨h.1, ⟨hL.2.1 _ _ _ h.2.1.1 (fun c j q => mset_o (by omega)), by rw [mset_o (by omega)]; exact h.2.1.2⟩, Fr.set h.2.2.1 (Or.inr ⟨hb, rfl⟩), fun c hc => ?_⟩
  by_cases q : c = b
  · subst q
    exact mset_s rfl rfl
  · rw [mset_o (by omega)]
    exact h.2.2.2 c (hc.resolve_right q)
/-- the reference notes a value and goes on -/
theorem j_note {N : Nat} {t mc0 mc : Mem} {RT : Int → Mem → Prop} {ib k0 k k1 i x b v : Int} {vals : Int → Int} {D : Int → Prop} {K : Mem → Option Mem} {X : Option (Int × Mem)} (hL : LX N t RT) (hib : ib = 0 ∨ ib = 1) (hi : 0 ≤ i ∧ i < 6) (hx : x = 6 * ib + i) (hb : (481 ≤ b ∧ b ≤ 484) ∨ b = 490) (hv : vals b = v) (h : Rn X (SQt t RT ib k0 mc0 (PN RT ib k1 mc x vals (fun c => D c ∨ c = b) k) K)) : Rn X (SQt t RT ib k0 mc0 (PN RT ib k1 mc x vals D k) (fun m => GI b x K (v, m))) := by
  refine rn_q h (fun r hr => ⟨hr.1, ?_⟩)
  have up : ∀ mr0 mr, PN RT ib k1 mc x vals D k mr0 mr → ∀ Q, (∀ m', PN RT ib k1 mc x vals (fun c => D c ∨ c = b) k mr0 m' → Rn (K m') Q) → Rn (GI b x K (v, mr)) Q := by
    intro mr0 mr hp Q hQ
    show Rn (if 0 ≤ x ∧ x < 12 then _ else _) _
    refine rn_t (by omega) (rn_v (hQ _ ?_))
    rw [← hv]
    exact PN_set hL hb hp
  rcases hr.2 with ⟨a1, k', b1, c1, d1⟩ | ⟨a1, b1, c1⟩
  · exact Or.inl ⟨a1, k', b1, c1, fun mr0 mr hp => up mr0 mr hp _ (fun m' hm => d1 mr0 m' hm)⟩
  · exact Or.inr ⟨a1, b1, fun mr0 mr hp => up mr0 mr hp _ (fun m' hm => c1 mr0 m' hm)⟩
