/-! SUMS: a row of codes (kind, number) on a stack; 0 number, 1 fact, 2 not, 3 if, 4 .. 15 two-handed -/
theorem rn_b2 {α β γ : Type} {x : Option (α × β)} {f : α × β → Option γ} {P : α → β → Prop} {Q : γ → Prop} (h : Rn x (fun p => P p.1 p.2)) (k : ∀ a b, P a b → Rn (f (a, b)) Q) : Rn (x.bind f) Q := by
  obtain ⟨⟨a, b⟩, rfl, h⟩ := h
  exact k a b h
theorem rn_s2 {α β : Type} {a : α} {b : β} {P : α → β → Prop} (h : P a b) : Rn (some (a, b)) (fun p => P p.1 p.2) := ⟨(a, b), rfl, h⟩
def cl (x : Int) : Int := max (-1000000) (min 1000000 x)
theorem cl_in (x : Int) : -1000000 ≤ cl x ∧ cl x ≤ 1000000 := by unfold cl; omega
theorem cl_id {x : Int} (h : -1000000 ≤ x ∧ x ≤ 1000000) : cl x = x := by unfold cl; omega
def big (x : Int) : Prop := -1000000 ≤ x ∧ x ≤ 1000000
theorem natAbs_big {x : Int} (h : big x) : x.natAbs ≤ 1000000 := by unfold big at h; omega
theorem d64_eq {a b : Int} (ha : big a) (hb : big b) : d64 a b = a.tdiv b ∧ big (a.tdiv b) := by
  have h1 : (a.tdiv b).natAbs ≤ 1000000 := by
    rw [Int.natAbs_tdiv]
    exact Nat.le_trans (Nat.div_le_self _ _) (natAbs_big ha)
  have h2 : big (a.tdiv b) := by unfold big; omega
  refine ⟨?_, h2⟩
  unfold big at ha hb h2
  unfold d64
  rw [Int64.toInt_div, to64 ⟨by omega, by omega⟩, to64 ⟨by omega, by omega⟩]
  exact Int.bmod_eq_of_le (by omega) (by omega)
theorem mul_big {a b : Int} (ha : a.natAbs ≤ 1000001) (hb : b.natAbs ≤ 1000001) : -1000002000001 ≤ a * b ∧ a * b ≤ 1000002000001 := by
  have h : (a * b).natAbs ≤ 1000001 * 1000001 := by
    rw [Int.natAbs_mul]
    exact Nat.mul_le_mul ha hb
  omega
theorem r64_eq {a b : Int} (ha : big a) (hb : big b) : r64 a b = a - d64 a b * b := by
  have h := (d64_eq ha hb)
  have h1 := mul_big (a := d64 a b) (b := b) (by rw [h.1]; have := natAbs_big h.2; omega) (by have := natAbs_big hb; omega)
  have h2 : Int64.ofInt a / Int64.ofInt b = Int64.ofInt (d64 a b) := by unfold d64; rw [of64]
  unfold r64
  rw [h2, mul64, sub64, w64_eq (x := d64 a b * b) (by omega) (by omega), to64]
  · exact w64_eq (by unfold big at ha; omega) (by unfold big at ha; omega)
  · exact inL_64 _
theorem x64_neg {a b : Int} (ha : inL a) (hb : inL b) : x64 a b < 0 ↔ ¬ ((a < 0) ↔ (b < 0)) := by
  have hs : ∀ z : Int64, z.toInt < 0 ↔ z.toBitVec.msb = true := fun z => by
    rw [BitVec.msb_eq_toInt]
    show _ ↔ decide (z.toInt < 0) = true
    simp
  unfold x64
  rw [hs, Int64.toBitVec_xor, BitVec.msb_xor]
  have h1 := hs (Int64.ofInt a)
  have h2 := hs (Int64.ofInt b)
  rw [to64 ha] at h1
  rw [to64 hb] at h2
  rw [h1, h2]
  cases (Int64.ofInt a).toBitVec.msb <;> cases (Int64.ofInt b).toBitVec.msb <;> decide
def flo (a b : Int) : Int := if a - d64 a b * b ≠ 0 ∧ ¬ ((a < 0) ↔ (b < 0)) then d64 a b - 1 else d64 a b
theorem flo_in {a b : Int} (ha : big a) (hb : big b) : (flo a b).natAbs ≤ 1000001 := by
  have h := d64_eq ha hb
  have h1 := h.2
  rw [← h.1] at h1
  unfold big at h1
  unfold flo
  split <;> omega
def raw2 (k a b : Int) : Int := if k = 4 then a + b else if k = 5 then a - b else if k = 6 then a * b else if k = 7 then (if b = 0 then 0 else flo a b) else if k = 8 then (if b = 0 then 0 else a - b * flo a b) else if k = 9 then min a b else if k = 10 then max a b else if k = 11 then (if a < b then 1 else 0) else if k = 12 then (if b < a then 1 else 0) else if k = 13 then (if a = b then 1 else 0) else if k = 14 then a64 a b else o64 a b
def op2 (k a b : Int) : Int := cl (raw2 k a b)
theorem big_L {x : Int} (h : big x) : inL x := by unfold big at h; unfold inL; omega
theorem e_floorDiv (m : Mem) {a b : Int} (ha : big a) (hb : big b) (h0 : b ≠ 0) : pJ_floorDiv_f86c9 m a b = some (flo a b) := by
  have h := d64_eq ha hb
  have h1 := h.2
  rw [← h.1] at h1
  have h2 := mul_big (a := d64 a b) (b := b) (by have := natAbs_big h1; omega) (by have := natAbs_big hb; omega)
  have h3 := x64_neg (big_L ha) (big_L hb)
  unfold big at h1
  unfold pJ_floorDiv_f86c9 flo
  rw [if_pos h0]
  show (if x64 a b < 0 then if w64 (d64 a b * b) = a then some (d64 a b) else some (w64 (d64 a b - 1)) else some (d64 a b)) = _
  rw [w64_eq (x := d64 a b * b) (by omega) (by omega), w64_eq (x := d64 a b - 1) (by omega) (by omega)]
  by_cases q : x64 a b < 0
  · rw [if_pos q]
    by_cases q2 : d64 a b * b = a
    · rw [if_pos q2, if_neg (by omega)]
    · rw [if_neg q2, if_pos ⟨by omega, h3.mp q⟩]
  · rw [if_neg q, if_neg (fun c => q (h3.mpr c.2))]
theorem e_floorMod (m : Mem) {a b : Int} (ha : big a) (hb : big b) (h0 : b ≠ 0) : pJ_floorMod_f86c9 m a b = some (a - b * flo a b) := by
  have h := d64_eq ha hb
  have h1 := h.2
  rw [← h.1] at h1
  have h2 := mul_big (a := d64 a b) (b := b) (by have := natAbs_big h1; omega) (by have := natAbs_big hb; omega)
  have h3 := x64_neg (big_L ha) (big_L hb)
  have hb' := hb
  have ha' := ha
  unfold big at h1 hb' ha'
  have e1 : b * d64 a b = d64 a b * b := Int.mul_comm _ _
  have e2 : b * (d64 a b - 1) = d64 a b * b - b := by rw [Int.mul_sub, e1, Int.mul_one]
  unfold pJ_floorMod_f86c9 flo
  rw [if_pos h0, r64_eq ha hb]
  show (if x64 a b < 0 then if a - d64 a b * b = 0 then some (a - d64 a b * b) else some (w64 (a - d64 a b * b + b)) else some (a - d64 a b * b)) = _
  rw [w64_eq (x := a - d64 a b * b + b) (by omega) (by omega)]
  by_cases q : x64 a b < 0
  · rw [if_pos q]
    by_cases q2 : a - d64 a b * b = 0
    · rw [if_pos q2, if_neg (fun c => c.1 q2), e1]
    · rw [if_neg q2, if_pos ⟨q2, h3.mp q⟩, e2]
      congr 1
      omega
  · rw [if_neg q, if_neg (fun c => q (h3.mpr c.2)), e1]
theorem e_joined (m : Mem) {k a b : Int} (hk : 4 ≤ k ∧ k ≤ 15) (ha : big a) (hb : big b) : pU_joined m k a b = some (op2 k a b) := by
  have ha' := ha
  have hb' := hb
  unfold big at ha' hb'
  have hm := mul_big (a := a) (b := b) (by omega) (by omega)
  have hc : ∀ x : Int, w32 (max (-1000000) (min 1000000 x)) = cl x := fun x => w32_eq (by omega) (by omega)
  unfold pU_joined op2 raw2
  rcases (show k = 4 ∨ k = 5 ∨ k = 6 ∨ k = 7 ∨ k = 8 ∨ k = 9 ∨ k = 10 ∨ k = 11 ∨ k = 12 ∨ k = 13 ∨ k = 14 ∨ k = 15 by omega) with rfl | rfl | rfl | rfl | rfl | rfl | rfl | rfl | rfl | rfl | rfl | rfl
  · show some (w32 (max (-1000000) (min 1000000 (w64 (a + b))))) = _
    rw [hc, w64_eq (by omega) (by omega)]; rfl
  · show some (w32 (max (-1000000) (min 1000000 (w64 (a - b))))) = _
    rw [hc, w64_eq (by omega) (by omega)]; rfl
  · show some (w32 (max (-1000000) (min 1000000 (w64 (a * b))))) = _
    rw [hc, w64_eq (by omega) (by omega)]; rfl
  · by_cases h0 : b = 0
    · simp [h0, hc]
    · simp [h0, hc, e_floorDiv m ha hb h0]
  · by_cases h0 : b = 0
    · simp [h0, hc]
    · simp [h0, hc, e_floorMod m ha hb h0]
  · simp [hc]
  · simp [hc]
  · by_cases h0 : a < b <;> simp [h0, hc]
  · by_cases h0 : b < a <;> simp [h0, hc]
  · by_cases h0 : a = b <;> simp [h0, hc]
  · simp [hc]
  · simp [hc]
theorem e_within (m : Mem) (x : Int) : pM_within m x = some (cl x) := by
  unfold pM_within cl
  by_cases h1 : 1000000 < x
  · rw [if_pos h1]; congr 1; omega
  · rw [if_neg h1]
    by_cases h2 : x < -1000000
    · rw [if_pos h2]; congr 1; omega
    · rw [if_neg h2]; congr 1; omega
theorem e_floor (m : Mem) {a b : Int} (ha : big a) (hb : big b) : pM_floor m a b = some (if b = 0 then 0 else flo a b) := by
  have h := d64_eq ha hb
  have h1 := h.2
  rw [← h.1] at h1
  unfold big at h1
  unfold pM_floor
  by_cases h0 : b = 0
  · rw [if_pos h0, if_pos h0]
  · rw [if_neg h0, if_neg h0, if_pos h0, r64_eq ha hb]
    show (if b ≠ 0 then if a - d64 a b * b = 0 then some (d64 a b) else if (if a < 0 then (1 : Int) else 0) = (if b < 0 then 1 else 0) then some (d64 a b) else some (w64 (d64 a b - 1)) else none) = _
    rw [if_pos h0, w64_eq (by omega) (by omega)]
    unfold flo
    by_cases q1 : a - d64 a b * b = 0
    · rw [if_pos q1, if_neg (fun c => c.1 q1)]
    · rw [if_neg q1]
      by_cases q2 : a < 0 <;> by_cases q3 : b < 0 <;> simp [q1, q2, q3]
theorem b_and64 : ∀ a b : Int, (a = 0 ∨ a = 1) → (b = 0 ∨ b = 1) → big (a64 a b) ∧ big (o64 a b) ∧ (a64 a b = 0 ∨ a64 a b = 1) ∧ (o64 a b = 0 ∨ o64 a b = 1) := by
  intro a b ha hb
  unfold big
  rcases ha with rfl | rfl <;> rcases hb with rfl | rfl <;> decide
theorem e_two (m : Mem) {k a b : Int} (hk : 4 ≤ k ∧ k ≤ 15) (ha : big a) (hb : big b) (hab : 14 ≤ k → (a = 0 ∨ a = 1) ∧ (b = 0 ∨ b = 1)) : pM_two m (k + 27) a b = some (op2 k a b) := by
  have ha' := ha
  have hb' := hb
  unfold big at ha' hb'
  have hm := mul_big (a := a) (b := b) (by omega) (by omega)
  have hf := flo_in ha hb
  have hm2 := mul_big (a := b) (b := flo a b) (by omega) hf
  have c00 : cl 0 = 0 := by decide
  have c01 : cl 1 = 1 := by decide
  unfold pM_two op2 raw2
  rcases (show k = 4 ∨ k = 5 ∨ k = 6 ∨ k = 7 ∨ k = 8 ∨ k = 9 ∨ k = 10 ∨ k = 11 ∨ k = 12 ∨ k = 13 ∨ k = 14 ∨ k = 15 by omega) with rfl | rfl | rfl | rfl | rfl | rfl | rfl | rfl | rfl | rfl | rfl | rfl
  · simp [e_within, w64_eq (x := a + b) (by omega) (by omega)]
  · simp [e_within, w64_eq (x := a - b) (by omega) (by omega)]
  · simp [e_within, w64_eq (x := a * b) (by omega) (by omega)]
  · simp [e_within, e_floor m ha hb]
  · by_cases h0 : b = 0
    · simp [h0, c00]
    · simp [h0, e_within, e_floor m ha hb, w64_eq (x := b * flo a b) (by omega) (by omega), w64_eq (x := a - b * flo a b) (by omega) (by omega)]
  · have h : cl (min a b) = min a b := cl_id (by omega)
    by_cases h0 : a < b
    · simp [h, h0]; omega
    · simp [h, h0]; omega
  · have h : cl (max a b) = max a b := cl_id (by omega)
    by_cases h0 : b < a
    · simp [h, h0]; omega
    · simp [h, h0]; omega
  · by_cases h0 : a < b <;> simp [h0, c00, c01]
  · by_cases h0 : b < a <;> simp [h0, c00, c01]
  · by_cases h0 : a = b <;> simp [h0, c00, c01]
  · have h := hab (by omega)
    have h2 := b_and64 a b h.1 h.2
    simp [cl_id h2.1]
  · have h := hab (by omega)
    have h2 := b_and64 a b h.1 h.2
    simp [cl_id h2.2.1]
