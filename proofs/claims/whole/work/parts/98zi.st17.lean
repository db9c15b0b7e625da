/-! VALLEY: statements side by side: PERSON, two names are one when their packed words are -/
def NMr (f : Int → Int) (n : Nat) : Prop := (1 ≤ n ∧ n ≤ 6) ∧ (∀ k : Int, 0 ≤ k → k < n → 1 ≤ f k ∧ f k ≤ 26) ∧ ∀ k : Int, (n : Int) ≤ k → k < 6 → f k = 0
theorem name_eq {f g : Int → Int} {n1 n2 : Nat} (hf : NMr f n1) (hg : NMr g n2) : (∀ j : Int, 0 ≤ j → j < 6 → f j = g j) ↔ packW (fun k => f k + 96) n1 = packW (fun k => g k + 96) n2 := by
  obtain ⟨f1, f2, f3⟩ := hf
  obtain ⟨g1, g2, g3⟩ := hg
  constructor
  · intro h
    have hn : n1 = n2 := by
      rcases Nat.lt_trichotomy n1 n2 with q | q | q
      · have a1 := f3 n1 (Int.le_refl _) (by omega)
        have a2 := g2 n1 (by omega) (by omega)
        have a3 := h n1 (by omega) (by omega)
        omega
      · exact q
      · have a1 := g3 n2 (Int.le_refl _) (by omega)
        have a2 := f2 n2 (by omega) (by omega)
        have a3 := h n2 (by omega) (by omega)
        omega
    subst hn
    exact packW_ext (fun j hj => by show f j + 96 = g j + 96; rw [h j (by omega) (by omega)])
  · intro h
    obtain ⟨e, a⟩ := packW_inj n1 n2 _ _ (fun j hj => by
      have := f2 j (by omega) (by omega)
      show 1 ≤ f j + 96 ∧ f j + 96 ≤ 255
      omega) (fun j hj => by
      have := g2 j (by omega) (by omega)
      show 1 ≤ g j + 96 ∧ g j + 96 ≤ 255
      omega) h
    subst e
    intro j j0 j1
    by_cases q : j < n1
    · have h1 := a j.toNat (by omega)
      have e : ((j.toNat : Nat) : Int) = j := by omega
      have h2 : f (j.toNat : Int) + 96 = g (j.toNat : Int) + 96 := h1
      rw [e] at h2
      omega
    · rw [f3 j (by omega) j1, g3 j (by omega) j1]
/-- the row that the component wrote holds the text's word -/
theorem row_new {m : Mem} {T : Int → Int} {i n : Int} (hn : 1 ≤ n ∧ n ≤ 6) (hT : ∀ j, 0 ≤ j → j < n → 97 ≤ T j ∧ T j ≤ 122) (h : ∀ j, 0 ≤ j → j < 6 → m 21 (6 * i + j) = (if j < n then T j - 96 else 0)) : NMr (fun j => m 21 (6 * i + j)) n.toNat ∧ packW (fun k => m 21 (6 * i + k) + 96) n.toNat = packW T n.toNat := by
  refine ⟨⟨by omega, fun k k0 k1 => ?_, fun k k0 k1 => ?_⟩, packW_ext (fun j hj => ?_)⟩
  · show 1 ≤ m 21 (6 * i + k) ∧ m 21 (6 * i + k) ≤ 26
    rw [h k k0 (by omega), if_pos (by omega)]
    have := hT k k0 (by omega)
    omega
  · show m 21 (6 * i + k) = 0
    rw [h k (by omega) k1, if_neg (by omega)]
  · show m 21 (6 * i + j) + 96 = T j
    rw [h j (by omega) (by omega), if_pos (by omega)]
    omega
