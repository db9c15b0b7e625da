/-! THE FIRST MEMORY -/
theorem fk3_a : ∀ t, t < 14 → ∀ n, n < 100 → (fk t).getD n 0 = 3 → t = 5 ∧ n = 10 := by decide +kernel
theorem fk_len : ∀ t, t < 14 → (fk t).length ≤ 100 := by decide +kernel
theorem fk_big {t : Nat} (h : 14 ≤ t) : fk t = [] := by
  unfold fk
  split <;> first | omega | rfl
theorem kd_3 {t : Nat} {k : Int} (h : kd t k = 3) : t = 5 ∧ k = 10 := by
  unfold kd at h
  split at h
  · cases h
  · cases h
  · cases h
  · cases h
  · cases h
  · cases h
  · by_cases hk : k < 0
    · rw [if_pos hk] at h; cases h
    · rw [if_neg hk] at h
      by_cases ht : t < 14
      · by_cases hn : k.toNat < 100
        · have h1 := fk3_a t ht k.toNat hn h
          exact ⟨h1.1, by omega⟩
        · have h2 := fk_len t ht
          rw [List.getD_eq_getElem?_getD, List.getElem?_eq_none (by omega)] at h
          cases h
      · rw [fk_big (by omega)] at h
        cases h
theorem i0_ok (a k : Int) : i0 a (ty a) k = 0 ∨ (kd (ty a) k < 2 ∧ inR (i0 a (ty a) k)) ∨ i0 a (ty a) k = 26 := by
  by_cases h1 : ty a = 5 ∧ k = 2
  · rw [h1.1, h1.2]; exact Or.inr (Or.inl ⟨by decide, by rw [show i0 a 5 2 = -1 from rfl]; exact ⟨by decide, by decide⟩⟩)
  by_cases h2 : ty a = 5 ∧ k = 10
  · rw [h2.1, h2.2]; exact Or.inr (Or.inr rfl)
  by_cases h3 : ty a = 9 ∧ k = 7
  · rw [h3.1, h3.2]; exact Or.inr (Or.inl ⟨by decide, by rw [show i0 a 9 7 = 63 from rfl]; exact ⟨by decide, by decide⟩⟩)
  by_cases h4 : ty a = 11 ∧ k = 5
  · rw [h4.1, h4.2]; exact Or.inr (Or.inl ⟨by decide, by rw [show i0 a 11 5 = -1 from rfl]; exact ⟨by decide, by decide⟩⟩)
  by_cases h5 : ty a = 12 ∧ k = 14
  · rw [h5.1, h5.2]; exact Or.inr (Or.inl ⟨by decide, by rw [show i0 a 12 14 = 1 from rfl]; exact ⟨by decide, by decide⟩⟩)
  by_cases h6 : ty a = 13 ∧ (k = 9 ∨ k = 11 ∨ k = 12 ∨ k = 62)
  · rw [h6.1]
    rcases h6.2 with rfl | rfl | rfl | rfl
    · exact Or.inr (Or.inl ⟨by decide, by rw [show i0 a 13 9 = -1 from rfl]; exact ⟨by decide, by decide⟩⟩)
    · exact Or.inr (Or.inl ⟨by decide, by rw [show i0 a 13 11 = -1 from rfl]; exact ⟨by decide, by decide⟩⟩)
    · exact Or.inr (Or.inl ⟨by decide, by rw [show i0 a 13 12 = -1 from rfl]; exact ⟨by decide, by decide⟩⟩)
    · exact Or.inr (Or.inl ⟨by decide, by rw [show i0 a 13 62 = -1 from rfl]; exact ⟨by decide, by decide⟩⟩)
  by_cases h7 : ty a = 13 ∧ (k = 29 ∨ k = 53)
  · rw [h7.1]
    rcases h7.2 with rfl | rfl
    · exact Or.inr (Or.inl ⟨by decide, by rw [show i0 a 13 29 = 1 from rfl]; exact ⟨by decide, by decide⟩⟩)
    · exact Or.inr (Or.inl ⟨by decide, by rw [show i0 a 13 53 = 1 from rfl]; exact ⟨by decide, by decide⟩⟩)
  by_cases h8 : a = 486 ∧ 0 ≤ k ∧ k < 6
  · obtain ⟨rfl, h8⟩ := h8
    rw [t486]
    refine Or.inr (Or.inl ⟨by rw [kd20]; decide, ?_⟩)
    unfold i0
    rw [if_neg (by omega), if_neg (by omega), if_neg (by omega), if_neg (by omega), if_neg (by omega), if_neg (by omega), if_neg (by omega), if_pos ⟨rfl, h8⟩]
    exact ⟨by decide, by decide⟩
  · refine Or.inl ?_
    unfold i0
    rw [if_neg h1, if_neg h2, if_neg h3, if_neg h4, if_neg h5, if_neg h6, if_neg h7, if_neg h8]
theorem VT_mI : VT mI := fun a k => by
  unfold okV mI
  by_cases h2 : kd (ty a) k = 2
  · rw [if_pos h2, h2]
    exact fun _ => rfl
  · rw [if_neg h2]
    have h0 := i0_ok a k
    have hr : inR (i0 a (ty a) k) := by
      rcases h0 with h | h | h
      · rw [h]; exact ⟨by decide, by decide⟩
      · exact h.2
      · rw [h]; exact ⟨by decide, by decide⟩
    split
    · exact hr
    · exact inL_of hr
    · rename_i h; exact absurd h h2
    · rename_i h
      have h3 := kd_3 h
      rw [h3.1, h3.2]
      exact t26
    · rename_i n0 n1 n2 n3
      rcases h0 with h | h | h
      · exact Or.inl h
      · exfalso
        have h9 := h.1
        rcases h9' : kd (ty a) k with _ | _ | m
        · exact n0 h9'
        · exact n1 h9'
        · omega
      · exfalso
        have h5 : ty a = 5 ∧ k = 10 := by
          unfold i0 at h
          split at h
          · cases h
          split at h
          · assumption
          split at h
          · cases h
          split at h
          · cases h
          split at h
          · cases h
          split at h
          · cases h
          split at h
          · cases h
          split at h
          · cases h
          · cases h
        rw [h5.1, h5.2] at n3
        exact n3 rfl
/-- the two constructors from nothing leave mI -/
theorem fill_all (B : Mem) (a k : Int) (h : 0 ≤ a ∧ a < 523) : fill (fill B 0 475) 475 523 a k = mI a k := by
  unfold fill
  by_cases h1 : 475 ≤ a ∧ a < 523
  · rw [if_pos h1]
  · rw [if_neg h1, if_pos (by omega)]
