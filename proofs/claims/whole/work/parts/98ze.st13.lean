/-! VALLEY: statements side by side: PERSON, what both hold after it -/
theorem person_DR {ib i x c : Int} {mc mF mr mrF : Mem} (hib : ib = 0 ∨ ib = 1) (hi : 0 ≤ i ∧ i < 6) (hx : x = 6 * ib + i) (h3 : mc 19 3 = i) (hD : DR (NP ib mc mr)) (F1 : Fr (fun b j => b = 18 ∨ (b = 21 ∧ 6 * i ≤ j ∧ j < 6 * i + 6) ∨ ((22 ≤ b ∧ b ≤ 25) ∧ j = i) ∨ (b = 19 ∧ j = 3)) mc mF) (F2 : Fr (fun b j => FRa b j ∨ (((481 ≤ b ∧ b ≤ 484) ∨ b = 490) ∧ j = x) ∨ (b = 480 ∧ j = ib)) mr mrF) (v3 : mF 19 3 = i + 1) (v480 : mrF 480 ib = i + 1) (hq : Dq (NP ib mF mrF) i) : DR (NP ib mF mrF) := by
  have P4 : ∀ b j, ((b = 475 ∧ (j = 13 ∨ j = 41 ∨ j = 28)) ∨ (b ≠ 475 ∧ ¬ (b = 4 ∧ 6 * i ≤ j ∧ j < 6 * i + 6) ∧ ¬ ((5 ≤ b ∧ b ≤ 8) ∧ j = i) ∧ ¬ (b = 2 ∧ j = 3) ∧ ¬ (((481 ≤ b ∧ b ≤ 484) ∨ b = 490) ∧ j = x) ∧ ¬ (b = 480 ∧ j = ib))) → NP ib mF mrF b j = NP ib mc mr b j := by
    intro b j c
    refine NP_fr F1 F2 (fun z v => ?_) (fun z => ?_)
    · rcases v with v | v | v | v
      · omega
      · omega
      · omega
      · omega
    · by_cases q : b = 475 ∧ (j = 13 ∨ j = 41)
      · exact Or.inl q
      · refine Or.inr (fun v => ?_)
        rcases v with v | v | v
        · unfold FRa at v; omega
        · omega
        · omega
  have w3 : NP ib mF mrF 2 3 = i + 1 := by rw [NP_pl (by omega)]; exact v3
  have w480 : NP ib mF mrF 480 ib = i + 1 := by rw [NP_rf (by omega) (by omega)]; exact v480
  have n13 : NP ib mF mrF 475 13 = ib := NP_bk
  have nb : NP ib mc mr 475 13 = ib := NP_bk
  have n3 : NP ib mc mr 2 3 = i := by rw [NP_pl (by omega)]; exact h3
  generalize NP ib mF mrF = P' at P4 w3 w480 n13 hq ⊢
  generalize NP ib mc mr = P at P4 nb n3 hD
  have e28 : P' 475 28 = P 475 28 := P4 _ _ (by omega)
  refine ⟨hD.1.fr (fun b j c => P4 b j (by omega)), hD.2.1.fr (fun b j c => P4 b j (by omega)), hD.2.2.1.fr (fun b j c => P4 b j (by omega)), ⟨by omega, by rw [n13, w3, w480], fun j j0 j1 => ?_⟩, fun v v0 v1 => (hD.2.2.2.2.1 v v0 v1).fr (fun b j c => P4 b j (by omega)) (by omega), by rw [e28]; exact hD.2.2.2.2.2⟩
  by_cases q : j = i
  · subst q; exact hq
  · refine (hD.2.2.2.1.2.2 j j0 (by omega)).fr (fun b l c => P4 b l ?_)
    rw [nb] at c
    omega
