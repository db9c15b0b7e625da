/-! VALLEY: the reference's look ahead -/
theorem r_ahd {N : Nat} {m : Mem} {T : Int → Int} {L e c s v x : Int} (hN : 2000 ≤ N) (h5 : m 475 5 = e) (h2 : m 475 2 = L) (hT : ∀ j, 0 ≤ j → j < L → m 476 j = T j) (hL : 0 ≤ L ∧ L ≤ 1600) (he : 0 ≤ e ∧ e ≤ L) (hk : TOKp T L e c s v x) : Rn (pM_ahead N m) (fun m' => RTc m' c s v ∧ (c ≠ 26 → c ≠ 27 → m' 475 5 = x) ∧ Fr FRa m m') := by
  obtain ⟨hsk, hk⟩ := hk
  have hes := hsk.1
  have hsL : s ≤ L := by
    by_cases q : e < s
    · have := (hsk.2.1 (s - 1) (by omega) (by omega)).1
      omega
    · omega
  unfold pM_ahead
  rw [h5]
  refine rn_v ?_
  unfold pM_ahead_L5
  rw [r_skip h2 hT hL.2 (s - e).toNat N e (by omega) he.1 (by omega) hsk]
  refine rn_l (fun m1 hm1 => rn_l (fun m2 hm2 => rn_l (fun m3 hm3 => rn_l (fun m4 hm4 => ?_))))
  have a4 : m4 475 4 = s := by rw [hm4, mset_o (by omega), hm3, mset_o (by omega), hm2, mset_o (by omega), hm1, mset_s rfl rfl]
  have a3 : m4 475 3 = 0 := by rw [hm4, mset_o (by omega), hm3, mset_s rfl rfl]
  have a12 : m4 475 12 = -1 := by rw [hm4, mset_s rfl rfl]
  have f4 : Fr FRa m m4 := by rw [hm4, hm3, hm2, hm1]; exact (((Fr.rfl'.set (by unfold FRa; omega)).set (by unfold FRa; omega)).set (by unfold FRa; omega)).set (by unfold FRa; omega)
  clear hm1 hm2 hm3 hm4
  have a2 : m4 475 2 = L := by rw [f4 _ _ (by unfold FRa; omega)]; exact h2
  have aT : ∀ j, 0 ≤ j → j < L → m4 476 j = T j := fun j j0 j1 => by rw [f4 _ _ (by unfold FRa; omega)]; exact hT j j0 j1
  rw [a2]
  by_cases qL : s < L
  case neg =>
    refine rn_f qL (rn_s ⟨⟨a4, Or.inr ?_⟩, ?_, f4⟩)
    · rcases hk with h | h | h | h | h
      · exact ⟨by omega, a12, Or.inl ⟨h.2.1, a3⟩⟩
      · exact absurd h.1 qL
      · exact absurd h.1 qL
      · exact absurd h.1 qL
      · exact absurd h.1 qL
    · intro c1
      rcases hk with h | h | h | h | h
      · exact absurd h.2.1 c1
      · exact absurd h.1 qL
      · exact absurd h.1 qL
      · exact absurd h.1 qL
      · exact absurd h.1 qL
  refine rn_t qL (rn_t (by omega) ?_)
  rw [aT s (by omega) qL]
  obtain ⟨yl, eyl, hyl⟩ := e_lett m4 (T s)
  obtain ⟨yd, eyd, hyd⟩ := e_digi m4 (T s)
  refine rn_e eyl (rn_t (by omega) (rn_e eyd ?_))
  have hk := hk.resolve_left (fun h => by omega)
  -- is it beside a run
  have inner : 0 < s → (if 0 ≤ w32 (s - 1) ∧ w32 (s - 1) < 1800 then (pM_isLetter m4 (m4 476 (w32 (s - 1)))).bind fun r110 => if r110 = 0 then if 0 ≤ w32 (s - 1) ∧ w32 (s - 1) < 1800 then (pM_isDigit m4 (m4 476 (w32 (s - 1)))).bind fun r124 => if r124 = 0 then some (m4) else (some (mset m4 475 12 s)).bind fun m132 => some (m132) else none else (some (mset m4 475 12 s)).bind fun m132 => some (m132) else none) = some (mset m4 475 12 (if isLt (T (s - 1)) ∨ isDg (T (s - 1)) then s else -1)) := fun q => by
    have e1 : mset m4 475 12 (-1) = m4 := mset_id a12
    rw [w32_eq (x := s - 1) (by omega) (by omega), if_pos (by omega), aT (s - 1) (by omega) (by omega)]
    obtain ⟨zl, ezl, hzl⟩ := e_lett m4 (T (s - 1))
    obtain ⟨zd, ezd, hzd⟩ := e_digi m4 (T (s - 1))
    rw [ezl, Option.bind_some]
    rcases hzl with ⟨z1, z2⟩ | ⟨z1, z2⟩
    · rw [if_neg (by omega), if_pos (Or.inl z2)]; rfl
    · rw [if_pos z1, if_pos (by omega), ezd, Option.bind_some]
      rcases hzd with ⟨z3, z4⟩ | ⟨z3, z4⟩
      · rw [if_neg (by omega), if_pos (Or.inr z4)]; rfl
      · rw [if_pos z3, if_neg (fun c => c.elim z2 z4), e1]
  sorry
