/-! VALLEY: the reference's look ahead -/
theorem RUN_ex (P : Int → Prop) (T : Int → Int) (L : Int) : ∀ s, s ≤ L → ∃ x, RUNp P T L s x := by
  have h : ∀ (k : Nat) (s : Int), s + k = L → ∃ x, RUNp P T L s x := by
    intro k
    induction k with
    | zero => exact fun s hs => ⟨s, Int.le_refl _, fun j h0 h1 => by omega, fun c => by omega⟩
    | succ k ih =>
      intro s hs
      by_cases q : P (T s)
      · obtain ⟨x, h1, h2, h3⟩ := ih (s + 1) (by omega)
        refine ⟨x, by omega, fun j h0 h4 => ?_, h3⟩
        by_cases qj : j = s
        · rw [qj]; exact ⟨by omega, q⟩
        · exact h2 j (by omega) h4
      · exact ⟨s, Int.le_refl _, fun j h0 h1 => by omega, fun c => q c.2⟩
  exact fun s hs => h (L - s).toNat s (by omega)
theorem RUN_un {P : Int → Prop} {T : Int → Int} {L s x y : Int} (h : RUNp P T L s x) (k : RUNp P T L s y) : x = y := by
  by_cases q : x < y
  · exact absurd (k.2.1 x h.1 q) h.2.2
  · by_cases q2 : y < x
    · exact absurd (h.2.1 y k.1 q2) k.2.2
    · omega
theorem RUN_le {P : Int → Prop} {T : Int → Int} {L s x : Int} (h : RUNp P T L s x) (hs : s ≤ L) : x ≤ L := by
  by_cases q : s < x
  · have := (h.2.1 (x - 1) (by omega) (by omega)).1
    omega
  · omega
theorem r_ahd {N : Nat} {m : Mem} {T : Int → Int} {L e c s v x : Int} (hN : 2000 ≤ N) (h5 : m 475 5 = e) (h2 : m 475 2 = L) (hT : ∀ j, 0 ≤ j → j < L → m 476 j = T j) (hL : 0 ≤ L ∧ L ≤ 1600) (he : 0 ≤ e ∧ e ≤ L) (hk : TOKp T L e c s v x) : Rn (pM_ahead N m) (fun m' => RTc m' c s v ∧ (c ≠ 26 → c ≠ 27 → m' 475 5 = x ∧ (c ≤ 24 → m' 475 7 = packW (fun j => T (s + j)) v.toNat)) ∧ Fr FRa m m') := by
  obtain ⟨hsk, hk⟩ := hk
  have hes := hsk.1
  have hsL : s ≤ L := by
    by_cases q : e < s
    · have := (hsk.2.1 (s - 1) (by omega) (by omega)).1
      omega
    · omega
  unfold pM_ahead
  rw [h5]
  refine rn_v ?_
  unfold pM_ahead_L5
  rw [r_skip h2 hT hL.2 (s - e).toNat N e (by omega) he.1 (by omega) hsk]
  refine rn_l (fun m1 hm1 => rn_l (fun m2 hm2 => rn_l (fun m3 hm3 => rn_l (fun m4 hm4 => ?_))))
  have a4 : m4 475 4 = s := by rw [hm4, mset_o (by omega), hm3, mset_o (by omega), hm2, mset_o (by omega), hm1, mset_s rfl rfl]
  have a3 : m4 475 3 = 0 := by rw [hm4, mset_o (by omega), hm3, mset_s rfl rfl]
  have a12 : m4 475 12 = -1 := by rw [hm4, mset_s rfl rfl]
  have f4 : Fr FRa m m4 := by rw [hm4, hm3, hm2, hm1]; exact (((Fr.rfl'.set (by unfold FRa; omega)).set (by unfold FRa; omega)).set (by unfold FRa; omega)).set (by unfold FRa; omega)
  clear hm1 hm2 hm3 hm4
  have a2 : m4 475 2 = L := by rw [f4 _ _ (by unfold FRa; omega)]; exact h2
  have aT : ∀ j, 0 ≤ j → j < L → m4 476 j = T j := fun j j0 j1 => by rw [f4 _ _ (by unfold FRa; omega)]; exact hT j j0 j1
  rw [a2]
  by_cases qL : s < L
  case neg =>
    refine rn_f qL (rn_s ⟨⟨a4, Or.inr ?_⟩, ?_, f4⟩)
    · rcases hk with h | h | h | h | h
      · exact ⟨by omega, a12, Or.inl ⟨h.2.1, a3⟩⟩
      · exact absurd h.1 qL
      · exact absurd h.1 qL
      · exact absurd h.1 qL
      · exact absurd h.1 qL
    · intro c1
      rcases hk with h | h | h | h | h
      · exact absurd h.2.1 c1
      · exact absurd h.1 qL
      · exact absurd h.1 qL
      · exact absurd h.1 qL
      · exact absurd h.1 qL
  refine rn_t qL (rn_t (by omega) ?_)
  rw [aT s (by omega) qL]
  obtain ⟨yl, eyl, hyl⟩ := e_lett m4 (T s)
  obtain ⟨yd, eyd, hyd⟩ := e_digi m4 (T s)
  refine rn_e eyl (rn_t (by omega) (rn_e eyd ?_))
  have hk := hk.resolve_left (fun h => by omega)
  -- is it beside a run
  have inner : 0 < s → ∃ a : Int, (((isLt (T (s - 1)) ∨ isDg (T (s - 1))) ∧ a = s) ∨ (¬ (isLt (T (s - 1)) ∨ isDg (T (s - 1))) ∧ a = -1)) ∧ (if 0 ≤ w32 (s - 1) ∧ w32 (s - 1) < 1800 then (pM_isLetter m4 (m4 476 (w32 (s - 1)))).bind fun r110 => if r110 = 0 then if 0 ≤ w32 (s - 1) ∧ w32 (s - 1) < 1800 then (pM_isDigit m4 (m4 476 (w32 (s - 1)))).bind fun r124 => if r124 = 0 then some (m4) else (some (mset m4 475 12 s)).bind fun m132 => some (m132) else none else (some (mset m4 475 12 s)).bind fun m132 => some (m132) else none) = some (mset m4 475 12 a) := fun q => by
    have e1 : mset m4 475 12 (-1) = m4 := mset_id a12
    rw [w32_eq (x := s - 1) (by omega) (by omega), if_pos (by omega), aT (s - 1) (by omega) (by omega)]
    obtain ⟨zl, ezl, hzl⟩ := e_lett m4 (T (s - 1))
    obtain ⟨zd, ezd, hzd⟩ := e_digi m4 (T (s - 1))
    rw [ezl, Option.bind_some]
    rcases hzl with ⟨z1, z2⟩ | ⟨z1, z2⟩
    · rw [if_neg (by omega)]
      exact ⟨s, Or.inl ⟨Or.inl z2, rfl⟩, rfl⟩
    · rw [if_pos z1, if_pos (by omega), ezd, Option.bind_some]
      rcases hzd with ⟨z3, z4⟩ | ⟨z3, z4⟩
      · rw [if_neg (by omega)]
        exact ⟨s, Or.inl ⟨Or.inr z4, rfl⟩, rfl⟩
      · rw [if_pos z3]
        refine ⟨-1, Or.inr ⟨fun c => ?_, rfl⟩, by rw [e1]⟩
        rcases c with c | c
        · exact z2 c
        · exact z4 c
  have hadj : ∃ a : Int, (((isLt (T s) ∨ isDg (T s)) ∧ adjP T s ∧ a = s) ∨ (¬ ((isLt (T s) ∨ isDg (T s)) ∧ adjP T s) ∧ a = -1)) ∧ (if yl = 0 then if yd = 0 then some (m4) else if 0 < s then if 0 ≤ w32 (s - 1) ∧ w32 (s - 1) < 1800 then (pM_isLetter m4 (m4 476 (w32 (s - 1)))).bind fun r110 => if r110 = 0 then if 0 ≤ w32 (s - 1) ∧ w32 (s - 1) < 1800 then (pM_isDigit m4 (m4 476 (w32 (s - 1)))).bind fun r124 => if r124 = 0 then some (m4) else (some (mset m4 475 12 s)).bind fun m132 => some (m132) else none else (some (mset m4 475 12 s)).bind fun m132 => some (m132) else none else some (m4) else if 0 < s then if 0 ≤ w32 (s - 1) ∧ w32 (s - 1) < 1800 then (pM_isLetter m4 (m4 476 (w32 (s - 1)))).bind fun r110 => if r110 = 0 then if 0 ≤ w32 (s - 1) ∧ w32 (s - 1) < 1800 then (pM_isDigit m4 (m4 476 (w32 (s - 1)))).bind fun r124 => if r124 = 0 then some (m4) else (some (mset m4 475 12 s)).bind fun m132 => some (m132) else none else (some (mset m4 475 12 s)).bind fun m132 => some (m132) else none else some (m4)) = some (mset m4 475 12 a) := by
    have e1 : mset m4 475 12 (-1) = m4 := mset_id a12
    by_cases q0 : 0 < s
    · obtain ⟨a, h1, h2'⟩ := inner q0
      by_cases ql : yl = 0
      · rw [if_pos ql]
        by_cases qd : yd = 0
        · rw [if_pos qd]
          refine ⟨-1, Or.inr ⟨fun c => ?_, rfl⟩, by rw [e1]⟩
          rcases hyl with ⟨z, -⟩ | ⟨-, z⟩
          · omega
          · rcases hyd with ⟨z', -⟩ | ⟨-, z'⟩
            · omega
            · rcases c.1 with c | c
              · exact z c
              · exact z' c
        · rw [if_neg qd, if_pos q0, h2']
          have hd : isDg (T s) := by
            rcases hyd with ⟨-, z⟩ | ⟨z, -⟩
            · exact z
            · exact absurd z qd
          rcases h1 with ⟨h1, h3⟩ | ⟨h1, h3⟩
          · exact ⟨a, Or.inl ⟨Or.inr hd, ⟨q0, h1⟩, h3⟩, rfl⟩
          · exact ⟨a, Or.inr ⟨fun c => h1 c.2.2, h3⟩, rfl⟩
      · rw [if_neg ql, if_pos q0, h2']
        have hl : isLt (T s) := by
          rcases hyl with ⟨-, z⟩ | ⟨z, -⟩
          · exact z
          · exact absurd z ql
        rcases h1 with ⟨h1, h3⟩ | ⟨h1, h3⟩
        · exact ⟨a, Or.inl ⟨Or.inl hl, ⟨q0, h1⟩, h3⟩, rfl⟩
        · exact ⟨a, Or.inr ⟨fun c => h1 c.2.2, h3⟩, rfl⟩
    · refine ⟨-1, Or.inr ⟨fun c => q0 c.2.1, rfl⟩, ?_⟩
      rw [e1]
      by_cases ql : yl = 0
      · rw [if_pos ql]
        by_cases qd : yd = 0
        · rw [if_pos qd]
        · rw [if_neg qd, if_neg q0]
      · rw [if_neg ql, if_neg q0]
  obtain ⟨a, ha, eadj⟩ := hadj
  refine rn_e eadj ?_
  refine rn_l (fun m6 hm6 => rn_l (fun m7 hm7 => rn_l (fun m8 hm8 => ?_)))
  rw [w32_eq (x := s + 1) (by omega) (by omega)]
  refine rn_l (fun m9 hm9 => ?_)
  have b4 : m9 475 4 = s := by rw [hm9, mset_o (by omega), hm8, mset_o (by omega), hm7, mset_o (by omega), hm6, mset_o (by omega), mset_o (by omega)]; exact a4
  have b3 : m9 475 3 = 3 := by rw [hm9, mset_o (by omega), hm8, mset_s rfl rfl]
  have b12 : m9 475 12 = a := by rw [hm9, mset_o (by omega), hm8, mset_o (by omega), hm7, mset_o (by omega), hm6, mset_o (by omega), mset_s rfl rfl]
  have b6 : m9 475 6 = 0 := by rw [hm9, mset_o (by omega), hm8, mset_o (by omega), hm7, mset_o (by omega), hm6, mset_s rfl rfl]
  have b7 : m9 475 7 = 0 := by rw [hm9, mset_o (by omega), hm8, mset_o (by omega), hm7, mset_s rfl rfl]
  have b5 : m9 475 5 = s + 1 := by rw [hm9, mset_s rfl rfl]
  have f9 : Fr FRa m m9 := by
    rw [hm9, hm8, hm7, hm6]
    exact ((((f4.set (by unfold FRa; omega)).set (by unfold FRa; omega)).set (by unfold FRa; omega)).set (by unfold FRa; omega)).set (by unfold FRa; omega)
  clear hm6 hm7 hm8 hm9
  have c2 : m9 475 2 = L := by rw [f9 _ _ (by unfold FRa; omega)]; exact h2
  have cT : ∀ j, 0 ≤ j → j < L → m9 476 j = T j := fun j j0 j1 => by rw [f9 _ _ (by unfold FRa; omega)]; exact hT j j0 j1
  refine rn_jl (fun J hJ => ?_)
  rcases hyl with ⟨yl1, hlt⟩ | ⟨yl0, nlt⟩
  · -- a word
    have yd0 : yd = 0 := by
      rcases hyd with ⟨-, z⟩ | ⟨z, -⟩
      · unfold isLt at hlt; unfold isDg at z; omega
      · exact z
    have ndg : ¬ isDg (T s) := fun z => by unfold isLt at hlt; unfold isDg at z; omega
    refine rn_f (by omega) ?_
    subst hJ
    dsimp only
    rw [yl1, yd0, if_neg (by decide), if_neg (by decide)]
    refine rn_v (rn_l (fun m10 hm10 => rn_v ?_))
    have d3 : m10 475 3 = 1 := by rw [hm10, mset_s rfl rfl]
    have f10 : Fr (fun b j => b = 475 ∧ j = 3) m9 m10 := by rw [hm10]; exact Fr.rfl'.set ⟨rfl, rfl⟩
    clear hm10
    obtain ⟨x', hx'⟩ := RUN_ex isLt T L s hsL
    unfold pM_ahead_L204
    have hW := r_wordL (N := N) (m0 := m10) (T := T) (L := L) (s := s) (x := x') (a := a) (bo := fun _ _ _ => none) (Q := fun m' => RTc m' c s v ∧ (c ≠ 26 → c ≠ 27 → m' 475 5 = x ∧ (c ≤ 24 → m' 475 7 = packW (fun j => T (s + j)) v.toNat)) ∧ Fr FRa m m') (kk := fun z1_334 n334 => (some (mset n334 475 5 z1_334)).bind fun m336 => some m336) (by rw [f10 _ _ (by omega)]; exact c2) (fun j j0 j1 => by rw [f10 _ _ (by omega)]; exact cT j j0 j1) hL.2 (by omega) hx' (by omega) (fun m' g12 g7 gf => ?_) (x' - s).toNat N 0 m10 (by have := hx'.1; have : x' ≤ L := RUN_le hx' hsL; omega) (by have := hx'.1; omega) ?_ ?_ Fr.rfl'
    · rw [show s + ((0 : Nat) : Int) = s by omega] at hW
      exact hW
    · refine rn_v (rn_s ?_)
      have e12 : mset m' 475 5 x' 475 12 = m' 475 12 := mset_o (by omega)
      have e3 : mset m' 475 5 x' 475 3 = 1 := by rw [mset_o (by omega), gf _ _ (by omega)]; exact d3
      have e4 : mset m' 475 5 x' 475 4 = s := by rw [mset_o (by omega), gf _ _ (by omega), f10 _ _ (by omega)]; exact b4
      have e7 : mset m' 475 5 x' 475 7 = m' 475 7 := mset_o (by omega)
      have ff : Fr FRa m (mset m' 475 5 x') := ((f9.trans (f10.mono (fun b j z => by unfold FRa; omega))).trans (gf.mono (fun b j z => by unfold FRa; omega))).set (by unfold FRa; omega)
      rcases hk with h | h | h | h
      · -- adjacent
        have haa : a = s := by
          rcases ha with z | z
          · exact z.2.2
          · exact absurd ⟨h.2.1, h.2.2.1⟩ z.1
        rw [haa, if_neg (by omega)] at g12
        exact ⟨⟨e4, Or.inl ⟨h.2.2.2.1, Or.inl ⟨by rw [e12, g12, h.2.2.2.2], by omega⟩⟩⟩, fun _ c27 => absurd h.2.2.2.1 c27, ff⟩
      · obtain ⟨-, -, nadj, hrun, hcase⟩ := h
        have haa : a = -1 := by
          rcases ha with z | z
          · exact absurd z.2.1 nadj
          · exact z.2
        rw [haa, if_pos rfl] at g12
        have exx : x' = x := RUN_un hx' hrun
        rw [exx] at g12 g7 e12 e3 e4 e7 ff ⊢
        rcases hcase with ⟨z1, z2, z3⟩ | ⟨z1, z2, z3⟩
        · rw [if_pos z1] at g12
          exact ⟨⟨e4, Or.inl ⟨z2, Or.inl ⟨by rw [e12, g12, z3], by omega⟩⟩⟩, fun _ c27 => absurd z2 c27, ff⟩
        · rw [if_neg (by omega)] at g12
          rw [show min (x - s).toNat 6 = (x - s).toNat by omega] at g7
          refine ⟨⟨e4, Or.inr ⟨by have := z3.1; omega, by rw [e12]; exact g12, Or.inr (Or.inr (Or.inl ⟨z3.1.1, z3.1.2, e3, ?_⟩))⟩⟩, fun _ _ => ⟨mset_s rfl rfl, fun _ => by rw [e7, g7, z2]⟩, ff⟩
          rw [e7, g7]
          exact z3.2
      · exact absurd h.2.1 ndg
      · exact absurd hlt h.2.1
    · rw [f10 _ _ (by omega), b12]
      by_cases z : a = -1
      · rw [if_pos z, if_neg (by omega)]; exact z
      · rw [if_neg z]
    · rw [f10 _ _ (by omega)]; exact b7
  rcases hyd with ⟨yd1, hdg⟩ | ⟨yd0, ndg⟩
  · -- a number
    have goJ : Rn (J ()) (fun m' => RTc m' c s v ∧ (c ≠ 26 → c ≠ 27 → m' 475 5 = x ∧ (c ≤ 24 → m' 475 7 = packW (fun j => T (s + j)) v.toNat)) ∧ Fr FRa m m') := by
      subst hJ
      dsimp only
      rw [yl0, yd1, if_pos rfl, if_pos rfl]
      refine rn_v (rn_l (fun m10 hm10 => rn_v ?_))
      have d3 : m10 475 3 = 2 := by rw [hm10, mset_s rfl rfl]
      have f10 : Fr (fun b j => b = 475 ∧ j = 3) m9 m10 := by rw [hm10]; exact Fr.rfl'.set ⟨rfl, rfl⟩
      clear hm10
      obtain ⟨x', hx'⟩ := RUN_ex isDg T L s hsL
      unfold pM_ahead_L204
      have hW := r_numL (N := N) (m0 := m10) (T := T) (L := L) (s := s) (x := x') (a := a) (bo := fun _ _ _ => none) (Q := fun m' => RTc m' c s v ∧ (c ≠ 26 → c ≠ 27 → m' 475 5 = x ∧ (c ≤ 24 → m' 475 7 = packW (fun j => T (s + j)) v.toNat)) ∧ Fr FRa m m') (kk := fun z1_334 n334 => (some (mset n334 475 5 z1_334)).bind fun m336 => some m336) (by rw [f10 _ _ (by omega)]; exact c2) (fun j j0 j1 => by rw [f10 _ _ (by omega)]; exact cT j j0 j1) hL.2 (by omega) hx' (by omega) (fun m' g12 g6 gf => ?_) (x' - s).toNat N 0 m10 (by have := hx'.1; have : x' ≤ L := RUN_le hx' hsL; omega) (by have := hx'.1; omega) ?_ ?_ Fr.rfl'
      · rw [show s + ((0 : Nat) : Int) = s by omega] at hW
        exact hW
      · refine rn_v (rn_s ?_)
        have e12 : mset m' 475 5 x' 475 12 = m' 475 12 := mset_o (by omega)
        have e3 : mset m' 475 5 x' 475 3 = 2 := by rw [mset_o (by omega), gf _ _ (by omega)]; exact d3
        have e4 : mset m' 475 5 x' 475 4 = s := by rw [mset_o (by omega), gf _ _ (by omega), f10 _ _ (by omega)]; exact b4
        have e6 : mset m' 475 5 x' 475 6 = m' 475 6 := mset_o (by omega)
        have ff : Fr FRa m (mset m' 475 5 x') := ((f9.trans (f10.mono (fun b j z => by unfold FRa; omega))).trans (gf.mono (fun b j z => by unfold FRa; omega))).set (by unfold FRa; omega)
        rcases hk with h | h | h | h
        · have haa : a = s := by
            rcases ha with z | z
            · exact z.2.2
            · exact absurd ⟨h.2.1, h.2.2.1⟩ z.1
          rw [haa, if_neg (by omega)] at g12
          exact ⟨⟨e4, Or.inl ⟨h.2.2.2.1, Or.inl ⟨by rw [e12, g12, h.2.2.2.2], by omega⟩⟩⟩, fun _ c27 => absurd h.2.2.2.1 c27, ff⟩
        · exact absurd h.2.1 nlt
        · obtain ⟨-, -, nadj, hrun, hcase⟩ := h
          have haa : a = -1 := by
            rcases ha with z | z
            · exact absurd z.2.1 nadj
            · exact z.2
          rw [haa, if_pos rfl] at g12
          have exx : x' = x := RUN_un hx' hrun
          rw [exx] at g12 g6 e12 e3 e4 e6 ff ⊢
          rcases hcase with ⟨z1, z2, z3⟩ | ⟨z1, z2, z3⟩
          · rw [if_pos z1] at g12
            exact ⟨⟨e4, Or.inl ⟨z2, Or.inl ⟨by rw [e12, g12, z3], by omega⟩⟩⟩, fun _ c27 => absurd z2 c27, ff⟩
          · rw [if_neg (by omega)] at g12
            rw [show min (x - s).toNat 4 = (x - s).toNat by omega] at g6
            exact ⟨⟨e4, Or.inr ⟨by omega, by rw [e12]; exact g12, Or.inr (Or.inl ⟨z2, e3, by rw [e6, g6, z3]⟩)⟩⟩, fun _ _ => ⟨mset_s rfl rfl, fun h => by omega⟩, ff⟩
        · exact absurd hdg h.2.2.1
      · rw [f10 _ _ (by omega), b12]
        by_cases z : a = -1
        · rw [if_pos z, if_neg (by omega)]; exact z
        · rw [if_neg z]
      · rw [f10 _ _ (by omega)]; exact b6
    exact rn_t yl0 (rn_f (by omega) goJ)
  · -- another byte
    refine rn_t yl0 (rn_t yd0 (rn_t (by omega) ?_))
    rw [cT s (by omega) qL]
    have haa : a = -1 := by
      rcases ha with z | z
      · rcases z.1 with z | z
        · exact absurd z nlt
        · exact absurd z ndg
      · exact z.2
    refine rn_v (rn_s ?_)
    have e4 : mset m9 475 6 (T s) 475 4 = s := by rw [mset_o (by omega)]; exact b4
    have e3 : mset m9 475 6 (T s) 475 3 = 3 := by rw [mset_o (by omega)]; exact b3
    have e12 : mset m9 475 6 (T s) 475 12 = -1 := by rw [mset_o (by omega), b12]; exact haa
    have e6 : mset m9 475 6 (T s) 475 6 = T s := mset_s rfl rfl
    have e5 : mset m9 475 6 (T s) 475 5 = s + 1 := by rw [mset_o (by omega)]; exact b5
    have ff : Fr FRa m (mset m9 475 6 (T s)) := f9.set (by unfold FRa; omega)
    rcases hk with h | h | h | h
    · rcases h.2.1 with z | z
      · exact absurd z nlt
      · exact absurd z ndg
    · exact absurd h.2.1 nlt
    · exact absurd h.2.1 ndg
    · obtain ⟨-, -, -, hx, hcase⟩ := h
      rcases hcase with ⟨z1, z2⟩ | ⟨z1, z2, z3⟩
      · refine ⟨⟨e4, Or.inr ⟨?_, e12, Or.inr (Or.inr (Or.inr ⟨by rw [z2]; exact z1, e3, by rw [e6, z2]⟩))⟩⟩, fun _ _ => ⟨by rw [e5, hx], fun h => by unfold isSg at z1; omega⟩, ff⟩
        unfold isSg at z1
        omega
      · exact ⟨⟨e4, Or.inl ⟨z2, Or.inr ⟨e12, z3, e3, by rw [e6]; exact z1⟩⟩⟩, fun _ c27 => absurd z2 c27, ff⟩
