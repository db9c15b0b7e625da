/-! WALKERS, TELLS: the calls -/
theorem OkK.rf {m : Mem} (h : Core m) (ht : ITod (vP m) (vS m 38) m) (hs : ISet (vP m) (vS m 38) m) : OkK m m := ⟨h, ht, hs, Fr.rfl'⟩
theorem OkK.of {m m1 m2 : Mem} (h : Core m) (ht : ITod (vP m) (vS m 38) m1) (hmk : MK (vP m) (vS m 38) m1 (soM (vP m) (vS m 38) m) (setN (vP m))) (htl : ITel (vP m) (vS m 38) m1 (soM (vP m) (vS m 38) m) (setN (vP m))) (f1 : Fr (fun b j => FTd b j ∨ FKl b j ∨ FKt b j ∨ (b = 396 ∧ j = 12)) m m1) (f2 : Fr (fun b j => FRl b j ∨ b = 521) m1 m2) : OkK m m2 := by
  have hg : PG (vP m) := h.2.2.2.2.1.1
  have hT := setN_ok hg
  have f : Fr FK m m2 := (f1.mono (fun b j q => by unfold FK; rcases q with q | q | q | q; exact Or.inl q; exact Or.inr (Or.inl q); exact Or.inr (Or.inr (Or.inl q)); exact Or.inr (Or.inr (Or.inr (Or.inl q))))).trans (f2.mono (fun b j q => by unfold FK; rcases q with q | q; exact Or.inr (Or.inr (Or.inr (Or.inr (Or.inl q)))); exact Or.inr (Or.inr (Or.inr (Or.inr (Or.inr q))))))
  have g2 : ∀ b j, b < 475 → m2 b j = m1 b j := fun b j q => f2 b j (by unfold FRl; omega)
  refine ⟨h.fr (fun b j q => f b j (FK_CD q)), ht.fr (fun b j q1 q2 => g2 b j (by omega)), ?_, f⟩
  unfold ISet
  rw [soM_fr (fun b j q => (g2 b j (by omega)).trans (f1 b j (by unfold FTd FKl FKt; omega)))]
  refine ⟨Or.inr (hmk.fr (fun b j q => g2 b j (by omega)) (by omega)), ?_⟩
  unfold ITel
  rw [g2 _ _ (by omega), g2 _ _ (by omega), zt_fr (fun j _ _ => g2 396 j (by omega))]
  exact htl
theorem tlI_0 (ml : Int → Int → Int) (h p : Int) (z : Int × Int × Int) : tlI ml h 0 p z = z := rfl
theorem r_w36 {N : Nat} {m : Mem} {so : Nat → Bool} {T q : Nat} {kk : Int → Option (Int × Mem)} {bo : Int → Option (Int × Mem)} (hT : T ≤ 64) (hm : ∀ w : Nat, w < T → m 520 w = (if so w then 1 else 0)) (hq : q < T ∧ so q = true) : ∀ (k n x : Nat), k < n → x + k = q → nbO so x = nbO so q → lpF bo (pM_walkers_L36b N m kk) n (x : Int) = kk (q : Int) := by
  intro k
  induction k with
  | zero =>
    intro n x hkn hx hnb
    obtain ⟨n, rfl⟩ : ∃ n', n = n' + 1 := ⟨n - 1, by omega⟩
    show pM_walkers_L36b N m kk (lpF bo (pM_walkers_L36b N m kk) n) (x : Int) = _
    generalize lpF bo (pM_walkers_L36b N m kk) n = self
    unfold pM_walkers_L36b
    have hxq : x = q := by omega
    rw [hxq, if_pos (by omega), hm q hq.1, if_pos hq.2, if_neg (show ¬ ((1 : Int) = 0) by omega)]
  | succ k ih =>
    intro n x hkn hx hnb
    obtain ⟨n, rfl⟩ : ∃ n', n = n' + 1 := ⟨n - 1, by omega⟩
    have hno : ¬ so x = true := fun c => by
      have h1 := nbO_mono so (x + 1) (q - (x + 1))
      have h2 : nbO so (x + 1) = nbO so x + (if so x then 1 else 0) := rfl
      rw [if_pos c] at h2
      rw [show x + 1 + (q - (x + 1)) = q by omega] at h1
      omega
    have h2 : nbO so (x + 1) = nbO so x + (if so x then 1 else 0) := rfl
    rw [if_neg hno] at h2
    have ih' := ih n (x + 1) (by omega) (by omega) (by omega)
    rw [show ((x + 1 : Nat) : Int) = (x : Int) + 1 by omega] at ih'
    show pM_walkers_L36b N m kk (lpF bo (pM_walkers_L36b N m kk) n) (x : Int) = _
    generalize lpF bo (pM_walkers_L36b N m kk) n = self at ih' ⊢
    unfold pM_walkers_L36b
    rw [if_pos (by omega), hm x (by omega), if_neg hno, if_pos rfl, Option.bind_some, w32_eq (x := (x : Int) + 1) (by omega) (by omega)]
    exact ih'
theorem o_walkers {N : Nat} {m : Mem} (hN : 2000 ≤ N) (hc : Core m) (ht : ITod (vP m) (vS m 38) m) (hs : ISet (vP m) (vS m 38) m) (x : Int) : ∃ r m1 m2, pD_walkers N m x = some (r, m1) ∧ pM_walkers N m1 x = some (r, m2) ∧ OkK m m2 := by
  obtain ⟨-, -, -, -, ⟨hg, hr, hnm⟩, hst, -, hse, -, hwk⟩ := id hc
  have hT := setN_ok hg
  by_cases q : 0 ≤ x ∧ x ≤ 1
  · obtain ⟨ma, m1, e1, e2, mk, k11, tl, it, f1⟩ := o_sets hN hc ht hs
    have q1 : PQ (vP m) m1 := (vP_PQ m).fr f1 (fun b j q => by unfold prc at q; unfold FTd FKl; omega)
    have s1 : SR (vP m) m1 0 (vS m 38) := hst.2.eq hg hst.1.2.2.2.2 (fun b j q => f1 b j (by have := FLy_b q; unfold FTd FKl; omega))
    have k62 : m1 475 62 = -1 := by rw [f1 _ _ (by unfold FTd FKl; omega)]; exact hwk
    obtain ⟨⟨r2, m2⟩, e3, hr2, rl, f2⟩ := r_leaves hN hg hr q1 s1 hst.1 k62 (hse.SNr.fr (fun b j q => f1 b j (by unfold FTd FKl; omega)))
    dsimp only at hr2 rl f2
    have hok := OkK.of (m2 := m2) hc it mk tl (f1.mono (fun b j q => q.elim Or.inl (fun q => Or.inr (Or.inl q)))) (f2.mono (fun b j q => Or.inl q))
    have hso : soF (vP m) (vS m 38) (fun j => m 397 j) (m 396 3).toNat = soM (vP m) (vS m 38) m := rfl
    rw [hso] at hr2 rl
    have k6 : m1 396 6 = nbO (soM (vP m) (vS m 38) m) (setN (vP m)) := mk.1
    generalize soM (vP m) (vS m 38) m = so at *
    have hnb := nbO_le so (setN (vP m))
    have hD : pD_walkers N m x = if x = 0 then some (m1 396 6, m1) else if m1 396 6 = 0 then some (-1, m1) else some (m1 463 0, m1) := by
      unfold pD_walkers
      rw [if_neg (by omega), if_neg (by omega), e1, Option.bind_some, e2]
      rfl
    have hM : pM_walkers N m1 x = if x = 0 then some (r2, m2) else if r2 = 0 then some (-1, m2) else pM_walkers_L36 N m2 (fun z3_51 => some (z3_51, m2)) N 0 := by
      unfold pM_walkers jn
      rw [e_is, if_pos q, Option.bind_some, if_neg (show ¬ ((1 : Int) = 0) by omega), e3]
      dsimp only [Option.bind_some]
      by_cases a1 : x = 0
      · rw [if_pos a1, if_pos a1, if_pos a1]
      · rw [if_neg a1, if_neg a1, if_neg a1]
    by_cases a1 : x = 0
    · rw [if_pos a1] at hD hM
      exact ⟨_, m1, m2, hD, by rw [hM, hr2, k6], hok⟩
    · rw [if_neg a1] at hD hM
      by_cases a2 : nbO so (setN (vP m)) = 0
      · rw [if_pos (by rw [k6]; omega)] at hD
        rw [if_pos (by rw [hr2]; omega)] at hM
        exact ⟨_, m1, m2, hD, hM, hok⟩
      · rw [if_neg (by rw [k6]; omega)] at hD
        rw [if_neg (by rw [hr2]; omega)] at hM
        obtain ⟨k, h1, h2, h3⟩ := nbO_ex so (setN (vP m)) 0 (by omega)
        have h463 := (mk.2 k h1).1 h2
        rw [h3] at h463
        refine ⟨_, m1, m2, hD, hM.trans ?_, hok⟩
        unfold pM_walkers_L36
        have h4 := r_w36 (N := N) (m := m2) (so := so) (kk := fun z3_51 => some (z3_51, m2)) (bo := fun _ => none) (by omega) (fun w hw => (rl w hw).1) ⟨h1, h2⟩ k N 0 (by omega) (by omega) (by rw [h3]; rfl)
        have h5 : lpF (fun _ => none) (pM_walkers_L36b N m2 fun z3_51 => some (z3_51, m2)) N 0 = some ((k : Int), m2) := h4
        rw [h5]
        exact congrArg some (by rw [← h463]; rfl)
  · refine ⟨-1, m, m, ?_, ?_, OkK.rf hc ht hs⟩
    · unfold pD_walkers
      by_cases a1 : x < 0
      · rw [if_pos a1]
      · rw [if_neg a1, if_pos (by omega)]
    · unfold pM_walkers
      rw [e_is, if_neg q]
      rfl
theorem r_tells {N : Nat} {pl S m m2 : Mem} {so : Nat → Bool} {x r2 : Int} (hN : 2000 ≤ N) (hg : PG pl) (hr : PR pl) (hb : SB pl S) (hx : 0 ≤ x ∧ x ≤ 3) (h41 : m 475 41 = 1) (e3 : pM_leaves N m = some (r2, m2)) (h2 : r2 ≠ 0) (rl : RLv pl S m2 so (setN pl)) (q2 : PQ pl m2) (f2 : Fr FRl m m2) (hV : Vz (pl 2 2).toNat (telS pl S so (setN pl)) ∧ zA (fun h p => (mlS (fun w => dwS pl S w h p) so (setN pl)).2) pl (100000000, -1, -1) 576 = telS pl S so (setN pl)) :
    Rn (pM_tells N m x) (fun z => z.1 = (if x = 0 then (telS pl S so (setN pl)).2.1 else if x = 1 then (telS pl S so (setN pl)).2.2 % pl 2 0 else if x = 2 then (telS pl S so (setN pl)).2.2 / pl 2 0 else (telS pl S so (setN pl)).1) ∧ Fr (fun b j => FRl b j ∨ b = 521) m z.2) := by
  have hn := hg.num
  obtain ⟨⟨hv1, hv2, hv3⟩, hz576⟩ := hV
  generalize telS pl S so (setN pl) = Z at *
  have hph := ph_eq hg (p := Z.2.2) ⟨hv2, by omega⟩
  have en : enc pl Z = 64 * Z.2.1 + ph pl Z.2.2 := if_neg (by omega)
  have hst : zA (fun h p => (mlS (fun w => dwS pl S w h p) so (setN pl)).2) pl (100000000, -1, -1) 0 = (100000000, -1, -1) := by
    have hend := (cn_end (C := pl 2 0) (R := pl 2 1) hn.1 hn.2.1).2
    unfold zA
    rw [show (0 : Int) % 64 = 0 by omega, show (0 : Int) / 64 = 0 by omega, hend]
    rfl
  have ee : enc pl ((100000000, -1, -1) : Int × Int × Int) = -1 := if_pos rfl
  have ef : ((100000000, -1, -1) : Int × Int × Int).1 = 100000000 := rfl
  have hL := fun (kk : Int → Int → Mem → Option (Int × Mem)) hk => r_tl34 (N := N) (pl := pl) (S := S) (m0 := m2) (so := so) (c1 := x) (bo := fun _ _ _ _ => none) (Q := fun z => z.1 = (if x = 0 then Z.2.1 else if x = 1 then Z.2.2 % pl 2 0 else if x = 2 then Z.2.2 / pl 2 0 else Z.1) ∧ Fr (fun b j => FRl b j ∨ b = 521) m z.2) (kk := kk) hN hg hr q2 hb rl (fun h p => (mlS (fun w => dwS pl S w h p) so (setN pl)).2) rfl hk 576 N 0 m2 (by omega) (by omega) (by omega) Fr.rfl'
  rw [hst, ee, ef, hz576, en] at hL
  unfold pM_tells
  refine rn_f (by rw [h41]; omega) ?_
  refine rn_e (e_is _ _ _ _) ?_
  rw [if_pos hx]
  refine rn_f (show ¬ ((1 : Int) = 0) by omega) ?_
  rw [e3]
  refine rn_v ?_
  dsimp only
  refine rn_f h2 ?_
  unfold pM_tells_L34
  refine hL _ (fun m' f' => ?_)
  have fz : Fr (fun b j => FRl b j ∨ b = 521) m m' := (f2.mono (fun b j q => Or.inl q)).trans (f'.mono (fun b j q => Or.inr q))
  rw [d32_eq (x := 64 * Z.2.1 + ph pl Z.2.2) (by omega) (by omega) (by omega) (by omega), r32_eq (x := 64 * Z.2.1 + ph pl Z.2.2) (y := 8) (by omega) (by omega) (by omega) (by omega), r32_eq (x := 64 * Z.2.1 + ph pl Z.2.2) (y := 64) (by omega) (by omega) (by omega) (by omega), d32_eq (x := (64 * Z.2.1 + ph pl Z.2.2) % 64) (by omega) (by omega) (by omega) (by omega)]
  rw [show (64 * Z.2.1 + ph pl Z.2.2) / 64 = Z.2.1 by omega, show (64 * Z.2.1 + ph pl Z.2.2) % 8 = Z.2.2 % pl 2 0 by omega, show (64 * Z.2.1 + ph pl Z.2.2) % 64 / 8 = Z.2.2 / pl 2 0 by omega]
  by_cases b0 : x = 0
  · rw [if_pos b0]; exact rn_s ⟨by dsimp only; rw [if_pos b0], fz⟩
  · rw [if_neg b0]
    by_cases b1 : x = 1
    · rw [if_pos b1]; exact rn_s ⟨by dsimp only; rw [if_neg b0, if_pos b1], fz⟩
    · rw [if_neg b1]
      by_cases b2 : x = 2
      · rw [if_pos b2]; exact rn_s ⟨by dsimp only; rw [if_neg b0, if_neg b1, if_pos b2], fz⟩
      · rw [if_neg b2]; exact rn_s ⟨by dsimp only; rw [if_neg b0, if_neg b1, if_neg b2], fz⟩
theorem o_tells {N : Nat} {m : Mem} (hN : 2000 ≤ N) (hc : Core m) (ht : ITod (vP m) (vS m 38) m) (hs : ISet (vP m) (vS m 38) m) (x : Int) : ∃ r m1 m2, pD_tells N m x = some (r, m1) ∧ pM_tells N m1 x = some (r, m2) ∧ OkK m m2 := by
  obtain ⟨-, -, -, -, ⟨hg, hr, hnm⟩, hst, -, hse, -, hwk⟩ := id hc
  have hT := setN_ok hg
  have hn := hg.num
  have hr' := hr
  obtain ⟨r1, -, -, -, -, r6, -⟩ := hr'
  have e41 : m 475 41 = vP m 475 41 := vP_PQ m _ _ (by unfold prc; omega)
  have e22 : m 2 2 = vP m 2 2 := vP_PE m _ _ (Or.inl rfl)
  have h22 := hg.2.1
  by_cases q : (0 ≤ x ∧ x ≤ 3) ∧ 2 ≤ vP m 2 0
  · have hC1 : (2 ≤ vP m 2 0 ∧ vP m 2 0 ≤ 8) ∧ (2 ≤ vP m 2 1 ∧ vP m 2 1 ≤ 8) := by
      rcases hg.1 with h | h
      · omega
      · exact h
    have hpos : 0 < vP m 2 2 := by
      rw [h22]
      exact Int.mul_pos (by omega) (by omega)
    obtain ⟨ma, m1, e1, e2, mk, k11, tl, it, f1⟩ := o_sets hN hc ht hs
    have hso : soF (vP m) (vS m 38) (fun j => m 397 j) (m 396 3).toNat = soM (vP m) (vS m 38) m := rfl
    have k6 : m1 396 6 = nbO (soM (vP m) (vS m 38) m) (setN (vP m)) := mk.1
    have lift : ∀ m', Fr (fun b j => FTd b j ∨ FKl b j ∨ FKt b j ∨ (b = 396 ∧ j = 12)) m m' → ∃ r2 m2, pM_leaves N m' = some (r2, m2) ∧ r2 = nbO (soM (vP m) (vS m 38) m) (setN (vP m)) ∧ RLv (vP m) (vS m 38) m2 (soM (vP m) (vS m 38) m) (setN (vP m)) ∧ PQ (vP m) m2 ∧ Fr FRl m' m2 := fun m' f' => by
      have q1 : PQ (vP m) m' := (vP_PQ m).fr f' (fun b j q => by unfold prc at q; unfold FTd FKl FKt; omega)
      have s1 : SR (vP m) m' 0 (vS m 38) := hst.2.eq hg hst.1.2.2.2.2 (fun b j q => f' b j (by have := FLy_b q; unfold FTd FKl FKt; omega))
      have k62 : m' 475 62 = -1 := by rw [f' _ _ (by unfold FTd FKl FKt; omega)]; exact hwk
      obtain ⟨⟨r2, m2⟩, e3, hr2, rl, f2⟩ := r_leaves hN hg hr q1 s1 hst.1 k62 (hse.SNr.fr (fun b j q => f' b j (by unfold FTd FKl FKt; omega)))
      exact ⟨r2, m2, e3, hr2, rl, q1.fr f2 (fun b j q => by unfold prc at q; unfold FRl; omega), f2⟩
    have g1 : Fr (fun b j => FTd b j ∨ FKl b j ∨ FKt b j ∨ (b = 396 ∧ j = 12)) m m1 := f1.mono (fun b j q => q.elim Or.inl (fun q => Or.inr (Or.inl q)))
    have m41 : ∀ m', Fr (fun b j => FTd b j ∨ FKl b j ∨ FKt b j ∨ (b = 396 ∧ j = 12)) m m' → m' 475 41 = 1 := fun m' f' => by
      rw [f' _ _ (by unfold FTd FKl FKt; omega), e41]
      omega
    by_cases a2 : nbO (soM (vP m) (vS m 38) m) (setN (vP m)) = 0
    · obtain ⟨r2, m2, e3, hr2, rl, -, f2⟩ := lift m1 g1
      refine ⟨-1, m1, m2, ?_, ?_, OkK.of hc it mk tl g1 (f2.mono (fun b j q => Or.inl q))⟩
      · unfold pD_tells
        rw [if_neg (by omega), if_neg (by omega), if_neg (by omega), e1, Option.bind_some, e2, Option.bind_some, if_pos (by omega)]
      · unfold pM_tells
        rw [if_neg (by rw [m41 m1 g1]; omega), e_is, if_pos q.1, Option.bind_some, if_neg (show ¬ ((1 : Int) = 0) by omega), e3]
        dsimp only [Option.bind_some]
        rw [if_pos (by omega)]
    · obtain ⟨m3, e4, hz, it3, mk3, f3⟩ := c_fTel hN hg hst.1 ((vP_PE m).fr f1 (fun b j q => by unfold plc at q; unfold FTd FKl; omega)) (by omega) mk hpos k11 tl
      have g3 : Fr (fun b j => FTd b j ∨ FKl b j ∨ FKt b j ∨ (b = 396 ∧ j = 12)) m m3 := g1.trans (f3.mono (fun b j q => q.elim (fun q => Or.inr (Or.inr (Or.inl q))) (fun q => Or.inr (Or.inr (Or.inr q)))))
      have itd3 : ITod (vP m) (vS m 38) m3 := it.fr (fun b j q1 q2 => f3 b j (by unfold FKt; omega))
      obtain ⟨r2, m2, e3, hr2, rl, q2, f2⟩ := lift m3 g3
      have hk6 : m3 396 6 = m1 396 6 := f3 _ _ (by unfold FKt; omega)
      have hle : ∀ h p, (mlS (fun w => dwS (vP m) (vS m 38) w h p) (soM (vP m) (vS m 38) m) (setN (vP m))).2 ≤ nbO (soM (vP m) (vS m 38) m) (setN (vP m)) := fun h p => (mlS_in _ _ _).2.2
      have hnb := nbO_le (soM (vP m) (vS m 38) m) (setN (vP m))
      have hV : Vz (vP m 2 2).toNat (telS (vP m) (vS m 38) (soM (vP m) (vS m 38) m) (setN (vP m))) := by
        unfold telS
        exact tlO_V0 hle (by omega) (by show _ < (100000000 : Int); omega)
      have hz576 : zA (fun h p => (mlS (fun w => dwS (vP m) (vS m 38) w h p) (soM (vP m) (vS m 38) m) (setN (vP m))).2) (vP m) (100000000, -1, -1) 576 = telS (vP m) (vS m 38) (soM (vP m) (vS m 38) m) (setN (vP m)) := by
        have hend := (cn_end (C := vP m 2 0) (R := vP m 2 1) hn.1 hn.2.1).2
        unfold zA
        rw [show (576 : Int) % 64 = 0 by omega, show (576 : Int) / 64 = 9 by omega, hend, show (0 : Int).toNat = 0 from rfl, show (9 : Int).toNat = 9 from rfl, tlI_0]
        unfold telS
        rfl
      generalize hZ : telS (vP m) (vS m 38) (soM (vP m) (vS m 38) m) (setN (vP m)) = Z at *
      obtain ⟨hv1, hv2, hv3⟩ := hV
      have hph := ph_eq hg (p := Z.2.2) ⟨hv2, by omega⟩
      have eZ : m3 396 10 = Z.1 ∧ m3 396 8 = Z.2.1 ∧ m3 396 9 = Z.2.2 := by
        rw [← hz]
        exact ⟨rfl, rfl, rfl⟩
      have hD : pD_tells N m x = some (if x = 0 then Z.2.1 else if x = 1 then Z.2.2 % vP m 2 0 else if x = 2 then Z.2.2 / vP m 2 0 else Z.1, m3) := by
        unfold pD_tells
        rw [if_neg (by omega), if_neg (by omega), if_neg (by omega), e1, Option.bind_some, e2, Option.bind_some, if_neg (by omega), e4, Option.bind_some, eZ.1, eZ.2.1, eZ.2.2]
        have p3 : PE (vP m) m3 := (vP_PE m).fr g3 (fun b j q => by unfold plc at q; unfold FTd FKl FKt; omega)
        rw [e_col (by rw [p3.d 0]; omega) (by omega), e_row (by rw [p3.d 0]; omega) (by omega), p3.d 0]
        by_cases b0 : x = 0
        · rw [if_pos b0, if_pos b0]
        · rw [if_neg b0, if_neg b0]
          by_cases b1 : x = 1
          · rw [if_pos b1, if_pos b1]; rfl
          · rw [if_neg b1, if_neg b1]
            by_cases b2 : x = 2
            · rw [if_pos b2, if_pos b2]; rfl
            · rw [if_neg b2, if_neg b2]
      have hM := r_tells (x := x) hN hg hr hst.1 q.1 (m41 m3 g3) e3 (by omega) rl q2 f2 (by rw [hZ]; exact ⟨⟨hv1, hv2, hv3⟩, hz576⟩)
      rw [hZ] at hM
      obtain ⟨⟨r5, m5⟩, e5, hr5, f5⟩ := hM
      dsimp only at hr5 f5
      exact ⟨_, m3, m5, hD, by rw [e5, hr5], OkK.of hc itd3 mk3 (by rw [← hZ] at hz; exact it3) g3 f5⟩
  · refine ⟨-1, m, m, ?_, ?_, OkK.rf hc ht hs⟩
    · unfold pD_tells
      by_cases a1 : x < 0
      · rw [if_pos a1]
      · rw [if_neg a1]
        by_cases a3 : 3 < x
        · rw [if_pos a3]
        · rw [if_neg a3, if_pos ?_]
          rw [e22, h22]
          rcases hg.1 with h | h
          · rw [h.1]; omega
          · omega
    · unfold pM_tells
      by_cases a1 : m 475 41 = 0
      · rw [if_pos a1]
      · rw [if_neg a1, e_is, if_neg (by rw [e41] at a1; omega)]
        rfl
