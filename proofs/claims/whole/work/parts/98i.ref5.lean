/-! VALLEY: the reference goes on, all cases -/
theorem r_fin {N : Nat} {t m m3 : Mem} {RT : Int → Mem → Prop} {ib f0 k op : Int} {cs : List (Int × Int)} {Fs : List Fm} {fl : Int} (hL : LX N t RT) (hm : MR t m3 ib f0 (k, op, cs, Fs, fl)) (hrt : RT k m3) (hk : 0 ≤ k) (hk1 : k + 1 < t 18 6) (hf : Fr (FMs ib f0) m m3) : Rn ((pM_ahead N m3).bind fun m4 => (some (mset m4 475 40 0)).bind fun m5 => some ((1 : Int), m5)) (GPo t RT ib f0 m (.inl (k + 1, op, cs, Fs, 0))) := by
  refine rn_b (hL.2.2 k m3 hrt hk hk1) (fun m4 h4 => ?_)
  obtain ⟨rt4, f4⟩ := h4
  unfold FRa at f4
  refine rn_v (rn_s (GPo.good ((hf.trans (f4.mono (fun b j z => by unfold FMs; omega))).set (by unfold FMs; omega)) (hm.eq (fun b j z => ?_)) (hL.2.1 _ _ _ rt4 (fun b j z => mset_o (by omega))) (mset_s rfl rfl)))
  rw [mset_o (by omega), f4 _ _ (by omega)]
theorem flq1_all : ∀ ops : List Int, flq 1 ops = (ops, [])
  | [] => rfl
  | o :: os => by
    show (if 1 ≤ rk o then (o :: (flq 1 os).1, (flq 1 os).2) else ([], o :: os)) = _
    rw [if_pos (rk_rng o).1, flq1_all os]
theorem r_go {N : Nat} {t m : Mem} {RT : Int → Mem → Prop} {ib f0 k op : Int} {cs : List (Int × Int)} {kd ph bg pr : Int} {ops : List Int} {Fs : List Fm} (hN : 2000 ≤ N) (hL : LX N t RT) (hw : WT t) (hmi : MI f0 (k, op, cs, (kd, ph, bg, pr, ops) :: Fs, 1)) (hm : MR t m ib f0 (k, op, cs, (kd, ph, bg, pr, ops) :: Fs, 1)) (hrt : RT k m) (hk : 0 ≤ k ∧ k < t 18 6) (hib : ib = 0 ∨ ib = 1) (h40 : m 475 40 = 1) : Rn (pM_goesOn N m) (GPo t RT ib f0 m (mGo t k op cs kd ph bg pr ops Fs)) := by
  have hz := hw.1
  have rtk := hL.1 k m hrt
  have hm8 : m 475 8 = 0 := hm.2.2.2.2.2.2.2.2
  obtain ⟨i1, i2, i3, i4, i5, i6, i7, i8, i9, i10⟩ := hmi.top
  have hbg : bg = 0 := i4 rfl
  subst hbg
  dsimp only at i2
  have i1' := i1
  obtain ⟨v1, v2, v3, v4, v5, v6, v7⟩ := i1'
  dsimp only at v1 v2 v3 v4 v5 v6 v7
  have hn := tot_nn Fs
  have hpn := npr_nn (((kd, ph, 0, pr, ops) : Fm) :: Fs)
  have eT : tot ((kd, ph, 0, pr, ops) :: Fs) = ops.length + tot Fs := rfl
  have eL : ((((kd, ph, 0, pr, ops) : Fm) :: Fs).length : Int) = Fs.length + 1 := by show ((Fs.length + 1 : Nat) : Int) = _; omega
  have h36 : m 475 36 = Fs.length + 1 := by rw [← eL]; exact hm.1
  have hF := hm.2.2.2.1
  have e491 : m 491 (Fs.length : Int) = kd := hF.1.1
  have e492 : m 492 (Fs.length : Int) = ph := hF.1.2.1
  have nolast : t 35 k ≠ 26 → t 35 k ≠ 27 → k + 1 < t 18 6 := fun z1 z2 => hw.2.1 k hk.1 hk.2 z1 z2
  unfold pM_goesOn
  rcases r_lexM rtk hm8 with ⟨elx, hl⟩ | ⟨q27, elx⟩
  case inr =>
    rw [elx]
    refine rn_v (rn_t (by rw [mset_o (by omega), mset_s rfl rfl]; omega) (rn_s ?_))
    have fD : Fr (FMs ib f0) m (mset (mset m 475 8 1) 475 9 (plcT t k)) := (Fr.rfl'.set (by unfold FMs; omega)).set (by unfold FMs; omega)
    have h8 : mset (mset m 475 8 1) 475 9 (plcT t k) 475 8 = 1 := by rw [mset_o (by omega), mset_s rfl rfl]
    have h9 : mset (mset m 475 8 1) 475 9 (plcT t k) 475 9 = plcT t k := mset_s rfl rfl
    by_cases q2 : 2 ≤ kd
    · have eM : mGo t k op cs kd ph 0 pr ops Fs = .inr (1, plcT t k, cs, k) := by
        unfold mGo
        rw [if_pos ⟨q27, q2⟩]
      rw [eM]
      exact GPo.bad fD (show (1 : Int) ≠ 0 by decide) h8 h9
    · have eM : mGo t k op cs kd ph 0 pr ops Fs = .inr (0, 0, cs ++ cod (flq 1 ops).1, k) := by
        unfold mGo
        rw [if_neg (by omega), if_neg (by omega), if_neg (by omega), if_neg (by omega), if_neg (by omega), if_neg (by omega), if_pos (by omega)]
      rw [eM]
      exact ⟨fD, fun D c => (by cases c), fun e c => (by cases c; exact ⟨fun _ => Or.inr ⟨h8, h9, q27⟩, fun z => absurd rfl z⟩)⟩
  have hplc := plc_live rtk hl
  rw [elx]
  refine rn_v (rn_f (by omega) ?_)
  rw [h36, w32_eq (x := (Fs.length : Int) + 1 - 1) (by omega) (by omega), show (Fs.length : Int) + 1 - 1 = Fs.length by omega]
  refine rn_v (rn_t (by omega) ?_)
  rw [e491]
  refine rn_v ?_
  have eit : pM_isTest m kd = some (if kd = 5 ∨ kd = 6 then 1 else 0) := by
    unfold pM_isTest
    rw [if_neg (by omega)]
    by_cases z5 : kd = 5
    · rw [if_pos z5, if_pos (Or.inl z5)]
    · rw [if_neg z5]
      by_cases z6 : kd = 6
      · rw [if_pos z6, if_pos (Or.inr z6)]
      · rw [if_neg z6, if_neg (by omega)]
  refine rn_e eit ?_
  generalize hts : (if kd = 5 ∨ kd = 6 then (1 : Int) else 0) = ts
  have htsd : ((kd = 5 ∨ kd = 6) ∧ ts = 1) ∨ (¬ (kd = 5 ∨ kd = 6) ∧ ts = 0) := by
    by_cases z : kd = 5 ∨ kd = 6
    · rw [if_pos z] at hts; exact Or.inl ⟨z, hts.symm⟩
    · rw [if_neg z] at hts; exact Or.inr ⟨z, hts.symm⟩
  clear hts eit
  refine rn_t (by omega) ?_
  -- after the pending ones are out
  have afterJ : ∀ r m1, MR t m1 ib f0 (k, op - nots (flq r ops).1, cs ++ cod (flq r ops).1, (kd, ph, 0, pr, (flq r ops).2) :: Fs, 1) → Fr (FJn ib (f0 + cs.length)) m m1 → RT k m1 ∧ Fr (FMs ib f0) m m1 ∧ RTk t m1 k ∧ m1 475 12 = -1 := fun r m1 h1 h2 => by
    have rt1 := hL.2.1 k m m1 hrt (fun b j z => h2 b j (by unfold FJn; omega))
    exact ⟨rt1, h2.mono (fun b j z => by unfold FJn at z; unfold FMs; omega), hL.1 k m1 rt1, by rw [h2 _ _ (by unfold FJn; omega)]; exact hl⟩
  have room : ∀ r, 0 ≤ tot ((kd, ph, 0, pr, (flq r ops).2) :: Fs) ∧ tot ((kd, ph, 0, pr, (flq r ops).2) :: Fs) < 500 := fun r => by
    have h1 := flq_len r ops
    have e2 : tot ((kd, ph, 0, pr, (flq r ops).2) :: Fs) = (flq r ops).2.length + tot Fs := rfl
    omega
  refine rn_jl (fun J hJ => ?_)
  have goJ : ¬ (ph < 2 ∧ (t 35 k = 43 ∨ t 35 k = 45)) → ¬ (ph < 2 ∧ (t 35 k = 42 ∨ t 35 k = 47 ∨ t 35 k = 37)) → Rn (J ()) (GPo t RT ib f0 m (mGo t k op cs kd ph 0 pr ops Fs)) := fun nA nB => by
    subst hJ
    dsimp only
    refine rn_jl (fun J2 hJ2 => ?_)
    have goJ2 : ¬ ((kd = 5 ∨ kd = 6) ∧ ph = 0 ∧ (t 35 k = 60 ∨ t 35 k = 62 ∨ t 35 k = 61)) → Rn (J2 ()) (GPo t RT ib f0 m (mGo t k op cs kd ph 0 pr ops Fs)) := fun nC => by
      subst hJ2
      dsimp only
      refine rn_jl (fun J3 hJ3 => ?_)
      have goJ3 : ¬ ((kd = 5 ∨ kd = 6) ∧ (t 35 k = 19 ∨ t 35 k = 18)) → Rn (J3 ()) (GPo t RT ib f0 m (mGo t k op cs kd ph 0 pr ops Fs)) := fun nD => by
        subst hJ3
        dsimp only
        by_cases q5 : (kd = 5 ∨ kd = 6) ∧ ph = 0
        · -- a test without a comparison
          have ebl : (if ts = 0 then some (m) else if 0 ≤ (Fs.length : Int) ∧ (Fs.length : Int) < 20 then if m 492 (Fs.length : Int) = 0 then (pM_blame m 1 (m 475 4)).bind fun m419 => some (m419) else some (m) else none) = some (mset (mset m 475 8 1) 475 9 (m 475 4)) := by
            rw [if_neg (by omega), if_pos (by omega), e492, if_pos q5.2, e_blame hm8]
            rfl
          refine rn_e ebl ?_
          have h8D : mset (mset m 475 8 1) 475 9 (m 475 4) 475 8 = 1 := by rw [mset_o (by omega), mset_s rfl rfl]
          have h9D : mset (mset m 475 8 1) 475 9 (m 475 4) 475 9 = plcT t k := by rw [mset_s rfl rfl]; exact hplc
          have fD : Fr (FMs ib f0) m (mset (mset m 475 8 1) 475 9 (m 475 4)) := (Fr.rfl'.set (by unfold FMs; omega)).set (by unfold FMs; omega)
          generalize mset (mset m 475 8 1) 475 9 (m 475 4) = mD at *
          have eM : mGo t k op cs kd ph 0 pr ops Fs = .inr (1, plcT t k, cs, k) := by
            unfold mGo
            by_cases q27 : t 35 k = 27 ∧ 2 ≤ kd
            · rw [if_pos q27]
            · rw [if_neg q27, if_neg nA, if_neg nB, if_neg nC, if_neg nD, if_pos q5]
          rw [eM]
          have anyS : ∀ x : Int, ∃ z, pM_isSign mD x = some z := fun x => by
            unfold pM_isSign
            split
            · split <;> exact ⟨_, rfl⟩
            · exact ⟨_, rfl⟩
          have hbl : ∀ z : Int, (if z = 0 then (pM_blame mD 1 (mD 475 4)).bind fun m273 => some (m273) else some (mD)) = some mD := fun z => by
            by_cases z0 : z = 0
            · rw [if_pos z0, e_blame0 (by omega)]; rfl
            · rw [if_neg z0]
          refine rn_f (by omega) ?_
          refine rn_jl (fun J4 hJ4 => ?_)
          have goJ4 : Rn (J4 ()) (GPo t RT ib f0 m (.inr (1, plcT t k, cs, k))) := by
            subst hJ4
            dsimp only
            obtain ⟨z, hz'⟩ := anyS 44
            refine rn_e hz' (rn_e (hbl z) (rn_t (by omega) (rn_s ?_)))
            exact GPo.bad fD (show (1 : Int) ≠ 0 by decide) h8D h9D
          refine rn_f (by omega) ?_
          refine rn_i (fun _ => goJ4) (fun _ => ?_)
          refine rn_v ?_
          obtain ⟨z, hz'⟩ := anyS (if kd = 5 then 93 else 41)
          refine rn_e hz' (rn_e (hbl z) (rn_t (by omega) (rn_s ?_)))
          exact GPo.bad fD (show (1 : Int) ≠ 0 by decide) h8D h9D
        have ebl : (if ts = 0 then some (m) else if 0 ≤ (Fs.length : Int) ∧ (Fs.length : Int) < 20 then if m 492 (Fs.length : Int) = 0 then (pM_blame m 1 (m 475 4)).bind fun m419 => some (m419) else some (m) else none) = some m := by
          by_cases z : ts = 0
          · rw [if_pos z]
          · rw [if_neg z, if_pos (by omega), e492, if_neg (by omega)]
        refine rn_e ebl ?_
        have eM1 : ∀ res, (if t 35 k = 27 ∧ 2 ≤ kd then (.inr (1, plcT t k, cs, k) : Mc ⊕ Rz4) else if kd < 2 then .inr (0, 0, cs ++ cod (flq 1 ops).1, k)
  else if kd = 3 ∨ kd = 6 then (if t 35 k = 44 then .inl (k + 1, op - nots (flq 1 ops).1, cs ++ cod (flq 1 ops).1, (if kd = 3 then 4 else 3, 0, 0, pr, (flq 1 ops).2) :: Fs, 0) else .inr (1, plcT t k, cs, k))
  else if t 35 k = (if kd = 5 then 93 else 41) then (match Fs with
    | [] => .inr (9, 0, cs, k)
    | F :: Gs => .inl (k + 1, op - nots (flq 1 ops).1 - 1, cs ++ cod (flq 1 ops).1 ++ (if kd = 4 then [(pr, 0)] else []), (F.1, if kd = 5 then 2 else F.2.1, F.2.2.1, F.2.2.2.1, F.2.2.2.2) :: Gs, 1))
  else .inr (1, plcT t k, cs, k)) = res → mGo t k op cs kd ph 0 pr ops Fs = res := fun res h => by
          rw [← h]
          unfold mGo
          rw [if_neg nA, if_neg nB, if_neg nC, if_neg nD, if_neg q5]
          rfl
        refine rn_i (fun q6 => ?_) (fun q6 => ?_)
        · -- the law's end
          refine rn_t hm8 ?_
          refine rn_b (r_joinsM (r := 1) hN hib (by omega) hmi hm) (fun m1 h1 => rn_s ?_)
          obtain ⟨a1, a2, a3, a4⟩ := afterJ 1 m1 h1.1 h1.2
          rw [eM1 (.inr (0, 0, cs ++ cod (flq 1 ops).1, k)) (by rw [if_neg (by omega), if_pos q6])]
          exact ⟨a2, fun D c => (by cases c), fun e c => (by cases c; exact ⟨fun _ => Or.inl ⟨rfl, h1.1.2.2.2.2.2.2.2.2, h1.1.2.2.2.2.1, h1.1.2.2.2.2.2.2.1, a1⟩, fun z => absurd rfl z⟩)⟩
        refine rn_jl (fun J4 hJ4 => ?_)
        have goJ4 : (kd = 3 ∨ kd = 6) → Rn (J4 ()) (GPo t RT ib f0 m (mGo t k op cs kd ph 0 pr ops Fs)) := fun q7 => by
          subst hJ4
          dsimp only
          obtain ⟨y, ey, hy⟩ := e_sg 44 rtk hl (by unfold isSg; omega)
          refine rn_e ey ?_
          rcases hy with ⟨y1, q44⟩ | ⟨y0, q44⟩
          · rw [if_neg (by omega)]
            refine rn_v (rn_f (by omega) ?_)
            refine rn_b (r_joinsM (r := 1) hN hib (by omega) hmi hm) (fun m1 h1 => rn_v ?_)
            obtain ⟨a1, a2, a3, a4⟩ := afterJ 1 m1 h1.1 h1.2
            refine rn_t (by omega) (rn_l (fun m2 hm2 => ?_))
            refine rn_t (by omega) (rn_l (fun m3 hm3 => ?_))
            have f3 : Fr (fun b j => (491 ≤ b ∧ b ≤ 493) ∧ j = Fs.length) m1 m3 := by rw [hm3, hm2]; exact (Fr.rfl'.set (by omega)).set (by omega)
            have b491 : m3 491 (Fs.length : Int) = if kd = 3 then 4 else 3 := by rw [hm3, mset_o (by omega), hm2, mset_s rfl rfl]
            have b492 : m3 492 (Fs.length : Int) = 0 := by rw [hm3, mset_s rfl rfl]
            have b493 : m3 493 (Fs.length : Int) = 0 := by rw [hm3, mset_o (by omega), hm2, mset_o (by omega)]; exact h1.1.2.2.2.1.1.2.2.1
            clear hm3 hm2
            rw [eM1 _ (by rw [if_neg (by omega), if_neg q6, if_pos q7, if_pos q44])]
            exact r_fin hL (h1.1.top (fun b j z => f3 b j z) b491 b492 b493 (fun _ => by omega)) (hL.2.1 _ _ _ a1 (fun b j z => f3 b j (by omega))) hk.1 (nolast (by omega) (by omega)) (a2.trans (f3.mono (fun b j z => by unfold FMs; omega)))
          · rw [if_pos y0, e_blame hm8]
            refine rn_v (rn_t (by rw [mset_o (by omega), mset_s rfl rfl]; omega) (rn_s ?_))
            rw [eM1 (.inr (1, plcT t k, cs, k)) (by
              by_cases q27 : t 35 k = 27 ∧ 2 ≤ kd
              · rw [if_pos q27]
              · rw [if_neg q27, if_neg q6, if_pos q7, if_neg q44])]
            exact GPo.bad ((Fr.rfl'.set (by unfold FMs; omega)).set (by unfold FMs; omega)) (show (1 : Int) ≠ 0 by decide) (by rw [mset_o (by omega), mset_s rfl rfl]) (by rw [mset_s rfl rfl]; exact hplc)
        refine rn_i (fun q3 => goJ4 (Or.inl q3)) (fun q3 => ?_)
        refine rn_i (fun q66 => goJ4 (Or.inr q66)) (fun q66 => ?_)
        refine rn_v ?_
        obtain ⟨y, ey, hy⟩ := e_sg (if kd = 5 then 93 else 41) rtk hl (by unfold isSg; split <;> omega)
        refine rn_e ey ?_
        rcases hy with ⟨y1, q44⟩ | ⟨y0, q44⟩
        · rw [if_neg (by omega)]
          refine rn_v (rn_f (by omega) ?_)
          refine rn_b (r_joinsM (r := 1) hN hib (by omega) hmi hm) (fun m1 h1 => ?_)
          obtain ⟨a1, a2, a3, a4⟩ := afterJ 1 m1 h1.1 h1.2
          obtain ⟨h1m, h1f⟩ := h1
          have hFs : Fs ≠ [] := by
            rcases i2 with c | c
            · omega
            · exact c.2
          obtain ⟨G, Gs, rfl⟩ : ∃ G Gs, Fs = G :: Gs := by
            cases Fs with
            | nil => exact absurd rfl hFs
            | cons G Gs => exact ⟨G, Gs, rfl⟩
          have ht35 : t 35 k ≠ 26 ∧ t 35 k ≠ 27 := by rw [q44]; split <;> omega
          rw [eM1 _ (by rw [if_neg (by omega), if_neg q6, if_neg (by omega), if_pos q44])]
          rw [flq1_all] at h1m ⊢
          obtain ⟨g1, g2, g3, g4, g5, g6, g7, g8, g9⟩ := h1m
          dsimp only at g1 g2 g3 g5 g7 g4
          have eLG : ((G :: Gs).length : Int) = Gs.length + 1 := by show ((Gs.length + 1 : Nat) : Int) = _; omega
          have eL3 : ((((kd, ph, 0, pr, []) : Fm) :: G :: Gs).length : Int) = (G :: Gs).length + 1 := by show (((G :: Gs).length + 1 : Nat) : Int) = _; omega
          have eT3 : tot (((kd, ph, 0, pr, []) : Fm) :: G :: Gs) = tot (G :: Gs) := by show ((0 : Nat) : Int) + tot (G :: Gs) = _; omega
          rw [eT3] at g3 g4
          rw [eL3] at g1
          obtain ⟨⟨u1, u2, u3, u4, u5⟩, -, u7⟩ := g4
          have e00 : tot (G :: Gs) - ((([] : List Int).length : Nat) : Int) = tot (G :: Gs) := by show _ - ((0 : Nat) : Int) = _; omega
          dsimp only at u4 u7
          rw [e00] at u7
          have hnn := nots_nn ops
          rw [g1, w32_eq (x := ((G :: Gs).length : Int) + 1 - 1) (by omega) (by omega), show ((G :: Gs).length : Int) + 1 - 1 = (G :: Gs).length by omega]
          refine rn_l (fun m2 hm2 => ?_)
          have c37 : m2 475 37 = op - nots ops := by rw [hm2, mset_o (by omega)]; exact g2
          have eNn : nto (((kd, ph, 0, pr, ops) : Fm) :: G :: Gs) = nots ops + nto (G :: Gs) := rfl
          have hb3 := i3.bnd
          rw [c37, w32_eq (x := op - nots ops - 1) (by omega) (by omega)]
          refine rn_l (fun m3 hm3 => ?_)
          have d36 : m3 475 36 = (G :: Gs).length := by rw [hm3, mset_o (by omega), hm2, mset_s rfl rfl]
          have d37 : m3 475 37 = op - nots ops - 1 := by rw [hm3, mset_s rfl rfl]
          have f3 : Fr (fun b j => b = 475 ∧ (j = 36 ∨ j = 37)) m1 m3 := by rw [hm3, hm2]; exact (Fr.rfl'.set (by omega)).set (by omega)
          clear hm2 hm3
          have hrT : f0 + (cs ++ cod ops).length < 1600 := by
            rw [List.length_append, cod_len]
            have := nolast ht35.1 ht35.2
            omega
          -- the pair's code
          have pairc : Rn (if kd = 4 then if 0 ≤ ((G :: Gs).length : Int) ∧ ((G :: Gs).length : Int) < 20 then (pM_add m3 (m3 494 ((G :: Gs).length : Int)) 0).bind fun m593 => some (m593) else none else some (m3)) (fun m4 => m4 475 28 = f0 + (cs ++ cod ops ++ (if kd = 4 then [(pr, 0)] else [])).length ∧ RcOk (m4 488) (m4 489) (1600 * ib + f0) (cs ++ cod ops ++ (if kd = 4 then [(pr, 0)] else [])) ∧ Fr (fun b j => (b = 475 ∧ j = 28) ∨ ((b = 488 ∨ b = 489) ∧ 1600 * ib + f0 ≤ j ∧ j < 1600 * ib + 1600)) m3 m4) := by
            by_cases q4 : kd = 4
            · rw [if_pos q4, if_pos q4]
              refine rn_t (by omega) ?_
              have e494 : m3 494 ((G :: Gs).length : Int) = prq pr := by rw [f3 _ _ (by omega)]; exact u4 (by omega)
              rw [e494]
              refine rn_b (r_addM (c := f0 + (cs ++ cod ops).length) (ib := ib) (by rw [f3 _ _ (by omega)]; exact g6) hib (by rw [f3 _ _ (by omega)]; exact g5) (by omega)) (fun m4 h4 => rn_s ⟨?_, ?_, ?_⟩)
              · rw [h4.1, List.length_append (as := cs ++ cod ops)]
                show f0 + ((cs ++ cod ops).length : Int) + 1 = f0 + (((cs ++ cod ops).length + 1 : Nat) : Int)
                omega
              · refine (g7.eq' (fun j z0 z1 => ?_)).snoc ?_
                · rw [h4.2.2.2 _ _ (by omega), h4.2.2.2 _ _ (by omega), f3 _ _ (by omega), f3 _ _ (by omega)]
                  exact ⟨rfl, rfl⟩
                · rw [show 1600 * ib + f0 + ((cs ++ cod ops).length : Int) = 1600 * ib + (f0 + (cs ++ cod ops).length) by omega, h4.2.1]
                  have hpr := v7 (by omega)
                  unfold srt prq
                  rcases hpr with e | e | e
                  · rw [if_pos e]; exact Or.inr (Or.inr (Or.inr (Or.inl ⟨e, rfl⟩)))
                  · rw [if_neg (by omega)]; exact Or.inr (Or.inr (Or.inr (Or.inr (by omega))))
                  · rw [if_neg (by omega)]; exact Or.inr (Or.inr (Or.inr (Or.inr (by omega))))
              · exact h4.2.2.2.mono (fun b j z => by omega)
            · rw [if_neg q4, if_neg q4]
              refine rn_s ⟨?_, ?_, Fr.rfl'⟩
              · rw [List.append_nil, f3 _ _ (by omega)]; exact g5
              · rw [List.append_nil]
                exact g7.eq' (fun j _ _ => ⟨f3 _ _ (by omega), f3 _ _ (by omega)⟩)
          refine rn_b pairc (fun m4 h4 => ?_)
          obtain ⟨p28, pR, f4⟩ := h4
          have q36 : m4 475 36 = Gs.length + 1 := by rw [f4 _ _ (by omega), d36, eLG]
          rw [q36, w32_eq (x := (Gs.length : Int) + 1 - 1) (by omega) (by omega), show (Gs.length : Int) + 1 - 1 = Gs.length by omega]
          obtain ⟨⟨w1, w2, w3, w4, w5⟩, w6, w7⟩ := u7
          have fin5 : Rn (if kd = 5 then if 0 ≤ (Gs.length : Int) ∧ (Gs.length : Int) < 20 then (some (mset m4 492 (Gs.length : Int) 2)).bind fun m612 => some (m612) else none else some (m4)) (fun m5 => m5 492 (Gs.length : Int) = (if kd = 5 then 2 else G.2.1) ∧ Fr (fun b j => b = 492 ∧ j = Gs.length) m4 m5) := by
            by_cases q5' : kd = 5
            · rw [if_pos q5', if_pos q5']
              exact rn_t (by omega) (rn_v (rn_s ⟨mset_s rfl rfl, Fr.rfl'.set ⟨rfl, rfl⟩⟩))
            · rw [if_neg q5', if_neg q5']
              refine rn_s ⟨?_, Fr.rfl'⟩
              rw [f4 _ _ (by omega), f3 _ _ (by omega)]
              exact w2
          refine rn_b fin5 (fun m5 h5 => ?_)
          obtain ⟨r492, f5⟩ := h5
          have F5 : ∀ b j : Int, ¬ (b = 475 ∧ (j = 28 ∨ j = 36 ∨ j = 37)) → ¬ (b = 488 ∨ b = 489) → ¬ (b = 492 ∧ j = Gs.length) → m5 b j = m1 b j := fun b j z1 z2 z3 => by
            rw [f5 _ _ z3, f4 _ _ (by omega), f3 _ _ (by omega)]
          have rt5 := hL.2.1 k m1 m5 a1 (fun b j z => F5 b j (by omega) (by omega) (by omega))
          refine rn_b (hL.2.2 k m5 rt5 hk.1 (nolast ht35.1 ht35.2)) (fun m6 h6 => rn_s ?_)
          obtain ⟨rt6, f6⟩ := h6
          unfold FRa at f6
          have mr5 : MR t m5 ib f0 (k, op - nots ops - 1, cs ++ cod ops ++ (if kd = 4 then [(pr, 0)] else []), (G.1, if kd = 5 then 2 else G.2.1, G.2.2.1, G.2.2.2.1, G.2.2.2.2) :: Gs, 1) := by
            refine ⟨?_, ?_, ?_, ?_, ?_, ?_, ?_, ?_, ?_⟩
            · dsimp only; rw [f5 _ _ (by omega), q36]; exact eLG.symm
            · dsimp only; rw [f5 _ _ (by omega), f4 _ _ (by omega)]; exact d37
            · dsimp only; rw [F5 _ _ (by omega) (by omega) (by omega)]; exact g3
            · dsimp only
              refine ⟨⟨?_, r492, ?_, fun z => ?_, ?_⟩, w6.eq (fun j _ _ => F5 _ _ (by omega) (by omega) (by omega)), w7.eq (fun b j z => F5 _ _ (by omega) (by omega) (by omega))⟩
              · rw [F5 _ _ (by omega) (by omega) (by omega)]; exact w1
              · rw [F5 _ _ (by omega) (by omega) (by omega)]; exact w3
              · rw [F5 _ _ (by omega) (by omega) (by omega)]; exact w4 z
              · rw [F5 _ _ (by omega) (by omega) (by omega)]; exact w5
            · dsimp only; rw [f5 _ _ (by omega)]; exact p28
            · rw [F5 _ _ (by omega) (by omega) (by omega)]; exact g6
            · exact pR.eq' (fun j _ _ => ⟨f5 _ _ (by omega), f5 _ _ (by omega)⟩)
            · rw [F5 _ _ (by omega) (by omega) (by omega)]; exact g8
            · rw [F5 _ _ (by omega) (by omega) (by omega)]; exact g9
          refine GPo.good ((((a2.trans (f3.mono (fun b j z => by unfold FMs; omega))).trans (f4.mono (fun b j z => by unfold FMs; omega))).trans (f5.mono (fun b j z => by unfold FMs; omega))).trans (f6.mono (fun b j z => by unfold FMs; omega))) (mr5.eq (fun b j z => f6 _ _ (by omega))) rt6 ?_
          rw [f6 _ _ (by omega), F5 _ _ (by omega) (by omega) (by omega), h1f _ _ (by unfold FJn; omega)]
          exact h40
        · rw [if_pos y0, e_blame hm8]
          refine rn_v (rn_t (by rw [mset_o (by omega), mset_s rfl rfl]; omega) (rn_s ?_))
          rw [eM1 (.inr (1, plcT t k, cs, k)) (by
            by_cases q27 : t 35 k = 27 ∧ 2 ≤ kd
            · rw [if_pos q27]
            · rw [if_neg q27, if_neg q6, if_neg (by omega), if_neg q44])]
          exact GPo.bad ((Fr.rfl'.set (by unfold FMs; omega)).set (by unfold FMs; omega)) (show (1 : Int) ≠ 0 by decide) (by rw [mset_o (by omega), mset_s rfl rfl]) (by rw [mset_s rfl rfl]; exact hplc)
      -- and, or
      rcases htsd with ⟨qt, t1⟩ | ⟨qt, t0⟩
      case inr => exact rn_t t0 (goJ3 (fun c => qt c.1))
      refine rn_f (by omega) ?_
      obtain ⟨yA, eyA, hyA⟩ := e_wd 19 rtk hl (by decide)
      obtain ⟨yO, eyO, hyO⟩ := e_wd 18 rtk hl (by decide)
      refine rn_e eyA ?_
      refine rn_jl (fun J5 hJ5 => ?_)
      have goJ5 : (t 35 k = 19 ∨ t 35 k = 18) → Rn (J5 ()) (GPo t RT ib f0 m (mGo t k op cs kd ph 0 pr ops Fs)) := fun qao => by
        subst hJ5
        dsimp only
        refine rn_t (by omega) ?_
        rw [e492]
        by_cases q0 : ph = 0
        · rw [if_pos q0, e_blame hm8]
          refine rn_v (rn_t (by rw [mset_o (by omega), mset_s rfl rfl]; omega) (rn_s ?_))
          have eM : mGo t k op cs kd ph 0 pr ops Fs = .inr (1, plcT t k, cs, k) := by
            unfold mGo
            rw [if_neg (by omega), if_neg nA, if_neg nB, if_neg nC, if_pos ⟨qt, qao⟩, if_pos q0]
          rw [eM]
          exact GPo.bad ((Fr.rfl'.set (by unfold FMs; omega)).set (by unfold FMs; omega)) (show (1 : Int) ≠ 0 by decide) (by rw [mset_o (by omega), mset_s rfl rfl]) (by rw [mset_s rfl rfl]; exact hplc)
        · rw [if_neg q0]
          refine rn_v (rn_f (by omega) ?_)
          refine rn_e eyA ?_
          have er : (if yA = 0 then (1 : Int) else 2) = (if t 35 k = 19 then 2 else 1) := by
            by_cases z : t 35 k = 19
            · rw [if_pos z, if_neg (by omega)]
            · rw [if_neg z, if_pos (by omega)]
          have eo : (if yA = 0 then (42 : Int) else 41) = opq (if t 35 k = 19 then 14 else 15) := by
            by_cases z : t 35 k = 19
            · rw [if_pos z, if_neg (by omega)]; rfl
            · rw [if_neg z, if_pos (by omega)]; rfl
          rw [er, eo]
          refine rn_v ?_
          have eM : mGo t k op cs kd ph 0 pr ops Fs = .inl (k + 1, op - nots (flq (if t 35 k = 19 then 2 else 1) ops).1, cs ++ cod (flq (if t 35 k = 19 then 2 else 1) ops).1, (kd, 0, 1, pr, (if t 35 k = 19 then 14 else 15) :: (flq (if t 35 k = 19 then 2 else 1) ops).2) :: Fs, 0) := by
            unfold mGo
            rw [if_neg (by omega), if_neg nA, if_neg nB, if_neg nC, if_pos ⟨qt, qao⟩, if_neg q0]
          rw [eM]
          generalize (if t 35 k = 19 then (2 : Int) else 1) = r
          generalize (if t 35 k = 19 then (14 : Int) else 15) = o
          refine rn_b (r_joinsM (r := r) hN hib (by omega) hmi hm) (fun m1 h1 => rn_v ?_)
          obtain ⟨a1, a2, a3, a4⟩ := afterJ r m1 h1.1 h1.2
          refine rn_b (r_holdM (o := o) (room r) h1.1) (fun m2 h2 => ?_)
          refine rn_t (by omega) (rn_l (fun m3 hm3 => rn_t (by omega) (rn_l (fun m4 hm4 => ?_))))
          have f4 : Fr (fun b j => (491 ≤ b ∧ b ≤ 493) ∧ j = Fs.length) m2 m4 := by rw [hm4, hm3]; exact (Fr.rfl'.set (by omega)).set (by omega)
          have b491 : m4 491 (Fs.length : Int) = kd := by rw [hm4, mset_o (by omega), hm3, mset_o (by omega)]; exact h2.1.2.2.2.1.1.1
          have b492 : m4 492 (Fs.length : Int) = 0 := by rw [hm4, mset_o (by omega), hm3, mset_s rfl rfl]
          have b493 : m4 493 (Fs.length : Int) = 1 := by rw [hm4, mset_s rfl rfl]
          clear hm3 hm4
          exact r_fin hL (h2.1.top (fun b j z => f4 b j z) b491 b492 b493 (fun z => z)) (hL.2.1 _ _ _ a1 (fun b j z => by rw [f4 _ _ (by omega), h2.2 _ _ (by omega)])) hk.1 (nolast (by omega) (by omega)) ((a2.trans (h2.2.mono (fun b j z => by unfold FMs; omega))).trans (f4.mono (fun b j z => by unfold FMs; omega)))
      rcases hyA with ⟨yA1, qA⟩ | ⟨yA0, qA⟩
      · exact rn_f (by omega) (goJ5 (Or.inl qA))
      · refine rn_t yA0 ?_
        refine rn_e eyO ?_
        rcases hyO with ⟨yO1, qO⟩ | ⟨yO0, qO⟩
        · exact rn_f (by omega) (goJ5 (Or.inr qO))
        · exact rn_t yO0 (goJ3 (by omega))
    -- comparisons
    rcases htsd with ⟨qt, t1⟩ | ⟨qt, t0⟩
    case inr => exact rn_t t0 (goJ2 (fun c => qt c.1))
    refine rn_f (by omega) (rn_t (by omega) ?_)
    rw [e492]
    by_cases q0 : ph = 0
    case neg => exact rn_f q0 (goJ2 (fun c => q0 c.2.1))
    refine rn_t q0 ?_
    obtain ⟨y60, e60, h60⟩ := e_sg 60 rtk hl (by unfold isSg; omega)
    obtain ⟨y62, e62, h62⟩ := e_sg 62 rtk hl (by unfold isSg; omega)
    obtain ⟨y61, e61, h61⟩ := e_sg 61 rtk hl (by unfold isSg; omega)
    refine rn_e e60 ?_
    refine rn_jl (fun J6 hJ6 => ?_)
    have goJ6 : (t 35 k = 60 ∨ t 35 k = 62 ∨ t 35 k = 61) → Rn (J6 ()) (GPo t RT ib f0 m (mGo t k op cs kd ph 0 pr ops Fs)) := fun qc => by
      subst hJ6
      dsimp only
      have eM : mGo t k op cs kd ph 0 pr ops Fs = .inl (k + 1, op - nots (flq 5 ops).1, cs ++ cod (flq 5 ops).1, (kd, 1, 0, pr, cop (t 35 k) :: (flq 5 ops).2) :: Fs, 0) := by
        unfold mGo
        rw [if_neg (by omega), if_neg nA, if_neg nB, if_pos ⟨qt, q0, qc⟩]
      rw [eM]
      refine rn_b (r_joinsM (r := 5) hN hib (by omega) hmi hm) (fun m1 h1 => ?_)
      obtain ⟨a1, a2, a3, a4⟩ := afterJ 5 m1 h1.1 h1.2
      obtain ⟨z60, f60, g60⟩ := e_sg 60 a3 a4 (by unfold isSg; omega)
      obtain ⟨z62, f62, g62⟩ := e_sg 62 a3 a4 (by unfold isSg; omega)
      have eop : (if z60 = 0 then (pM_isSign m1 62).bind fun r251 => if r251 = 0 then some ((40 : Int)) else some ((39 : Int)) else some ((38 : Int))) = some (opq (cop (t 35 k))) := by
        rcases qc with q | q | q
        · rw [if_neg (by omega), q]; rfl
        · rw [if_pos (by omega), f62, Option.bind_some, if_neg (by omega), q]; rfl
        · rw [if_pos (by omega), f62, Option.bind_some, if_pos (by omega), q]; rfl
      refine rn_e f60 (rn_e eop ?_)
      refine rn_b (r_holdM (o := cop (t 35 k)) (room 5) h1.1) (fun m2 h2 => ?_)
      refine rn_t (by omega) (rn_l (fun m3 hm3 => ?_))
      have f3 : Fr (fun b j => (491 ≤ b ∧ b ≤ 493) ∧ j = Fs.length) m2 m3 := by rw [hm3]; exact Fr.rfl'.set (by omega)
      have b491 : m3 491 (Fs.length : Int) = kd := by rw [hm3, mset_o (by omega)]; exact h2.1.2.2.2.1.1.1
      have b492 : m3 492 (Fs.length : Int) = 1 := by rw [hm3, mset_s rfl rfl]
      have b493 : m3 493 (Fs.length : Int) = 0 := by rw [hm3, mset_o (by omega)]; exact h2.1.2.2.2.1.1.2.2.1
      clear hm3
      exact r_fin hL (h2.1.top (fun b j z => f3 b j z) b491 b492 b493 (fun z => z)) (hL.2.1 _ _ _ a1 (fun b j z => by rw [f3 _ _ (by omega), h2.2 _ _ (by omega)])) hk.1 (nolast (by omega) (by omega)) ((a2.trans (h2.2.mono (fun b j z => by unfold FMs; omega))).trans (f3.mono (fun b j z => by unfold FMs; omega)))
    rcases h60 with ⟨y1, q⟩ | ⟨y0, q60⟩
    · exact rn_f (by omega) (goJ6 (Or.inl q))
    refine rn_t y0 (rn_e e62 ?_)
    rcases h62 with ⟨y1, q⟩ | ⟨y0', q62⟩
    · exact rn_f (by omega) (goJ6 (Or.inr (Or.inl q)))
    refine rn_t y0' (rn_e e61 ?_)
    rcases h61 with ⟨y1, q⟩ | ⟨y0'', q61⟩
    · exact rn_f (by omega) (goJ6 (Or.inr (Or.inr q)))
    exact rn_t y0'' (goJ2 (by omega))
  -- arithmetic
  rw [e492]
  by_cases qp : ph < 2
  case neg => exact rn_f qp (goJ (fun c => qp c.1) (fun c => qp c.1))
  refine rn_t qp ?_
  obtain ⟨y43, e43, h43⟩ := e_sg 43 rtk hl (by unfold isSg; omega)
  obtain ⟨y45, e45, h45⟩ := e_sg 45 rtk hl (by unfold isSg; omega)
  obtain ⟨y42, e42, h42⟩ := e_sg 42 rtk hl (by unfold isSg; omega)
  obtain ⟨y47, e47, h47⟩ := e_sg 47 rtk hl (by unfold isSg; omega)
  obtain ⟨y37, e37, h37⟩ := e_sg 37 rtk hl (by unfold isSg; omega)
  refine rn_e e43 ?_
  refine rn_jl (fun J7 hJ7 => ?_)
  have goJ7 : ar5 (t 35 k) → Rn (J7 ()) (GPo t RT ib f0 m (mGo t k op cs kd ph 0 pr ops Fs)) := fun qa => by
    subst hJ7
    dsimp only
    unfold ar5 at qa
    refine rn_e e43 ?_
    have er : (if y43 = 0 then (pM_isSign m 45).bind fun r100 => if r100 = 0 then some ((6 : Int)) else some ((5 : Int)) else some ((5 : Int))) = some (if t 35 k = 43 ∨ t 35 k = 45 then 5 else 6) := by
      rcases h43 with ⟨z1, z2⟩ | ⟨z1, z2⟩
      · rw [if_neg (by omega), if_pos (Or.inl z2)]
      · rw [if_pos z1, e45, Option.bind_some]
        rcases h45 with ⟨z3, z4⟩ | ⟨z3, z4⟩
        · rw [if_neg (by omega), if_pos (Or.inr z4)]
        · rw [if_pos z3, if_neg (by omega)]
    refine rn_e er ?_
    have eM : mGo t k op cs kd ph 0 pr ops Fs = .inl (k + 1, op - nots (flq (if t 35 k = 43 ∨ t 35 k = 45 then 5 else 6) ops).1, cs ++ cod (flq (if t 35 k = 43 ∨ t 35 k = 45 then 5 else 6) ops).1, (kd, ph, 0, pr, aop (t 35 k) :: (flq (if t 35 k = 43 ∨ t 35 k = 45 then 5 else 6) ops).2) :: Fs, 0) := by
      unfold mGo
      rw [if_neg (by omega)]
      by_cases z : t 35 k = 43 ∨ t 35 k = 45
      · rw [if_pos ⟨qp, z⟩, if_pos z]
      · rw [if_neg (fun c => z c.2), if_pos ⟨qp, by omega⟩, if_neg z]
    rw [eM]
    generalize (if t 35 k = 43 ∨ t 35 k = 45 then (5 : Int) else 6) = r
    refine rn_b (r_joinsM (r := r) hN hib (by omega) hmi hm) (fun m1 h1 => ?_)
    obtain ⟨a1, a2, a3, a4⟩ := afterJ r m1 h1.1 h1.2
    obtain ⟨z43, f43, g43⟩ := e_sg 43 a3 a4 (by unfold isSg; omega)
    obtain ⟨z45, f45, g45⟩ := e_sg 45 a3 a4 (by unfold isSg; omega)
    obtain ⟨z42, f42, g42⟩ := e_sg 42 a3 a4 (by unfold isSg; omega)
    obtain ⟨z47, f47, g47⟩ := e_sg 47 a3 a4 (by unfold isSg; omega)
    have eop : (if z43 = 0 then (pM_isSign m1 45).bind fun r133 => if r133 = 0 then (pM_isSign m1 42).bind fun r147 => if r147 = 0 then (pM_isSign m1 47).bind fun r161 => if r161 = 0 then some ((35 : Int)) else some ((34 : Int)) else some ((33 : Int)) else some ((32 : Int)) else some ((31 : Int))) = some (opq (aop (t 35 k))) := by
      rcases qa with q | q | q | q | q
      · rw [if_neg (by omega), q]; rfl
      · rw [if_pos (by omega), f45, Option.bind_some, if_neg (by omega), q]; rfl
      · rw [if_pos (by omega), f45, Option.bind_some, if_pos (by omega), f42, Option.bind_some, if_neg (by omega), q]; rfl
      · rw [if_pos (by omega), f45, Option.bind_some, if_pos (by omega), f42, Option.bind_some, if_pos (by omega), f47, Option.bind_some, if_neg (by omega), q]; rfl
      · rw [if_pos (by omega), f45, Option.bind_some, if_pos (by omega), f42, Option.bind_some, if_pos (by omega), f47, Option.bind_some, if_pos (by omega), q]; rfl
    refine rn_e f43 (rn_e eop ?_)
    refine rn_b (r_holdM (o := aop (t 35 k)) (room r) h1.1) (fun m2 h2 => ?_)
    exact r_fin hL h2.1 (hL.2.1 _ _ _ a1 (fun b j z => h2.2 _ _ (by omega))) hk.1 (nolast (by omega) (by omega)) (a2.trans (h2.2.mono (fun b j z => by unfold FMs; omega)))
  rcases h43 with ⟨y1, q⟩ | ⟨z43, q43⟩
  · exact rn_f (by omega) (goJ7 (Or.inl q))
  refine rn_t z43 (rn_e e45 ?_)
  rcases h45 with ⟨y1, q⟩ | ⟨z45, q45⟩
  · exact rn_f (by omega) (goJ7 (Or.inr (Or.inl q)))
  refine rn_t z45 (rn_e e42 ?_)
  rcases h42 with ⟨y1, q⟩ | ⟨z42, q42⟩
  · exact rn_f (by omega) (goJ7 (Or.inr (Or.inr (Or.inl q))))
  refine rn_t z42 (rn_e e47 ?_)
  rcases h47 with ⟨y1, q⟩ | ⟨z47, q47⟩
  · exact rn_f (by omega) (goJ7 (Or.inr (Or.inr (Or.inr (Or.inl q)))))
  refine rn_t z47 (rn_e e37 ?_)
  rcases h37 with ⟨y1, q⟩ | ⟨z37, q37⟩
  · exact rn_f (by omega) (goJ7 (Or.inr (Or.inr (Or.inr (Or.inr q)))))
  exact rn_t z37 (goJ (by omega) (by omega))
