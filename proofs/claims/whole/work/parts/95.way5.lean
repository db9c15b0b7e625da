/-! WAY: the call -/
def wayC (pl S : Mem) (i : Int) (n : Nat) : Int × Nat := wayZ pl i (S 3 i) n (thS pl (S 3 i).toNat 0 (begS pl S 1))
def IWay (pl S m : Mem) : Prop := m 250 5 = -1 ∨ ∃ (i : Int) (n : Nat), m 250 5 = i ∧ m 250 6 = n ∧ Zm n m (wayC pl S i n)
theorem IWay.fr {pl S m m' : Mem} (h : IWay pl S m) (f : ∀ b j, (b = 250 ∧ 4 ≤ j ∧ j ≤ 6) ∨ b = 253 → m' b j = m b j) : IWay pl S m' := by
  rcases h with h | ⟨i, n, h1, h2, h3⟩
  · exact Or.inl (by rw [f _ _ (by omega)]; exact h)
  · exact Or.inr ⟨i, n, by rw [f _ _ (by omega)]; exact h1, by rw [f _ _ (by omega)]; exact h2, h3.fr (fun b j q => f b j (by omega))⟩
def FYf : Int → Int → Prop := fun b j => (b = 250 ∧ 4 ≤ j ∧ j ≤ 6) ∨ (252 ≤ b ∧ b ≤ 295) ∨ b = 11 ∨ b = 14 ∨ b = 17
theorem c_find {N : Nat} {pl S m : Mem} {i : Int} {n : Nat} (hN : 2000 ≤ N) (hg : PG pl) (he : PE pl m) (hb : SB pl S) (h6 : vW m 236 = begS pl S 1) (hi : 0 ≤ i ∧ i < pl 2 3) (hn : 1 ≤ n ∧ n ≤ 5) (hun : S 3 i + n ≤ 9) (hw : IWay pl S m) : Rn (pY_find N m 236 i n) (fun m' => Zm n m' (wayC pl S i n) ∧ IWay pl S m' ∧ Fr FYf m m') := by
  have hnn := hg.num
  have hSi := hb.2.1 i hi.1 hi.2
  have hbB := WB.beg hg hb (t := 1) (Or.inl rfl)
  have hB2 : begS pl S 1 2 i = S 3 i := by
    exact beg_up (by omega)
  have hlB : LW i (S 3 i) (begS pl S 1) := ⟨hB2, rfl⟩
  have go : Rn ((some (mset m 250 5 i)).bind fun m19 => (some (mset m19 250 6 (n : Int))).bind fun m24 => (some (mset m24 250 4 (-1))).bind fun m29 => (pW_copyOf m29 254 236).bind fun m39 => if 0 ≤ i ∧ i < 6 then (pW_through N m39 254 0 (m39 (236 + 2) i)).bind fun m55 => (pY_search N m55 0).bind fun m60 => some m60 else none) (fun m' => Zm n m' (wayC pl S i n) ∧ IWay pl S m' ∧ Fr FYf m m') := by
    refine rn_l (fun ma hma => rn_l (fun mb hmb => rn_l (fun m1 hm1 => ?_)))
    have k5 : m1 250 5 = i := by rw [hm1, mset_o (by omega), hmb, mset_o (by omega), hma, mset_s rfl rfl]
    have k6 : m1 250 6 = n := by rw [hm1, mset_o (by omega), hmb, mset_s rfl rfl]
    have k4 : m1 250 4 = -1 := by rw [hm1, mset_s rfl rfl]
    have f1 : Fr (fun b j => b = 250 ∧ 4 ≤ j ∧ j ≤ 6) m m1 := by rw [hm1, hmb, hma]; exact ((Fr.rfl'.set (by omega)).set (by omega)).set (by omega)
    clear hm1 hmb hma
    refine rn_b (c_copyW (m := m1) (d := 254) (s := 236) (by omega)) (fun m2 h2 => ?_)
    obtain ⟨v2, f2⟩ := h2
    have v1 : vW m1 236 = begS pl S 1 := by
      rw [← h6]
      exact vW_fr (fun b j q1 q2 _ => f1 b j (by omega))
    rw [v1] at v2
    have e38 : m2 (236 + 2) i = S 3 i := by
      rw [f2 _ _ (by unfold FC; omega), ← hB2, ← v1, vW_in (by omega)]
    have he2 : PE pl m2 := (he.fr f1 (fun b j q => by unfold plc at q; omega)).fr f2 (fun b j q => by unfold plc at q; unfold FC; omega)
    refine rn_t (by omega) ?_
    rw [e38]
    refine rn_b (c_thr (m := m2) (a := 254) (h := 0) (e := S 3 i) hN hg (by omega) (by omega) he2 (by rw [v2]; exact hbB) (Int.le_refl _)) (fun m3 h3 => ?_)
    obtain ⟨v3, f3⟩ := h3
    rw [v2, show (S 3 i - 0).toNat = (S 3 i).toNat by omega] at v3
    have g3 : Fr (fun b _ => (254 ≤ b ∧ b ≤ 260) ∨ b = 11 ∨ b = 14 ∨ b = 17) m1 m3 := (f2.mono (fun b j q => by unfold FC at q; omega)).trans (f3.mono (fun b j q => by unfold FW at q; omega))
    have z3 : Zm n m3 (-1, 0) := ⟨by rw [g3 _ _ (by omega)]; exact k4, Int.le_refl _, Or.inl rfl⟩
    obtain ⟨r, rfl⟩ : ∃ r, n = r + 1 := ⟨n - 1, by omega⟩
    have hsl := c_srch (N := N) (F := wayF pl i (S 3 i) (r + 1) (thS pl (S 3 i).toNat 0 (begS pl S 1))) hN hg hi ⟨hSi.2.1.1, hun⟩ hn.2 r 40 0 0 (thS pl (S 3 i).toNat 0 (begS pl S 1)) m3 (-1, 0) (by omega) (by omega) (FW_PE he2 (by omega) f3) (by rw [g3 _ _ (by omega)]; exact k5) (by rw [g3 _ _ (by omega)]; exact k6) v3 (WB.th hg _ 0 _ hbB) (hlB.th _ _) z3 (fun k hk => absurd hk (Nat.not_lt_zero _)) (fun y hy => by rw [Nat.zero_mul, Nat.zero_add]; rfl)
    rw [Nat.zero_mul] at hsl
    refine rn_b hsl (fun m4 h4 => rn_s ⟨h4.1, Or.inr ⟨i, r + 1, ?_, ?_, h4.1⟩, ?_⟩)
    · rw [h4.2 _ _ (by unfold FY; omega), g3 _ _ (by omega)]; exact k5
    · rw [h4.2 _ _ (by unfold FY; omega), g3 _ _ (by omega)]; exact k6
    · exact ((f1.mono (fun b j q => by unfold FYf; omega)).trans (g3.mono (fun b j q => by unfold FYf; omega))).trans (h4.2.mono (fun b j q => by unfold FY at q; unfold FYf; omega))
  unfold pY_find jn
  dsimp only
  refine rn_i (fun q1 => rn_i (fun q2 => rn_s ⟨?_, hw, Fr.rfl'⟩) (fun _ => go)) (fun _ => go)
  rcases hw with h | ⟨i', n', h1, h2, h3⟩
  · omega
  · have e1 : i' = i := by omega
    have e2 : n' = n := by omega
    rw [e1, e2] at h3
    exact h3
def FWy : Int → Int → Prop := fun b j => FTd b j ∨ FYf b j ∨ FRy b j ∨ (b = 475 ∧ (j = 63 ∨ j = 64))
theorem FWy_CD {b j : Int} (h : CD b j) : ¬ FWy b j := by
  unfold FWy FTd FYf FRy
  rcases h with h | h | h | h | h | h | h | h | h | h
  · unfold A1 at h; omega
  · unfold A2 at h; omega
  · unfold A3 at h; omega
  · unfold A4 at h; omega
  · unfold A5 plc prc at h; omega
  · unfold A6 FLy at h; omega
  · unfold A7 at h
    rcases h with h | h | h | ⟨v, _, _, h⟩
    · omega
    · omega
    · omega
    · unfold FLy at h; omega
  · unfold A8 at h; omega
  · unfold A9 at h; omega
  · unfold A10 at h; omega
def OkY (m m2 : Mem) : Prop := Core m2 ∧ ITod (vP m) (vS m 38) m2 ∧ IWay (vP m) (vS m 38) m2 ∧ Fr FWy m m2
theorem o_way {N : Nat} {m : Mem} (hN : 4000 ≤ N) (hc : Core m) (ht : ITod (vP m) (vS m 38) m) (hw : IWay (vP m) (vS m 38) m) (i n x : Int) : ∃ r m1 m2, pD_way N m i n x = some (r, m1) ∧ pM_way N m1 i n x = some (r, m2) ∧ OkY m m2 := by
  obtain ⟨-, -, -, -, ⟨hg, hr, hnm⟩, hst, -, -, -, hwk⟩ := id hc
  have hnn := hg.num
  have rf : OkY m m := ⟨hc, ht, hw, Fr.rfl'⟩
  have e41 : m 41 i = if 0 ≤ i ∧ i < 6 then vS m 38 3 i else m 41 i := by
    split
    · rw [vS_in (by omega)]; rfl
    · rfl
  by_cases q : (0 ≤ i ∧ i < vP m 2 3) ∧ (1 ≤ n ∧ n ≤ 5) ∧ vS m 38 3 i + n ≤ 9 ∧ -1 ≤ x ∧ x < n
  · obtain ⟨hi, hn, hun, hx⟩ := q
    have hSi := hst.1.2.1 i hi.1 hi.2
    rw [if_pos (by omega)] at e41
    obtain ⟨ma, e1, k13, tk, it, f1⟩ := c_tlearn (N := N) (by omega) hg (vP_PE m) hst.1 ht
    obtain ⟨nn, hnn2⟩ : ∃ nn : Nat, n = nn := ⟨n.toNat, by omega⟩
    subst hnn2
    obtain ⟨m1, e2, zm, iw, f2⟩ := c_find (N := N) (i := i) (n := nn) (by omega) hg ((vP_PE m).fr f1 (fun b j q => FTd_CD (Or.inr (Or.inr (Or.inr (Or.inr (Or.inl (Or.inl q)))))))) hst.1 tk.1 hi (by omega) hun (hw.fr (fun b j q => f1 b j (by unfold FTd; omega)))
    have hZ0 : 0 ≤ (wayC (vP m) (vS m 38) i nn).1 := wayZ_in hg hi (WB.th hg _ 0 _ (WB.beg hg hst.1 (t := 1) (Or.inl rfl)))
    have hD : pD_way N m i nn x = if x = -1 then some (m1 250 4, m1) else some (m1 253 x, m1) := by
      unfold pD_way
      rw [e_hasP (vP_PE m), if_pos hi, Option.bind_some, if_neg (show ¬ ((1 : Int) = 0) by omega), if_neg (by omega), if_neg (by omega), if_pos (by omega), e41, w32_eq (by omega) (by omega), if_neg (by omega), if_neg (by omega), if_pos (by omega), e1, Option.bind_some, e2]
      show (if x = -1 then some (m1 250 4, m1) else if 0 ≤ x ∧ x < 5 then some (m1 253 x, m1) else none) = _
      by_cases a1 : x = -1
      · rw [if_pos a1, if_pos a1]
      · rw [if_neg a1, if_neg a1, if_pos (by omega)]
    have g1 : Fr (fun b j => FTd b j ∨ FYf b j) m m1 := (f1.mono (fun b j q => Or.inl q)).trans (f2.mono (fun b j q => Or.inr q))
    have q1 : PQ (vP m) m1 := (vP_PQ m).fr g1 (fun b j q => by unfold prc at q; unfold FTd FYf; omega)
    have s1 : SR (vP m) m1 0 (vS m 38) := hst.2.eq hg hst.1.2.2.2.2 (fun b j q => g1 b j (by have := FLy_b q; unfold FTd FYf; omega))
    have k501 : m1 501 i = vS m 38 3 i := by
      have := (s1.2.2.2.1 i hi.1 hi.2).2.1
      rw [show 6 * 0 + i = i by omega] at this
      exact this
    have hM : Rn (pM_way N m1 i nn x) (fun z => z.1 = (if x = -1 then (wayC (vP m) (vS m 38) i nn).1 else dgN nn x.toNat (wayC (vP m) (vS m 38) i nn).2) ∧ z.2 475 62 = -1 ∧ Fr (fun b j => FRy b j ∨ (b = 475 ∧ (j = 62 ∨ j = 63 ∨ j = 64))) m1 z.2) := by
      unfold pM_way
      refine rn_e (e_isP hr q1 i) ?_
      rw [if_pos hi]
      refine rn_f (show ¬ ((1 : Int) = 0) by omega) ?_
      have eA : pM_is m1 (nn : Int) 1 5 = some 1 := by rw [e_is, if_pos (by omega)]
      refine rn_e eA ?_
      refine rn_f (show ¬ ((1 : Int) = 0) by omega) (rn_t (by omega) ?_)
      rw [k501, w32_eq (x := vS m 38 3 i + nn) (by omega) (by omega), w32_eq (x := (nn : Int) - 1) (by omega) (by omega)]
      refine rn_f (by omega) ?_
      have eB : pM_is m1 x (-1) ((nn : Int) - 1) = some 1 := by rw [e_is, if_pos (by omega)]
      refine rn_e eB ?_
      refine rn_f (show ¬ ((1 : Int) = 0) by omega) ?_
      unfold pM_way_L49
      have h49 : ∀ kk : Int → Option (Int × Mem), lpF (fun _ _ => none) (pM_way_L49b N m1 i (nn : Int) x kk) N 1 0 = kk ((5 ^ nn : Nat) : Int) := fun kk => r_wy49 (by omega) nn N 0 (by omega) (by omega)
      rw [h49]
      refine rn_l (fun mb hmb => ?_)
      have k501b : mb 501 i = vS m 38 3 i := by rw [hmb, mset_o (by omega)]; exact k501
      refine rn_t (by omega) ?_
      rw [k501b]
      refine rn_l (fun mc hmc => rn_l (fun md hmd => ?_))
      have k62 : md 475 62 = i := by rw [hmd, mset_o (by omega), hmc, mset_o (by omega), hmb, mset_s rfl rfl]
      have k63 : md 475 63 = vS m 38 3 i := by rw [hmd, mset_o (by omega), hmc, mset_s rfl rfl]
      have k64 : md 475 64 = nn := by rw [hmd, mset_s rfl rfl]
      have fd : Fr (fun b j => b = 475 ∧ (j = 62 ∨ j = 63 ∨ j = 64)) m1 md := by rw [hmd, hmc, hmb]; exact ((Fr.rfl'.set (by omega)).set (by omega)).set (by omega)
      clear hmb hmc hmd
      unfold pM_way_L93
      have hp5 : 5 ^ nn ≤ 5 ^ 5 := Nat.pow_le_pow_right (by decide) (by omega)
      have h55 : 5 ^ 5 = 3125 := by decide
      refine r_wy93 (N := N) (pl := vP m) (S := vS m 38) (m0 := md) (i := i) (up := vS m 38 3 i) (n := nn) (by omega) hg hr (q1.fr fd (fun b j q => by unfold prc at q; omega)) (s1.eq hg hst.1.2.2.2.2 (fun b j q => fd b j (by have := FLy_b q; omega))) hst.1 hi rfl (by omega) hun k62 k63 k64 (5 ^ nn) N 0 (-1, 0) md (by omega) (by omega) ⟨Int.le_refl _, Or.inl rfl⟩ Fr.rfl' (fun m3 z3 f3 => ?_)
      have ewc : flN (wayF (vP m) i (vS m 38 3 i) nn (thS (vP m) (vS m 38 3 i).toNat 0 (begS (vP m) (vS m 38) 1))) (5 ^ nn) 0 (-1, 0) = wayC (vP m) (vS m 38) i nn := rfl
      rw [ewc] at z3 ⊢
      refine rn_l (fun me hme => ?_)
      have k62e : me 475 62 = -1 := by rw [hme, mset_s rfl rfl]
      have fe : Fr (fun b j => FRy b j ∨ (b = 475 ∧ (j = 62 ∨ j = 63 ∨ j = 64))) m1 me := by
        rw [hme]
        exact ((fd.mono (fun b j q => Or.inr q)).trans (f3.mono (fun b j q => Or.inl q))).set (Or.inr ⟨rfl, Or.inl rfl⟩)
      have k515 : ∀ j, me 515 j = m3 515 j := fun j => by rw [hme, mset_o (by omega)]
      clear hme
      by_cases a1 : x = -1
      · rw [if_pos a1, if_pos a1]
        exact rn_s ⟨rfl, k62e, fe⟩
      · rw [if_neg a1, if_neg a1]
        refine rn_t (by omega) (rn_s ⟨?_, k62e, fe⟩)
        dsimp only
        rw [k515, ← (z3.2.resolve_left (by omega)) x.toNat (by omega)]
        congr 1; omega
    obtain ⟨⟨r2, m2⟩, e3, hr2, k62, f3⟩ := hM
    dsimp only at hr2 k62 f3
    have F : Fr FWy m m2 := fun b j nq => by
      by_cases q62 : b = 475 ∧ j = 62
      · rw [q62.1, q62.2, k62, hwk]
      · rw [f3 b j (fun c => by
          rcases c with c | c
          · exact nq (Or.inr (Or.inr (Or.inl c)))
          · exact nq (Or.inr (Or.inr (Or.inr (by omega))))), g1 b j (fun c => by
          rcases c with c | c
          · exact nq (Or.inl c)
          · exact nq (Or.inr (Or.inl c)))]
    have lo : ∀ b j, b < 475 → m2 b j = m1 b j := fun b j q => f3 b j (by unfold FRy; omega)
    have hok : OkY m m2 := ⟨hc.fr (fun b j q => F b j (FWy_CD q)), (it.fr (fun b j q1 q2 => f2 b j (by unfold FYf; omega))).fr (fun b j q1 q2 => lo b j (by omega)), iw.fr (fun b j q => lo b j (by omega)), F⟩
    by_cases a1 : x = -1
    · rw [if_pos a1] at hD hr2
      exact ⟨_, m1, m2, hD, by rw [e3, hr2, zm.1], hok⟩
    · rw [if_neg a1] at hD hr2
      refine ⟨_, m1, m2, hD, ?_, hok⟩
      have h253 := (zm.2.2.resolve_left (by omega)) x.toNat (by omega)
      rw [show ((x.toNat : Nat) : Int) = x by omega] at h253
      rw [e3, hr2, h253]
  · refine ⟨-1, m, m, ?_, ?_, rf⟩
    · unfold pD_way
      rw [e_hasP (vP_PE m)]
      by_cases a1 : 0 ≤ i ∧ i < vP m 2 3
      · have hSi := hst.1.2.1 i a1.1 a1.2
        rw [if_pos (by omega)] at e41
        rw [if_pos a1, Option.bind_some, if_neg (show ¬ ((1 : Int) = 0) by omega)]
        by_cases a2 : n < 1
        · rw [if_pos a2]
        rw [if_neg a2]
        by_cases a3 : 5 < n
        · rw [if_pos a3]
        rw [if_neg a3, if_pos (by omega), e41, w32_eq (by omega) (by omega)]
        by_cases a4 : 9 < vS m 38 3 i + n
        · rw [if_pos a4]
        rw [if_neg a4]
        by_cases a5 : x < -1
        · rw [if_pos a5]
        rw [if_neg a5, if_neg (fun c => q ⟨a1, by omega, by omega, by omega, c⟩)]
      · rw [if_neg a1]; rfl
    · unfold pM_way
      rw [e_isP hr (vP_PQ m)]
      by_cases a1 : 0 ≤ i ∧ i < vP m 2 3
      · have hSi := hst.1.2.1 i a1.1 a1.2
        have k501 : m 501 i = vS m 38 3 i := by
          have := (hst.2.2.2.2.1 i a1.1 a1.2).2.1
          rw [show 6 * 0 + i = i by omega] at this
          exact this
        rw [if_pos a1, Option.bind_some, if_neg (show ¬ ((1 : Int) = 0) by omega), e_is]
        by_cases a2 : 1 ≤ n ∧ n ≤ 5
        · rw [if_pos a2, Option.bind_some, if_neg (show ¬ ((1 : Int) = 0) by omega), if_pos (by omega), k501, w32_eq (by omega) (by omega)]
          by_cases a4 : 9 < vS m 38 3 i + n
          · rw [if_pos a4]
          rw [if_neg a4, e_is, w32_eq (x := n - 1) (by omega) (by omega), if_neg (fun c => q ⟨a1, a2, by omega, by omega, by omega⟩)]
          rfl
        · rw [if_neg a2]; rfl
      · rw [if_neg a1]; rfl
