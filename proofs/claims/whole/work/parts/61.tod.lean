/-! TODAY -/
def betF (v : Nat → Int) : Nat → Int × Int
  | 0 => (-1, -1)
  | k + 1 => if (betF v k).2 < v k then ((k : Int), v k) else betF v k
def riseV (pl S : Mem) (i : Int) (h : Nat) : Int := thS pl 9 0 (mset (begS pl S 1) 2 i h) 5 i
def homeV (pl S : Mem) (i : Int) (p : Nat) : Int := thS pl 9 0 (mset (begS pl S 1) 4 i p) 5 i
def swpW (pl S : Mem) (a b : Int) : Mem := mset (mset (begS pl S 1) 3 a (S 4 b)) 3 b (S 4 a)
def swpV (pl S : Mem) (a b : Int) : Int := sumR (thS pl 9 0 (swpW pl S a b) 5) (pl 2 3).toNat
/-- the best change so far: (how much, one, other) -/
def chgI (pl S : Mem) (a : Int) : Nat → Int → Int × Int × Int → Int × Int × Int
  | 0, _, z => z
  | k + 1, b, z => chgI pl S a k (b + 1) (if z.1 < swpV pl S a b then (swpV pl S a b, a, b) else z)
def chgO (pl S : Mem) : Nat → Int → Int × Int × Int → Int × Int × Int
  | 0, _, z => z
  | k + 1, a, z => chgO pl S k (a + 1) (chgI pl S a (pl 2 3 - (a + 1)).toNat (a + 1) z)
def chgS (pl S : Mem) : Int × Int × Int := chgO pl S (pl 2 3).toNat 0 (sumR (runS pl S 1 5) (pl 2 3).toNat, -1, -1)
def TK (pl S m : Mem) : Prop := vW m 236 = begS pl S 1 ∧ ∀ h, 0 ≤ h → h < 9 → (∀ p, 0 ≤ p → p < pl 2 2 → m (203 + h) p = thS pl (h + 1).toNat 0 (begS pl S 1) 1 p) ∧ (∀ i, 0 ≤ i → i < pl 2 3 → m (213 + h) i = thS pl (h + 1).toNat 0 (begS pl S 1) 4 i ∧ m (223 + h) i = thS pl (h + 1).toNat 0 (begS pl S 1) 5 i)
def ITod (pl S m : Mem) : Prop := (m 201 13 = 0 ∧ m 201 14 = 0) ∨ (m 201 13 = 1 ∧ TK pl S m ∧ (∀ i, 0 ≤ i → i < pl 2 3 → m 232 i = -1 ∨ (m 232 i, m 233 i) = betF (riseV pl S i) 9) ∧ (∀ i, 0 ≤ i → i < pl 2 3 → m 234 i = -1 ∨ (m 234 i, m 235 i) = betF (homeV pl S i) (pl 2 2).toNat) ∧ (m 201 14 = 0 ∨ (m 201 14 = 1 ∧ ∃ t, (m 201 12, m 201 10, m 201 11) = chgO pl S (pl 2 3).toNat 0 (sumR (runS pl S 1 5) (pl 2 3).toNat, -1, t))))
theorem TK.fr {pl S m m' : Mem} (h : TK pl S m) (f : ∀ b j, 203 ≤ b → b ≤ 241 → ¬ (232 ≤ b ∧ b ≤ 235) → m' b j = m b j) : TK pl S m' := by
  refine ⟨?_, fun x h0 h1 => ⟨fun p p0 p1 => ?_, fun i i0 i1 => ?_⟩⟩
  · rw [show vW m' 236 = vW m 236 from vW_fr (fun b j q1 q2 _ => f b j (by omega) (by omega) (by omega))]
    exact h.1
  · rw [f _ _ (by omega) (by omega) (by omega)]
    exact (h.2 x h0 h1).1 p p0 p1
  · rw [f (213 + x) _ (by omega) (by omega) (by omega), f (223 + x) _ (by omega) (by omega) (by omega)]
    exact (h.2 x h0 h1).2 i i0 i1
theorem ITod.fr {pl S m m' : Mem} (h : ITod pl S m) (f : ∀ b j, 201 ≤ b → b ≤ 241 → m' b j = m b j) : ITod pl S m' := by
  have e : ∀ j, m' 201 j = m 201 j := fun j => f _ _ (by omega) (by omega)
  have e2 : ∀ j, m' 232 j = m 232 j := fun j => f _ _ (by omega) (by omega)
  have e3 : ∀ j, m' 233 j = m 233 j := fun j => f _ _ (by omega) (by omega)
  have e4 : ∀ j, m' 234 j = m 234 j := fun j => f _ _ (by omega) (by omega)
  have e5 : ∀ j, m' 235 j = m 235 j := fun j => f _ _ (by omega) (by omega)
  unfold ITod
  simp only [e, e2, e3, e4, e5]
  rcases h with h | ⟨h1, h2, h3⟩
  · exact Or.inl h
  · exact Or.inr ⟨h1, h2.fr (fun b j q1 q2 _ => f b j (by omega) (by omega)), h3⟩
theorem thS_snoc (pl : Mem) : ∀ (k : Nat) (h : Int) (W : Mem), thS pl (k + 1) h W = hrS pl (h + k) (thS pl k h W)
  | 0, h, W => by
    show thS pl 0 (h + 1) (hrS pl h W) = hrS pl (h + ((0 : Nat) : Int)) W
    rw [show h + ((0 : Nat) : Int) = h by omega]
    rfl
  | k + 1, h, W => by
    show thS pl (k + 1) (h + 1) (hrS pl h W) = hrS pl (h + ((k + 1 : Nat) : Int)) (thS pl k (h + 1) (hrS pl h W))
    rw [thS_snoc pl k (h + 1), show h + 1 + (k : Int) = h + ((k + 1 : Nat) : Int) by omega]
def FTd : Int → Int → Prop := fun b j => (b = 201 ∧ 10 ≤ j) ∨ (202 ≤ b ∧ b ≤ 249) ∨ b = 11 ∨ b = 14 ∨ b = 17
theorem FTd_CD {b j : Int} (h : CD b j) : ¬ FTd b j := by
  unfold FTd
  rcases h with h | h | h | h | h | h | h | h | h | h
  · unfold A1 at h; omega
  · unfold A2 at h; omega
  · unfold A3 at h; omega
  · unfold A4 at h; omega
  · unfold A5 plc prc at h; omega
  · unfold A6 FLy at h; omega
  · unfold A7 at h
    rcases h with h | h | h | ⟨v, _, _, h⟩
    · omega
    · omega
    · omega
    · unfold FLy at h; omega
  · unfold A8 at h; omega
  · unfold A9 at h; omega
  · unfold A10 at h; omega
theorem FRr_CD {b j : Int} (h : CD b j) : ¬ FRr b j := by
  unfold FRr
  rcases h with h | h | h | h | h | h | h | h | h | h
  · unfold A1 at h; omega
  · unfold A2 at h; omega
  · unfold A3 at h; omega
  · unfold A4 at h; omega
  · unfold A5 plc prc at h; omega
  · unfold A6 FLy at h; omega
  · unfold A7 at h
    rcases h with h | h | h | ⟨v, _, _, h⟩
    · omega
    · omega
    · omega
    · unfold FLy at h; omega
  · unfold A8 at h; omega
  · unfold A9 at h; omega
  · unfold A10 at h; omega
theorem FTd_vP {m m' : Mem} (f : Fr FTd m m') : vP m' = vP m := vP_fr (fun b j q => f b j (FTd_CD (Or.inr (Or.inr (Or.inr (Or.inr (Or.inl q)))))))
theorem FTd_vS {m m' : Mem} (f : Fr FTd m m') : vS m' 38 = vS m 38 := vS_fr (fun b j q1 q2 _ => f b j (by unfold FTd; omega))
theorem FTd_PE {pl m m' : Mem} (h : PE pl m) (f : Fr FTd m m') : PE pl m' := h.fr f (fun b j q => FTd_CD (Or.inr (Or.inr (Or.inr (Or.inr (Or.inl (Or.inl q)))))))
theorem c_tl35 {N : Nat} {Q : Mem → Prop} {kk : Mem → Option Mem} {bo : Int → Mem → Option Mem} {pl S m0 : Mem} (hN : 2000 ≤ N) (hg : PG pl) (hb : SB pl S) (hk : ∀ m', PE pl m' → TK pl S m' → m' 201 13 = m0 201 13 → m' 201 14 = m0 201 14 → Fr FTd m0 m' → Rn (kk m') Q) :
    ∀ (k n : Nat) (x : Int) (m : Mem), k < n → 0 ≤ x → x + k = 9 → PE pl m → vW m 236 = begS pl S 1 → vW m 243 = thS pl x.toNat 0 (begS pl S 1) → (∀ h, 0 ≤ h → h < x → (∀ p, 0 ≤ p → p < pl 2 2 → m (203 + h) p = thS pl (h + 1).toNat 0 (begS pl S 1) 1 p) ∧ (∀ i, 0 ≤ i → i < pl 2 3 → m (213 + h) i = thS pl (h + 1).toNat 0 (begS pl S 1) 4 i ∧ m (223 + h) i = thS pl (h + 1).toNat 0 (begS pl S 1) 5 i)) → m 201 13 = m0 201 13 → m 201 14 = m0 201 14 → Fr FTd m0 m → Rn (lpF bo (pT_learn_L35b N kk) n x m) Q := by
  intro k
  have hn := hg.num
  induction k with
  | zero =>
    intro n x m hkn h0 hx he h6 h3 ht e13 e14 hf
    obtain ⟨n, rfl⟩ : ∃ n', n = n' + 1 := ⟨n - 1, by omega⟩
    show Rn (pT_learn_L35b N kk (lpF bo (pT_learn_L35b N kk) n) x m) Q
    generalize lpF bo (pT_learn_L35b N kk) n = self
    unfold pT_learn_L35b
    refine rn_f (by omega) ?_
    exact hk m he ⟨h6, fun h a b => ht h a (by omega)⟩ e13 e14 hf
  | succ k ih =>
    intro n x m hkn h0 hx he h6 h3 ht e13 e14 hf
    obtain ⟨n, rfl⟩ : ∃ n', n = n' + 1 := ⟨n - 1, by omega⟩
    have ih' := ih n (x + 1)
    show Rn (pT_learn_L35b N kk (lpF bo (pT_learn_L35b N kk) n) x m) Q
    generalize lpF bo (pT_learn_L35b N kk) n = self at ih' ⊢
    unfold pT_learn_L35b
    refine rn_t (by omega) ?_
    rw [w32_eq (x := x + 1) (by omega) (by omega)]
    have hbW : WB pl (vW m 243) := by rw [h3]; exact WB.th hg _ 0 _ (WB.beg hg hb (Or.inl rfl))
    refine rn_b (c_thr hN hg (a := 243) (by omega) (by omega) he hbW h0) (fun m1 h1 => ?_)
    obtain ⟨hv1, f1⟩ := h1
    have hv1' : vW m1 243 = thS pl (x + 1).toNat 0 (begS pl S 1) := by
      rw [hv1, h3, show (x + 1 - x).toNat = 1 by omega, show (x + 1).toNat = x.toNat + 1 by omega, thS_snoc pl x.toNat, show (0 : Int) + ((x.toNat : Nat) : Int) = x by omega]
      rfl
    refine rn_t (by omega) (rn_v ?_)
    refine rn_t (by omega) (rn_v ?_)
    refine rn_t (by omega) (rn_l (fun m2 hm2 => ?_))
    refine rn_v ?_
    have f2 : Fr (fun b _ => b = 203 + x ∨ b = 213 + x ∨ b = 223 + x) m1 m2 := by
      rw [hm2]
      exact ((Fr.rfl'.cpy (fun j _ _ => by omega)).cpy (fun j _ _ => by omega)).cpy (fun j _ _ => by omega)
    have g1 : ∀ p, 0 ≤ p → p < 64 → m2 (203 + x) p = m1 244 p := fun p p0 p1 => by
      rw [hm2]
      simp (disch := omega) only [mcpy_o, mcpy_i]
      congr 1; omega
    have g2 : ∀ p, 0 ≤ p → p < 6 → m2 (213 + x) p = m1 247 p := fun p p0 p1 => by
      rw [hm2]
      simp (disch := omega) only [mcpy_o, mcpy_i]
      congr 1; omega
    have g3 : ∀ p, 0 ≤ p → p < 6 → m2 (223 + x) p = m1 248 p := fun p p0 p1 => by
      rw [hm2]
      simp (disch := omega) only [mcpy_o, mcpy_i]
      congr 1; omega
    clear hm2
    have F1 : Fr FTd m m1 := f1.mono (fun b j q => by unfold FW at q; unfold FTd; omega)
    have F2 : Fr FTd m m2 := F1.trans (f2.mono (fun b j q => by unfold FTd; omega))
    have k244 : ∀ p, 0 ≤ p → p < 64 → m1 244 p = thS pl (x + 1).toNat 0 (begS pl S 1) 1 p := fun p p0 p1 => by rw [← hv1', vW_in (by omega)]; rfl
    have k247 : ∀ p, 0 ≤ p → p < 6 → m1 247 p = thS pl (x + 1).toNat 0 (begS pl S 1) 4 p := fun p p0 p1 => by rw [← hv1', vW_in (by omega)]; rfl
    have k248 : ∀ p, 0 ≤ p → p < 6 → m1 248 p = thS pl (x + 1).toNat 0 (begS pl S 1) 5 p := fun p p0 p1 => by rw [← hv1', vW_in (by omega)]; rfl
    have fz : ∀ b j, 201 ≤ b → b ≤ 241 → b ≠ 203 + x → b ≠ 213 + x → b ≠ 223 + x → m2 b j = m b j := fun b j q1 q2 q3 q4 q5 => by rw [f2 _ _ (by omega), f1 _ _ (by unfold FW; omega)]
    refine ih' m2 (by omega) (by omega) (by omega) (FTd_PE he F2) ?_ ?_ (fun h a b => ?_) ?_ ?_ (hf.trans F2)
    · rw [show vW m2 236 = vW m 236 from vW_fr (fun b j q1 q2 _ => fz b j (by omega) (by omega) (by omega) (by omega) (by omega))]
      exact h6
    · rw [show vW m2 243 = vW m1 243 from vW_fr (fun b j q1 q2 _ => f2 _ _ (by omega))]
      exact hv1'
    · by_cases e : h = x
      · subst e
        exact ⟨fun p p0 p1 => by rw [g1 p p0 (by omega)]; exact k244 p p0 (by omega), fun i i0 i1 => ⟨by rw [g2 i i0 (by omega)]; exact k247 i i0 (by omega), by rw [g3 i i0 (by omega)]; exact k248 i i0 (by omega)⟩⟩
      · have t := ht h a (by omega)
        exact ⟨fun p p0 p1 => by rw [fz _ _ (by omega) (by omega) (by omega) (by omega) (by omega)]; exact t.1 p p0 p1, fun i i0 i1 => ⟨by rw [fz _ _ (by omega) (by omega) (by omega) (by omega) (by omega)]; exact (t.2 i i0 i1).1, by rw [fz _ _ (by omega) (by omega) (by omega) (by omega) (by omega)]; exact (t.2 i i0 i1).2⟩⟩
    · rw [fz _ _ (by omega) (by omega) (by omega) (by omega) (by omega)]; exact e13
    · rw [fz _ _ (by omega) (by omega) (by omega) (by omega) (by omega)]; exact e14
theorem c_tl120 {N : Nat} {Q : Mem → Prop} {kk : Mem → Option Mem} {bo : Int → Mem → Option Mem} {m0 : Mem} (hk : ∀ m', (∀ b j, m' b j = if (b = 232 ∨ b = 234) ∧ 0 ≤ j ∧ j < 6 then -1 else m0 b j) → Rn (kk m') Q) :
    ∀ (k n : Nat) (x : Int) (m : Mem), k < n → 0 ≤ x → x + k = 6 → (∀ b j, m b j = if (b = 232 ∨ b = 234) ∧ 0 ≤ j ∧ j < x then -1 else m0 b j) → Rn (lpF bo (pT_learn_L120b N kk) n x m) Q := by
  intro k
  induction k with
  | zero =>
    intro n x m hkn h0 hx hm
    obtain ⟨n, rfl⟩ : ∃ n', n = n' + 1 := ⟨n - 1, by omega⟩
    show Rn (pT_learn_L120b N kk (lpF bo (pT_learn_L120b N kk) n) x m) Q
    generalize lpF bo (pT_learn_L120b N kk) n = self
    unfold pT_learn_L120b
    refine rn_f (by omega) ?_
    refine hk m (fun b j => ?_)
    rw [hm b j, show x = 6 by omega]
  | succ k ih =>
    intro n x m hkn h0 hx hm
    obtain ⟨n, rfl⟩ : ∃ n', n = n' + 1 := ⟨n - 1, by omega⟩
    have ih' := ih n (x + 1) (mset (mset m 232 x (-1)) 234 x (-1)) (by omega) (by omega) (by omega) (fun b j => by
      unfold mset
      by_cases q : b = 234 ∧ j = x
      · rw [if_pos q, if_pos (by omega)]
      · rw [if_neg q]
        by_cases q1 : b = 232 ∧ j = x
        · rw [if_pos q1, if_pos (by omega)]
        · rw [if_neg q1, hm b j]
          by_cases q2 : (b = 232 ∨ b = 234) ∧ 0 ≤ j ∧ j < x
          · rw [if_pos q2, if_pos (by omega)]
          · rw [if_neg q2, if_neg (by omega)])
    show Rn (pT_learn_L120b N kk (lpF bo (pT_learn_L120b N kk) n) x m) Q
    generalize lpF bo (pT_learn_L120b N kk) n = self at ih' ⊢
    unfold pT_learn_L120b
    refine rn_t (by omega) ?_
    refine rn_t (by omega) (rn_v ?_)
    refine rn_t (by omega) (rn_v (rn_v ?_))
    rw [w32_eq (by omega) (by omega)]
    exact ih'
theorem c_tlearn {N : Nat} {pl m : Mem} (hN : 2000 ≤ N) (hg : PG pl) (he : PE pl m) (hb : SB pl (vS m 38)) (ht : ITod pl (vS m 38) m) : Rn (pT_learn N m 38) (fun m' => m' 201 13 = 1 ∧ TK pl (vS m 38) m' ∧ ITod pl (vS m 38) m' ∧ Fr FTd m m') := by
  have hn := hg.num
  unfold pT_learn
  rcases ht with ⟨h1, h2⟩ | ⟨h1, h2⟩
  · refine rn_t h1 ?_
    refine rn_l (fun m1 hm1 => ?_)
    have f1 : Fr FTd m m1 := by rw [hm1]; exact Fr.rfl'.set (by unfold FTd; omega)
    have g13 : m1 201 13 = 1 := by rw [hm1, mset_s rfl rfl]
    have g14 : m1 201 14 = 0 := by rw [hm1, mset_o (by omega)]; exact h2
    clear hm1
    have e1 := FTd_vS f1
    refine rn_b (c_beg (a := 236) (s := 38) (t := 1) hN hg (FTd_PE he f1) (by omega) (by omega) (by rw [e1]; exact hb) (Or.inl rfl)) (fun m2 hm2 => ?_)
    rw [e1] at hm2
    have f2 : Fr FTd m m2 := f1.trans (hm2.2.mono (fun b j q => by unfold FB at q; unfold FTd; omega))
    refine rn_b (c_copyW (d := 243) (s := 236) (by omega)) (fun m3 hm3 => ?_)
    have f3 : Fr FTd m m3 := f2.trans (hm3.2.mono (fun b j q => by unfold FC at q; unfold FTd; omega))
    have e6 : vW m3 236 = begS pl (vS m 38) 1 := by rw [show vW m3 236 = vW m2 236 from vW_fr (fun b j q1 q2 _ => hm3.2 b j (by unfold FC; omega))]; exact hm2.1
    unfold pT_learn_L35
    refine c_tl35 (m0 := m3) (S := vS m 38) hN hg hb (fun m4 he4 ht4 a13 a14 f4 => ?_) 9 N 0 m3 (by omega) (by omega) (by omega) (FTd_PE he f3) e6 (by rw [hm3.1, hm2.1]; rfl) (fun h a b => by omega) rfl rfl Fr.rfl'
    unfold pT_learn_L120
    refine c_tl120 (m0 := m4) (fun m5 hm5 => ?_) 6 N 0 m4 (by omega) (by omega) (by omega) (fun b j => by rw [if_neg (by omega)])
    have f5 : Fr (fun b _ => b = 232 ∨ b = 234) m4 m5 := fun b j q => by rw [hm5, if_neg (by omega)]
    have b13 : m5 201 13 = 1 := by rw [f5 _ _ (by omega), a13, hm3.2 _ _ (by unfold FC; omega), hm2.2 _ _ (by unfold FB; omega)]; exact g13
    have b14 : m5 201 14 = 0 := by rw [f5 _ _ (by omega), a14, hm3.2 _ _ (by unfold FC; omega), hm2.2 _ _ (by unfold FB; omega)]; exact g14
    have t5 : TK pl (vS m 38) m5 := ht4.fr (fun b j q1 q2 q3 => f5 b j (by omega))
    refine rn_s ⟨b13, t5, Or.inr ⟨b13, t5, fun i h0 h1 => Or.inl ?_, fun i h0 h1 => Or.inl ?_, Or.inl b14⟩, (f3.trans f4).trans (f5.mono (fun b j q => by unfold FTd; omega))⟩
    · rw [hm5, if_pos (by omega)]
    · rw [hm5, if_pos (by omega)]
  · refine rn_f (by omega) ?_
    exact rn_s ⟨h1, h2.1, Or.inr ⟨h1, h2⟩, Fr.rfl'⟩
/-- the reference's day of now -/
theorem rq_runs {N : Nat} {m : Mem} (hN : 2000 ≤ N) (h : Core m) : Rn (pM_runs N m 0 1 (allS (vP m 2 3))) (fun r => RW (vP m) r.2 0 (allS (vP m 2 3)) (runS (vP m) (vS m 38) 1) ∧ (∀ x, 0 ≤ x → x < 9 → TBh (vP m) r.2 x (thS (vP m) (x + 1).toNat 0 (begS (vP m) (vS m 38) 1))) ∧ (∀ p, 0 ≤ p → p < vP m 2 2 → r.2 511 (ph (vP m) p) = begS (vP m) (vS m 38) 1 1 p) ∧ Fr FRr m r.2) := by
  obtain ⟨-, -, -, -, ⟨hg, hr, hnm⟩, hst, -, -, -, hwk⟩ := h
  have hW0 : mset (begS (vP m) (vS m 38) 1) 0 7 63 = begS (vP m) (vS m 38) 1 := mset_id rfl
  refine rn_q (r_runs_n (aw := 63) hN hg hr (vP_PQ m) (by omega) (Or.inl rfl) hst.2 hst.1 (all_bits hg) hwk) (fun r hr1 => ?_)
  rw [hW0] at hr1
  exact ⟨hr1.2.1, hr1.2.2.2.1, hr1.2.2.2.2.1, hr1.2.2.2.2.2⟩
