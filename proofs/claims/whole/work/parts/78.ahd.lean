/-! AHEAD: the component learns the days to come -/
def ahS (pl S : Mem) : Nat → Mem
  | 0 => S
  | n + 1 => livS pl (ahS pl S n) 1
def dryD (pl S : Mem) (n : Nat) : Int := dryB pl (ahS pl S n) (runS pl (ahS pl S n) 1) (pl 2 3).toNat
def fdS (pl S : Mem) (i : Int) : Nat → Int
  | 0 => -1
  | k + 1 => if fdS pl S i k = -1 ∧ bitS (dryD pl S k) i = 1 then k else fdS pl S i k
theorem SB.ah {pl S : Mem} (hg : PG pl) (hb : SB pl S) : ∀ n, SB pl (ahS pl S n)
  | 0 => hb
  | n + 1 => SB.liv hg (SB.ah hg hb n) (Or.inl rfl)
def cntD (S : Mem) : Int := min 40 (1000 - S 0 0)
def AK (pl S m : Mem) (n : Int) : Prop := ∀ k : Int, 0 ≤ k → k ≤ n → (∀ p, 0 ≤ p → p < pl 2 2 → m (305 + k) p = ahS pl S k.toNat 1 p) ∧ (∀ i, 0 ≤ i → i < pl 2 3 → m (347 + k) i = ahS pl S k.toNat 5 i)
def IAhd (pl S m : Mem) : Prop := m 296 6 = 0 ∨ (AK pl S m (cntD S) ∧ ∀ i, 0 ≤ i → i < pl 2 3 → m 388 i = fdS pl S i (cntD S).toNat)
theorem AK.fr {pl S m m' : Mem} {n : Int} (h : AK pl S m n) (f : ∀ k j, 0 ≤ k → k ≤ n → m' (305 + k) j = m (305 + k) j ∧ m' (347 + k) j = m (347 + k) j) : AK pl S m' n := fun k h0 h1 => ⟨fun p q0 q1 => by rw [(f k p h0 h1).1]; exact (h k h0 h1).1 p q0 q1, fun i q0 q1 => by rw [(f k i h0 h1).2]; exact (h k h0 h1).2 i q0 q1⟩
theorem IAhd.fr {pl S m m' : Mem} (h : IAhd pl S m) (f : ∀ b j, ((b = 296 ∧ j = 6) ∨ (305 ≤ b ∧ b ≤ 388)) → m' b j = m b j) : IAhd pl S m' := by
  have hc : cntD S ≤ 40 := by unfold cntD; omega
  rcases h with h | h
  · exact Or.inl (by rw [f _ _ (Or.inl ⟨rfl, rfl⟩)]; exact h)
  · refine Or.inr ⟨h.1.fr (fun k j q0 q1 => ⟨f _ _ (Or.inr (by omega)), f _ _ (Or.inr (by omega))⟩), fun i q0 q1 => ?_⟩
    rw [f _ _ (Or.inr (by omega))]; exact h.2 i q0 q1
def FAh : Int → Int → Prop := fun b j => (b = 296 ∧ j = 6) ∨ (297 ≤ b ∧ b ≤ 395) ∨ b = 11 ∨ b = 14 ∨ b = 17
theorem FAh_CD {b j : Int} (h : CD b j) : ¬ FAh b j := by
  unfold FAh
  rcases h with h | h | h | h | h | h | h | h | h | h
  · unfold A1 at h; omega
  · unfold A2 at h; omega
  · unfold A3 at h; omega
  · unfold A4 at h; omega
  · unfold A5 plc prc at h; omega
  · unfold A6 FLy at h; omega
  · unfold A7 at h
    rcases h with h | h | h | ⟨v, _, _, h⟩
    · omega
    · omega
    · omega
    · unfold FLy at h; omega
  · unfold A8 at h; omega
  · unfold A9 at h; omega
  · unfold A10 at h; omega
theorem c_hwrite {m : Mem} {n : Int} (hn : 0 ≤ n ∧ n < 41) : Rn (pH_write m n) (fun m' => (∀ j, 0 ≤ j → j < 64 → m' (305 + n) j = m 298 j) ∧ (∀ j, 0 ≤ j → j < 6 → m' (347 + n) j = m 302 j) ∧ Fr (fun b _ => b = 305 + n ∨ b = 347 + n) m m') := by
  unfold pH_write
  refine rn_t hn (rn_v (rn_t hn (rn_v (rn_s ⟨fun j h0 h1 => ?_, fun j h0 h1 => ?_, ?_⟩))))
  · rw [mcpy_o (by omega), mcpy_i (by omega)]
    congr 1; omega
  · rw [mcpy_i (by omega), mcpy_o (by omega)]
    congr 1; omega
  · refine (Fr.rfl'.cpy (fun j _ _ => ?_)).cpy (fun j _ _ => ?_)
    · omega
    · omega
theorem c_h23 {N : Nat} {Q : Mem → Prop} {kk : Mem → Option Mem} {bo : Int → Mem → Option Mem} {m0 : Mem} {c2 : Int} (hk : ∀ m', (∀ i, 0 ≤ i → i < 6 → m' 388 i = -1) → Fr (fun b _ => b = 388) m0 m' → Rn (kk m') Q) :
    ∀ (k n : Nat) (x : Int) (m : Mem), k < n → 0 ≤ x → x + k = 6 → (∀ i, 0 ≤ i → i < x → m 388 i = -1) → Fr (fun b _ => b = 388) m0 m → Rn (lpF bo (pH_learn_L23b N c2 kk) n x m) Q := by
  intro k
  induction k with
  | zero =>
    intro n x m hkn h0 hx hm hf
    obtain ⟨n, rfl⟩ : ∃ n', n = n' + 1 := ⟨n - 1, by omega⟩
    show Rn (pH_learn_L23b N c2 kk (lpF bo (pH_learn_L23b N c2 kk) n) x m) Q
    generalize lpF bo (pH_learn_L23b N c2 kk) n = self
    unfold pH_learn_L23b
    refine rn_f (by omega) ?_
    exact hk m (fun i q0 q1 => hm i q0 (by omega)) hf
  | succ k ih =>
    intro n x m hkn h0 hx hm hf
    obtain ⟨n, rfl⟩ : ∃ n', n = n' + 1 := ⟨n - 1, by omega⟩
    have ih' := ih n (x + 1) (mset m 388 x (-1)) (by omega) (by omega) (by omega) (fun i q0 q1 => by
      by_cases q : i = x
      · rw [mset_s rfl q]
      · rw [mset_o (by omega)]; exact hm i q0 (by omega)) (hf.set rfl)
    show Rn (pH_learn_L23b N c2 kk (lpF bo (pH_learn_L23b N c2 kk) n) x m) Q
    generalize lpF bo (pH_learn_L23b N c2 kk) n = self at ih' ⊢
    unfold pH_learn_L23b
    refine rn_t (by omega) (rn_t (by omega) (rn_v (rn_v ?_)))
    rw [w32_eq (x := x + 1) (by omega) (by omega)]
    exact ih'
theorem c_h83 {N : Nat} {Q : Mem → Prop} {kk : Mem → Option Mem} {bo : Int → Mem → Option Mem} {pl m0 : Mem} {c2 c3 D : Int} {F : Int → Int} (hg : PG pl) (he : PE pl m0) (h8 : m0 389 8 = D) (hk : ∀ m', (∀ i, 0 ≤ i → i < pl 2 3 → m' 388 i = if F i = -1 ∧ bitS D i = 1 then c3 else F i) → Fr (fun b _ => b = 388) m0 m' → Rn (kk m') Q) :
    ∀ (k n : Nat) (x : Int) (m : Mem), k < n → 0 ≤ x → x + k = pl 2 3 → (∀ i, 0 ≤ i → i < pl 2 3 → m 388 i = if i < x ∧ F i = -1 ∧ bitS D i = 1 then c3 else F i) → Fr (fun b _ => b = 388) m0 m → Rn (lpF bo (pH_learn_L83b N c2 c3 kk) n x m) Q := by
  have hn := hg.num
  intro k
  induction k with
  | zero =>
    intro n x m hkn h0 hx hm hf
    obtain ⟨n, rfl⟩ : ∃ n', n = n' + 1 := ⟨n - 1, by omega⟩
    show Rn (pH_learn_L83b N c2 c3 kk (lpF bo (pH_learn_L83b N c2 c3 kk) n) x m) Q
    generalize lpF bo (pH_learn_L83b N c2 c3 kk) n = self
    unfold pH_learn_L83b
    have e2 : m 2 3 = pl 2 3 := (hf _ _ (by omega)).trans (he.d 3)
    rw [e2]
    refine rn_f (by omega) ?_
    refine hk m (fun i q0 q1 => ?_) hf
    rw [hm i q0 q1]
    by_cases q : F i = -1 ∧ bitS D i = 1
    · rw [if_pos q, if_pos ⟨by omega, q⟩]
    · rw [if_neg q, if_neg (fun c => q c.2)]
  | succ k ih =>
    intro n x m hkn h0 hx hm hf
    obtain ⟨n, rfl⟩ : ∃ n', n = n' + 1 := ⟨n - 1, by omega⟩
    have ih' := ih n (x + 1)
    show Rn (pH_learn_L83b N c2 c3 kk (lpF bo (pH_learn_L83b N c2 c3 kk) n) x m) Q
    generalize lpF bo (pH_learn_L83b N c2 c3 kk) n = self at ih' ⊢
    unfold pH_learn_L83b
    have e2 : m 2 3 = pl 2 3 := (hf _ _ (by omega)).trans (he.d 3)
    have e8 : m 389 8 = D := (hf _ _ (by omega)).trans h8
    have eF : m 388 x = F x := by rw [hm x h0 (by omega), if_neg (by omega)]
    have eB : a32 (shr32 D x) 1 = bitS D x := rfl
    rw [e2, e8, eF, eB, w32_eq (x := x + 1) (by omega) (by omega)]
    refine rn_t (by omega) (rn_t (by omega) ?_)
    have hno : ¬ (F x = -1 ∧ bitS D x = 1) → Rn (self (x + 1) m) Q := fun q => ih' m (by omega) (by omega) (by omega) (fun i q0 q1 => by
      rw [hm i q0 q1]
      by_cases q2 : i < x ∧ F i = -1 ∧ bitS D i = 1
      · rw [if_pos q2, if_pos ⟨by omega, q2.2⟩]
      · rw [if_neg q2, if_neg (fun c => ?_)]
        by_cases q3 : i = x
        · rw [q3] at c; exact q c.2
        · exact q2 ⟨by omega, c.2⟩) hf
    refine rn_i (fun q1 => ?_) (fun q1 => rn_v (hno (fun c => q1 c.1)))
    refine rn_i (fun q2 => ?_) (fun q2 => rn_v (hno (fun c => q2 c.2)))
    refine rn_t (by omega) (rn_v (rn_v ?_))
    refine ih' (mset m 388 x c3) (by omega) (by omega) (by omega) (fun i q0 q3 => ?_) (hf.set rfl)
    by_cases q : i = x
    · rw [mset_s rfl q, q, if_pos ⟨by omega, q1, q2⟩]
    · rw [mset_o (by omega), hm i q0 q3]
      by_cases q4 : i < x ∧ F i = -1 ∧ bitS D i = 1
      · rw [if_pos q4, if_pos ⟨by omega, q4.2⟩]
      · rw [if_neg q4, if_neg (fun c => q4 ⟨by omega, c.2⟩)]
theorem c_h49 {N : Nat} {Q : Mem → Prop} {kk : Mem → Option Mem} {bo : Int → Mem → Option Mem} {pl S m0 : Mem} {C : Int} (hN : 2000 ≤ N) (hg : PG pl) (hb : SB pl S) (ho : ∀ i, 0 ≤ i → i < pl 2 3 → 0 ≤ pl 8 i ∧ pl 8 i ≤ 99) (he : PE pl m0) (hC : C ≤ 40) (hk : ∀ m', AK pl S m' C → (∀ i, 0 ≤ i → i < pl 2 3 → m' 388 i = fdS pl S i C.toNat) → Fr (fun b j => FAh b j ∧ ¬ (b = 296 ∧ j = 6)) m0 m' → Rn (kk m') Q) :
    ∀ (k n : Nat) (x : Int) (m : Mem), k < n → 0 ≤ x → x + k = C → vS m 297 = ahS pl S x.toNat → AK pl S m x → (∀ i, 0 ≤ i → i < pl 2 3 → m 388 i = fdS pl S i x.toNat) → Fr (fun b j => FAh b j ∧ ¬ (b = 296 ∧ j = 6)) m0 m → Rn (lpF bo (pH_learn_L49b N C kk) n x m) Q := by
  have hn := hg.num
  have l394 : ln (389 + 5) = 6 := by decide +kernel
  intro k
  induction k with
  | zero =>
    intro n x m hkn h0 hx hv ha hm hf
    obtain ⟨n, rfl⟩ : ∃ n', n = n' + 1 := ⟨n - 1, by omega⟩
    show Rn (pH_learn_L49b N C kk (lpF bo (pH_learn_L49b N C kk) n) x m) Q
    generalize lpF bo (pH_learn_L49b N C kk) n = self
    unfold pH_learn_L49b
    refine rn_f (by omega) ?_
    have hx' : x = C := by omega
    subst hx'
    exact hk m ha hm hf
  | succ k ih =>
    intro n x m hkn h0 hx hv ha hm hf
    obtain ⟨n, rfl⟩ : ∃ n', n = n' + 1 := ⟨n - 1, by omega⟩
    have ih' := ih n (x + 1)
    show Rn (pH_learn_L49b N C kk (lpF bo (pH_learn_L49b N C kk) n) x m) Q
    generalize lpF bo (pH_learn_L49b N C kk) n = self at ih' ⊢
    unfold pH_learn_L49b
    have hem : PE pl m := he.fr hf (fun b j q c => by unfold plc at q; unfold FAh at c; omega)
    have hsb := SB.ah hg hb x.toNat
    rw [w32_eq (x := x + 1) (by omega) (by omega)]
    refine rn_t (by omega) (rn_t (by omega) ?_)
    refine rn_b2 (P := fun r m1 => vS m1 297 = ahS pl S (x.toNat + 1) ∧ m1 389 8 = dryD pl S x.toNat ∧ Fr (FLv 389 297) m m1) (rn_q (c_live (a := 389) (s := 297) (f := 0) hN hg hem ho (by omega) l394 (by omega) (by omega) (by rw [hv]; exact hsb)) (fun r hr => by
      rw [hv, if_pos rfl] at hr
      exact ⟨hr.2.1, hr.2.2.1, hr.2.2.2⟩)) (fun r m1 hm1 => ?_)
    obtain ⟨v1, d1, f1⟩ := hm1
    dsimp only
    refine rn_b (c_hwrite (m := m1) (n := x + 1) (by omega)) (fun m2 hm2 => ?_)
    obtain ⟨w1, w2, f2⟩ := hm2
    have he2 : PE pl m2 := (hem.fr f1 (fun b j q => by unfold plc at q; unfold FLv; omega)).fr f2 (fun b j q => by unfold plc at q; omega)
    have en : (x + 1).toNat = x.toNat + 1 := by omega
    have ex : ((x.toNat : Nat) : Int) = x := by omega
    have v2 : vS m2 297 = ahS pl S (x + 1).toNat := by
      rw [en, ← v1]
      exact vS_fr (fun b j q1 q2 _ => f2 b j (by omega))
    have a2 : AK pl S m2 (x + 1) := by
      intro y q0 q1
      by_cases q : y = x + 1
      · subst q
        refine ⟨fun p p0 p1 => ?_, fun i i0 i1 => ?_⟩
        · rw [w1 p p0 (by omega), en, ← v1, vS_in (by omega)]; rfl
        · rw [w2 i i0 (by omega), en, ← v1, vS_in (by omega)]; rfl
      · have hy := ha y q0 (by omega)
        refine ⟨fun p p0 p1 => ?_, fun i i0 i1 => ?_⟩
        · rw [f2 _ _ (by omega), f1 _ _ (by unfold FLv; omega)]; exact hy.1 p p0 p1
        · rw [f2 _ _ (by omega), f1 _ _ (by unfold FLv; omega)]; exact hy.2 i i0 i1
    have d2 : m2 389 8 = dryD pl S x.toNat := by rw [f2 _ _ (by omega)]; exact d1
    have b2 : ∀ i, 0 ≤ i → i < pl 2 3 → m2 388 i = fdS pl S i x.toNat := fun i i0 i1 => by
      rw [f2 _ _ (by omega), f1 _ _ (by unfold FLv; omega)]; exact hm i i0 i1
    have fr2 : Fr (fun b j => FAh b j ∧ ¬ (b = 296 ∧ j = 6)) m0 m2 := (hf.trans (f1.mono (fun b j q => by unfold FLv at q; unfold FAh; omega))).trans (f2.mono (fun b j q => by unfold FAh; omega))
    unfold pH_learn_L83
    refine c_h83 (m0 := m2) (F := fun i => fdS pl S i x.toNat) hg he2 d2 (fun m3 h3 f3 => ?_) (pl 2 3).toNat N 0 m2 (by omega) (by omega) (by omega) (fun i i0 i1 => by rw [if_neg (by omega)]; exact b2 i i0 i1) Fr.rfl'
    refine rn_v ?_
    refine ih' m3 (by omega) (by omega) (by omega) ?_ ?_ (fun i i0 i1 => ?_) (fr2.trans (f3.mono (fun b j q => by unfold FAh; omega)))
    · rw [← v2]
      exact vS_fr (fun b j q1 q2 _ => f3 b j (by omega))
    · exact a2.fr (fun y j q0 q1 => ⟨f3 _ _ (by omega), f3 _ _ (by omega)⟩)
    · rw [h3 i i0 i1, en]
      show _ = if fdS pl S i x.toNat = -1 ∧ bitS (dryD pl S x.toNat) i = 1 then ((x.toNat : Nat) : Int) else fdS pl S i x.toNat
      rw [ex]
theorem c_hlearn {N : Nat} {pl m : Mem} {C : Int} (hN : 2000 ≤ N) (hg : PG pl) (he : PE pl m) (ho : ∀ i, 0 ≤ i → i < pl 2 3 → 0 ≤ pl 8 i ∧ pl 8 i ≤ 99) (hb : SB pl (vS m 38)) (ha : IAhd pl (vS m 38) m) (hC : C = cntD (vS m 38)) : Rn (pH_learn N m 38 C) (fun m' => (AK pl (vS m 38) m' C ∧ ∀ i, 0 ≤ i → i < pl 2 3 → m' 388 i = fdS pl (vS m 38) i C.toNat) ∧ IAhd pl (vS m 38) m' ∧ Fr FAh m m') := by
  have hn := hg.num
  have hd := hb.2.2.1
  unfold pH_learn
  refine rn_i (fun q => ?_) (fun q => ?_)
  · refine rn_l (fun m1 hm1 => ?_)
    have f1 : Fr (fun b j => b = 296 ∧ j = 6) m m1 := by rw [hm1]; exact Fr.rfl'.set ⟨rfl, rfl⟩
    clear hm1
    have v1 : vS m1 38 = vS m 38 := vS_fr (fun b j q1 q2 _ => f1 b j (by omega))
    refine rn_b (c_copyS (m := m1) (d := 297) (s := 38) (by omega)) (fun m2 h2 => ?_)
    obtain ⟨v2, f2⟩ := h2
    rw [v1] at v2
    unfold pH_learn_L23
    refine c_h23 (m0 := m2) (fun m3 h3 f3 => ?_) 6 N 0 m2 (by omega) (by omega) (by omega) (fun i q0 q1 => by omega) Fr.rfl'
    have v3 : vS m3 297 = vS m 38 := by
      rw [← v2]
      exact vS_fr (fun b j q1 q2 _ => f3 b j (by omega))
    refine rn_b (c_hwrite (m := m3) (n := 0) (by omega)) (fun m4 h4 => ?_)
    obtain ⟨w1, w2, f4⟩ := h4
    have v4 : vS m4 297 = vS m 38 := by
      rw [← v3]
      exact vS_fr (fun b j q1 q2 _ => f4 b j (by omega))
    have fr4 : Fr FAh m m4 := (((f1.mono (fun b j q => Or.inl q)).trans (f2.mono (fun b j q => by unfold FS at q; (try unfold FAh); omega))).trans (f3.mono (fun b j q => by (try unfold FAh); omega))).trans (f4.mono (fun b j q => by (try unfold FAh); omega))
    have he4 : PE pl m4 := he.fr fr4 (fun b j q => by unfold plc at q; unfold FAh; omega)
    unfold pH_learn_L49
    refine c_h49 (m0 := m4) (S := vS m 38) hN hg hb ho he4 (by rw [hC]; unfold cntD; omega) (fun m5 h5 h6 f5 => rn_s ⟨⟨h5, h6⟩, Or.inr ⟨by rw [← hC]; exact h5, by rw [← hC]; exact h6⟩, fr4.trans (f5.mono (fun b j q => q.1))⟩) C.toNat N 0 m4 (by rw [hC]; unfold cntD; omega) (by omega) (by rw [hC]; unfold cntD; omega) v4 ?_ (fun i q0 q1 => ?_) Fr.rfl'
    · intro k q0 q1
      have hk : k = 0 := by omega
      subst hk
      refine ⟨fun p p0 p1 => ?_, fun i i0 i1 => ?_⟩
      · rw [w1 p p0 (by omega)]
        show _ = vS m 38 1 p
        rw [← v3, vS_in (by omega)]; rfl
      · rw [w2 i i0 (by omega)]
        show _ = vS m 38 5 i
        rw [← v3, vS_in (by omega)]; rfl
    · rw [f4 _ _ (by omega)]
      exact h3 i q0 (by omega)
  · refine rn_s ⟨?_, ha, Fr.rfl'⟩
    rcases ha with ha | ha
    · exact absurd ha q
    · rw [hC]; exact ha
