/-! TELLS: the component -/
def mlS (v : Nat → Int) (so : Nat → Bool) : Nat → (Int → Int) × Int
  | 0 => (fun _ => 0, 0)
  | k + 1 => if so k then (fun y => if y = v k then (mlS v so k).1 (v k) + 1 else (mlS v so k).1 y, max (mlS v so k).2 ((mlS v so k).1 (v k) + 1)) else mlS v so k
theorem mlS_const (v : Nat → Int) (so : Nat → Bool) (a : Nat) : ∀ d, nbO so (a + d) = nbO so a → mlS v so (a + d) = mlS v so a
  | 0, _ => rfl
  | d + 1, h => by
    have h1 := nbO_mono so a d
    have h2 : nbO so (a + (d + 1)) = nbO so (a + d) + (if so (a + d) then 1 else 0) := rfl
    by_cases q : so (a + d) = true
    · rw [if_pos q] at h2; omega
    · rw [if_neg q] at h2
      show (if so (a + d) then _ else mlS v so (a + d)) = _
      rw [if_neg q]
      exact mlS_const v so a d (by omega)
theorem mlS_nb (v : Nat → Int) (so : Nat → Bool) {a b : Nat} (h : nbO so a = nbO so b) : mlS v so a = mlS v so b := by
  by_cases q : a ≤ b
  · have := mlS_const v so a (b - a) (by rw [show a + (b - a) = b by omega]; exact h.symm)
    rw [show a + (b - a) = b by omega] at this
    exact this.symm
  · have := mlS_const v so b (a - b) (by rw [show b + (a - b) = a by omega]; exact h)
    rw [show b + (a - b) = a by omega] at this
    exact this
theorem mlS_nb1 (v : Nat → Int) (so : Nat → Bool) : ∀ k y, (mlS v so k).1 y ≤ nbO so k
  | 0, y => Int.le_refl _
  | k + 1, y => by
    have h := mlS_nb1 v so k
    have e : nbO so (k + 1) = nbO so k + (if so k then 1 else 0) := rfl
    show (if so k then _ else mlS v so k : (Int → Int) × Int).1 y ≤ _
    by_cases q : so k = true
    · rw [if_pos q]
      rw [if_pos q] at e
      dsimp only
      have h1 := h (v k)
      have h2 := h y
      split <;> omega
    · rw [if_neg q]
      rw [if_neg q] at e
      have h2 := h y
      omega
theorem mlS_in (v : Nat → Int) (so : Nat → Bool) : ∀ k, (∀ y, 0 ≤ (mlS v so k).1 y ∧ (mlS v so k).1 y ≤ k) ∧ 0 ≤ (mlS v so k).2 ∧ (mlS v so k).2 ≤ nbO so k
  | 0 => ⟨fun y => ⟨Int.le_refl _, Int.le_refl _⟩, Int.le_refl _, Int.le_refl _⟩
  | k + 1 => by
    have h := mlS_in v so k
    have e : nbO so (k + 1) = nbO so k + (if so k then 1 else 0) := rfl
    have hmx : ∀ y, (mlS v so k).1 y ≤ nbO so k := mlS_nb1 v so k
    show (∀ y, 0 ≤ (if so k then _ else mlS v so k : (Int → Int) × Int).1 y ∧ (if so k then _ else mlS v so k : (Int → Int) × Int).1 y ≤ _) ∧ 0 ≤ (if so k then _ else mlS v so k : (Int → Int) × Int).2 ∧ (if so k then _ else mlS v so k : (Int → Int) × Int).2 ≤ _
    by_cases q : so k = true
    · rw [if_pos q]
      rw [if_pos q] at e
      have hv := h.1 (v k)
      have hv2 := hmx (v k)
      refine ⟨fun y => ?_, ?_, ?_⟩
      · dsimp only
        have := h.1 y
        split <;> omega
      · dsimp only; omega
      · dsimp only; omega
    · rw [if_neg q]
      rw [if_neg q] at e
      refine ⟨fun y => ?_, h.2.1, by omega⟩
      have := h.1 y
      omega
theorem c_ml4 {N : Nat} {Q : Int × Mem → Prop} {kk : Mem → Option (Int × Mem)} {bo : Int → Mem → Option (Int × Mem)} {m0 : Mem} {c1 c2 : Int} (hk : ∀ m', (∀ y, 0 ≤ y → y < 100 → m' 464 y = 0) → Fr (fun b _ => b = 464) m0 m' → Rn (kk m') Q) :
    ∀ (k n : Nat) (x : Int) (m : Mem), k < n → 0 ≤ x → x + k = 100 → (∀ y, 0 ≤ y → y < x → m 464 y = 0) → Fr (fun b _ => b = 464) m0 m → Rn (lpF bo (pK_mostLeft_L4b N c1 c2 kk) n x m) Q := by
  intro k
  induction k with
  | zero =>
    intro n x m hkn h0 hx hm hf
    obtain ⟨n, rfl⟩ : ∃ n', n = n' + 1 := ⟨n - 1, by omega⟩
    show Rn (pK_mostLeft_L4b N c1 c2 kk (lpF bo (pK_mostLeft_L4b N c1 c2 kk) n) x m) Q
    generalize lpF bo (pK_mostLeft_L4b N c1 c2 kk) n = self
    unfold pK_mostLeft_L4b
    refine rn_f (by omega) ?_
    exact hk m (fun i q0 q1 => hm i q0 (by omega)) hf
  | succ k ih =>
    intro n x m hkn h0 hx hm hf
    obtain ⟨n, rfl⟩ : ∃ n', n = n' + 1 := ⟨n - 1, by omega⟩
    have ih' := ih n (x + 1) (mset m 464 x 0) (by omega) (by omega) (by omega) (fun i q0 q1 => by
      by_cases q : i = x
      · rw [mset_s rfl q]
      · rw [mset_o (by omega)]; exact hm i q0 (by omega)) (hf.set rfl)
    show Rn (pK_mostLeft_L4b N c1 c2 kk (lpF bo (pK_mostLeft_L4b N c1 c2 kk) n) x m) Q
    generalize lpF bo (pK_mostLeft_L4b N c1 c2 kk) n = self at ih' ⊢
    unfold pK_mostLeft_L4b
    refine rn_t (by omega) (rn_t (by omega) (rn_v (rn_v ?_)))
    rw [w32_eq (x := x + 1) (by omega) (by omega)]
    exact ih'
theorem c_ml28 {N : Nat} {Q : Int × Mem → Prop} {kk : Int → Mem → Option (Int × Mem)} {bo : Int → Int → Mem → Option (Int × Mem)} {m0 : Mem} {c1 : Int} {v : Nat → Int} {so : Nat → Bool} {T : Nat} (hT : T ≤ 64) (hc : 0 ≤ c1 ∧ c1 < 576) (hv : ∀ k, k < T → 0 ≤ v k ∧ v k ≤ 99) (h6 : m0 396 6 = nbO so T) (hm : ∀ k : Nat, k < T → (so k = true → m0 463 (nbO so k) = k) ∧ m0 (399 + (k : Int)) c1 = v k)
    (hk : ∀ m', Fr (fun b _ => b = 464) m0 m' → Rn (kk (mlS v so T).2 m') Q) :
    ∀ (k n q c : Nat) (m : Mem), k < n → q + k = nbO so T → nbO so c = q → (∀ y, 0 ≤ y → y < 100 → m 464 y = (mlS v so c).1 y) → Fr (fun b _ => b = 464) m0 m → Rn (lpF bo (pK_mostLeft_L28b N c1 kk) n (mlS v so c).2 (q : Int) m) Q := by
  have hTn := nbO_le so T
  intro k
  induction k with
  | zero =>
    intro n q c m hkn hx hc2 hy hf
    obtain ⟨n, rfl⟩ : ∃ n', n = n' + 1 := ⟨n - 1, by omega⟩
    show Rn (pK_mostLeft_L28b N c1 kk (lpF bo (pK_mostLeft_L28b N c1 kk) n) _ (q : Int) m) Q
    generalize lpF bo (pK_mostLeft_L28b N c1 kk) n = self
    unfold pK_mostLeft_L28b
    have e6 : m 396 6 = nbO so T := (hf _ _ (by omega)).trans h6
    rw [e6]
    refine rn_f (by omega) ?_
    rw [mlS_nb v so (a := c) (b := T) (by omega)]
    exact hk m hf
  | succ k ih =>
    intro n q c m hkn hx hc2 hy hf
    obtain ⟨n, rfl⟩ : ∃ n', n = n' + 1 := ⟨n - 1, by omega⟩
    obtain ⟨j, hj1, hj2, hj3⟩ := nbO_ex so T q (by omega)
    have ej := mlS_nb v so (a := c) (b := j) (by omega)
    have ih' := ih n (q + 1) (j + 1)
    rw [show ((q + 1 : Nat) : Int) = (q : Int) + 1 by omega] at ih'
    show Rn (pK_mostLeft_L28b N c1 kk (lpF bo (pK_mostLeft_L28b N c1 kk) n) _ (q : Int) m) Q
    generalize lpF bo (pK_mostLeft_L28b N c1 kk) n = self at ih' ⊢
    unfold pK_mostLeft_L28b
    have e6 : m 396 6 = nbO so T := (hf _ _ (by omega)).trans h6
    have e463 : m 463 (q : Int) = j := by rw [hf _ _ (by omega), ← hj3]; exact (hm j hj1).1 hj2
    have eV : m (398 + 1 + (j : Int)) c1 = v j := by rw [show (398 : Int) + 1 + j = 399 + j by omega, hf _ _ (by omega)]; exact (hm j hj1).2
    have hvj := hv j hj1
    have hin := mlS_in v so j
    have e1 : mlS v so (j + 1) = (fun y => if y = v j then (mlS v so j).1 (v j) + 1 else (mlS v so j).1 y, max (mlS v so j).2 ((mlS v so j).1 (v j) + 1)) := if_pos hj2
    have enb : nbO so (j + 1) = nbO so j + (if so j then 1 else 0) := rfl
    rw [if_pos hj2] at enb
    rw [e6, e463, eV, ej]
    have hr := hin.1 (v j)
    have ey : m 464 (v j) = (mlS v so j).1 (v j) := by rw [hy _ hvj.1 (by omega), ej]
    refine rn_t (by omega) (rn_t (by omega) (rn_t (by omega) (rn_t hc (rn_v (rn_f (by omega) (rn_t (by omega) (rn_t (by omega) (rn_t (by omega) ?_))))))))
    rw [ey, w32_eq (x := (mlS v so j).1 (v j) + 1) (by omega) (by omega), w32_eq (x := (q : Int) + 1) (by omega) (by omega)]
    refine rn_v (rn_t (by omega) (rn_v (rn_v ?_)))
    rw [mset_s rfl rfl]
    have e2 : max (mlS v so j).2 ((mlS v so j).1 (v j) + 1) = (mlS v so (j + 1)).2 := by rw [e1]
    rw [e2]
    refine ih' _ (by omega) (by omega) (by omega) (fun y y0 y1 => ?_) (hf.set rfl)
    rw [e1]
    dsimp only
    by_cases qy : y = v j
    · rw [mset_s rfl qy, if_pos qy]
    · rw [mset_o (by omega), if_neg qy, hy y y0 y1, ej]
theorem c_ml {N : Nat} {m : Mem} {c1 : Int} {v : Nat → Int} {so : Nat → Bool} {T : Nat} (hN : 2000 ≤ N) (hT : T ≤ 64) (hc : 0 ≤ c1 ∧ c1 < 576) (hv : ∀ k, k < T → 0 ≤ v k ∧ v k ≤ 99) (h6 : m 396 6 = nbO so T) (hm : ∀ k : Nat, k < T → (so k = true → m 463 (nbO so k) = k) ∧ m (399 + (k : Int)) c1 = v k) : Rn (pK_mostLeft N m c1) (fun r => r.1 = (mlS v so T).2 ∧ Fr (fun b _ => b = 464) m r.2) := by
  have hTn := nbO_le so T
  unfold pK_mostLeft pK_mostLeft_L4
  refine c_ml4 (m0 := m) (fun m1 h1 f1 => ?_) 100 N 0 m (by omega) (by omega) (by omega) (fun y q0 q1 => by omega) Fr.rfl'
  unfold pK_mostLeft_L28
  exact c_ml28 (m0 := m1) (v := v) (so := so) hT hc hv (by rw [f1 _ _ (by omega)]; exact h6) (fun k hk => ⟨fun q => by rw [f1 _ _ (by omega)]; exact (hm k hk).1 q, by rw [f1 _ _ (by omega)]; exact (hm k hk).2⟩) (fun m2 f2 => rn_s ⟨rfl, f1.trans f2⟩) (nbO so T) N 0 0 m1 (by omega) (by omega) rfl (fun y y0 y1 => h1 y y0 y1) Fr.rfl'
def tlP (ml : Int → Int → Int) (h p : Int) (z : Int × Int × Int) : Int × Int × Int := if ml h p < z.1 then (ml h p, h, p) else z
def tlI (ml : Int → Int → Int) (h : Int) : Nat → Int → Int × Int × Int → Int × Int × Int
  | 0, _, z => z
  | k + 1, p, z => tlI ml h k (p + 1) (tlP ml h p z)
def tlO (ml : Int → Int → Int) (n : Nat) : Nat → Int → Int × Int × Int → Int × Int × Int
  | 0, _, z => z
  | k + 1, h, z => tlO ml n k (h + 1) (tlI ml h n 0 z)
def zt (m : Mem) : Int × Int × Int := (m 396 10, m 396 8, m 396 9)
def FKt : Int → Int → Prop := fun b j => (b = 396 ∧ (8 ≤ j ∧ j ≤ 10)) ∨ b = 464
theorem c_ft33 {N : Nat} {Q : Mem → Prop} {kk : Mem → Option Mem} {bo : Int → Mem → Option Mem} {pl S m0 : Mem} {so : Nat → Bool} {T : Nat} {h : Int} (hN : 2000 ≤ N) (hg : PG pl) (hb : SB pl S) (he : PE pl m0) (hT : T ≤ 64) (hmk : MK pl S m0 so T) (hh : 0 ≤ h ∧ h < 9) :
    ∀ (k n : Nat) (x : Int) (m : Mem), k < n → 0 ≤ x → x + k = pl 2 2 → Fr FKt m0 m → (∀ m', zt m' = tlI (fun h p => (mlS (fun w => dwS pl S w h p) so T).2) h k x (zt m) → Fr FKt m0 m' → Rn (kk m') Q) → Rn (lpF bo (pK_findTelling_L33b N h kk) n x m) Q := by
  have hn := hg.num
  intro k
  induction k with
  | zero =>
    intro n x m hkn h0 hx hf hk
    obtain ⟨n, rfl⟩ : ∃ n', n = n' + 1 := ⟨n - 1, by omega⟩
    have hem : PE pl m := he.fr hf (fun b j q => by unfold plc at q; unfold FKt; omega)
    show Rn (pK_findTelling_L33b N h kk (lpF bo (pK_findTelling_L33b N h kk) n) x m) Q
    generalize lpF bo (pK_findTelling_L33b N h kk) n = self
    unfold pK_findTelling_L33b
    rw [hem.d 2]
    refine rn_f (by omega) ?_
    exact hk m rfl hf
  | succ k ih =>
    intro n x m hkn h0 hx hf hk
    obtain ⟨n, rfl⟩ : ∃ n', n = n' + 1 := ⟨n - 1, by omega⟩
    have ih' := ih n (x + 1)
    have hem : PE pl m := he.fr hf (fun b j q => by unfold plc at q; unfold FKt; omega)
    show Rn (pK_findTelling_L33b N h kk (lpF bo (pK_findTelling_L33b N h kk) n) x m) Q
    generalize lpF bo (pK_findTelling_L33b N h kk) n = self at ih' ⊢
    unfold pK_findTelling_L33b
    rw [hem.d 2, w32_eq (x := h * 64) (by omega) (by omega), w32_eq (x := h * 64 + x) (by omega) (by omega), w32_eq (x := x + 1) (by omega) (by omega)]
    refine rn_t (by omega) ?_
    refine rn_b2 (P := fun r m1 => r = (mlS (fun w => dwS pl S w h x) so T).2 ∧ Fr (fun b _ => b = 464) m m1) (c_ml (v := fun w => dwS pl S w h x) (so := so) hN hT (by omega) (fun k _ => dwS_rng hg hb _ _ ⟨h0, by omega⟩) (by rw [hf _ _ (by unfold FKt; omega)]; exact hmk.1) (fun k hk => ⟨fun q => by rw [hf _ _ (by have := nbO_le so k; unfold FKt; omega)]; exact (hmk.2 k hk).1 q, by rw [hf _ _ (by unfold FKt; omega), show h * 64 + x = 64 * h + x by omega]; exact (hmk.2 k hk).2 h hh.1 hh.2 x h0 (by omega)⟩)) (fun r m1 h1 => ?_)
    obtain ⟨hr, f1⟩ := h1
    dsimp only
    have ez : zt m1 = zt m := by
      unfold zt
      rw [f1 _ _ (by omega), f1 _ _ (by omega), f1 _ _ (by omega)]
    have e10 : m1 396 10 = (zt m).1 := by rw [← ez]; rfl
    have g1 : Fr FKt m0 m1 := hf.trans (f1.mono (fun b j q => by unfold FKt; omega))
    rw [e10, hr]
    refine rn_i (fun q => ?_) (fun q => ?_)
    · refine rn_v (rn_v (rn_l (fun m2 hm2 => rn_v ?_)))
      refine ih' m2 (by omega) (by omega) (by omega) ?_ (fun m' hm' hf' => hk m' (hm'.trans ?_) hf')
      · rw [hm2]
        exact ((g1.set (by unfold FKt; omega)).set (by unfold FKt; omega)).set (by unfold FKt; omega)
      · show tlI _ h k (x + 1) (zt m2) = tlI _ h k (x + 1) (tlP _ h x (zt m))
        congr 1
        unfold tlP
        rw [if_pos q]
        unfold zt
        rw [hm2, mset_o (by omega), mset_o (by omega), mset_s rfl rfl, mset_o (by omega), mset_s rfl rfl, mset_s rfl rfl]
    · refine rn_v (ih' m1 (by omega) (by omega) (by omega) g1 (fun m' hm' hf' => hk m' (hm'.trans ?_) hf'))
      show tlI _ h k (x + 1) (zt m1) = tlI _ h k (x + 1) (tlP _ h x (zt m))
      congr 1
      unfold tlP
      rw [if_neg q, ez]
theorem c_ft25 {N : Nat} {Q : Mem → Prop} {kk : Mem → Option Mem} {bo : Int → Mem → Option Mem} {pl S m0 : Mem} {so : Nat → Bool} {T : Nat} (hN : 2000 ≤ N) (hg : PG pl) (hb : SB pl S) (he : PE pl m0) (hT : T ≤ 64) (hmk : MK pl S m0 so T) :
    ∀ (k n : Nat) (x : Int) (m : Mem), k < n → 0 ≤ x → x + k = 9 → Fr FKt m0 m → (∀ m', zt m' = tlO (fun h p => (mlS (fun w => dwS pl S w h p) so T).2) (pl 2 2).toNat k x (zt m) → Fr FKt m0 m' → Rn (kk m') Q) → Rn (lpF bo (pK_findTelling_L25b N kk) n x m) Q := by
  have hn := hg.num
  intro k
  induction k with
  | zero =>
    intro n x m hkn h0 hx hf hk
    obtain ⟨n, rfl⟩ : ∃ n', n = n' + 1 := ⟨n - 1, by omega⟩
    show Rn (pK_findTelling_L25b N kk (lpF bo (pK_findTelling_L25b N kk) n) x m) Q
    generalize lpF bo (pK_findTelling_L25b N kk) n = self
    unfold pK_findTelling_L25b
    refine rn_f (by omega) ?_
    exact hk m rfl hf
  | succ k ih =>
    intro n x m hkn h0 hx hf hk
    obtain ⟨n, rfl⟩ : ∃ n', n = n' + 1 := ⟨n - 1, by omega⟩
    have ih' := ih n (x + 1)
    show Rn (pK_findTelling_L25b N kk (lpF bo (pK_findTelling_L25b N kk) n) x m) Q
    generalize lpF bo (pK_findTelling_L25b N kk) n = self at ih' ⊢
    unfold pK_findTelling_L25b
    rw [w32_eq (x := x + 1) (by omega) (by omega)]
    refine rn_t (by omega) ?_
    unfold pK_findTelling_L33
    refine c_ft33 (m0 := m0) hN hg hb he hT hmk (by omega) (pl 2 2).toNat N 0 m (by omega) (by omega) (by omega) hf (fun m1 h1 f1 => rn_v ?_)
    refine ih' m1 (by omega) (by omega) (by omega) f1 (fun m' hm' hf' => hk m' (hm'.trans ?_) hf')
    show tlO _ _ k (x + 1) (zt m1) = tlO _ _ k (x + 1) (tlI _ x _ 0 (zt m))
    rw [h1]
/-- the fold doesn't depend on its start, where the first is taken -/
def Rz (B : Int) (z z' : Int × Int × Int) : Prop := z = z' ∨ (B < z.1 ∧ B < z'.1)
theorem tlP_z {ml : Int → Int → Int} {B h p : Int} (hml : ml h p ≤ B) {z z' : Int × Int × Int} (hz : Rz B z z') : tlP ml h p z = tlP ml h p z' := by
  rcases hz with rfl | ⟨h1, h2⟩
  · rfl
  · unfold tlP
    rw [if_pos (by omega), if_pos (by omega)]
theorem tlI_z {ml : Int → Int → Int} {B h : Int} (hml : ∀ h p, ml h p ≤ B) (k : Nat) (p : Int) {z z' : Int × Int × Int} (hz : Rz B z z') : tlI ml h (k + 1) p z = tlI ml h (k + 1) p z' := by
  show tlI ml h k (p + 1) (tlP ml h p z) = tlI ml h k (p + 1) (tlP ml h p z')
  rw [tlP_z (hml h p) hz]
theorem tlO_z {ml : Int → Int → Int} {B : Int} {n : Nat} (hml : ∀ h p, ml h p ≤ B) (hn : 0 < n) (k : Nat) (h : Int) {z z' : Int × Int × Int} (hz : Rz B z z') : tlO ml n (k + 1) h z = tlO ml n (k + 1) h z' := by
  obtain ⟨n, rfl⟩ : ∃ n', n = n' + 1 := ⟨n - 1, by omega⟩
  show tlO ml (n + 1) k (h + 1) (tlI ml h (n + 1) 0 z) = tlO ml (n + 1) k (h + 1) (tlI ml h (n + 1) 0 z')
  rw [tlI_z hml n 0 hz]
def telS (pl S : Mem) (so : Nat → Bool) (T : Nat) : Int × Int × Int := tlO (fun h p => (mlS (fun w => dwS pl S w h p) so T).2) (pl 2 2).toNat 9 0 (100000000, -1, -1)
def ITel (pl S m : Mem) (so : Nat → Bool) (T : Nat) : Prop := m 396 12 = 0 ∨ (m 396 11 ≠ 0 ∧ zt m = telS pl S so T)
theorem c_fTel {N : Nat} {pl S m : Mem} {so : Nat → Bool} {T : Nat} (hN : 2000 ≤ N) (hg : PG pl) (hb : SB pl S) (he : PE pl m) (hT : T ≤ 64) (hmk : MK pl S m so T) (hp : 0 < pl 2 2) (h11 : m 396 11 ≠ 0) (ht : ITel pl S m so T) : Rn (pK_findTelling N m) (fun m' => zt m' = telS pl S so T ∧ ITel pl S m' so T ∧ MK pl S m' so T ∧ Fr (fun b j => FKt b j ∨ (b = 396 ∧ j = 12)) m m') := by
  have hTn := nbO_le so T
  unfold pK_findTelling
  refine rn_i (fun q => ?_) (fun q => rn_s ⟨(ht.resolve_left q).2, ht, hmk, Fr.rfl'⟩)
  refine rn_l (fun m1 hm1 => ?_)
  have k6 : m1 396 6 = nbO so T := by rw [hm1, mset_o (by omega)]; exact hmk.1
  rw [k6, w32_eq (x := (nbO so T : Int) + 1) (by omega) (by omega)]
  refine rn_l (fun m2 hm2 => ?_)
  have k12 : m2 396 12 = 1 := by rw [hm2, mset_o (by omega), hm1, mset_s rfl rfl]
  have k10 : m2 396 10 = (nbO so T : Int) + 1 := by rw [hm2, mset_s rfl rfl]
  have f2 : Fr (fun b j => b = 396 ∧ (j = 12 ∨ j = 10)) m m2 := by rw [hm2, hm1]; exact (Fr.rfl'.set (by omega)).set (by omega)
  clear hm1 hm2
  have mk2 : MK pl S m2 so T := ⟨by rw [f2 _ _ (by omega)]; exact hmk.1, fun k hk => ⟨fun q => by rw [f2 _ _ (by omega)]; exact (hmk.2 k hk).1 q, (hmk.2 k hk).2.fr (fun j => f2 _ _ (by omega))⟩⟩
  unfold pK_findTelling_L25
  refine c_ft25 (m0 := m2) (S := S) (so := so) (T := T) hN hg hb (he.fr f2 (fun b j q => by unfold plc at q; omega)) hT mk2 9 N 0 m2 (by omega) (by omega) (by omega) Fr.rfl' (fun m3 h3 f3 => ?_)
  have ez : zt m3 = telS pl S so T := by
    rw [h3]
    unfold telS
    exact tlO_z (B := nbO so T) (fun h p => (mlS_in _ so T).2.2) (by omega) 8 0 (Or.inr ⟨by show _ < m2 396 10; rw [k10]; omega, by show _ < (100000000 : Int); omega⟩)
  refine rn_s ⟨ez, Or.inr ⟨?_, ez⟩, ⟨by rw [f3 _ _ (by unfold FKt; omega)]; exact mk2.1, fun k hk => ⟨fun q => by rw [f3 _ _ (by have := nbO_le so k; unfold FKt; omega)]; exact (mk2.2 k hk).1 q, (mk2.2 k hk).2.fr (fun j => f3 _ _ (by unfold FKt; omega))⟩⟩, ?_⟩
  · rw [f3 _ _ (by unfold FKt; omega), f2 _ _ (by omega)]; exact h11
  · exact (f2.mono (fun b j q => by unfold FKt; omega)).trans (f3.mono (fun b j q => Or.inl q))
