/-! TELLS: the reference's fold -/
theorem tlI_snoc (ml : Int → Int → Int) (h : Int) : ∀ (k : Nat) (p : Int) (z : Int × Int × Int), tlI ml h (k + 1) p z = tlP ml h (p + k) (tlI ml h k p z)
  | 0, p, z => by
    show tlP ml h p z = tlP ml h (p + ((0 : Nat) : Int)) z
    rw [show p + ((0 : Nat) : Int) = p by omega]
  | k + 1, p, z => by
    show tlI ml h (k + 1) (p + 1) (tlP ml h p z) = tlP ml h (p + ((k + 1 : Nat) : Int)) (tlI ml h k (p + 1) (tlP ml h p z))
    rw [tlI_snoc ml h k (p + 1), show p + 1 + (k : Int) = p + ((k + 1 : Nat) : Int) by omega]
theorem tlO_snoc (ml : Int → Int → Int) (n : Nat) : ∀ (k : Nat) (h : Int) (z : Int × Int × Int), tlO ml n (k + 1) h z = tlI ml (h + k) n 0 (tlO ml n k h z)
  | 0, h, z => by
    show tlI ml h n 0 z = tlI ml (h + ((0 : Nat) : Int)) n 0 z
    rw [show h + ((0 : Nat) : Int) = h by omega]
  | k + 1, h, z => by
    show tlO ml n (k + 1) (h + 1) (tlI ml h n 0 z) = tlI ml (h + ((k + 1 : Nat) : Int)) n 0 (tlO ml n k (h + 1) (tlI ml h n 0 z))
    rw [tlO_snoc ml n k (h + 1), show h + 1 + (k : Int) = h + ((k + 1 : Nat) : Int) by omega]
/-- a telling that stands -/
def Vz (n : Nat) (z : Int × Int × Int) : Prop := (0 ≤ z.2.1 ∧ z.2.1 < 9) ∧ 0 ≤ z.2.2 ∧ z.2.2 < n
theorem tlP_V {ml : Int → Int → Int} {B h p : Int} {n : Nat} (hml : ml h p ≤ B) (hh : 0 ≤ h ∧ h < 9) (hp : 0 ≤ p ∧ p < n) {z : Int × Int × Int} (hz : Vz n z ∨ B < z.1) : Vz n (tlP ml h p z) := by
  unfold tlP
  by_cases q : ml h p < z.1
  · rw [if_pos q]; exact ⟨hh, hp⟩
  · rw [if_neg q]
    rcases hz with hz | hz
    · exact hz
    · omega
theorem tlI_V {ml : Int → Int → Int} {B h : Int} {n : Nat} (hml : ∀ h p, ml h p ≤ B) (hh : 0 ≤ h ∧ h < 9) : ∀ (k : Nat) (p : Int) (z : Int × Int × Int), 0 ≤ p → p + k ≤ n → Vz n z → Vz n (tlI ml h k p z)
  | 0, _, _, _, _, hz => hz
  | k + 1, p, z, h0, h1, hz => tlI_V hml hh k (p + 1) _ (by omega) (by omega) (tlP_V (hml h p) hh ⟨h0, by omega⟩ (Or.inl hz))
theorem tlO_V {ml : Int → Int → Int} {B : Int} {n : Nat} (hml : ∀ h p, ml h p ≤ B) : ∀ (k : Nat) (h : Int) (z : Int × Int × Int), 0 ≤ h → h + k ≤ 9 → Vz n z → Vz n (tlO ml n k h z)
  | 0, _, _, _, _, hz => hz
  | k + 1, h, z, h0, h1, hz => tlO_V hml k (h + 1) _ (by omega) (by omega) (tlI_V hml ⟨h0, by omega⟩ n 0 z (by omega) (by omega) hz)
theorem tlO_V0 {ml : Int → Int → Int} {B : Int} {n : Nat} (hml : ∀ h p, ml h p ≤ B) (hn : 0 < n) {z : Int × Int × Int} (hz : B < z.1) : Vz n (tlO ml n 9 0 z) := by
  obtain ⟨n, rfl⟩ : ∃ n', n = n' + 1 := ⟨n - 1, by omega⟩
  show Vz (n + 1) (tlO ml (n + 1) 8 (0 + 1) (tlI ml 0 n (0 + 1) (tlP ml 0 0 z)))
  exact tlO_V hml 8 (0 + 1) _ (by omega) (by omega) (tlI_V hml (by omega) n (0 + 1) _ (by omega) (by omega) (tlP_V (hml 0 0) (by omega) (by omega) (Or.inr hz)))
def zA (ml : Int → Int → Int) (pl : Mem) (z : Int × Int × Int) (x : Int) : Int × Int × Int := tlI ml (x / 64) (cn (pl 2 0) (pl 2 1) (x % 64)).toNat 0 (tlO ml (pl 2 2).toNat (x / 64).toNat 0 z)
theorem cn_nn {C R c : Int} (hC : 0 ≤ C) (hR : 0 ≤ R) (hc : 0 ≤ c) : 0 ≤ cn C R c := by
  have h1 : 0 ≤ c / 8 * C := Int.mul_nonneg (by omega) hC
  have h2 : 0 ≤ C * R := Int.mul_nonneg hC hR
  unfold cn
  split
  · omega
  · exact h2
theorem zA_step {pl : Mem} (hg : PG pl) (ml : Int → Int → Int) (z : Int × Int × Int) {x : Int} (hx : 0 ≤ x ∧ x < 576) : (∀ p, (0 ≤ p ∧ p < pl 2 2) → ph pl p = x % 64 → zA ml pl z (x + 1) = tlP ml (x / 64) p (zA ml pl z x)) ∧ (¬ cellC pl (x % 64) → zA ml pl z (x + 1) = zA ml pl z x) := by
  have hn := hg.num
  have hcs := cn_step (c := x % 64) hn.1 hn.2.1 (by omega)
  have hend := cn_end hn.1 hn.2.1
  have hnn := cn_nn (c := x % 64) hn.1.1 hn.2.1.1 (by omega)
  -- the next place, in the same hour or the next
  have hnx : zA ml pl z (x + 1) = tlI ml (x / 64) (cn (pl 2 0) (pl 2 1) (x % 64 + 1)).toNat 0 (tlO ml (pl 2 2).toNat (x / 64).toNat 0 z) := by
    unfold zA
    by_cases q : x % 64 = 63
    · rw [show (x + 1) / 64 = x / 64 + 1 by omega, show (x + 1) % 64 = 0 by omega, hend.2, show x % 64 + 1 = 64 by omega, hend.1, ← hg.2.1, show (x / 64 + 1).toNat = (x / 64).toNat + 1 by omega, tlO_snoc, show (0 : Int) + ((x / 64).toNat : Nat) = x / 64 by omega]
      rfl
    · rw [show (x + 1) / 64 = x / 64 by omega, show (x + 1) % 64 = x % 64 + 1 by omega]
  refine ⟨fun p hp e => ?_, fun hc => ?_⟩
  · have hph := ph_eq hg hp
    have hcell : x % 64 % 8 < pl 2 0 ∧ x % 64 / 8 < pl 2 1 := by omega
    have h1 := hcs.1 hcell
    have hps := hg.pos hp
    have hpp : cn (pl 2 0) (pl 2 1) (x % 64) = p := by
      rw [h1.2, ← e, hph.2.2.2.1, hph.2.2.2.2]
      have := pl_cell hps.1 hps.2.1 (p := p) (by omega)
      exact this.2.2.symm
    rw [hnx, h1.1, hpp, show (p + 1).toNat = p.toNat + 1 by omega, tlI_snoc, show (0 : Int) + (p.toNat : Nat) = p by omega]
    unfold zA
    rw [hpp]
  · have hcell : ¬ (x % 64 % 8 < pl 2 0 ∧ x % 64 / 8 < pl 2 1) := fun c => hc (by unfold cellC; omega)
    rw [hnx, hcs.2 hcell]
    rfl
def enc (pl : Mem) (z : Int × Int × Int) : Int := if z.2.1 = -1 then -1 else 64 * z.2.1 + ph pl z.2.2
theorem r_tl34 {N : Nat} {Q : Int × Mem → Prop} {kk : Int → Int → Mem → Option (Int × Mem)} {bo : Int → Int → Int → Mem → Option (Int × Mem)} {pl S m0 : Mem} {so : Nat → Bool} {c1 : Int} (hN : 2000 ≤ N) (hg : PG pl) (hr : PR pl) (hq : PQ pl m0) (hb : SB pl S) (hl : RLv pl S m0 so (setN pl)) (ml : Int → Int → Int) (hml : ml = fun h p => (mlS (fun w => dwS pl S w h p) so (setN pl)).2) (hk : ∀ m', Fr (fun b _ => b = 521) m0 m' → Rn (kk (enc pl (zA ml pl (100000000, -1, -1) 576)) (zA ml pl (100000000, -1, -1) 576).1 m') Q) :
    ∀ (k n : Nat) (x : Int) (m : Mem), k < n → 0 ≤ x → x + k = 576 → Fr (fun b _ => b = 521) m0 m → Rn (lpF bo (pM_tells_L34b N c1 kk) n (enc pl (zA ml pl (100000000, -1, -1) x)) (zA ml pl (100000000, -1, -1) x).1 x m) Q := by
  have hn := hg.num
  have hT := setN_ok hg
  intro k
  induction k with
  | zero =>
    intro n x m hkn h0 hx hf
    obtain ⟨n, rfl⟩ : ∃ n', n = n' + 1 := ⟨n - 1, by omega⟩
    show Rn (pM_tells_L34b N c1 kk (lpF bo (pM_tells_L34b N c1 kk) n) _ _ x m) Q
    generalize lpF bo (pM_tells_L34b N c1 kk) n = self
    unfold pM_tells_L34b
    refine rn_f (by omega) ?_
    rw [show x = 576 by omega]
    exact hk m hf
  | succ k ih =>
    intro n x m hkn h0 hx hf
    obtain ⟨n, rfl⟩ : ∃ n', n = n' + 1 := ⟨n - 1, by omega⟩
    have ih' := ih n (x + 1)
    have hqm : PQ pl m := hq.fr hf (fun b j q => by unfold prc at q; omega)
    have hst := zA_step hg ml (100000000, -1, -1) (x := x) (by omega)
    show Rn (pM_tells_L34b N c1 kk (lpF bo (pM_tells_L34b N c1 kk) n) _ _ x m) Q
    generalize lpF bo (pM_tells_L34b N c1 kk) n = self at ih' ⊢
    unfold pM_tells_L34b
    rw [r32_eq (x := x) (y := 8) (by omega) (by omega) (by omega) (by omega), r32_eq (x := x) (y := 64) (by omega) (by omega) (by omega) (by omega), d32_eq (x := x % 64) (by omega) (by omega) (by omega) (by omega), w32_eq (x := x + 1) (by omega) (by omega)]
    refine rn_t (by omega) ?_
    refine rn_e (e_isCell hg hr hqm _ _) ?_
    by_cases hc : cellC pl (x % 64)
    · obtain ⟨p, hp, hpx, -⟩ := ph_sur hg hc
      have hc' := hc
      unfold cellC at hc'
      rw [show x % 64 % 8 = x % 8 by omega] at hc'
      rw [if_pos hc']
      refine rn_f (show ¬ ((1 : Int) = 0) by omega) ?_
      refine rn_b2 (P := fun r m1 => r = ml (x / 64) p ∧ Fr (fun b _ => b = 521) m m1) (rn_q (r_mb (v := fun w => dwS pl S w (x / 64) p) (so := so) hN hg hr hqm (by omega) (fun k _ => dwS_rng hg hb _ _ hp) (fun k hk => ⟨by rw [hf _ _ (by omega)]; exact (hl k hk).1, by rw [hf _ _ (by omega)]; have := (hl k hk).2 (x / 64) (by omega) (by omega) p hp.1 hp.2; rw [← this]; congr 1; omega⟩)) (fun r hr => ⟨by rw [hml]; exact hr.1, hr.2⟩)) (fun r m1 h1 => ?_)
      obtain ⟨hr1, f1⟩ := h1
      dsimp only
      rw [hr1]
      have hz := hst.1 p hp hpx
      refine rn_i (fun q => ?_) (fun q => ?_)
      · refine rn_v ?_
        have e1 : zA ml pl (100000000, -1, -1) (x + 1) = (ml (x / 64) p, x / 64, p) := by
          rw [hz]
          unfold tlP
          rw [if_pos q]
        have e2 : enc pl (zA ml pl (100000000, -1, -1) (x + 1)) = x := by
          rw [e1]
          unfold enc
          dsimp only
          rw [if_neg (by omega), hpx]
          omega
        have := ih' m1 (by omega) (by omega) (by omega) (hf.trans f1)
        rw [e2, e1] at this
        exact this
      · refine rn_v ?_
        have e1 : zA ml pl (100000000, -1, -1) (x + 1) = zA ml pl (100000000, -1, -1) x := by
          rw [hz]
          unfold tlP
          rw [if_neg q]
        have := ih' m1 (by omega) (by omega) (by omega) (hf.trans f1)
        rw [e1] at this
        exact this
    · have hc' := hc
      unfold cellC at hc'
      rw [show x % 64 % 8 = x % 8 by omega] at hc'
      rw [if_neg hc']
      refine rn_t rfl (rn_v ?_)
      have := ih' m (by omega) (by omega) (by omega) hf
      rw [hst.2 hc] at this
      exact this
def FK : Int → Int → Prop := fun b j => FTd b j ∨ FKl b j ∨ FKt b j ∨ (b = 396 ∧ j = 12) ∨ FRl b j ∨ b = 521
theorem FK_CD {b j : Int} (h : CD b j) : ¬ FK b j := by
  unfold FK FTd FKl FKt FRl
  rcases h with h | h | h | h | h | h | h | h | h | h
  · unfold A1 at h; omega
  · unfold A2 at h; omega
  · unfold A3 at h; omega
  · unfold A4 at h; omega
  · unfold A5 plc prc at h; omega
  · unfold A6 FLy at h; omega
  · unfold A7 at h
    rcases h with h | h | h | ⟨v, _, _, h⟩
    · omega
    · omega
    · omega
    · unfold FLy at h; omega
  · unfold A8 at h; omega
  · unfold A9 at h; omega
  · unfold A10 at h; omega
def soM (pl S m : Mem) : Nat → Bool := soF pl S (fun j => m 397 j) (m 396 3).toNat
def ISet (pl S m : Mem) : Prop := (m 396 11 = 0 ∨ MK pl S m (soM pl S m) (setN pl)) ∧ ITel pl S m (soM pl S m) (setN pl)
theorem soM_fr {pl S m m' : Mem} (f : ∀ b j, (b = 396 ∧ j = 3) ∨ b = 397 → m' b j = m b j) : soM pl S m' = soM pl S m := by
  unfold soM
  rw [f 396 3 (Or.inl ⟨rfl, rfl⟩), show (fun j => m' 397 j) = (fun j => m 397 j) from funext (fun j => f 397 j (Or.inr rfl))]
theorem MK.fr {pl S m m' : Mem} {so : Nat → Bool} {T : Nat} (h : MK pl S m so T) (f : ∀ b j, (b = 396 ∧ j = 6) ∨ (399 ≤ b ∧ b ≤ 463) → m' b j = m b j) (hT : T ≤ 64) : MK pl S m' so T := ⟨by rw [f _ _ (Or.inl ⟨rfl, rfl⟩)]; exact h.1, fun k hk => ⟨fun q => by rw [f _ _ (Or.inr (by omega))]; exact (h.2 k hk).1 q, (h.2 k hk).2.fr (fun j => f _ _ (Or.inr (by omega)))⟩⟩
theorem zt_fr {m m' : Mem} (f : ∀ j, 8 ≤ j → j ≤ 10 → m' 396 j = m 396 j) : zt m' = zt m := by
  unfold zt
  rw [f 10 (by omega) (by omega), f 8 (by omega) (by omega), f 9 (by omega) (by omega)]
theorem ISet.fr {pl S m m' : Mem} (hg : PG pl) (h : ISet pl S m) (f : ∀ b j, (b = 396 ∧ 3 ≤ j) ∨ b = 397 ∨ (399 ≤ b ∧ b ≤ 463) → m' b j = m b j) : ISet pl S m' := by
  have hT := setN_ok hg
  unfold ISet
  rw [soM_fr (fun b j q => f b j (by omega))]
  refine ⟨?_, ?_⟩
  · rw [f 396 11 (by omega)]
    exact h.1.imp id (fun k => k.fr (fun b j q => f b j (by omega)) (by omega))
  · unfold ITel
    rw [f 396 11 (by omega), f 396 12 (by omega), zt_fr (fun j _ _ => f 396 j (by omega))]
    exact h.2
def OkK (m m2 : Mem) : Prop := Core m2 ∧ ITod (vP m) (vS m 38) m2 ∧ ISet (vP m) (vS m 38) m2 ∧ Fr FK m m2
theorem ISeen.SNr {pl m : Mem} (h : ISeen pl m) : SNr pl m (fun j => m 397 j) (m 396 3).toNat := by
  obtain ⟨h1, h2, h3⟩ := h
  refine ⟨by omega, by omega, fun r h0 h4 => ?_⟩
  obtain ⟨a1, a2, a3, a4, a5, a6, a7⟩ := h3 r h0 (by omega)
  exact ⟨a5, a6, a7, a1, a2, a3⟩
theorem o_sets {N : Nat} {m : Mem} (hN : 2000 ≤ N) (hc : Core m) (ht : ITod (vP m) (vS m 38) m) (hs : ISet (vP m) (vS m 38) m) : ∃ m1 m2, pT_learn N m 38 = some m1 ∧ pK_learn N m1 236 = some m2 ∧ MK (vP m) (vS m 38) m2 (soM (vP m) (vS m 38) m) (setN (vP m)) ∧ m2 396 11 ≠ 0 ∧ ITel (vP m) (vS m 38) m2 (soM (vP m) (vS m 38) m) (setN (vP m)) ∧ ITod (vP m) (vS m 38) m2 ∧ Fr (fun b j => FTd b j ∨ FKl b j) m m2 := by
  obtain ⟨-, -, -, -, ⟨hg, hr, hnm⟩, hst, -, hse, -⟩ := id hc
  have hT := setN_ok hg
  obtain ⟨m1, e1, k13, tk, it, f1⟩ := c_tlearn hN hg (vP_PE m) hst.1 ht
  have g1 : ∀ b j, (b = 396 ∨ b = 397 ∨ (399 ≤ b ∧ b ≤ 463)) → m1 b j = m b j := fun b j q => f1 b j (by unfold FTd; omega)
  have hi : IMem (vP m) (vS m 38) m1 (fun j => m 397 j) (m 396 3).toNat := by
    unfold IMem
    rw [g1 _ _ (by omega)]
    exact hs.1.imp id (fun k => k.fr (fun b j q => g1 b j (by omega)) (by omega))
  obtain ⟨m2, e2, k11, mk, hor, f2⟩ := c_klearn (sn := fun j => m 397 j) (K := (m 396 3).toNat) hN hg hst.1 ((vP_PE m).fr f1 (fun b j q => FTd_CD (Or.inr (Or.inr (Or.inr (Or.inr (Or.inl (Or.inl q)))))))) (hse.SN.fr (fun b j q => g1 b j (by omega))) tk.1 hi
  refine ⟨m1, m2, e1, e2, mk, k11, ?_, it.fr (fun b j q1 q2 => f2 b j (by unfold FKl; omega)), (f1.mono (fun b j q => Or.inl q)).trans (f2.mono (fun b j q => Or.inr q))⟩
  rcases hor with h0 | rfl
  · refine Or.inl ?_
    have h12 : m 396 12 = 0 := hs.2.resolve_right (fun c => c.1 (by rw [← g1 _ _ (by omega)]; exact h0))
    rw [f2 _ _ (by unfold FKl; omega), g1 _ _ (by omega)]
    exact h12
  · unfold ITel
    rw [g1 _ _ (by omega), g1 _ _ (by omega), zt_fr (fun j _ _ => g1 396 j (by omega))]
    exact hs.2
