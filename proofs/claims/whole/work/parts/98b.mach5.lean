/-! VALLEY, the sums: products and sums -/
theorem go_ar {t : Mem} {j op r : Int} {cs : List (Int × Int)} {kd ph pr : Int} {P ops : List Int} {Fs : List Fm} (hr : (r = 5 ∧ (t 35 j = 43 ∨ t 35 j = 45)) ∨ (r = 6 ∧ ar3 (t 35 j))) (hph : ph < 2) (hlo : lowHd r ops) (hP : allR r P) : mstep t (j, op + nots P, cs, (kd, ph, 0, pr, P ++ ops) :: Fs, 1) = .inl (j + 1, op, cs ++ cod P, (kd, ph, 0, pr, aop (t 35 j) :: ops) :: Fs, 0) := by
  rw [step_go]
  unfold mGo
  have hfl := flq_app hlo hP
  unfold ar3 at hr
  rcases hr with ⟨rfl, q⟩ | ⟨rfl, q⟩
  · rw [if_neg (by omega), if_pos ⟨hph, q⟩, hfl]
    show (Sum.inl (j + 1, op + nots P - nots P, _, _, _) : Mc ⊕ Rz4) = _
    rw [show op + nots P - nots P = op by omega]
  · rw [if_neg (by omega), if_neg (by omega), if_pos ⟨hph, q⟩, hfl]
    show (Sum.inl (j + 1, op + nots P - nots P, _, _, _) : Mc ⊕ Rz4) = _
    rw [show op + nots P - nots P = op by omega]
theorem fold_bin {t : Mem} {C : Mc} {j j2 op : Int} {L E E2 cs1 cs2 : List (Int × Int)} {kd ph ph2 bg2 ph3 pr o : Int} {P P2 ops : List Int} {Fs : List Fm} (r1 : Reach t C (j, op + nots P, cs1, (kd, ph, 0, pr, P ++ ops) :: Fs, 1)) (e : mstep t (j, op + nots P, cs1, (kd, ph, 0, pr, P ++ ops) :: Fs, 1) = .inl (j + 1, op, L ++ E, (kd, ph2, bg2, pr, o :: ops) :: Fs, 0)) (r2 : Reach t (j + 1, op, L ++ E, (kd, ph2, bg2, pr, o :: ops) :: Fs, 0) (j2, op + nots P2, cs2, (kd, ph3, 0, pr, P2 ++ o :: ops) :: Fs, 1)) (c2 : cs2 ++ cod P2 = L ++ E ++ E2) (ho : o ≠ 2) : Reach t C (j2, op + nots (P2 ++ [o]), cs2, (kd, ph3, 0, pr, (P2 ++ [o]) ++ ops) :: Fs, 1) ∧ cs2 ++ cod (P2 ++ [o]) = L ++ (E ++ E2 ++ [(o, 0)]) := by
  refine ⟨?_, ?_⟩
  · have h := r1.trans (Reach.step e r2)
    have e1 : P2 ++ [o] ++ ops = P2 ++ o :: ops := by rw [List.append_assoc]; rfl
    have e2 : nots (P2 ++ [o]) = nots P2 := by
      rw [nots_app]
      show nots P2 + ((if o = 2 then 1 else 0) + 0) = _
      rw [if_neg ho]; omega
    rw [e1, e2]
    exact h
  · rw [cod_app, ← List.append_assoc, c2]
    show L ++ E ++ E2 ++ [(o, 0)] = _
    simp only [List.append_assoc]
theorem aop_rk {x : Int} (h : ar5 x) : (4 ≤ aop x ∧ aop x ≤ 8) ∧ ((x = 43 ∨ x = 45) → rk (aop x) = 5) ∧ (ar3 x → rk (aop x) = 6) := by
  unfold ar5 at h
  unfold ar3 aop
  rcases h with rfl | rfl | rfl | rfl | rfl <;> refine ⟨by decide, by decide, by decide⟩
theorem j_prL {N : Nat} {t : Mem} {f : Nat} (hw : WT t) (hS : SJ N t f) {C : Mc} {k0 op : Int} {L : List (Int × Int)} {kd ph pr : Int} {ops : List Int} {Fs : List Fm} {bo : Int → Mem → Option (Int × Mem)} (hf : 2 + 10 * (7 - op) ≤ f) (hl : (L.length : Int) ≤ k0) (hk0 : 0 ≤ k0) (hph : ph < 2) (hlo : lowHd 6 ops) :
    ∀ (c nn : Nat) (i j : Int) (E : List (Int × Int)) (P : List Int) (cs1 : List (Int × Int)) (m : Mem), t 18 6 - j ≤ c → c < nn → 0 ≤ i → 2 * i ≤ j → k0 < j → CS t m j op (L ++ E) → (E.length : Int) ≤ j - k0 → GV (37 - 5 * op) 0 E → FBx t E → Reach t C (j, op + nots P, cs1, (kd, ph, 0, pr, P ++ ops) :: Fs, 1) → cs1 ++ cod P = L ++ E → allR 6 P → Rn (lpF bo (pR_readProduct_L11b N (pgR N f) (fun n102 => some (1, n102))) nn i m) (PJ t C L k0 op (37 - 5 * op) 0 6 kd (fun p x => p = ph ∧ ¬ ar3 x) pr ops Fs) := by
  intro c
  have hz := hw.1
  induction c with
  | zero =>
    intro nn i j E P cs1 m hc hcn hi hij hj h
    have := h.1
    omega
  | succ c ih =>
    intro nn i j E P cs1 m hc hcn hi hij hj h hE hg hb hr hcs hP
    obtain ⟨nn, rfl⟩ : ∃ n', nn = n' + 1 := ⟨nn - 1, by omega⟩
    have ih' := ih nn (i + 1)
    have ht := h.tk hw j
    obtain ⟨a1, a2, a3, -⟩ := id h
    have lLE : ((L ++ E).length : Int) = L.length + E.length := by rw [List.length_append]; omega
    show Rn (pR_readProduct_L11b N (pgR N f) _ (lpF bo (pR_readProduct_L11b N (pgR N f) _) nn) i m) _
    generalize lpF bo (pR_readProduct_L11b N (pgR N f) (fun n102 => some (1, n102))) nn = self at ih' ⊢
    unfold pR_readProduct_L11b pR_isTimes
    rw [a2, ht.1]
    refine rn_t (by omega) (rn_t (by omega) ?_)
    have go : ar3 (t 35 j) → Rn ((pR_pass m).bind fun m75 => (pgR N f 2 0 m75).bind fun (r79, m79) => if r79 = 0 then some ((0 : Int), m79) else (pU_add m79 (m79 18 10) (aop (t 35 j)) 0).bind fun m93 => (some (w32 (i + 1) : Int)).bind fun x1_96 => self x1_96 m93) (PJ t C L k0 op (37 - 5 * op) 0 6 kd (fun p x => p = ph ∧ ¬ ar3 x) pr ops Fs) := fun q => by
      have hrk := aop_rk (x := t 35 j) (by unfold ar3 at q; unfold ar5; omega)
      have ha6 := hrk.2.2 q
      have hgo := go_ar (op := op) (cs := cs1) (kd := kd) (pr := pr) (Fs := Fs) (Or.inr ⟨rfl, q⟩) hph hlo hP
      rw [hcs] at hgo
      have hp := e_passC hw h (by unfold ar3 at q; omega) (by unfold ar3 at q; omega)
      refine rn_e hp.1 ?_
      refine rn_b (hS.2.2.1 (j + 1) op (L ++ E) kd ph 0 pr (aop (t 35 j) :: ops) Fs _ 0 (by omega) hp.2 (by omega) hph (by omega) (lowHd7 _)) (fun r1 hr1 => ?_)
      obtain ⟨r', m2⟩ := r1
      rcases hr1 with ⟨b1, j2, E2, P2, cs2, ph', c1, c2, c3, c4, c5, c6, c7, c8, c9, -⟩ | ⟨b1, b2⟩
      · dsimp only at b1 c2 c9 ⊢
        rw [c9] at c6
        refine rn_f (by omega) ?_
        have hj2 := c2.1
        have l2 : ((L ++ E ++ E2).length : Int) = L.length + E.length + E2.length := by rw [List.length_append]; omega
        refine rn_b (c_addC hw c2 (by omega) (by omega) (by omega)) (fun m6 h6 => ?_)
        have hfb := fold_bin hr hgo c6 c7 (by omega)
        rw [w32_eq (x := i + 1) (by omega) (by omega)]
        refine rn_v (ih' j2 (E ++ E2 ++ [(aop (t 35 j), 0)]) (P2 ++ [aop (t 35 j)]) cs2 m6 (by omega) (by omega) (by omega) (by omega) (by omega) ?_ ?_ (hg.bin c4 (by omega) (by omega) (by omega) (by omega) (by omega)) ((hb.app c5).app (FBx.op (by omega))) hfb.1 hfb.2 ((c8.mono (by omega)).app (allR.one (by omega))))
        · have eL : L ++ (E ++ E2 ++ [(aop (t 35 j), 0)]) = L ++ E ++ E2 ++ [(aop (t 35 j), 0)] := by simp only [List.append_assoc]
          rw [eL]; exact h6
        · rw [List.length_append, List.length_append]
          show ((E.length + E2.length + 1 : Nat) : Int) ≤ _
          omega
      · dsimp only at b1 b2 ⊢
        exact rn_t b1 (rn_s (Or.inr ⟨rfl, BADc.of (hr.trans (Reach.step hgo Reach.rfl')) b2⟩))
    by_cases q42 : t 35 j = 42
    · have e6 : aop (t 35 j) = 6 := by rw [q42]; rfl
      have hgo := go (Or.inl q42)
      rw [e6] at hgo
      rw [if_pos q42]
      refine rn_v (rn_f (show ¬ ((1 : Int) = 0) by omega) (rn_t (by omega) ?_))
      rw [if_pos q42]
      exact rn_v hgo
    rw [if_neg q42]
    by_cases q47 : t 35 j = 47
    · have e6 : aop (t 35 j) = 7 := by rw [q47]; rfl
      have hgo := go (Or.inr (Or.inl q47))
      rw [e6] at hgo
      rw [if_pos q47]
      refine rn_v (rn_f (show ¬ ((1 : Int) = 0) by omega) (rn_t (by omega) ?_))
      rw [if_neg q42, if_pos (by omega), if_pos q47]
      exact rn_v hgo
    rw [if_neg q47]
    by_cases q37 : t 35 j = 37
    · have e6 : aop (t 35 j) = 8 := by rw [q37]; rfl
      have hgo := go (Or.inr (Or.inr q37))
      rw [e6] at hgo
      rw [if_pos q37]
      refine rn_v (rn_f (show ¬ ((1 : Int) = 0) by omega) (rn_t (by omega) ?_))
      rw [if_neg q42, if_pos (by omega), if_neg q47]
      exact rn_v hgo
    rw [if_neg q37]
    refine rn_v (rn_t rfl (rn_s (Or.inl ⟨rfl, j, E, P, cs1, ph, hj, h, hE, hg, hb, hr, hcs, hP, rfl, by unfold ar3; omega⟩)))
theorem j_prod {N : Nat} {t : Mem} {f : Nat} (hN : 2000 ≤ N) (hw : WT t) (hS : SJ N t f) : JA N t (f + 1) 1 6 3 37 (fun x => ¬ ar3 x) := by
  intro k op L kd ph bg pr ops Fs m x hf h hl hph hbg hlo
  have hz := hw.1
  rw [gR_1]
  unfold pR_readProduct_b
  refine rn_b (hS.2.2.1 k op L kd ph bg pr ops Fs m 0 (by omega) h hl hph hbg (lowHd7 _)) (fun r1 hr1 => ?_)
  obtain ⟨r', m2⟩ := r1
  rcases hr1 with ⟨b1, j2, E2, P2, cs2, ph', c1, c2, c3, c4, c5, c6, c7, c8, c9, -⟩ | ⟨b1, b2⟩
  · dsimp only at b1 c2 c9 ⊢
    rw [c9] at c6
    refine rn_f (by omega) ?_
    unfold pR_readProduct_L11
    have h1 := h.1
    exact j_prL hw hS (by omega) hl h1.1 hph hlo (t 18 6 - j2).toNat N 0 j2 E2 P2 cs2 m2 (by omega) (by omega) (Int.le_refl _) (by omega) c1 c2 c3 (c4.mono (by omega) id) c5 c6 c7 (c8.mono (by omega))
  · dsimp only at b1 b2 ⊢
    exact rn_t b1 (rn_s (Or.inr ⟨rfl, b2⟩))
theorem j_smL {N : Nat} {t : Mem} {f : Nat} (hw : WT t) (hS : SJ N t f) {C : Mc} {k0 op : Int} {L : List (Int × Int)} {kd ph pr : Int} {ops : List Int} {Fs : List Fm} {bo : Int → Mem → Option (Int × Mem)} (hf : 3 + 10 * (7 - op) ≤ f) (hl : (L.length : Int) ≤ k0) (hk0 : 0 ≤ k0) (hph : ph < 2) (hlo : lowHd 5 ops) :
    ∀ (c nn : Nat) (i j : Int) (E : List (Int × Int)) (P : List Int) (cs1 : List (Int × Int)) (m : Mem), t 18 6 - j ≤ c → c < nn → 0 ≤ i → 2 * i ≤ j → k0 < j → CS t m j op (L ++ E) → (E.length : Int) ≤ j - k0 → GV (38 - 5 * op) 0 E → FBx t E → Reach t C (j, op + nots P, cs1, (kd, ph, 0, pr, P ++ ops) :: Fs, 1) → cs1 ++ cod P = L ++ E → allR 5 P → ¬ ar3 (t 35 j) → Rn (lpF bo (pR_readSum_L11b N (pgR N f) (fun n94 => some (1, n94))) nn i m) (PJ t C L k0 op (38 - 5 * op) 0 5 kd (fun p x => p = ph ∧ ¬ ar5 x) pr ops Fs) := by
  intro c
  have hz := hw.1
  induction c with
  | zero =>
    intro nn i j E P cs1 m hc hcn hi hij hj h
    have := h.1
    omega
  | succ c ih =>
    intro nn i j E P cs1 m hc hcn hi hij hj h hE hg hb hr hcs hP h3
    obtain ⟨nn, rfl⟩ : ∃ n', nn = n' + 1 := ⟨nn - 1, by omega⟩
    have ih' := ih nn (i + 1)
    have ht := h.tk hw j
    obtain ⟨a1, a2, a3, -⟩ := id h
    have lLE : ((L ++ E).length : Int) = L.length + E.length := by rw [List.length_append]; omega
    show Rn (pR_readSum_L11b N (pgR N f) _ (lpF bo (pR_readSum_L11b N (pgR N f) _) nn) i m) _
    generalize lpF bo (pR_readSum_L11b N (pgR N f) (fun n94 => some (1, n94))) nn = self at ih' ⊢
    unfold pR_readSum_L11b jn
    dsimp only
    rw [a2, ht.1]
    refine rn_t (by omega) (rn_t (by omega) ?_)
    have go : (t 35 j = 43 ∨ t 35 j = 45) → Rn ((pR_pass m).bind fun m67 => (pgR N f 1 0 m67).bind fun (r71, m71) => if r71 = 0 then some ((0 : Int), m71) else (pU_add m71 (m71 18 10) (aop (t 35 j)) 0).bind fun m85 => (some (w32 (i + 1) : Int)).bind fun x1_88 => self x1_88 m85) (PJ t C L k0 op (38 - 5 * op) 0 5 kd (fun p x => p = ph ∧ ¬ ar5 x) pr ops Fs) := fun q => by
      have hrk := aop_rk (x := t 35 j) (by unfold ar5; omega)
      have ha6 := hrk.2.1 q
      have hgo := go_ar (op := op) (cs := cs1) (kd := kd) (pr := pr) (Fs := Fs) (Or.inl ⟨rfl, q⟩) hph hlo hP
      rw [hcs] at hgo
      have hp := e_passC hw h (by omega) (by omega)
      refine rn_e hp.1 ?_
      refine rn_b (hS.2.1 (j + 1) op (L ++ E) kd ph 0 pr (aop (t 35 j) :: ops) Fs _ 0 (by omega) hp.2 (by omega) hph (by omega) (lowHd.cons (by omega))) (fun r1 hr1 => ?_)
      obtain ⟨r', m2⟩ := r1
      rcases hr1 with ⟨b1, j2, E2, P2, cs2, ph', c1, c2, c3, c4, c5, c6, c7, c8, c9, c10⟩ | ⟨b1, b2⟩
      · dsimp only at b1 c2 c9 ⊢
        rw [c9] at c6
        refine rn_f (by omega) ?_
        have hj2 := c2.1
        have l2 : ((L ++ E ++ E2).length : Int) = L.length + E.length + E2.length := by rw [List.length_append]; omega
        refine rn_b (c_addC hw c2 (by omega) (by omega) (by omega)) (fun m6 h6 => ?_)
        have hfb := fold_bin hr hgo c6 c7 (by omega)
        rw [w32_eq (x := i + 1) (by omega) (by omega)]
        refine rn_v (ih' j2 (E ++ E2 ++ [(aop (t 35 j), 0)]) (P2 ++ [aop (t 35 j)]) cs2 m6 (by omega) (by omega) (by omega) (by omega) (by omega) ?_ ?_ (hg.bin c4 (by omega) (by omega) (by omega) (by omega) (by omega)) ((hb.app c5).app (FBx.op (by omega))) hfb.1 hfb.2 ((c8.mono (by omega)).app (allR.one (by omega))) c10)
        · have eL : L ++ (E ++ E2 ++ [(aop (t 35 j), 0)]) = L ++ E ++ E2 ++ [(aop (t 35 j), 0)] := by simp only [List.append_assoc]
          rw [eL]; exact h6
        · rw [List.length_append, List.length_append]
          show ((E.length + E2.length + 1 : Nat) : Int) ≤ _
          omega
      · dsimp only at b1 b2 ⊢
        exact rn_t b1 (rn_s (Or.inr ⟨rfl, BADc.of (hr.trans (Reach.step hgo Reach.rfl')) b2⟩))
    refine rn_i (fun q => ?_) (fun q43 => ?_)
    · have e6 : aop (t 35 j) = 4 := by rw [q]; rfl
      have hgo := go (Or.inl q)
      rw [e6] at hgo
      refine rn_t (by omega) ?_
      rw [if_pos q]
      exact rn_v hgo
    refine rn_t (by omega) (rn_i (fun q => ?_) (fun q45 => ?_))
    · have e6 : aop (t 35 j) = 5 := by rw [q]; rfl
      have hgo := go (Or.inr q)
      rw [e6] at hgo
      refine rn_t (by omega) ?_
      rw [if_neg q43]
      exact rn_v hgo
    refine rn_s (Or.inl ⟨rfl, j, E, P, cs1, ph, hj, h, hE, hg, hb, hr, hcs, hP, rfl, by unfold ar3 at h3; unfold ar5; omega⟩)
theorem j_sum {N : Nat} {t : Mem} {f : Nat} (hN : 2000 ≤ N) (hw : WT t) (hS : SJ N t f) : JA N t (f + 1) 0 5 4 38 (fun x => ¬ ar5 x) := by
  intro k op L kd ph bg pr ops Fs m x hf h hl hph hbg hlo
  have hz := hw.1
  rw [gR_0]
  unfold pR_readSum_b
  refine rn_b (hS.2.1 k op L kd ph bg pr ops Fs m 0 (by omega) h hl hph hbg (hlo.mono (by omega))) (fun r1 hr1 => ?_)
  obtain ⟨r', m2⟩ := r1
  rcases hr1 with ⟨b1, j2, E2, P2, cs2, ph', c1, c2, c3, c4, c5, c6, c7, c8, c9, c10⟩ | ⟨b1, b2⟩
  · dsimp only at b1 c2 c9 ⊢
    rw [c9] at c6
    refine rn_f (by omega) ?_
    unfold pR_readSum_L11
    have h1 := h.1
    exact j_smL hw hS (by omega) hl h1.1 hph hlo (t 18 6 - j2).toNat N 0 j2 E2 P2 cs2 m2 (by omega) (by omega) (Int.le_refl _) (by omega) c1 c2 c3 (c4.mono (by omega) id) c5 c6 c7 (c8.mono (by omega)) c10
  · dsimp only at b1 b2 ⊢
    exact rn_t b1 (rn_s (Or.inr ⟨rfl, b2⟩))
