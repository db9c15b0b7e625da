/-! VALLEY, the sums: tests -/
theorem go_tst {t : Mem} {j op r o : Int} {cs : List (Int × Int)} {kd ph pr : Int} {P ops : List Int} {Fs : List Fm} (hr : (t 35 j = 19 ∧ r = 2 ∧ o = 14) ∨ (t 35 j = 18 ∧ r = 1 ∧ o = 15)) (hkd : kd = 5 ∨ kd = 6) (hph : ph = 1 ∨ ph = 2) (hlo : lowHd r ops) (hP : allR r P) : mstep t (j, op + nots P, cs, (kd, ph, 0, pr, P ++ ops) :: Fs, 1) = .inl (j + 1, op, cs ++ cod P, (kd, 0, 1, pr, o :: ops) :: Fs, 0) := by
  rw [step_go]
  unfold mGo
  have hfl := flq_app hlo hP
  rcases hr with ⟨q, rfl, rfl⟩ | ⟨q, rfl, rfl⟩
  · rw [if_neg (by omega), if_neg (by omega), if_neg (by omega), if_neg (by omega), if_pos ⟨hkd, Or.inl q⟩, if_neg (by omega), if_pos q, if_pos q, hfl]
    show (Sum.inl (j + 1, op + nots P - nots P, _, _, _) : Mc ⊕ Rz4) = _
    rw [show op + nots P - nots P = op by omega]
  · rw [if_neg (by omega), if_neg (by omega), if_neg (by omega), if_neg (by omega), if_pos ⟨hkd, Or.inr q⟩, if_neg (by omega), if_neg (by omega), if_neg (by omega), hfl]
    show (Sum.inl (j + 1, op + nots P - nots P, _, _, _) : Mc ⊕ Rz4) = _
    rw [show op + nots P - nots P = op by omega]
theorem go_cmp {t : Mem} {j op : Int} {cs : List (Int × Int)} {kd pr : Int} {P ops : List Int} {Fs : List Fm} (hkd : kd = 5 ∨ kd = 6) (har : ¬ ar5 (t 35 j)) (hlo : lowHd 5 ops) (hP : allR 5 P) : mstep t (j, op + nots P, cs, (kd, 0, 0, pr, P ++ ops) :: Fs, 1) = if t 35 j = 60 ∨ t 35 j = 62 ∨ t 35 j = 61 then .inl (j + 1, op, cs ++ cod P, (kd, 1, 0, pr, cop (t 35 j) :: ops) :: Fs, 0) else .inr (1, plcT t j, cs, j) := by
  rw [step_go]
  unfold mGo
  have hfl := flq_app hlo hP
  unfold ar5 at har
  by_cases q27 : t 35 j = 27
  · rw [if_pos (by omega), if_neg (by omega)]
  · by_cases q : t 35 j = 60 ∨ t 35 j = 62 ∨ t 35 j = 61
    · rw [if_neg (by omega), if_neg (by omega), if_neg (by omega), if_pos ⟨hkd, rfl, q⟩, if_pos q, hfl]
      show (Sum.inl (j + 1, op + nots P - nots P, _, _, _) : Mc ⊕ Rz4) = _
      rw [show op + nots P - nots P = op by omega]
    · rw [if_neg (by omega), if_neg (by omega), if_neg (by omega), if_neg (fun c => q c.2.2), if_neg q]
      by_cases q19 : t 35 j = 19 ∨ t 35 j = 18
      · rw [if_pos ⟨hkd, q19⟩, if_pos rfl]
      · rw [if_neg (fun c => q19 c.2), if_pos ⟨hkd, rfl⟩]
theorem j_cmp {N : Nat} {t : Mem} {f : Nat} (hw : WT t) (hS : SJ N t f) : JT N t (f + 1) 9 4 4 5 39 (fun x => x ≠ 20 ∧ x ≠ 91 ∧ x ≠ 21) (fun _ => True) := by
  intro k op L kd pr ops Fs m x hf h hl hkd hpre hlo
  have hz := hw.1
  rw [gR_9]
  unfold pR_readComparison_b
  refine rn_b (hS.1 k op L kd 0 1 pr ops Fs m 0 (by omega) h hl (by omega) (by omega) (hlo.mono (by omega))) (fun r1 hr1 => ?_)
  obtain ⟨r', m2⟩ := r1
  rcases hr1 with ⟨b1, j, E, P, cs1, ph', c1, c2, c3, c4, c5, c6, c7, c8, c9, c10⟩ | ⟨b1, b2⟩
  · dsimp only at b1 c2 c9 ⊢
    rw [c9] at c6
    refine rn_f (by omega) ?_
    have ht := c2.tk hw j
    have hj := c2.1
    have l1 : ((L ++ E).length : Int) = L.length + E.length := by rw [List.length_append]; omega
    have hgo := go_cmp (op := op) (cs := cs1) (kd := kd) (pr := pr) (Fs := Fs) (j := j) (t := t) hkd c10 (hlo.mono (by omega)) c8
    rw [c7] at hgo
    unfold jn
    dsimp only
    rw [c2.2.1, ht.1]
    refine rn_t (by omega) ?_
    have go : (t 35 j = 60 ∨ t 35 j = 62 ∨ t 35 j = 61) → Rn ((pR_pass m2).bind fun m68 => (pgR N f 0 0 m68).bind fun (r72, m72) => if r72 = 0 then some ((0 : Int), m72) else (pU_add m72 (m72 18 10) (cop (t 35 j)) 0).bind fun m86 => some ((1 : Int), m86)) (PJ t (k, op, L, (kd, 0, 1, pr, ops) :: Fs, 0) L k op (39 - 5 * op) 1 4 kd (fun p x => (p = 1 ∨ p = 2) ∧ (p = 1 → ¬ ar5 x) ∧ True) pr ops Fs) := fun q => by
      rw [if_pos q] at hgo
      have hco : (11 ≤ cop (t 35 j) ∧ cop (t 35 j) ≤ 13) ∧ rk (cop (t 35 j)) = 4 := by
        rcases q with q | q | q <;> rw [q] <;> decide
      have hp := e_passC hw c2 (by omega) (by omega)
      refine rn_e hp.1 ?_
      refine rn_b (hS.1 (j + 1) op (L ++ E) kd 1 0 pr (cop (t 35 j) :: ops) Fs _ 0 (by omega) hp.2 (by omega) (by omega) (by omega) (lowHd.cons (by omega))) (fun r2 hr2 => ?_)
      obtain ⟨s', m4⟩ := r2
      rcases hr2 with ⟨f1, j2, E2, P2, cs2, ph2, g1, g2, g3, g4, g5, g6, g7, g8, g9, g10⟩ | ⟨f1, f2⟩
      · dsimp only at f1 g2 g9 ⊢
        rw [g9] at g6
        refine rn_f (by omega) ?_
        have hj2 := g2.1
        have l2 : ((L ++ E ++ E2).length : Int) = L.length + E.length + E2.length := by rw [List.length_append]; omega
        refine rn_b (c_addC hw g2 (by omega) (by omega) (by omega)) (fun m6 h6 => ?_)
        have hfb := fold_bin c6 hgo g6 g7 (by omega)
        have eL : L ++ (E ++ E2 ++ [(cop (t 35 j), 0)]) = L ++ E ++ E2 ++ [(cop (t 35 j), 0)] := by simp only [List.append_assoc]
        refine rn_s (Or.inl ⟨rfl, j2, E ++ E2 ++ [(cop (t 35 j), 0)], P2 ++ [cop (t 35 j)], cs2, 1, by omega, by rw [eL]; exact h6, ?_, c4.bin g4 (by omega) (by omega) (by omega) (by omega) (by omega), (c5.app g5).app (FBx.op (by omega)), hfb.1, hfb.2, (g8.mono (by omega)).app (allR.one (by omega)), Or.inl rfl, fun _ => g10, trivial⟩)
        rw [List.length_append, List.length_append]
        show ((E.length + E2.length + 1 : Nat) : Int) ≤ _
        omega
      · dsimp only at f1 f2 ⊢
        exact rn_t f1 (rn_s (Or.inr ⟨rfl, BADc.of (c6.trans (Reach.step hgo Reach.rfl')) f2⟩))
    refine rn_i (fun q => ?_) (fun q60 => ?_)
    · have := go (Or.inl q)
      rw [q] at this
      exact this
    refine rn_i (fun q => ?_) (fun q61 => ?_)
    · have := go (Or.inr (Or.inr q))
      rw [q] at this
      exact this
    refine rn_i (fun q => ?_) (fun q62 => ?_)
    · have := go (Or.inr (Or.inl q))
      rw [q] at this
      exact this
    rw [if_neg (by omega)] at hgo
    exact j_stray (C := (k, op, L, (kd, 0, 1, pr, ops) :: Fs, 0)) hw c2 ⟨cs1, c6.ends (Ends.now hgo)⟩ (fun r h1 h2 => Or.inr ⟨h1, h2⟩)
  · dsimp only at b1 b2 ⊢
    exact rn_t b1 (rn_s (Or.inr ⟨rfl, b2⟩))
theorem j_not {N : Nat} {t : Mem} {f : Nat} (hw : WT t) (hS : SJ N t f) : JT N t (f + 1) 8 3 4 1 39 (fun x => x = 20) (fun _ => True) := by
  intro k op L kd pr ops Fs m x hf h hl hkd hpre hlo
  have hz := hw.1
  have h0 := h.2.2.1
  have e0 : mstep t (k, op, L, (kd, 0, 1, pr, ops) :: Fs, 0) = if op = 7 then .inr (5, t 36 k, L, k) else .inl (k + 1, op + 1, L, (kd, 0, 1, pr, 2 :: ops) :: Fs, 0) := by
    rw [step_op]
    unfold mOpd
    rw [if_pos ⟨hpre, rfl, hkd⟩]
  rw [gR_8]
  unfold pR_readNot_b
  refine rn_b (c_opensC (x := 20) hw h (by omega)) (fun r0 hr0 => ?_)
  obtain ⟨r, m1⟩ := r0
  dsimp only at hr0 ⊢
  rcases hr0 with ⟨e1, -, e2, e3⟩ | ⟨-, e2, -⟩ | ⟨e1, -, e2, e3, e4, e5⟩
  · refine rn_f (by omega) ?_
    rw [if_neg (by omega)] at e0
    refine rn_b (hS.2.2.2.2.2.2.2.1 (k + 1) (op + 1) L kd pr (2 :: ops) Fs m1 0 (by omega) e3 (by omega) hkd trivial (lowHd.cons (by decide))) (fun r1 hr1 => ?_)
    obtain ⟨r', m2⟩ := r1
    rcases hr1 with ⟨b1, j, E, P, cs1, ph', c1, c2, c3, c4, c5, c6, c7, c8, c9, c10, -⟩ | ⟨b1, b2⟩
    · dsimp only at b1 c2 c9 ⊢
      refine rn_f (by omega) ?_
      have hj := c2.1
      have l1 : ((L ++ E).length : Int) = L.length + E.length := by rw [List.length_append]; omega
      rw [c2.2.2.2.1, w32_eq (x := op + 1 - 1) (by omega) (by omega), show op + 1 - 1 = op by omega]
      refine rn_v ?_
      have h2 := c2.opn hw (op' := op) (by omega)
      refine rn_b (c_addC (c := 2) (v := 0) hw h2 (by omega) (by omega) (by omega)) (fun m6 h6 => ?_)
      refine rn_s (Or.inl ⟨rfl, j, E ++ [(2, 0)], P ++ [2], cs1, ph', by omega, by rw [← List.append_assoc]; exact h6, ?_, c4.not (by omega), c5.app (FBx.op (by omega)), ?_, ?_, c8.app (allR.one (by decide)), c9, c10, trivial⟩)
      · rw [List.length_append]
        show ((E.length + 1 : Nat) : Int) ≤ _
        omega
      · have e6 : P ++ [2] ++ ops = P ++ 2 :: ops := by rw [List.append_assoc]; rfl
        have e7 : op + nots (P ++ [2]) = op + 1 + nots P := by
          rw [nots_app]
          show op + (nots P + ((if (2 : Int) = 2 then 1 else 0) + 0)) = _
          rw [if_pos rfl]; omega
        rw [e6, e7]
        exact Reach.step e0 c6
      · rw [cod_app, ← List.append_assoc, c7, ← List.append_assoc]
        rfl
    · dsimp only at b1 b2 ⊢
      exact rn_t b1 (rn_s (Or.inr ⟨rfl, BADc.of (Reach.step e0 Reach.rfl') b2⟩))
  · exact absurd hpre e2
  · rw [if_pos e2] at e0
    refine rn_t e1 (rn_s (Or.inr ⟨rfl, 5, L, k, e3, Or.inr rfl, ?_, e5⟩))
    dsimp only
    rw [e4]
    exact Ends.now e0
theorem j_fact {N : Nat} {t : Mem} {f : Nat} (hw : WT t) (hS : SJ N t f) : JT N t (f + 1) 7 3 4 6 39 (fun _ => True) (fun _ => True) := by
  intro k op L kd pr ops Fs m x hf h hl hkd _ hlo
  have ht := h.tk hw k
  have hz := hw.1
  obtain ⟨a1, a2, a3, -⟩ := id h
  rw [gR_7]
  unfold pR_readFact_b
  rw [a2, ht.1]
  refine rn_t (by omega) ?_
  refine rn_i (fun q => ?_) (fun q20 => ?_)
  · refine rn_b (hS.2.2.2.2.2.2.2.2.1 k op L kd pr ops Fs m 0 (by omega) h hl hkd q hlo) (fun r hr => ?_)
    exact rn_s hr
  refine rn_i (fun q => ?_) (fun q21 => ?_)
  · refine rn_b2 (P := fun r m1 => r = 1 ∧ CS t m1 (k + 1) op (L ++ [(0, 1)])) (c_tellC (c := 0) (v := 1) hw h hl (by omega) (by omega) (by omega) (by omega)) (fun r m1 hr => rn_s (Or.inl ⟨hr.1, k + 1, [(0, 1)], [], L ++ [(0, 1)], 2, by omega, hr.2, by show ((1 : Nat) : Int) ≤ _; omega, GV.num (by omega) (by omega) (fun _ => Or.inr rfl), fun c hc e => ?_, ?_, by rw [show cod [] = [] from rfl, List.append_nil], allR.nil, Or.inr rfl, fun c => absurd c (by decide), trivial⟩))
    · rw [List.mem_singleton] at hc
      rw [hc] at e
      exact absurd e (by decide)
    · refine Reach.step ?_ Reach.rfl'
      rw [step_op]
      unfold mOpd
      rw [if_neg (by omega), if_neg (by omega), if_pos ⟨q, rfl, hkd⟩]
      show (Sum.inl (k + 1, op, L ++ [(0, 1)], (kd, 2, 0, pr, ops) :: Fs, 1) : Mc ⊕ Rz4) = Sum.inl (k + 1, op + 0, L ++ [(0, 1)], (kd, 2, 0, pr, [] ++ ops) :: Fs, 1)
      rw [Int.add_zero, List.nil_append]
  refine rn_i (fun q => ?_) (fun q91 => ?_)
  · have e0 : mstep t (k, op, L, (kd, 0, 1, pr, ops) :: Fs, 0) = if op = 7 then .inr (5, t 36 k, L, k) else .inl (k + 1, op + 1, L, (5, 0, 1, 0, []) :: (kd, 0, 0, pr, ops) :: Fs, 0) := by
      rw [step_op]
      unfold mOpd
      rw [if_neg (by omega), if_pos ⟨q, rfl, hkd⟩]
    refine rn_b (c_opensC (x := 91) hw h (by omega)) (fun r0 hr0 => ?_)
    obtain ⟨r, m1⟩ := r0
    dsimp only at hr0 ⊢
    rcases hr0 with ⟨e1, -, e2, e3⟩ | ⟨-, e2, -⟩ | ⟨e1, -, e2, e3, e4, e5⟩
    · refine rn_f (by omega) ?_
      rw [if_neg (by omega)] at e0
      refine rn_b (hS.2.2.2.2.2.1 (k + 1) (op + 1) L 5 0 [] ((kd, 0, 0, pr, ops) :: Fs) m1 0 (by omega) e3 (by omega) (Or.inl rfl) trivial lowHd.nil) (fun r1 hr1 => ?_)
      obtain ⟨r', m2⟩ := r1
      rcases hr1 with ⟨b1, j, E, P, cs1, ph', c1, c2, c3, c4, c5, c6, c7, c8, c9, c10, c11⟩ | ⟨b1, b2⟩
      · dsimp only at b1 c2 c9 ⊢
        refine rn_f (by omega) ?_
        have hgo := go_close (op := op + 1) (cs := cs1) (pr := 0) (F := (kd, 0, 0, pr, ops)) (Gs := Fs) (kd := 5) (ph := ph') (j := j) (t := t) (Or.inr (Or.inr rfl)) (by omega) (fun z => c10 (by omega)) (fun _ => c11) c8
        rw [if_pos (show (5 : Int) = 5 from rfl)] at hgo
        refine rn_b (c_closesC (x := 93) hw c2 (by omega) (by omega)) (fun r2 hr2 => ?_)
        obtain ⟨r'', m3⟩ := r2
        dsimp only at hr2 ⊢
        rcases hr2 with ⟨d1, d2, d3⟩ | ⟨d1, d2, d3, d4, d5⟩
        · rw [if_pos d2, if_neg (show ¬ ((5 : Int) = 4) by omega), List.append_nil (cs1 ++ cod P)] at hgo
          refine rn_f (by omega) (rn_s (Or.inl ⟨rfl, j + 1, E, [], cs1 ++ cod P, 2, by omega, by rw [show op + 1 - 1 = op by omega] at d3; exact d3, by omega, c4.mono (by omega) id, c5, ?_, by rw [show cod [] = [] from rfl, List.append_nil]; exact c7, allR.nil, Or.inr rfl, fun c => absurd c (by decide), trivial⟩))
          refine Reach.step e0 (c6.trans (Reach.step hgo ?_))
          show Reach t (j + 1, op + 1 - 1, cs1 ++ cod P, (kd, 2, 0, pr, ops) :: Fs, 1) (j + 1, op + 0, cs1 ++ cod P, (kd, 2, 0, pr, ops) :: Fs, 1)
          rw [show op + 1 - 1 = op + 0 by omega]
          exact Reach.rfl'
        · rw [if_neg d2] at hgo
          refine rn_t d1 (rn_s (Or.inr ⟨rfl, 1, cs1, j, d3, Or.inl rfl, ?_, d5⟩))
          dsimp only
          rw [d4]
          exact (Reach.step e0 c6).ends (Ends.now hgo)
      · dsimp only at b1 b2 ⊢
        exact rn_t b1 (rn_s (Or.inr ⟨rfl, BADc.of (Reach.step e0 Reach.rfl') b2⟩))
    · exact absurd q e2
    · rw [if_pos e2] at e0
      refine rn_t e1 (rn_s (Or.inr ⟨rfl, 5, L, k, e3, Or.inr rfl, ?_, e5⟩))
      dsimp only
      rw [e4]
      exact Ends.now e0
  · refine rn_b (hS.2.2.2.2.2.2.2.2.2 k op L kd pr ops Fs m 0 (by omega) h hl hkd ⟨q20, q91, q21⟩ hlo) (fun r hr => ?_)
    refine rn_s ?_
    rcases hr with ⟨h1, j, E, P, cs1, ph', c1, c2, c3, c4, c5, c6, c7, c8, c9⟩ | hr
    · exact Or.inl ⟨h1, j, E, P, cs1, ph', c1, c2, c3, c4, c5, c6, c7, c8.mono (by omega), c9⟩
    · exact Or.inr hr
theorem j_boL {N : Nat} {t : Mem} {f : Nat} (hw : WT t) (hS : SJ N t f) {C : Mc} {k0 op : Int} {L : List (Int × Int)} {kd pr : Int} {ops : List Int} {Fs : List Fm} {bo : Int → Mem → Option (Int × Mem)} (hf : 6 + 10 * (7 - op) ≤ f) (hl : (L.length : Int) ≤ k0) (hk0 : 0 ≤ k0) (hkd : kd = 5 ∨ kd = 6) (hlo : lowHd 2 ops) :
    ∀ (c nn : Nat) (i j ph : Int) (E : List (Int × Int)) (P : List Int) (cs1 : List (Int × Int)) (m : Mem), t 18 6 - j ≤ c → c < nn → 0 ≤ i → 2 * i ≤ j → k0 < j → CS t m j op (L ++ E) → (E.length : Int) ≤ j - k0 → GV (40 - 5 * op) 1 E → FBx t E → Reach t C (j, op + nots P, cs1, (kd, ph, 0, pr, P ++ ops) :: Fs, 1) → cs1 ++ cod P = L ++ E → allR 2 P → (ph = 1 ∨ ph = 2) → (ph = 1 → ¬ ar5 (t 35 j)) → ((fun _ => True) (t 35 j)) → Rn (lpF bo (pR_readBoth_L11b N (pgR N f) (fun n61 => some (1, n61))) nn i m) (PJ t C L k0 op (40 - 5 * op) 1 2 kd (fun p x => (p = 1 ∨ p = 2) ∧ (p = 1 → ¬ ar5 x) ∧ (fun x => x ≠ 19) x) pr ops Fs) := by
  intro c
  have hz := hw.1
  induction c with
  | zero =>
    intro nn i j ph E P cs1 m hc hcn hi hij hj h
    have := h.1
    omega
  | succ c ih =>
    intro nn i j ph E P cs1 m hc hcn hi hij hj h hE hg hb hr hcs hP hph har hst
    obtain ⟨nn, rfl⟩ : ∃ n', nn = n' + 1 := ⟨nn - 1, by omega⟩
    have ih' := ih nn (i + 1)
    have ht := h.tk hw j
    obtain ⟨a1, a2, a3, -⟩ := id h
    have lLE : ((L ++ E).length : Int) = L.length + E.length := by rw [List.length_append]; omega
    show Rn (pR_readBoth_L11b N (pgR N f) _ (lpF bo (pR_readBoth_L11b N (pgR N f) _) nn) i m) _
    generalize lpF bo (pR_readBoth_L11b N (pgR N f) (fun n61 => some (1, n61))) nn = self at ih' ⊢
    unfold pR_readBoth_L11b
    rw [a2, ht.1]
    refine rn_t (by omega) (rn_t (by omega) (rn_i (fun q => ?_) (fun q => ?_)))
    · have hgo := go_tst (op := op) (cs := cs1) (kd := kd) (pr := pr) (Fs := Fs) (j := j) (ph := ph) (t := t) (r := 2) (o := 14) (Or.inl ⟨q, rfl, rfl⟩) hkd hph hlo hP
      rw [hcs] at hgo
      have hp := e_passC hw h (by omega) (by omega)
      refine rn_e hp.1 ?_
      refine rn_b (hS.2.2.2.2.2.2.2.1 (j + 1) op (L ++ E) kd pr (14 :: ops) Fs _ 0 (by omega) hp.2 (by omega) hkd trivial (lowHd.cons (by decide))) (fun r1 hr1 => ?_)
      obtain ⟨r', m2⟩ := r1
      rcases hr1 with ⟨b1, j2, E2, P2, cs2, ph', c1, c2, c3, c4, c5, c6, c7, c8, c9, c10, c11⟩ | ⟨b1, b2⟩
      · dsimp only at b1 c2 c9 ⊢
        refine rn_f (by omega) ?_
        have hj2 := c2.1
        have l2 : ((L ++ E ++ E2).length : Int) = L.length + E.length + E2.length := by rw [List.length_append]; omega
        refine rn_b (c_addC (c := 14) (v := 0) hw c2 (by omega) (by omega) (by omega)) (fun m6 h6 => ?_)
        have hfb := fold_bin hr hgo c6 c7 (by omega)
        rw [w32_eq (x := i + 1) (by omega) (by omega)]
        refine rn_v (ih' j2 ph' (E ++ E2 ++ [(14, 0)]) (P2 ++ [14]) cs2 m6 (by omega) (by omega) (by omega) (by omega) (by omega) ?_ ?_ (hg.bin c4 (by omega) (by omega) (by omega) (fun _ => ⟨rfl, rfl⟩) (by omega)) ((hb.app c5).app (FBx.op (by omega))) hfb.1 hfb.2 ((c8.mono (by omega)).app (allR.one (by decide))) c9 c10 c11)
        · have eL : L ++ (E ++ E2 ++ [(14, 0)]) = L ++ E ++ E2 ++ [(14, 0)] := by simp only [List.append_assoc]
          rw [eL]; exact h6
        · rw [List.length_append, List.length_append]
          show ((E.length + E2.length + 1 : Nat) : Int) ≤ _
          omega
      · dsimp only at b1 b2 ⊢
        exact rn_t b1 (rn_s (Or.inr ⟨rfl, BADc.of (hr.trans (Reach.step hgo Reach.rfl')) b2⟩))
    · exact rn_s (Or.inl ⟨rfl, j, E, P, cs1, ph, hj, h, hE, hg, hb, hr, hcs, hP, hph, har, q⟩)
theorem j_both {N : Nat} {t : Mem} {f : Nat} (hN : 2000 ≤ N) (hw : WT t) (hS : SJ N t f) : JT N t (f + 1) 6 2 2 7 40 (fun _ => True) (fun x => x ≠ 19) := by
  intro k op L kd pr ops Fs m x hf h hl hkd _ hlo
  have hz := hw.1
  rw [gR_6]
  unfold pR_readBoth_b
  refine rn_b (hS.2.2.2.2.2.2.2.1 k op L kd pr ops Fs m 0 (by omega) h hl hkd trivial (hlo.mono (by omega))) (fun r1 hr1 => ?_)
  obtain ⟨r', m2⟩ := r1
  rcases hr1 with ⟨b1, j2, E2, P2, cs2, ph', c1, c2, c3, c4, c5, c6, c7, c8, c9, c10, c11⟩ | ⟨b1, b2⟩
  · dsimp only at b1 c2 c9 ⊢
    refine rn_f (by omega) ?_
    unfold pR_readBoth_L11
    have h1 := h.1
    exact j_boL hw hS (by omega) hl h1.1 hkd hlo (t 18 6 - j2).toNat N 0 j2 ph' E2 P2 cs2 m2 (by omega) (by omega) (Int.le_refl _) (by omega) c1 c2 c3 (c4.mono (by omega) id) c5 c6 c7 (c8.mono (by omega)) c9 c10 c11
  · dsimp only at b1 b2 ⊢
    exact rn_t b1 (rn_s (Or.inr ⟨rfl, b2⟩))
theorem j_teL {N : Nat} {t : Mem} {f : Nat} (hw : WT t) (hS : SJ N t f) {C : Mc} {k0 op : Int} {L : List (Int × Int)} {kd pr : Int} {ops : List Int} {Fs : List Fm} {bo : Int → Mem → Option (Int × Mem)} (hf : 7 + 10 * (7 - op) ≤ f) (hl : (L.length : Int) ≤ k0) (hk0 : 0 ≤ k0) (hkd : kd = 5 ∨ kd = 6) (hlo : lowHd 1 ops) :
    ∀ (c nn : Nat) (i j ph : Int) (E : List (Int × Int)) (P : List Int) (cs1 : List (Int × Int)) (m : Mem), t 18 6 - j ≤ c → c < nn → 0 ≤ i → 2 * i ≤ j → k0 < j → CS t m j op (L ++ E) → (E.length : Int) ≤ j - k0 → GV (41 - 5 * op) 1 E → FBx t E → Reach t C (j, op + nots P, cs1, (kd, ph, 0, pr, P ++ ops) :: Fs, 1) → cs1 ++ cod P = L ++ E → allR 1 P → (ph = 1 ∨ ph = 2) → (ph = 1 → ¬ ar5 (t 35 j)) → ((fun x => x ≠ 19) (t 35 j)) → Rn (lpF bo (pR_readTest_L11b N (pgR N f) (fun n61 => some (1, n61))) nn i m) (PJ t C L k0 op (41 - 5 * op) 1 1 kd (fun p x => (p = 1 ∨ p = 2) ∧ (p = 1 → ¬ ar5 x) ∧ (fun x => x ≠ 19 ∧ x ≠ 18) x) pr ops Fs) := by
  intro c
  have hz := hw.1
  induction c with
  | zero =>
    intro nn i j ph E P cs1 m hc hcn hi hij hj h
    have := h.1
    omega
  | succ c ih =>
    intro nn i j ph E P cs1 m hc hcn hi hij hj h hE hg hb hr hcs hP hph har hst
    obtain ⟨nn, rfl⟩ : ∃ n', nn = n' + 1 := ⟨nn - 1, by omega⟩
    have ih' := ih nn (i + 1)
    have ht := h.tk hw j
    obtain ⟨a1, a2, a3, -⟩ := id h
    have lLE : ((L ++ E).length : Int) = L.length + E.length := by rw [List.length_append]; omega
    show Rn (pR_readTest_L11b N (pgR N f) _ (lpF bo (pR_readTest_L11b N (pgR N f) _) nn) i m) _
    generalize lpF bo (pR_readTest_L11b N (pgR N f) (fun n61 => some (1, n61))) nn = self at ih' ⊢
    unfold pR_readTest_L11b
    rw [a2, ht.1]
    refine rn_t (by omega) (rn_t (by omega) (rn_i (fun q => ?_) (fun q => ?_)))
    · have hgo := go_tst (op := op) (cs := cs1) (kd := kd) (pr := pr) (Fs := Fs) (j := j) (ph := ph) (t := t) (r := 1) (o := 15) (Or.inr ⟨q, rfl, rfl⟩) hkd hph hlo hP
      rw [hcs] at hgo
      have hp := e_passC hw h (by omega) (by omega)
      refine rn_e hp.1 ?_
      refine rn_b (hS.2.2.2.2.2.2.1 (j + 1) op (L ++ E) kd pr (15 :: ops) Fs _ 0 (by omega) hp.2 (by omega) hkd trivial (lowHd.cons (by decide))) (fun r1 hr1 => ?_)
      obtain ⟨r', m2⟩ := r1
      rcases hr1 with ⟨b1, j2, E2, P2, cs2, ph', c1, c2, c3, c4, c5, c6, c7, c8, c9, c10, c11⟩ | ⟨b1, b2⟩
      · dsimp only at b1 c2 c9 ⊢
        refine rn_f (by omega) ?_
        have hj2 := c2.1
        have l2 : ((L ++ E ++ E2).length : Int) = L.length + E.length + E2.length := by rw [List.length_append]; omega
        refine rn_b (c_addC (c := 15) (v := 0) hw c2 (by omega) (by omega) (by omega)) (fun m6 h6 => ?_)
        have hfb := fold_bin hr hgo c6 c7 (by omega)
        rw [w32_eq (x := i + 1) (by omega) (by omega)]
        refine rn_v (ih' j2 ph' (E ++ E2 ++ [(15, 0)]) (P2 ++ [15]) cs2 m6 (by omega) (by omega) (by omega) (by omega) (by omega) ?_ ?_ (hg.bin c4 (by omega) (by omega) (by omega) (fun _ => ⟨rfl, rfl⟩) (by omega)) ((hb.app c5).app (FBx.op (by omega))) hfb.1 hfb.2 ((c8.mono (by omega)).app (allR.one (by decide))) c9 c10 c11)
        · have eL : L ++ (E ++ E2 ++ [(15, 0)]) = L ++ E ++ E2 ++ [(15, 0)] := by simp only [List.append_assoc]
          rw [eL]; exact h6
        · rw [List.length_append, List.length_append]
          show ((E.length + E2.length + 1 : Nat) : Int) ≤ _
          omega
      · dsimp only at b1 b2 ⊢
        exact rn_t b1 (rn_s (Or.inr ⟨rfl, BADc.of (hr.trans (Reach.step hgo Reach.rfl')) b2⟩))
    · exact rn_s (Or.inl ⟨rfl, j, E, P, cs1, ph, hj, h, hE, hg, hb, hr, hcs, hP, hph, har, ⟨hst, q⟩⟩)
theorem j_test {N : Nat} {t : Mem} {f : Nat} (hN : 2000 ≤ N) (hw : WT t) (hS : SJ N t f) : JT N t (f + 1) 5 1 1 8 41 (fun _ => True) (fun x => x ≠ 19 ∧ x ≠ 18) := by
  intro k op L kd pr ops Fs m x hf h hl hkd _ hlo
  have hz := hw.1
  rw [gR_5]
  unfold pR_readTest_b
  refine rn_b (hS.2.2.2.2.2.2.1 k op L kd pr ops Fs m 0 (by omega) h hl hkd trivial (hlo.mono (by omega))) (fun r1 hr1 => ?_)
  obtain ⟨r', m2⟩ := r1
  rcases hr1 with ⟨b1, j2, E2, P2, cs2, ph', c1, c2, c3, c4, c5, c6, c7, c8, c9, c10, c11⟩ | ⟨b1, b2⟩
  · dsimp only at b1 c2 c9 ⊢
    refine rn_f (by omega) ?_
    unfold pR_readTest_L11
    have h1 := h.1
    exact j_teL hw hS (by omega) hl h1.1 hkd hlo (t 18 6 - j2).toNat N 0 j2 ph' E2 P2 cs2 m2 (by omega) (by omega) (Int.le_refl _) (by omega) c1 c2 c3 (c4.mono (by omega) id) c5 c6 c7 (c8.mono (by omega)) c9 c10 c11
  · dsimp only at b1 b2 ⊢
    exact rn_t b1 (rn_s (Or.inr ⟨rfl, b2⟩))
theorem sj_all {N : Nat} {t : Mem} (hN : 2000 ≤ N) (hw : WT t) : ∀ f, SJ N t f
  | 0 => by
    refine ⟨?_, ?_, ?_, ?_, ?_, ?_, ?_, ?_, ?_, ?_⟩
    · intro k op L kd ph bg pr ops Fs m x hf h; have := h.2.2.1; omega
    · intro k op L kd ph bg pr ops Fs m x hf h; have := h.2.2.1; omega
    · intro k op L kd ph bg pr ops Fs m x hf h; have := h.2.2.1; omega
    · intro k op L kd ph bg pr ops Fs m x hf h; have := h.2.2.1; omega
    · intro k op L kd ph bg pr ops Fs m x hf h; have := h.2.2.1; omega
    · intro k op L kd pr ops Fs m x hf h; have := h.2.2.1; omega
    · intro k op L kd pr ops Fs m x hf h; have := h.2.2.1; omega
    · intro k op L kd pr ops Fs m x hf h; have := h.2.2.1; omega
    · intro k op L kd pr ops Fs m x hf h; have := h.2.2.1; omega
    · intro k op L kd pr ops Fs m x hf h; have := h.2.2.1; omega
  | f + 1 => by
    have hS := sj_all hN hw f
    exact ⟨j_sum hN hw hS, j_prod hN hw hS, j_part hw hS, j_pair hw hS, j_choice hw hS, j_test hN hw hS, j_both hN hw hS, j_fact hw hS, j_not hw hS, j_cmp hw hS⟩
/-- a law's sum, from the first token behind its word on -/
theorem sum_top {N : Nat} {t m : Mem} {k : Int} (hN : 2000 ≤ N) (hw : WT t) (h : CS t m k 0 []) : Rn (pR_readSum N m) (fun r => (r.1 = 1 ∧ ∃ (j : Int) (E : List (Int × Int)), k < j ∧ CS t r.2 j 0 E ∧ (E.length : Int) ≤ j - k ∧ GV 38 0 E ∧ FBx t E ∧ Ends t (k, 0, [], [(0, 0, 1, 0, [])], 0) (0, 0, E, j)) ∨ (r.1 = 0 ∧ BADc t (k, 0, [], [(0, 0, 1, 0, [])], 0) r.2)) := by
  have hz := hw.1
  have h0 := h.1
  refine rn_q ((sj_all (N := N) hN hw 200).1 k 0 [] 0 0 1 0 [] [] m 0 (by omega) h (by show ((0 : Nat) : Int) ≤ _; omega) (by omega) (by omega) lowHd.nil) (fun r hr => ?_)
  rcases hr with ⟨h1, j, E, P, cs1, ph', c1, c2, c3, c4, c5, c6, c7, c8, c9, c10⟩ | hr
  · refine Or.inl ⟨h1, j, E, c1, c2, c3, c4, c5, c6.ends (Ends.now ?_)⟩
    rw [step_go]
    unfold mGo
    have hfl : flq 1 (P ++ []) = (P, []) := flq_app lowHd.nil (c8.mono (by omega))
    unfold ar5 at c10
    rw [if_neg (by omega), if_neg (by omega), if_neg (by omega), if_neg (by omega), if_neg (by omega), if_neg (by omega), if_pos (by omega), hfl]
    show (Sum.inr (0, 0, cs1 ++ cod P, j) : Mc ⊕ Rz4) = _
    rw [c7]
    rfl
  · exact Or.inr hr
