/-! VALLEY, the sums: the machine's steps, named; parts, pairs, choices -/
theorem BADc.of {t : Mem} {C D : Mc} {m' : Mem} (hr : Reach t C D) (h : BADc t D m') : BADc t C m' := by
  obtain ⟨kind, cs', k', h1, h2, h3, h4⟩ := h
  exact ⟨kind, cs', k', h1, h2, hr.ends h3, h4⟩
theorem PJ.imp {t : Mem} {C : Mc} {L : List (Int × Int)} {k op D D' b rmin kd : Int} {stp stp' : Int → Int → Prop} {pr : Int} {ops : List Int} {Fs : List Fm} {r : Int × Mem} (h : PJ t C L k op D b rmin kd stp pr ops Fs r) (hD : D ≤ D') (hs : ∀ p x, stp p x → stp' p x) : PJ t C L k op D' b rmin kd stp' pr ops Fs r := by
  rcases h with ⟨h1, j, E, P, cs1, ph', a1, a2, a3, a4, a5, a6, a7, a8, a9⟩ | h
  · exact Or.inl ⟨h1, j, E, P, cs1, ph', a1, a2, a3, a4.mono hD id, a5, a6, a7, a8, hs _ _ a9⟩
  · exact Or.inr h
theorem go_close {t : Mem} {j op : Int} {cs : List (Int × Int)} {kd ph pr : Int} {P : List Int} {F : Fm} {Gs : List Fm} (hk : kd = 2 ∨ kd = 4 ∨ kd = 5) (hph : kd = 5 → 1 ≤ ph) (har : ph < 2 → ¬ ar5 (t 35 j)) (hand : kd = 5 → t 35 j ≠ 19 ∧ t 35 j ≠ 18) (hP : allR 1 P) : mstep t (j, op + nots P, cs, (kd, ph, 0, pr, P ++ []) :: F :: Gs, 1) = if t 35 j = (if kd = 5 then 93 else 41) then .inl (j + 1, op - 1, cs ++ cod P ++ (if kd = 4 then [(pr, 0)] else []), (F.1, if kd = 5 then 2 else F.2.1, F.2.2.1, F.2.2.2.1, F.2.2.2.2) :: Gs, 1) else .inr (1, plcT t j, cs, j) := by
  rw [step_go]
  unfold mGo
  have hfl : flq 1 (P ++ []) = (P, []) := flq_app lowHd.nil hP
  unfold ar5 at har
  rw [hfl]
  by_cases q27 : t 35 j = 27
  · rw [if_pos (by omega), if_neg (by rcases hk with rfl | rfl | rfl <;> simp <;> omega)]
  · rw [if_neg (by omega), if_neg (by omega), if_neg (by omega), if_neg (by omega), if_neg (by omega), if_neg (by omega), if_neg (by omega), if_neg (by omega)]
    by_cases q : t 35 j = (if kd = 5 then 93 else 41)
    · rw [if_pos q, if_pos q]
      show (Sum.inl (j + 1, op + nots P - nots P - 1, _, _, _) : Mc ⊕ Rz4) = _
      rw [show op + nots P - nots P - 1 = op - 1 by omega]
    · rw [if_neg q, if_neg q]
theorem go_comma {t : Mem} {j op : Int} {cs : List (Int × Int)} {kd ph pr : Int} {P : List Int} {Fs : List Fm} (hk : kd = 3 ∨ kd = 6) (hph : kd = 6 → 1 ≤ ph) (har : ph < 2 → ¬ ar5 (t 35 j)) (hand : kd = 6 → t 35 j ≠ 19 ∧ t 35 j ≠ 18) (hP : allR 1 P) : mstep t (j, op + nots P, cs, (kd, ph, 0, pr, P ++ []) :: Fs, 1) = if t 35 j = 44 then .inl (j + 1, op, cs ++ cod P, (if kd = 3 then 4 else 3, 0, 0, pr, []) :: Fs, 0) else .inr (1, plcT t j, cs, j) := by
  rw [step_go]
  unfold mGo
  have hfl : flq 1 (P ++ []) = (P, []) := flq_app lowHd.nil hP
  unfold ar5 at har
  rw [hfl]
  by_cases q27 : t 35 j = 27
  · rw [if_pos (by omega), if_neg (by omega)]
  · rw [if_neg (by omega), if_neg (by omega), if_neg (by omega), if_neg (by omega), if_neg (by omega), if_neg (by omega), if_neg (by omega), if_pos hk]
    by_cases q : t 35 j = 44
    · rw [if_pos q, if_pos q]
      show (Sum.inl (j + 1, op + nots P - nots P, _, _, _) : Mc ⊕ Rz4) = _
      rw [show op + nots P - nots P = op by omega]
    · rw [if_neg q, if_neg q]
theorem j_part {N : Nat} {t : Mem} {f : Nat} (hw : WT t) (hS : SJ N t f) : JA N t (f + 1) 2 7 2 36 (fun _ => True) := by
  intro k op L kd ph bg pr ops Fs m x hf h hl hph hbg hlo
  have ht := h.tk hw k
  have hz := hw.1
  have hsu := hw.2.2.2.2
  obtain ⟨a1, a2, a3, -⟩ := id h
  have hb0 : bnd (t 18 9 - 8) = 4 ∨ bnd (t 18 9 - 8) = 5 ∨ bnd (t 18 9 - 8) = 7 := by unfold bnd; (repeat' split) <;> omega
  have hb9 : t 18 9 ≠ 8 → 5 ≤ bnd (t 18 9 - 8) := fun q => by unfold bnd; rw [if_neg (by omega)]; split <;> omega
  have hb10 : t 18 9 = 10 → bnd (t 18 9 - 8) = 7 := fun q => by unfold bnd; rw [if_neg (by omega), if_neg (by omega)]
  have stray : opd t k = none → (t 35 k ≠ 40 ∧ t 35 k ≠ 22 ∧ t 35 k ≠ 23 ∧ t 35 k ≠ 17) → Rn ((pR_astray m).bind fun (r, m1) => some (r, m1)) (PJ t (k, op, L, (kd, ph, bg, pr, ops) :: Fs, 0) L k op (36 - 5 * op) 0 7 kd (fun p x => p = ph ∧ True) pr ops Fs) := fun ho hn => by
    refine j_stray (C := (k, op, L, (kd, ph, bg, pr, ops) :: Fs, 0)) hw h ⟨L, Ends.now ?_⟩ (fun r h1 h2 => Or.inr ⟨h1, h2⟩)
    rw [step_op]
    unfold mOpd
    rw [if_neg (by omega), if_neg (by omega), if_neg (by omega), if_neg (by omega), if_neg (by omega), ho]
  rw [gR_2]
  unfold pR_readPart_b
  rw [a2, ht.1, ht.2.2.2.2.1, ht.2.2.1]
  refine rn_t (by omega) ?_
  refine rn_i (fun q => ?_) (fun q2 => ?_)
  · exact j_tell hw h hl (by unfold opd; rw [if_neg (by omega), if_neg (by omega), if_neg (by omega), if_pos q]) (by omega) (by omega) (by omega)
  refine rn_i (fun q => ?_) (fun q6 => ?_)
  · refine rn_i (fun ql => ?_) (fun ql => ?_)
    · have hb := hb10 ql
      exact j_tell hw h hl (by unfold opd; rw [if_neg (by omega), if_neg (by omega), if_neg (by omega), if_neg (by omega), if_neg (by omega), if_neg (by omega), if_neg (by omega), if_pos (by omega)]) (by omega) (by omega) (by omega)
    · exact stray (by unfold opd; rw [if_neg (by omega), if_neg (by omega), if_neg (by omega), if_neg (by omega), if_neg (by omega), if_neg (by omega), if_neg (by omega), if_neg (by omega)]) (by omega)
  refine rn_i (fun q => ?_) (fun q12 => ?_)
  · exact j_tell hw h hl (by unfold opd; rw [if_neg (by omega), if_pos q]) (by omega) (by omega) (by omega)
  refine rn_i (fun q => ?_) (fun q13 => ?_)
  · exact j_tell hw h hl (by unfold opd; rw [if_neg (by omega), if_neg (by omega), if_pos q]) (by omega) (by omega) (by omega)
  refine rn_i (fun q => ?_) (fun q14 => ?_)
  · exact j_tell hw h hl (by unfold opd; rw [if_neg (by omega), if_neg (by omega), if_neg (by omega), if_neg (by omega), if_pos q]) (by omega) (by omega) (by omega)
  refine rn_i (fun q => ?_) (fun q15 => ?_)
  · refine rn_i (fun ql => ?_) (fun ql => ?_)
    · exact stray (by unfold opd; rw [if_neg (by omega), if_neg (by omega), if_neg (by omega), if_neg (by omega), if_neg (by omega), if_neg (by omega), if_neg (by omega), if_neg (by omega)]) (by omega)
    · have hb := hb9 ql
      exact j_tell hw h hl (by unfold opd; rw [if_neg (by omega), if_neg (by omega), if_neg (by omega), if_neg (by omega), if_neg (by omega), if_pos ⟨q, ql⟩]) (by omega) (by omega) (by omega)
  refine rn_i (fun q => ?_) (fun q16 => ?_)
  · refine rn_i (fun ql => ?_) (fun ql => ?_)
    · have hb := hb10 ql
      exact j_tell hw h hl (by unfold opd; rw [if_neg (by omega), if_neg (by omega), if_neg (by omega), if_neg (by omega), if_neg (by omega), if_neg (by omega), if_pos ⟨q, ql⟩]) (by omega) (by omega) (by omega)
    · exact stray (by unfold opd; rw [if_neg (by omega), if_neg (by omega), if_neg (by omega), if_neg (by omega), if_neg (by omega), if_neg (by omega), if_neg (by omega), if_neg (by omega)]) (by omega)
  refine rn_i (fun q => ?_) (fun q17 => ?_)
  · refine rn_b2 (P := fun r m1 => PJ t (k, op, L, (kd, ph, bg, pr, ops) :: Fs, 0) L k op (36 - 5 * op) 0 7 kd (fun p _ => p = ph) pr ops Fs (r, m1)) (hS.2.2.2.2.1 k op L kd ph bg pr ops Fs m 0 (by omega) h hl (Or.inr ⟨rfl, q⟩)) (fun r m1 hr => rn_s (hr.imp (Int.le_refl _) (fun p x hp => ⟨hp, trivial⟩)))
  refine rn_i (fun q => ?_) (fun q22 => ?_)
  · refine rn_b2 (P := fun r m1 => PJ t (k, op, L, (kd, ph, bg, pr, ops) :: Fs, 0) L k op (36 - 5 * op) 0 7 kd (fun p _ => p = ph) pr ops Fs (r, m1)) (hS.2.2.2.1 k op L kd ph bg pr ops Fs m 9 (by omega) h hl (Or.inl ⟨rfl, Or.inl ⟨q, rfl⟩⟩)) (fun r m1 hr => rn_s (hr.imp (Int.le_refl _) (fun p x hp => ⟨hp, trivial⟩)))
  refine rn_i (fun q => ?_) (fun q23 => ?_)
  · refine rn_b2 (P := fun r m1 => PJ t (k, op, L, (kd, ph, bg, pr, ops) :: Fs, 0) L k op (36 - 5 * op) 0 7 kd (fun p _ => p = ph) pr ops Fs (r, m1)) (hS.2.2.2.1 k op L kd ph bg pr ops Fs m 10 (by omega) h hl (Or.inl ⟨rfl, Or.inr ⟨q, rfl⟩⟩)) (fun r m1 hr => rn_s (hr.imp (Int.le_refl _) (fun p x hp => ⟨hp, trivial⟩)))
  refine rn_i (fun q => ?_) (fun q25 => ?_)
  · have hv := hw.2.2.1 k a1.1 a1.2 q
    refine rn_t (by omega) ?_
    exact j_tell hw h hl (by unfold opd; rw [if_pos q]) (by omega) (by omega) (Or.inl ⟨rfl, hv⟩)
  refine rn_i (fun q => ?_) (fun q40 => ?_)
  · -- a bracket
    have e0 : mstep t (k, op, L, (kd, ph, bg, pr, ops) :: Fs, 0) = if op = 7 then .inr (5, t 36 k, L, k) else .inl (k + 1, op + 1, L, (2, 0, 1, 0, []) :: (kd, ph, 0, pr, ops) :: Fs, 0) := by
      rw [step_op]
      unfold mOpd
      rw [if_neg (by omega), if_neg (by omega), if_neg (by omega), if_pos q]
    refine rn_b (c_opensC (x := 40) hw h (by omega)) (fun r0 hr0 => ?_)
    obtain ⟨r, m1⟩ := r0
    dsimp only at hr0 ⊢
    rcases hr0 with ⟨e1, -, e2, e3⟩ | ⟨-, e2, -⟩ | ⟨e1, -, e2, e3, e4, e5⟩
    · refine rn_f (by omega) ?_
      rw [if_neg (by omega)] at e0
      refine rn_b (hS.1 (k + 1) (op + 1) L 2 0 1 0 [] ((kd, ph, 0, pr, ops) :: Fs) m1 0 (by omega) e3 (by omega) (by omega) (by omega) lowHd.nil) (fun r1 hr1 => ?_)
      obtain ⟨r', m2⟩ := r1
      rcases hr1 with ⟨b1, j, E, P, cs1, ph', c1, c2, c3, c4, c5, c6, c7, c8, c9, c10⟩ | ⟨b1, b2⟩
      · dsimp only at b1 c2 ⊢
        refine rn_f (by omega) ?_
        have hgo := go_close (op := op + 1) (cs := cs1) (pr := 0) (F := (kd, ph, 0, pr, ops)) (Gs := Fs) (kd := 2) (ph := ph') (j := j) (t := t) (Or.inl rfl) (by omega) (fun _ => c10) (by omega) (c8.mono (by omega))
        rw [if_neg (show ¬ ((2 : Int) = 5) by omega)] at hgo
        refine rn_b (c_closesC (x := 41) hw c2 (by omega) (by omega)) (fun r2 hr2 => ?_)
        obtain ⟨r'', m3⟩ := r2
        dsimp only at hr2 ⊢
        rcases hr2 with ⟨d1, d2, d3⟩ | ⟨d1, d2, d3, d4, d5⟩
        · rw [if_pos d2, if_neg (show ¬ ((2 : Int) = 4) by omega), List.append_nil (cs1 ++ cod P)] at hgo
          refine rn_f (by omega) (rn_s (Or.inl ⟨rfl, j + 1, E, [], cs1 ++ cod P, ph, by omega, by rw [show op + 1 - 1 = op by omega] at d3; exact d3, by omega, c4.mono (by omega) id, c5, ?_, by rw [show cod [] = [] from rfl, List.append_nil]; exact c7, allR.nil, rfl, trivial⟩))
          refine Reach.step e0 (c6.trans (Reach.step hgo ?_))
          show Reach t (j + 1, op + 1 - 1, cs1 ++ cod P, (kd, ph, 0, pr, ops) :: Fs, 1) (j + 1, op + 0, cs1 ++ cod P, (kd, ph, 0, pr, ops) :: Fs, 1)
          rw [show op + 1 - 1 = op + 0 by omega]
          exact Reach.rfl'
        · rw [if_neg d2] at hgo
          refine rn_t d1 (rn_s (Or.inr ⟨rfl, 1, cs1, j, d3, Or.inl rfl, ?_, d5⟩))
          dsimp only
          rw [d4]
          exact (Reach.step e0 c6).ends (Ends.now hgo)
      · dsimp only at b1 b2 ⊢
        exact rn_t b1 (rn_s (Or.inr ⟨rfl, BADc.of (Reach.step e0 Reach.rfl') b2⟩))
    · exact absurd q e2
    · rw [if_pos e2] at e0
      refine rn_t e1 (rn_s (Or.inr ⟨rfl, 5, L, k, e3, Or.inr rfl, ?_, e5⟩))
      dsimp only
      rw [e4]
      exact Ends.now e0
  · exact stray (by unfold opd; rw [if_neg (by omega), if_neg (by omega), if_neg (by omega), if_neg (by omega), if_neg (by omega), if_neg (by omega), if_neg (by omega), if_neg (by omega)]) (by omega)
