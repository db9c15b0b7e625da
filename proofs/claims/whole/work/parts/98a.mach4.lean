/-! VALLEY, the sums: pairs and choices -/
theorem two_tok {t : Mem} {k op : Int} {L : List (Int × Int)} {kd ph bg pr : Int} {ops : List Int} {Fs : List Fm} {nk x : Int} (hx : (t 35 k = 22 ∧ nk = 3 ∧ x = 9) ∨ (t 35 k = 23 ∧ nk = 3 ∧ x = 10) ∨ (t 35 k = 17 ∧ nk = 6 ∧ x = 3)) : mstep t (k, op, L, (kd, ph, bg, pr, ops) :: Fs, 0) = if t 35 (k + 1) ≠ 40 then .inr (1, plcT t (k + 1), L, k + 1) else if op = 7 then .inr (5, t 36 (k + 1), L, k + 1) else .inl (k + 2, op + 1, L, (nk, 0, 1, x, []) :: (kd, ph, 0, pr, ops) :: Fs, 0) := by
  rw [step_op]
  unfold mOpd
  rw [if_neg (by omega), if_neg (by omega), if_neg (by omega), if_neg (by omega), if_pos (by omega)]
  rcases hx with ⟨h, rfl, rfl⟩ | ⟨h, rfl, rfl⟩ | ⟨h, rfl, rfl⟩ <;> rw [h] <;> rfl
theorem j_head {t m : Mem} {k op : Int} {L : List (Int × Int)} {kd ph bg pr : Int} {ops : List Int} {Fs : List Fm} {nk x : Int} (hw : WT t) (h : CS t m k op L) (hx : (t 35 k = 22 ∧ nk = 3 ∧ x = 9) ∨ (t 35 k = 23 ∧ nk = 3 ∧ x = 10) ∨ (t 35 k = 17 ∧ nk = 6 ∧ x = 3)) :
    Rn ((pR_pass m).bind fun m1 => pR_opens m1 40) (fun r => (r.1 = 1 ∧ CS t r.2 (k + 2) (op + 1) L ∧ op < 7 ∧ mstep t (k, op, L, (kd, ph, bg, pr, ops) :: Fs, 0) = .inl (k + 2, op + 1, L, (nk, 0, 1, x, []) :: (kd, ph, 0, pr, ops) :: Fs, 0)) ∨ (r.1 = 0 ∧ BADc t (k, op, L, (kd, ph, bg, pr, ops) :: Fs, 0) r.2)) := by
  have hp := e_passC hw h (by omega) (by omega)
  have e0 := two_tok (op := op) (L := L) (kd := kd) (ph := ph) (bg := bg) (pr := pr) (ops := ops) (Fs := Fs) hx
  refine rn_e hp.1 (rn_q (c_opensC (x := 40) hw hp.2 (by omega)) (fun r hr0 => ?_))
  rcases hr0 with ⟨e1, e4, e2, e3⟩ | ⟨e1, e2, e3, e4, e5⟩ | ⟨e1, e2, e3, e4, e5, e6⟩
  · refine Or.inl ⟨e1, ?_, e2, ?_⟩
    · rw [show k + 1 + 1 = k + 2 by omega] at e3; exact e3
    · rw [e0, if_neg (fun c => c e4), if_neg (by omega)]
  · rw [if_pos e2] at e0
    refine Or.inr ⟨e1, 1, L, k + 1, e3, Or.inl rfl, ?_, e5⟩
    rw [e4]
    exact Ends.now e0
  · rw [if_neg (fun c => c e2), if_pos e3] at e0
    refine Or.inr ⟨e1, 5, L, k + 1, e4, Or.inr rfl, ?_, e6⟩
    rw [e5]
    exact Ends.now e0
/-- sum ',' sum ')' code: what a pair and a choice end with; before it the codes E0 stand behind L -/
theorem j_tail {N : Nat} {t : Mem} {f : Nat} (hw : WT t) (hS : SJ N t f) {C : Mc} {m : Mem} {k k0 op : Int} {L E0 : List (Int × Int)} {kd ph pr : Int} {ops : List Int} {Fs : List Fm} {x D : Int} {bg : Int} (hf : 4 + 10 * (7 - (op + 1)) ≤ f) (hop : 0 ≤ op ∧ op < 7) (h : CS t m k (op + 1) (L ++ E0)) (hk : k0 + 2 ≤ k) (hl : ((L ++ E0).length : Int) ≤ k) (hE : (E0.length : Int) ≤ k - k0 - 2) (hx : 0 ≤ x ∧ x ≤ 15) (hC : Reach t C (k, op + 1, L ++ E0, (3, 0, bg, x, []) :: (kd, ph, 0, pr, ops) :: Fs, 0)) (hg : ∀ E1 E2, GV (33 - 5 * op) 0 E1 → GV (33 - 5 * op) 0 E2 → GV D 0 (E0 ++ E1 ++ E2 ++ [(x, 0)])) (hb : FBx t E0) (hx1 : x ≠ 1) :
    Rn ((pgR N f 0 0 m).bind fun (r14, m14) => if r14 = 0 then some ((0 : Int), m14) else (pR_take m14 44).bind fun (r23, m23) => if r23 = 0 then some ((0 : Int), m23) else (pgR N f 0 0 m23).bind fun (r30, m30) => if r30 = 0 then some ((0 : Int), m30) else (pR_closes m30 41).bind fun (r39, m39) => if r39 = 0 then some ((0 : Int), m39) else (pU_add m39 (m39 18 10) x 0).bind fun m53 => some ((1 : Int), m53)) (PJ t C L k0 op D 0 7 kd (fun p _ => p = ph) pr ops Fs) := by
  have hz := hw.1
  have hop0 := h.2.2.1
  refine rn_b (hS.1 k (op + 1) (L ++ E0) 3 0 bg x [] ((kd, ph, 0, pr, ops) :: Fs) m 0 (by omega) h hl (by omega) (by omega) lowHd.nil) (fun r1 hr1 => ?_)
  obtain ⟨r', m2⟩ := r1
  rcases hr1 with ⟨b1, j, E, P, cs1, ph', c1, c2, c3, c4, c5, c6, c7, c8, c9, c10⟩ | ⟨b1, b2⟩
  · dsimp only at b1 c2 ⊢
    refine rn_f (by omega) ?_
    have hgo := go_comma (op := op + 1) (cs := cs1) (pr := x) (Fs := (kd, ph, 0, pr, ops) :: Fs) (kd := 3) (ph := ph') (j := j) (t := t) (Or.inl rfl) (by omega) (fun _ => c10) (by omega) (c8.mono (by omega))
    rw [if_pos (show (3 : Int) = 3 from rfl), c7] at hgo
    have l1 : ((L ++ E0 ++ E).length : Int) = (L ++ E0).length + E.length := by rw [List.length_append]; omega
    refine rn_b (c_takeC (x := 44) hw c2 (by omega)) (fun r2 hr2 => ?_)
    obtain ⟨r'', m3⟩ := r2
    dsimp only at hr2 ⊢
    rcases hr2 with ⟨d1, d2, d3⟩ | ⟨d1, d2, d3, d4, d5⟩
    · rw [if_pos d2] at hgo
      refine rn_f (by omega) ?_
      refine rn_b (hS.1 (j + 1) (op + 1) (L ++ E0 ++ E) 4 0 0 x [] ((kd, ph, 0, pr, ops) :: Fs) m3 0 (by omega) d3 (by omega) (by omega) (by omega) lowHd.nil) (fun r3 hr3 => ?_)
      obtain ⟨s', m4⟩ := r3
      rcases hr3 with ⟨f1, j2, E2, P2, cs2, ph2, g1, g2, g3, g4, g5, g6, g7, g8, g9, g10⟩ | ⟨f1, f2⟩
      · dsimp only at f1 g2 ⊢
        refine rn_f (by omega) ?_
        have hgo2 := go_close (op := op + 1) (cs := cs2) (pr := x) (F := (kd, ph, 0, pr, ops)) (Gs := Fs) (kd := 4) (ph := ph2) (j := j2) (t := t) (Or.inr (Or.inl rfl)) (by omega) (fun _ => g10) (by omega) (g8.mono (by omega))
        rw [if_neg (show ¬ ((4 : Int) = 5) by omega), if_pos (show (4 : Int) = 4 from rfl), g7] at hgo2
        have l2 : ((L ++ E0 ++ E ++ E2).length : Int) = (L ++ E0).length + E.length + E2.length := by rw [List.length_append, List.length_append]; omega
        have l0 : ((L ++ E0).length : Int) = L.length + E0.length := by rw [List.length_append]; omega
        refine rn_b (c_closesC (x := 41) hw g2 (by omega) (by omega)) (fun r4 hr4 => ?_)
        obtain ⟨s'', m5⟩ := r4
        dsimp only at hr4 ⊢
        rcases hr4 with ⟨u1, u2, u3⟩ | ⟨u1, u2, u3, u4, u5⟩
        · rw [if_pos u2] at hgo2
          rw [show op + 1 - 1 = op by omega] at u3 hgo2
          refine rn_f (by omega) ?_
          have hj2 := u3.1
          refine rn_b (c_addC hw u3 (by omega) hx (by omega)) (fun m6 h6 => ?_)
          have eL : L ++ (E0 ++ E ++ E2 ++ [(x, 0)]) = L ++ E0 ++ E ++ E2 ++ [(x, 0)] := by simp only [List.append_assoc]
          refine rn_s (Or.inl ⟨rfl, j2 + 1, E0 ++ E ++ E2 ++ [(x, 0)], [], L ++ E0 ++ E ++ E2 ++ [(x, 0)], ph, by omega, by rw [eL]; exact h6, ?_, hg E E2 (c4.mono (by omega) id) (g4.mono (by omega) id), ((hb.app c5).app g5).app (FBx.op hx1), ?_, by rw [show cod [] = [] from rfl, List.append_nil, eL], allR.nil, rfl⟩)
          · rw [List.length_append, List.length_append, List.length_append]
            show ((E0.length + E.length + E2.length + 1 : Nat) : Int) ≤ _
            omega
          · refine hC.trans (c6.trans (Reach.step hgo (g6.trans (Reach.step hgo2 ?_))))
            show Reach t (j2 + 1, op, L ++ E0 ++ E ++ E2 ++ [(x, 0)], (kd, ph, 0, pr, ops) :: Fs, 1) (j2 + 1, op + 0, L ++ E0 ++ E ++ E2 ++ [(x, 0)], (kd, ph, 0, pr, ops) :: Fs, 1)
            rw [Int.add_zero]
            exact Reach.rfl'
        · rw [if_neg u2] at hgo2
          refine rn_t u1 (rn_s (Or.inr ⟨rfl, 1, cs2, j2, u3, Or.inl rfl, ?_, u5⟩))
          dsimp only
          rw [u4]
          exact (hC.trans (c6.trans (Reach.step hgo g6))).ends (Ends.now hgo2)
      · dsimp only at f1 f2 ⊢
        exact rn_t f1 (rn_s (Or.inr ⟨rfl, BADc.of (hC.trans (c6.trans (Reach.step hgo Reach.rfl'))) f2⟩))
    · rw [if_neg d2] at hgo
      refine rn_t d1 (rn_s (Or.inr ⟨rfl, 1, cs1, j, d3, Or.inl rfl, ?_, d5⟩))
      dsimp only
      rw [d4]
      exact (hC.trans c6).ends (Ends.now hgo)
  · dsimp only at b1 b2 ⊢
    exact rn_t b1 (rn_s (Or.inr ⟨rfl, BADc.of hC b2⟩))
theorem j_pair {N : Nat} {t : Mem} {f : Nat} (hw : WT t) (hS : SJ N t f) : JP N t (f + 1) 3 := by
  intro k op L kd ph bg pr ops Fs m x hf h hl hx
  have hx' : (t 35 k = 22 ∧ x = 9) ∨ (t 35 k = 23 ∧ x = 10) := by omega
  have h0 := h.2.2.1
  rw [gR_3]
  unfold pR_readPair_b
  refine rn_ba (j_head (kd := kd) (ph := ph) (bg := bg) (pr := pr) (ops := ops) (Fs := Fs) (nk := 3) (x := x) hw h (by omega)) (fun r0 hr0 => ?_)
  obtain ⟨r, m7⟩ := r0
  dsimp only at hr0 ⊢
  rcases hr0 with ⟨e1, h7, ho, he⟩ | ⟨e1, e2⟩
  case inr => exact rn_t e1 (rn_s (Or.inr ⟨rfl, e2⟩))
  refine rn_f (by omega) ?_
  have hlen : ((L ++ ([] : List (Int × Int))).length : Int) ≤ k + 2 := by rw [List.append_nil]; omega
  refine j_tail (E0 := []) (bg := 1) hw hS (by omega) ⟨h0.1, ho⟩ (by rw [List.append_nil]; exact h7) (by omega) hlen (by show ((0 : Nat) : Int) ≤ _; omega) (by omega) (by rw [List.append_nil]; exact Reach.step he Reach.rfl') (fun E1 E2 g1 g2 => ?_) (fun c hc => by cases hc) (by omega)
  rw [List.nil_append]
  exact g1.bin g2 (by omega) (by omega) (by omega) (by omega) (by omega)
theorem j_choice {N : Nat} {t : Mem} {f : Nat} (hw : WT t) (hS : SJ N t f) : JP N t (f + 1) 4 := by
  intro k op L kd ph bg pr ops Fs m x hf h hl hx
  have hx' : t 35 k = 17 := by omega
  have h0 := h.2.2.1
  have hz := hw.1
  rw [gR_4]
  unfold pR_readChoice_b
  refine rn_ba (j_head (kd := kd) (ph := ph) (bg := bg) (pr := pr) (ops := ops) (Fs := Fs) (nk := 6) (x := 3) hw h (by omega)) (fun r0 hr0 => ?_)
  obtain ⟨r, m7⟩ := r0
  dsimp only at hr0 ⊢
  rcases hr0 with ⟨e1, h7, ho, he⟩ | ⟨e1, e2⟩
  case inr => exact rn_t e1 (rn_s (Or.inr ⟨rfl, e2⟩))
  refine rn_f (by omega) ?_
  refine rn_b (hS.2.2.2.2.2.1 (k + 2) (op + 1) L 6 3 [] ((kd, ph, 0, pr, ops) :: Fs) m7 0 (by omega) h7 (by omega) (Or.inr rfl) trivial lowHd.nil) (fun r1 hr1 => ?_)
  obtain ⟨r', m2⟩ := r1
  rcases hr1 with ⟨b1, j, E, P, cs1, ph', c1, c2, c3, c4, c5, c6, c7, c8, c9, c10, c11⟩ | ⟨b1, b2⟩
  · dsimp only at b1 c2 ⊢
    refine rn_f (by omega) ?_
    have hgo := go_comma (op := op + 1) (cs := cs1) (pr := 3) (Fs := (kd, ph, 0, pr, ops) :: Fs) (kd := 6) (ph := ph') (j := j) (t := t) (Or.inr rfl) (by omega) (fun q => c10 (by omega)) (fun _ => c11) c8
    rw [if_neg (show ¬ ((6 : Int) = 3) by omega), c7] at hgo
    refine rn_b (c_takeC (x := 44) hw c2 (by omega)) (fun r2 hr2 => ?_)
    obtain ⟨r'', m3⟩ := r2
    dsimp only at hr2 ⊢
    rcases hr2 with ⟨d1, d2, d3⟩ | ⟨d1, d2, d3, d4, d5⟩
    · rw [if_pos d2] at hgo
      refine rn_f (by omega) ?_
      have l1 : ((L ++ E).length : Int) = L.length + E.length := by rw [List.length_append]; omega
      exact j_tail (E0 := E) (bg := 0) hw hS (by omega) ⟨h0.1, ho⟩ d3 (by omega) (by omega) (by omega) (by omega) ((Reach.step he Reach.rfl').trans (c6.trans (Reach.step hgo Reach.rfl'))) (fun E1 E2 g1 g2 => c4.cho g1 g2 (by omega) (by omega) (by omega)) c5 (by omega)
    · rw [if_neg d2] at hgo
      refine rn_t d1 (rn_s (Or.inr ⟨rfl, 1, cs1, j, d3, Or.inl rfl, ?_, d5⟩))
      dsimp only
      rw [d4]
      exact (Reach.step he c6).ends (Ends.now hgo)
  · dsimp only at b1 b2 ⊢
    exact rn_t b1 (rn_s (Or.inr ⟨rfl, BADc.of (Reach.step he Reach.rfl') b2⟩))
