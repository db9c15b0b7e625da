/-! VALLEY: statements side by side: the judgement, MIST -/
def FCv : Int → Int → Prop := fun b j => (b = 18 ∧ (j = 1 ∨ j = 2 ∨ (7 ≤ j ∧ j ≤ 10))) ∨ (19 ≤ b ∧ b ≤ 34)
def FV (ib : Int) : Int → Int → Prop := fun b j => (b = 475 ∧ ((3 ≤ j ∧ j ≤ 9) ∨ j = 12 ∨ j = 28 ∨ j = 30 ∨ j = 36 ∨ j = 37 ∨ j = 39 ∨ j = 40)) ∨ ((b = 477 ∨ b = 478 ∨ b = 480 ∨ b = 485) ∧ j = ib) ∨ (b = 479 ∧ 64 * ib ≤ j ∧ j < 64 * ib + 64) ∨ (((481 ≤ b ∧ b ≤ 484) ∨ b = 490) ∧ 6 * ib ≤ j ∧ j < 6 * ib + 6) ∨ ((b = 486 ∨ b = 487) ∧ 3 * ib ≤ j ∧ j < 3 * ib + 3) ∨ ((b = 488 ∨ b = 489) ∧ 1600 * ib ≤ j ∧ j < 1600 * ib + 1600) ∨ (491 ≤ b ∧ b ≤ 496)
theorem FV_a {ib b j : Int} (h : FRa b j) : FV ib b j := by
  have h' : b = 475 ∧ ((3 ≤ j ∧ j ≤ 7) ∨ j = 12) := h
  exact Or.inl ⟨h'.1, by omega⟩
theorem FV_b {ib b j : Int} (h : FRb b j) : FV ib b j := by
  have h' : b = 475 ∧ (j = 8 ∨ j = 9) := h
  exact Or.inl ⟨h'.1, by omega⟩
theorem FCv_k {b j : Int} (h : FRk b j) : FCv b j := by
  have h' : b = 18 ∧ (j = 1 ∨ j = 2) := h
  exact Or.inl ⟨h'.1, by omega⟩
theorem NP_fr {S1 S2 : Int → Int → Prop} {ib : Int} {mc mc' mr mr' : Mem} (f1 : Fr S1 mc mc') (f2 : Fr S2 mr mr') {b j : Int} (h1 : 2 ≤ b ∧ b ≤ 17 → ¬ S1 (b + 17) j) (h2 : ¬ (2 ≤ b ∧ b ≤ 17) → (b = 475 ∧ (j = 13 ∨ j = 41)) ∨ ¬ S2 b j) : NP ib mc' mr' b j = NP ib mc mr b j := by
  unfold NP
  by_cases q : 2 ≤ b ∧ b ≤ 17
  · rw [if_pos q, if_pos q]; exact f1 _ _ (h1 q)
  · rw [if_neg q, if_neg q]
    by_cases q1 : b = 475 ∧ j = 13
    · rw [if_pos q1, if_pos q1]
    · rw [if_neg q1, if_neg q1]
      by_cases q2 : b = 475 ∧ j = 41
      · rw [if_pos q2, if_pos q2]
      · rw [if_neg q2, if_neg q2]
        rcases h2 q with c | c
        · omega
        · exact f2 _ _ c
theorem NP_pl {ib : Int} {mc mr : Mem} {b j : Int} (h : 2 ≤ b ∧ b ≤ 17) : NP ib mc mr b j = mc (b + 17) j := by
  unfold NP
  rw [if_pos h]
theorem NP_bk {ib : Int} {mc mr : Mem} : NP ib mc mr 475 13 = ib := by
  unfold NP
  rw [if_neg (by omega), if_pos ⟨rfl, rfl⟩]
theorem NP_rf {ib : Int} {mc mr : Mem} {b j : Int} (h : ¬ (2 ≤ b ∧ b ≤ 17)) (h2 : ¬ (b = 475 ∧ (j = 13 ∨ j = 41))) : NP ib mc mr b j = mr b j := by
  unfold NP
  rw [if_neg h, if_neg (by omega), if_neg (by omega)]
def RDY (RT : Int → Mem → Prop) (ib k : Int) (mc mr : Mem) : Prop := LVr RT k mr ∧ mr 475 29 = ib ∧ DR (NP ib mc mr) ∧ mr 475 28 ≤ k
def STM (t : Mem) (RT : Int → Mem → Prop) (ib k : Int) (mc : Mem) (rf : Mem → Option Mem) (r : Int × Mem) : Prop := Fr FCv mc r.2 ∧ ((r.1 = 1 ∧ ∃ k', k ≤ k' ∧ CKt t r.2 k' ∧ ∀ mr, RDY RT ib k mc mr → Rn (rf mr) (fun mr' => RDY RT ib k' r.2 mr' ∧ Fr (FV ib) mr mr')) ∨ (r.1 = 0 ∧ 1 ≤ r.2 18 1 ∧ ∀ mr, RDY RT ib k mc mr → Rn (rf mr) (fun mr' => mr' 475 8 = r.2 18 1 ∧ mr' 475 9 = r.2 18 2 ∧ Fr (FV ib) mr mr')))
theorem FV_29 {ib : Int} {m m' : Mem} (f : Fr (FV ib) m m') : m' 475 29 = m 475 29 := f _ _ (by unfold FV; omega)
theorem o_mist {N : Nat} {t mc : Mem} {RT : Int → Mem → Prop} {ib k : Int} (hL : LX N t RT) (hz : NXt t) (hib : ib = 0 ∨ ib = 1) (h : CKt t mc k) (hk : t 35 k = 11) : Rn (pR_readMist mc) (STM t RT ib k mc (pM_misting N)) := by
  have hk1 := hz.2 k h.1.1 h.1.2 (by omega) (by omega)
  have hp := ck_pass hz h hk1
  have fp : Fr FCv mc (mset mc 18 7 (k + 1)) := Fr.rfl'.set (by unfold FCv; omega)
  have h01 := h.1
  -- the reference up to the number
  have rf : ∀ mr, RDY RT ib k mc mr → ∀ Q, (∀ m1, LVr RT (k + 1) m1 → Fr FRa mr m1 → Rn ((pM_number N m1 0 100).bind fun (r13, m13) => if m13 475 8 = 0 then if 0 ≤ m13 475 29 ∧ m13 475 29 < 2 then (some (mset m13 485 (m13 475 29) r13)).bind fun m33 => some m33 else none else some m13) Q) → Rn (pM_misting N mr) Q := by
    intro mr hr Q hQ
    unfold pM_misting
    refine rn_b (rk_counts (x := 0) hL ⟨h.1.1, hk1⟩ hr.1) (fun r hr2 => ?_)
    obtain ⟨r1, r2⟩ := r
    rcases hr2 with ⟨-, e, l, f⟩ | ⟨c, -⟩
    · have e' : r1 = 1 := e
      exact rn_f (by omega) (hQ r2 l f)
    · exact absurd rfl c
  unfold pR_readMist
  refine rn_e hp.1 (rn_b (ck_num (a := 0) (b := 100) hz hp.2) (fun r hr => ?_))
  obtain ⟨r1, r2⟩ := r
  rcases hr with ⟨q1, q2, q3, q4, q5, q6⟩ | ⟨q1, q2, q3, q4⟩ | ⟨q1, q2, q3⟩
  · have q3' : r1 = 1 := q3
    have q4' : r2 = mset (mset mc 18 7 (k + 1)) 18 7 (k + 1 + 1) := q4
    refine rn_f (by omega) (rn_e q6 (rn_v (rn_s ⟨?_, Or.inl ⟨rfl, k + 1 + 1, by omega, ?_, fun mr hr => rf mr hr _ (fun m1 l1 f1 => ?_)⟩⟩)))
    · rw [q4']; exact (fp.set (by unfold FCv; omega)).set (by unfold FCv; omega)
    · exact q5.fr (S := fun b j => b = 19 ∧ j = 4) (Fr.rfl'.set ⟨rfl, rfl⟩) (fun b j c => by omega)
    · refine rn_b (rk_num (a := 0) (b := 100) hL hz.2 hp.2.1 l1) (fun r hr2 => ?_)
      obtain ⟨s1, s2⟩ := r
      rcases hr2 with ⟨-, -, e, l, f⟩ | ⟨-, c, -⟩ | ⟨c, -⟩
      · have e' : s1 = t 37 (k + 1) := e
        have l' : LVr RT (k + 1 + 1) s2 := l
        have f' : Fr FRa m1 s2 := f
        have f2 : Fr FRa mr s2 := f1.trans f'
        have e29 : s2 475 29 = ib := by rw [f2 _ _ (by unfold FRa; omega)]; exact hr.2.1
        refine rn_t l'.2 (rn_t (by omega) (rn_v (rn_s ⟨⟨⟨hL.2.1 _ _ _ l'.1 (fun b j c => mset_o (by omega)), by rw [mset_o (by omega)]; exact l'.2⟩, by rw [mset_o (by omega)]; exact e29, ?_, ?_⟩, ?_⟩)))
        · have hD := hr.2.2.1
          show DR (NP ib (mset r2 19 4 (t 37 (k + 1))) (mset s2 485 (s2 475 29) s1))
          have F1 : Fr (fun b j => (b = 18 ∧ j = 7) ∨ (b = 19 ∧ j = 4)) mc (mset r2 19 4 (t 37 (k + 1))) := by
            rw [q4']
            exact ((Fr.rfl'.set (by omega)).set (by omega)).set (by omega)
          have F2 : Fr (fun b j => FRa b j ∨ (b = 485 ∧ j = ib)) mr (mset s2 485 (s2 475 29) s1) := (f2.mono (fun b j c => Or.inl c)).set (Or.inr ⟨rfl, e29⟩)
          have P1 : ∀ b j, ¬ ((b = 2 ∧ j = 4) ∨ (b = 485 ∧ j = ib) ∨ FRa b j) → NP ib (mset r2 19 4 (t 37 (k + 1))) (mset s2 485 (s2 475 29) s1) b j = NP ib mc mr b j := by
            intro b j c
            refine NP_fr F1 F2 (fun z w => c (by omega)) (fun z => Or.inr (fun w => c ?_))
            rcases w with w | w
            · exact Or.inr (Or.inr w)
            · exact Or.inr (Or.inl w)
          have P2 : ∀ b j, b ≠ 475 → ¬ ((b = 2 ∧ j = 4) ∨ (b = 485 ∧ j = ib)) → NP ib (mset r2 19 4 (t 37 (k + 1))) (mset s2 485 (s2 475 29) s1) b j = NP ib mc mr b j := fun b j c d => P1 b j (fun w => by unfold FRa at w; omega)
          have P3 : ∀ j, (j = 13 ∨ j = 41 ∨ j = 28) → NP ib (mset r2 19 4 (t 37 (k + 1))) (mset s2 485 (s2 475 29) s1) 475 j = NP ib mc mr 475 j := fun j c => P1 475 j (fun w => by unfold FRa at w; omega)
          have P4 : ∀ b j, ((b = 475 ∧ (j = 13 ∨ j = 41 ∨ j = 28)) ∨ (b ≠ 475 ∧ ¬ ((b = 2 ∧ j = 4) ∨ b = 485))) → NP ib (mset r2 19 4 (t 37 (k + 1))) (mset s2 485 (s2 475 29) s1) b j = NP ib mc mr b j := by
            intro b j c
            rcases c with ⟨rfl, c⟩ | ⟨c, d⟩
            · exact P3 j c
            · exact P2 b j c (by omega)
          refine ⟨hD.1.fr (fun b j c => P4 b j (by omega)), ⟨?_, ?_⟩, hD.2.2.1.fr (fun b j c => P4 b j (by omega)), hD.2.2.2.1.fr (fun b j c => P4 b j (by omega)), fun w w0 w1 => (hD.2.2.2.2.1 w w0 w1).fr (fun b j c => P4 b j (by omega)) (by rw [P3 28 (by omega)]; exact Int.le_refl _), by rw [P3 28 (by omega)]; exact hD.2.2.2.2.2⟩
          · rw [NP_pl (by omega)]
            show 0 ≤ mset r2 19 4 (t 37 (k + 1)) 19 4 ∧ mset r2 19 4 (t 37 (k + 1)) 19 4 ≤ 100
            rw [mset_s rfl rfl]; exact q2
          · rw [NP_bk, NP_rf (b := 485) (by omega) (by omega), NP_pl (b := 2) (by omega)]
            show mset s2 485 (s2 475 29) s1 485 ib = mset r2 19 4 (t 37 (k + 1)) 19 4
            rw [mset_s rfl e29.symm, mset_s rfl rfl]; exact e'
        · show mset s2 485 (s2 475 29) s1 475 28 ≤ k + 1 + 1
          rw [mset_o (by omega), f2 _ _ (by unfold FRa; omega)]
          have := hr.2.2.2
          omega
        · exact (f2.mono (fun b j c => FV_a c)).set (Or.inr (Or.inl ⟨by omega, e29⟩))
      · exact absurd q2 c
      · exact absurd q1 c
  · have q3' : r1 = 0 := q3
    have q4' : BADk 4 (t 36 (k + 1)) (mset mc 18 7 (k + 1)) r2 := q4
    refine rn_t q3' (rn_s ⟨fp.trans (q4'.2.2.mono (fun b j c => FCv_k c)), Or.inr ⟨rfl, ?_, fun mr hr => rf mr hr _ (fun m1 l1 f1 => ?_)⟩⟩)
    · show 1 ≤ r2 18 1
      rw [q4'.1]; decide
    · refine rn_b (rk_num (a := 0) (b := 100) hL hz.2 hp.2.1 l1) (fun r hr2 => ?_)
      obtain ⟨s1, s2⟩ := r
      rcases hr2 with ⟨-, c, -⟩ | ⟨-, -, e⟩ | ⟨c, -⟩
      · exact absurd c q2
      · have e' : BADr 4 (t 36 (k + 1)) m1 s2 := e
        exact rn_f (by rw [e'.1]; decide) (rn_s ⟨e'.1.trans q4'.1.symm, e'.2.1.trans q4'.2.1.symm, (f1.mono (fun b j c => FV_a c)).trans (e'.2.2.mono (fun b j c => FV_b c))⟩)
      · exact absurd q1 c
  · have q2' : r1 = 0 := q2
    have q3' : BADk 1 (plcT t (k + 1)) (mset mc 18 7 (k + 1)) r2 := q3
    refine rn_t q2' (rn_s ⟨fp.trans (q3'.2.2.mono (fun b j c => FCv_k c)), Or.inr ⟨rfl, ?_, fun mr hr => rf mr hr _ (fun m1 l1 f1 => ?_)⟩⟩)
    · show 1 ≤ r2 18 1
      rw [q3'.1]; decide
    · refine rn_b (rk_num (a := 0) (b := 100) hL hz.2 hp.2.1 l1) (fun r hr2 => ?_)
      obtain ⟨s1, s2⟩ := r
      rcases hr2 with ⟨c, -⟩ | ⟨c, -⟩ | ⟨-, e⟩
      · exact absurd c q1
      · exact absurd c q1
      · have e' : BADr 1 (plcT t (k + 1)) m1 s2 := e
        exact rn_f (by rw [e'.1]; decide) (rn_s ⟨e'.1.trans q3'.1.symm, e'.2.1.trans q3'.2.1.symm, (f1.mono (fun b j c => FV_a c)).trans (e'.2.2.mono (fun b j c => FV_b c))⟩)
