/-! VALLEY: statements side by side: which statement -/
theorem r_stat {N : Nat} {t mr : Mem} {RT : Int → Mem → Prop} {k : Int} {Q : Mem → Prop} (hL : LX N t RT) (h : LVr RT k mr) (h2 : t 35 k = 2 → Rn (pM_dewing N mr) Q) (h3 : t 35 k = 3 → Rn (pM_personing N mr) Q) (h8 : t 35 k = 8 → Rn (pM_reading N mr 0) Q) (h9 : t 35 k = 9 → Rn (pM_reading N mr 1) Q) (h10 : t 35 k = 10 → Rn (pM_reading N mr 2) Q) (h11 : t 35 k = 11 → Rn (pM_misting N mr) Q) (hb : (t 35 k ≠ 2 ∧ t 35 k ≠ 3 ∧ t 35 k ≠ 8 ∧ t 35 k ≠ 9 ∧ t 35 k ≠ 10 ∧ t 35 k ≠ 11) → ∀ m', BADr 1 (plcT t k) mr m' → Q m') : Rn (pM_statement N mr) Q := by
  have hr := hL.1 _ _ h.1
  unfold pM_statement
  rcases r_lexM hr h.2 with ⟨e1, l⟩ | ⟨e1, e2⟩
  · refine rn_e e1 (rn_f (by have := h.2; omega) ?_)
    have w2 : pM_isWord mr 6579575 = some (if t 35 k = 2 then 1 else 0) := e_word 2 hr l (by decide)
    refine rn_e w2 ?_
    by_cases q2 : t 35 k = 2
    · rw [if_pos q2]
      exact rn_f (by decide) (rn_b (h2 q2) (fun m hm => rn_s hm))
    rw [if_neg q2]
    refine rn_t rfl ?_
    have w3 : pM_isWord mr 123581014175598 = some (if t 35 k = 3 then 1 else 0) := e_word 3 hr l (by decide)
    refine rn_e w3 ?_
    by_cases q3 : t 35 k = 3
    · rw [if_pos q3]
      exact rn_f (by decide) (rn_b (h3 q3) (fun m hm => rn_s hm))
    rw [if_neg q3]
    refine rn_t rfl ?_
    have w8 : pM_isWord mr 439721159795 = some (if t 35 k = 8 then 1 else 0) := e_word 8 hr l (by decide)
    refine rn_e w8 ?_
    by_cases q8 : t 35 k = 8
    · rw [if_pos q8]
      exact rn_f (by decide) (rn_b (h8 q8) (fun m hm => rn_s hm))
    rw [if_neg q8]
    refine rn_t rfl ?_
    have w9 : pM_isWord mr 7566702 = some (if t 35 k = 9 then 1 else 0) := e_word 9 hr l (by decide)
    refine rn_e w9 ?_
    by_cases q9 : t 35 k = 9
    · rw [if_pos q9]
      exact rn_f (by decide) (rn_b (h9 q9) (fun m hm => rn_s hm))
    rw [if_neg q9]
    refine rn_t rfl ?_
    have w10 : pM_isWord mr 499850634611 = some (if t 35 k = 10 then 1 else 0) := e_word 10 hr l (by decide)
    refine rn_e w10 ?_
    by_cases q10 : t 35 k = 10
    · rw [if_pos q10]
      exact rn_f (by decide) (rn_b (h10 q10) (fun m hm => rn_s hm))
    rw [if_neg q10]
    refine rn_t rfl ?_
    have w11 : pM_isWord mr 1835627380 = some (if t 35 k = 11 then 1 else 0) := e_word 11 hr l (by decide)
    refine rn_e w11 ?_
    by_cases q11 : t 35 k = 11
    · rw [if_pos q11]
      exact rn_f (by decide) (rn_b (h11 q11) (fun m hm => rn_s hm))
    rw [if_neg q11]
    refine rn_t rfl ?_
    rw [e_blame h.2, plc_live hr l]
    exact rn_v (rn_s (hb ⟨q2, q3, q8, q9, q10, q11⟩ _ BADr.mk'))
  · refine rn_e e2 (rn_t ?_ (rn_s (hb (by omega) _ BADr.mk')))
    rw [mset_o (by omega), mset_s rfl rfl]
    decide
theorem o_stat {N : Nat} {t mc : Mem} {RT : Int → Mem → Prop} {ib k : Int} (hN : 4000 ≤ N) (hL : LX N t RT) (hz : NXt t) (hv : NVt t) (hib : ib = 0 ∨ ib = 1) (hcz : CZm mc) (hnn : 0 ≤ mc 26 2 ∧ 0 ≤ mc 29 2 ∧ 0 ≤ mc 32 2) (h : CKt t mc k) (hper : t 35 k = 3 → Rn (pR_readPerson N mc) (STL t RT ib k mc (pM_personing N))) : Rn (pR_readStatement N mc 0) (STL t RT ib k mc (pM_statement N)) := by
  have hz1 := hz.1
  have h01 := h.1
  have ast : (t 35 k ≠ 2 ∧ t 35 k ≠ 3 ∧ t 35 k ≠ 8 ∧ t 35 k ≠ 9 ∧ t 35 k ≠ 10 ∧ t 35 k ≠ 11) → Rn ((pR_astray mc).bind fun (r160, m160) => some (r160, m160)) (STL t RT ib k mc (pM_statement N)) := by
    intro q
    refine rn_b (ck_astray hz h) (fun r hr => ?_)
    obtain ⟨r1, r2⟩ := r
    have hb : BADk 1 (plcT t k) mc r2 := hr.2
    refine rn_s ⟨hb.2.2.mono (fun b j c => FCv_k c), Or.inr ⟨hr.1, ?_, fun mr hm => ?_⟩⟩
    · show 1 ≤ r2 18 1
      rw [hb.1]; decide
    · exact r_stat hL hm.1 (fun c => absurd c q.1) (fun c => absurd c q.2.1) (fun c => absurd c q.2.2.1) (fun c => absurd c q.2.2.2.1) (fun c => absurd c q.2.2.2.2.1) (fun c => absurd c q.2.2.2.2.2) (fun _ m' hm' => ⟨hm'.1.trans hb.1.symm, hm'.2.1.trans hb.2.1.symm, hm'.2.2.mono (fun b j c => FV_b c)⟩)
  have lift : ∀ (X : Option (Int × Mem)) (rf : Mem → Option Mem), Rn X (STL t RT ib k mc rf) → (∀ mr, RDY RT ib k mc mr → ∀ Q, Rn (rf mr) Q → Rn (pM_statement N mr) Q) → Rn (X.bind fun (r, m) => some (r, m)) (STL t RT ib k mc (pM_statement N)) := by
    intro X rf hX hR
    refine rn_b hX (fun r hr => ?_)
    obtain ⟨r1, r2⟩ := r
    refine rn_s ⟨hr.1, ?_⟩
    rcases hr.2 with ⟨a, k', b, c, d⟩ | ⟨a, b, c⟩
    · exact Or.inl ⟨a, k', b, c, fun mr hm => hR mr hm _ (d mr hm)⟩
    · exact Or.inr ⟨a, b, fun mr hm => hR mr hm _ (c mr hm)⟩
  unfold pR_readStatement
  rw [h.2.1, h.2.2.1 35 k (by omega)]
  refine rn_t (by omega) ?_
  by_cases q0 : t 35 k = 0
  · rw [if_pos q0]
    exact rn_v (rn_f (by decide) (ast (by omega)))
  rw [if_neg q0]
  refine rn_v (rn_t rfl (rn_t (by omega) (rn_f q0 ?_)))
  refine rn_i (fun q => lift _ _ (rn_q (o_stdew hL hz hib hcz h q) (fun r hr => hr.l)) (fun mr hm Q hQ => r_stat hL hm.1 (fun _ => hQ) (by omega) (by omega) (by omega) (by omega) (by omega) (by omega))) (fun q2 => ?_)
  refine rn_i (fun q => lift _ _ (hper q) (fun mr hm Q hQ => r_stat hL hm.1 (by omega) (fun _ => hQ) (by omega) (by omega) (by omega) (by omega) (by omega))) (fun q3 => ?_)
  refine rn_i (fun q => lift _ _ (o_law (w := 0) hN hL hz hv hib (by decide) rfl rfl hnn.1 h (by omega)) (fun mr hm Q hQ => r_stat hL hm.1 (by omega) (by omega) (fun _ => hQ) (by omega) (by omega) (by omega) (by omega))) (fun q8 => ?_)
  refine rn_i (fun q => lift _ _ (o_law (w := 1) hN hL hz hv hib (by decide) rfl rfl hnn.2.1 h (by omega)) (fun mr hm Q hQ => r_stat hL hm.1 (by omega) (by omega) (by omega) (fun _ => hQ) (by omega) (by omega) (by omega))) (fun q9 => ?_)
  refine rn_i (fun q => lift _ _ (o_law (w := 2) hN hL hz hv hib (by decide) rfl rfl hnn.2.2 h (by omega)) (fun mr hm Q hQ => r_stat hL hm.1 (by omega) (by omega) (by omega) (by omega) (fun _ => hQ) (by omega) (by omega))) (fun q10 => ?_)
  refine rn_i (fun q => lift _ _ (rn_q (o_mist hL hz hib h q) (fun r hr => hr.l)) (fun mr hm Q hQ => r_stat hL hm.1 (by omega) (by omega) (by omega) (by omega) (by omega) (fun _ => hQ) (by omega))) (fun q11 => ?_)
  exact ast ⟨q2, q3, q8, q9, q10, q11⟩
