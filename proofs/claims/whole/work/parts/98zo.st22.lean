/-! VALLEY: statements side by side: the sign behind each -/
theorem SKP_un {T : Int → Int} {L e s s' : Int} (h : SKP T L e s) (h' : SKP T L e s') : s = s' := by
  rcases Int.lt_trichotomy s s' with q | q | q
  · exact absurd (h'.2.1 s h.1 q) h.2.2
  · exact q
  · exact absurd (h.2.1 s' h'.1 q) h'.2.2
theorem DR.fr {P P' : Mem} (h : DR P) (f : ∀ b j, ((b = 475 ∧ (j = 13 ∨ j = 41 ∨ j = 28)) ∨ (b ≠ 475 ∧ ¬ (b = 2 ∧ j = 5))) → P' b j = P b j) : DR P' := by
  have e28 := f 475 28 (by omega)
  exact ⟨h.1.fr (fun b j c => f b j (by omega)), h.2.1.fr (fun b j c => f b j (by omega)), h.2.2.1.fr (fun b j c => f b j (by omega)), h.2.2.2.1.fr (fun b j c => f b j (by omega)), fun w w0 w1 => (h.2.2.2.2.1 w w0 w1).fr (fun b j c => f b j (by omega)) (by omega), by rw [e28]; exact h.2.2.2.2.2⟩
def FRab : Int → Int → Prop := fun b j => FRa b j ∨ FRb b j
theorem FV_ab {ib b j : Int} (h : FRab b j) : FV ib b j := by
  rcases h with h | h
  · exact FV_a h
  · exact FV_b h
theorem RDY.step {RT : Int → Mem → Prop} {ib k k' : Int} {mc mc' mr mr' : Mem} (h : RDY RT ib k mc mr) (fc : Fr (fun b j => b = 18 ∨ (b = 19 ∧ j = 5)) mc mc') (fr : Fr FRab mr mr') (hk : k ≤ k') (l : LVr RT k' mr') : RDY RT ib k' mc' mr' := by
  refine ⟨l, ?_, h.2.2.1.fr (fun b j c => NP_fr fc fr (fun z w => by omega) (fun z => ?_)), ?_⟩
  · rw [fr _ _ (by unfold FRab FRa FRb; omega)]
    exact h.2.1
  · by_cases q : b = 475 ∧ (j = 13 ∨ j = 41)
    · exact Or.inl q
    · exact Or.inr (fun w => by unfold FRab FRa FRb at w; omega)
  · rw [fr _ _ (by unfold FRab FRa FRb; omega)]
    have := h.2.2.2
    omega
theorem r_semi {N : Nat} {T : Int → Int} {L : Int} {t : Mem} {en : Int → Int} {k x : Int} {mr : Mem} (hN : 2000 ≤ N) (hL : 0 ≤ L ∧ L ≤ 1600) (h : SPt T L t en) (hk : 0 ≤ k ∧ k < t 18 6) (hr : LVr (RTj T L t en) k mr) : Rn (pM_finishes N mr x) (fun mr' => Fr FRab mr mr' ∧ ((t 35 k ≠ 59 ∧ mr' 475 8 = 1 ∧ mr' 475 9 = plcT t k) ∨ (t 35 k = 59 ∧ x = 80 ∧ t 35 (k + 1) ≠ 26 ∧ mr' 475 8 = 6 ∧ mr' 475 9 = t 36 (k + 1)) ∨ (t 35 k = 59 ∧ (x ≠ 80 ∨ t 35 (k + 1) = 26) ∧ LVr (RTj T L t en) (k + 1) mr'))) := by
  have hLX := RTj.LX hN hL h
  have hz := h.NX hL
  have hr' := hLX.1 _ _ hr.1
  have h8 := hr.2
  have h2 : mr 475 2 = L := hr.1.1.2.1
  have bad : ∀ m', BADr 1 (plcT t k) mr m' → Fr FRab mr m' := fun m' hb => hb.2.2.mono (fun b j c => Or.inr c)
  unfold pM_finishes
  rcases r_lexM hr' hr.2 with ⟨e1, l⟩ | ⟨e1, e2⟩
  · refine rn_e e1 (rn_f (by omega) (rn_v ?_))
    have b5 := RTj.b5 h hk hr.1 l
    obtain ⟨s, hs⟩ := SKP_ex T L (mr 475 5) b5.2
    have hsL := SKP_le b5.2 hs
    have hs1 := hs.1
    have esk : ∀ KK : Int → Option Mem, pM_finishes_L17 N mr x KK N (mr 475 5) = KK s := fun KK => r_skip (N := N) (bo := fun _ => none) h2 hr.1.1.2.2.1 hL.2 (s - mr 475 5).toNat N (mr 475 5) (by omega) b5.1 (by omega) hs
    rw [esk]
    refine rn_e (e_sign hr' l (x := 59) (by unfold isSg; omega)) ?_
    by_cases q : t 35 k = 59
    · rw [if_pos q]
      have nk := hz.2 k hk.1 hk.2 (by omega) (by omega)
      have e5 := (hr.1.1.2.2.2 (by omega) (by omega)).1
      have hc1 := (h.2.1.2 (k + 1) (by omega) nk).2.1
      rw [e5] at hs
      have es : s = t 36 (k + 1) := SKP_un hs hc1.1
      have hend : s < L ↔ t 35 (k + 1) ≠ 26 := by
        rw [es]
        rcases hc1.2 with c | c | c | c | c
        · exact ⟨fun d => by omega, fun d => absurd c.2.1 d⟩
        · exact ⟨fun _ => by have := c.2.2.2.1; omega, fun _ => c.1⟩
        · refine ⟨fun _ => ?_, fun _ => c.1⟩
          rcases c.2.2.2.2 with d | d
          · omega
          · have := d.2.2.1
            omega
        · exact ⟨fun _ => by have := c.2.2.2.2; omega, fun _ => c.1⟩
        · refine ⟨fun _ => ?_, fun _ => c.1⟩
          rcases c.2.2.2.2 with ⟨d, d2⟩ | d
          · unfold isSg at d
            omega
          · omega
      by_cases qf : x = 80 ∧ s < L
      · have ei : (if (1 : Int) = 0 then some mr else if x = 80 then if s < mr 475 2 then (pM_blame mr 6 s).bind fun m80 => some (m80) else some (mr) else some (mr)) = some (mset (mset mr 475 8 6) 475 9 s) := by
          rw [if_neg (by decide), if_pos qf.1, h2, if_pos qf.2, e_blame h8]
          rfl
        refine rn_e ei ?_
        have g8 : mset (mset mr 475 8 6) 475 9 s 475 8 = 6 := by rw [mset_o (by omega), mset_s rfl rfl]
        have hd := rd_sign (N := N) (w := 59) (m := mset (mset mr 475 8 6) 475 9 s) (by rw [g8]; decide)
        rw [hd]
        refine rn_v (rn_s ⟨?_, Or.inr (Or.inl ⟨q, qf.1, hend.1 qf.2, g8, ?_⟩)⟩)
        · exact (Fr.rfl'.set (Or.inr ⟨rfl, Or.inl rfl⟩)).set (Or.inr ⟨rfl, Or.inr rfl⟩)
        · rw [mset_s rfl rfl]; exact es
      · have ei : (if (1 : Int) = 0 then some mr else if x = 80 then if s < mr 475 2 then (pM_blame mr 6 s).bind fun m80 => some (m80) else some (mr) else some (mr)) = some mr := by
          rw [if_neg (by decide)]
          by_cases qx : x = 80
          · rw [if_pos qx, h2, if_neg (fun c => qf ⟨qx, c⟩)]
          · rw [if_neg qx]
        refine rn_e ei (rn_b (rk_sign hLX hz.2 hk (x := 59) (by unfold isSg; omega) hr) (fun m' hm => rn_s ?_))
        rcases hm with ⟨-, l', f⟩ | ⟨c, -⟩
        · refine ⟨f.mono (fun b j c => Or.inl c), Or.inr (Or.inr ⟨q, ?_, l'⟩)⟩
          by_cases qx : x = 80
          · refine Or.inr ?_
            by_cases q26 : t 35 (k + 1) = 26
            · exact q26
            · exact absurd ⟨qx, hend.2 q26⟩ qf
          · exact Or.inl qx
        · exact absurd q c
    · rw [if_neg q]
      refine rn_e (a := mr) (if_pos rfl) (rn_b (rk_sign hLX hz.2 hk (x := 59) (by unfold isSg; omega) hr) (fun m' hm => rn_s ?_))
      rcases hm with ⟨c, -⟩ | ⟨-, hb⟩
      · exact absurd c q
      · exact ⟨bad m' hb, Or.inl ⟨q, hb.1, hb.2.1⟩⟩
  · have hb : BADr 1 (plcT t k) mr (mset (mset mr 475 8 1) 475 9 (plcT t k)) := BADr.mk'
    refine rn_e e2 (rn_t (by rw [hb.1]; decide) (rn_s ⟨bad _ hb, Or.inl ⟨by omega, hb.1, hb.2.1⟩⟩))
/-- the reference may have seen the fault of the next sign -/
def RDs (RT : Int → Mem → Prop) (t : Mem) (ib k : Int) (mc mr : Mem) : Prop := RDY RT ib k mc mr ∨ (mr 475 8 = 1 ∧ mr 475 9 = plcT t k ∧ t 35 k = 27)
/-- what both hold where a statement may begin -/
def LTp (RT : Int → Mem → Prop) (t : Mem) (ib x k : Int) (mc mr : Mem) : Prop := ((x ≠ 80 ∨ t 35 k = 26) ∧ RDY RT ib k mc mr) ∨ (x = 80 ∧ t 35 k ≠ 26 ∧ mr 475 8 = 6 ∧ mr 475 9 = t 36 k)
theorem rd_fin {N : Nat} {m : Mem} {x : Int} (h : 0 < m 475 8) : pM_finishes N m x = some m := by
  unfold pM_finishes
  rw [rd_lex h]
  exact if_pos h
theorem o_fin {N : Nat} {T : Int → Int} {L : Int} {t mc : Mem} {en : Int → Int} {ib k x : Int} (hN : 2000 ≤ N) (hL : 0 ≤ L ∧ L ≤ 1600) (h : SPt T L t en) (hc : CKt t mc k) : Rn (pR_take mc 59) (fun r => Fr FCv mc r.2 ∧ ((r.1 = 1 ∧ CKt t r.2 (k + 1) ∧ ∀ mr, RDs (RTj T L t en) t ib k mc mr → Rn (pM_finishes N mr x) (fun mr' => LTp (RTj T L t en) t ib x (k + 1) r.2 mr' ∧ Fr (FV ib) mr mr')) ∨ (r.1 = 0 ∧ 1 ≤ r.2 18 1 ∧ ∀ mr, RDs (RTj T L t en) t ib k mc mr → Rn (pM_finishes N mr x) (fun mr' => mr' 475 8 = r.2 18 1 ∧ mr' 475 9 = r.2 18 2 ∧ Fr (FV ib) mr mr')))) := by
  have hz := h.NX hL
  refine rn_q (ck_take (x := 59) hz hc (by decide)) (fun r hr => ?_)
  obtain ⟨r1, r2⟩ := r
  rcases hr with ⟨q, e1, e2, c⟩ | ⟨q, e1, hb⟩
  · have e2' : r2 = mset mc 18 7 (k + 1) := e2
    have fc : Fr (fun b j => b = 18 ∨ (b = 19 ∧ j = 5)) mc r2 := by
      rw [e2']
      exact Fr.rfl'.set (Or.inl rfl)
    refine ⟨?_, Or.inl ⟨e1, c, fun mr hm => ?_⟩⟩
    · show Fr FCv mc r2
      rw [e2']
      exact Fr.rfl'.set (by unfold FCv; omega)
    · rcases hm with hm | hm
      · refine rn_q (r_semi (x := x) hN hL h hc.1 hm.1) (fun m' hm' => ?_)
        obtain ⟨f, hm'⟩ := hm'
        refine ⟨?_, f.mono (fun b j c => FV_ab c)⟩
        rcases hm' with d | d | d
        · exact absurd q d.1
        · exact Or.inr d.2
        · exact Or.inl ⟨d.2.1, hm.step fc f (by omega) d.2.2⟩
      · omega
  · have hb' : BADk 1 (plcT t k) mc r2 := hb
    refine ⟨hb'.2.2.mono (fun b j c => FCv_k c), Or.inr ⟨e1, ?_, fun mr hm => ?_⟩⟩
    · show 1 ≤ r2 18 1
      rw [hb'.1]; decide
    · rcases hm with hm | hm
      · refine rn_q (r_semi (x := x) hN hL h hc.1 hm.1) (fun m' hm' => ?_)
        obtain ⟨f, hm'⟩ := hm'
        rcases hm' with d | d | d
        · exact ⟨d.2.1.trans hb'.1.symm, d.2.2.trans hb'.2.1.symm, f.mono (fun b j c => FV_ab c)⟩
        · exact absurd d.1 q
        · exact absurd d.1 q
      · rw [rd_fin (by omega)]
        exact rn_s ⟨hm.1.trans hb'.1.symm, hm.2.1.trans hb'.2.1.symm, Fr.rfl'⟩
