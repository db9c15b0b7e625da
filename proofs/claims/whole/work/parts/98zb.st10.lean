/-! VALLEY: statements side by side: LAWS -/
theorem RDY.law {RT : Int → Mem → Prop} {ib k w : Int} {mc mr : Mem} (h : RDY RT ib k mc mr) (hw : 0 ≤ w ∧ w < 3) : (mc (26 + 3 * w) 2 = 0 ∧ mr 486 (3 * ib + w) = -1) ∨ (0 < mc (26 + 3 * w) 2 ∧ 0 ≤ mr 486 (3 * ib + w)) := by
  have hl := (h.2.2.1.2.2.2.2.1 w hw.1 hw.2).2.2.1
  unfold LR at hl
  rw [NP_bk, NP_rf (b := 486) (by omega) (by omega), NP_pl (b := 9 + 3 * w) (by omega), show 9 + 3 * w + 17 = 26 + 3 * w by omega] at hl
  rcases hl with c | c
  · exact Or.inl c
  · exact Or.inr ⟨c.1, c.2.1⟩
theorem RDY.f0 {RT : Int → Mem → Prop} {ib k : Int} {mc mr : Mem} (h : RDY RT ib k mc mr) : 0 ≤ mr 475 28 := by
  have hD6 := h.2.2.1.2.2.2.2.2
  rw [NP_rf (by omega) (by omega)] at hD6
  exact hD6.1
def FRlw (ib w : Int) : Int → Int → Prop := fun b j => FRa b j ∨ (b = 475 ∧ j = 30) ∨ (b = 486 ∧ j = 3 * ib + w)
theorem FRlw_V {ib w b j : Int} (hw : 0 ≤ w ∧ w < 3) (h : FRlw ib w b j) : FV ib b j := by
  rcases h with h | h | h
  · exact FV_a h
  · exact Or.inl ⟨h.1, by omega⟩
  · exact Or.inr (Or.inr (Or.inr (Or.inr (Or.inl ⟨Or.inl h.1, by omega⟩))))
theorem FMs_V {ib f0 b j : Int} (hf : 0 ≤ f0) (h : FMs ib f0 b j) : FV ib b j := by
  rcases h with ⟨a, c⟩ | ⟨a, c, d⟩ | a
  · exact Or.inl ⟨a, by omega⟩
  · exact Or.inr (Or.inr (Or.inr (Or.inr (Or.inr (Or.inl ⟨a, by omega⟩)))))
  · exact Or.inr (Or.inr (Or.inr (Or.inr (Or.inr (Or.inr a)))))
theorem FCs_V {su b j : Int} (hs : 26 ≤ su ∧ su ≤ 32) (h : FCs su b j) : FCv b j := by
  rcases h with ⟨a, c⟩ | ⟨a, c⟩ | a
  · exact Or.inl ⟨a, by omega⟩
  · exact Or.inr (by omega)
  · exact Or.inr (by omega)
theorem law_V {ib w f0 v : Int} {mr m1 m2 : Mem} (hw : 0 ≤ w ∧ w < 3) (hf : 0 ≤ f0) (f1 : Fr (FRlw ib w) mr m1) (fm : Fr (FMs ib f0) m1 m2) : Fr (FV ib) mr (mset m2 487 (3 * ib + w) v) := Fr.set ((f1.mono (fun b j c => FRlw_V hw c)).trans (fm.mono (fun b j c => FMs_V hf c))) (show FV ib 487 (3 * ib + w) from Or.inr (Or.inr (Or.inr (Or.inr (Or.inl ⟨Or.inr rfl, by omega⟩)))))
theorem law_DR {ib w a2 : Int} {mc t' r2 mr m1 m2 : Mem} {E : List (Int × Int)} (hib : ib = 0 ∨ ib = 1) (hw : 0 ≤ w ∧ w < 3) (ha : a2 = 26 + 3 * w) (hD : DR (NP ib mc mr)) (hf0 : 0 ≤ mr 475 28) (hle : mr 475 28 + E.length ≤ 1600) (ft : Fr (fun b _ => b = 18) mc t') (c7 : Fr (FCs a2) t' r2) (c5 : r2 a2 2 = E.length) (c6 : COs r2 (27 + 3 * w) E.length = E) (hne : 0 < (E.length : Int)) (hg : goodL w E) (f1 : Fr (FRlw ib w) mr m1) (e486 : m1 486 (3 * ib + w) = mr 475 28) (fm : Fr (FMs ib (mr 475 28)) m1 m2) (p2 : m2 475 28 = mr 475 28 + E.length) (p3 : RcOk (m2 488) (m2 489) (1600 * ib + mr 475 28) E) : DR (NP ib r2 (mset m2 487 (3 * ib + w) (m2 475 28))) := by
  have F1 : Fr (fun b j => b = 18 ∨ (b = a2 ∧ j = 2) ∨ b = a2 + 1) mc r2 := (ft.mono (fun b j c => Or.inl c)).trans (c7.mono (fun b j c => by
    rcases c with c | c | c
    · exact Or.inl c.1
    · exact Or.inr (Or.inl c)
    · exact Or.inr (Or.inr c)))
  have F2 : Fr (fun b j => b = 475 ∨ ((b = 486 ∨ b = 487) ∧ j = 3 * ib + w) ∨ ((b = 488 ∨ b = 489) ∧ 1600 * ib + mr 475 28 ≤ j) ∨ (491 ≤ b ∧ b ≤ 496)) mr (mset m2 487 (3 * ib + w) (m2 475 28)) := by
    refine Fr.set ((f1.mono (fun b j c => ?_)).trans (fm.mono (fun b j c => ?_))) (Or.inr (Or.inl ⟨Or.inr rfl, rfl⟩))
    · rcases c with c | c | c
      · exact Or.inl c.1
      · exact Or.inl c.1
      · exact Or.inr (Or.inl ⟨Or.inl c.1, c.2⟩)
    · rcases c with c | c | c
      · exact Or.inl c.1
      · exact Or.inr (Or.inr (Or.inl ⟨c.1, c.2.1⟩))
      · exact Or.inr (Or.inr (Or.inr c))
  have P4 : ∀ b j, ((b = 475 ∧ (j = 13 ∨ j = 41)) ∨ (b ≠ 475 ∧ ¬ (b = 9 + 3 * w ∧ j = 2) ∧ b ≠ 10 + 3 * w ∧ ¬ ((b = 486 ∨ b = 487) ∧ j = 3 * ib + w) ∧ ¬ ((b = 488 ∨ b = 489) ∧ 1600 * ib + mr 475 28 ≤ j) ∧ ¬ (491 ≤ b ∧ b ≤ 496))) → NP ib r2 (mset m2 487 (3 * ib + w) (m2 475 28)) b j = NP ib mc mr b j := by
    intro b j c
    refine NP_fr F1 F2 (fun z v => ?_) (fun z => ?_)
    · rcases v with v | v | v
      · omega
      · exact absurd v.2 (by omega)
      · omega
    · by_cases q : b = 475 ∧ (j = 13 ∨ j = 41)
      · exact Or.inl q
      · refine Or.inr (fun v => ?_)
        have c' := c.resolve_left q
        rcases v with v | v | v | v
        · exact c'.1 v
        · exact c'.2.2.2.1 v
        · exact c'.2.2.2.2.1 v
        · exact c'.2.2.2.2.2 v
  have n13 : NP ib r2 (mset m2 487 (3 * ib + w) (m2 475 28)) 475 13 = ib := NP_bk
  have n28 : NP ib mc mr 475 28 = mr 475 28 := NP_rf (by omega) (by omega)
  have e28 : NP ib r2 (mset m2 487 (3 * ib + w) (m2 475 28)) 475 28 = mr 475 28 + E.length := by rw [NP_rf (by omega) (by omega), mset_o (by omega)]; exact p2
  have g1 : NP ib r2 (mset m2 487 (3 * ib + w) (m2 475 28)) (9 + 3 * w) 2 = E.length := by rw [NP_pl (by omega), show 9 + 3 * w + 17 = a2 by omega]; exact c5
  have g2 : codeOf (NP ib r2 (mset m2 487 (3 * ib + w) (m2 475 28))) w = E := by
    rw [codeOf_NP hw, ← ha, c5, Int.toNat_natCast]; exact c6
  have g3 : NP ib r2 (mset m2 487 (3 * ib + w) (m2 475 28)) 486 (3 * ib + w) = mr 475 28 := by
    rw [NP_rf (by omega) (by omega), mset_o (by omega), fm _ _ (by unfold FMs; omega)]; exact e486
  have g4 : NP ib r2 (mset m2 487 (3 * ib + w) (m2 475 28)) 487 (3 * ib + w) = mr 475 28 + E.length := by
    rw [NP_rf (by omega) (by omega), mset_s rfl rfl]; exact p2
  have g5 : RcOk (NP ib r2 (mset m2 487 (3 * ib + w) (m2 475 28)) 488) (NP ib r2 (mset m2 487 (3 * ib + w) (m2 475 28)) 489) (1600 * ib + mr 475 28) E := by
    refine p3.eq' (fun j _ _ => ⟨?_, ?_⟩)
    · rw [NP_rf (by omega) (by omega), mset_o (by omega)]
    · rw [NP_rf (by omega) (by omega), mset_o (by omega)]
  have nb : NP ib mc mr 475 13 = ib := NP_bk
  generalize NP ib r2 (mset m2 487 (3 * ib + w) (m2 475 28)) = P' at P4 n13 e28 g1 g2 g3 g4 g5 ⊢
  generalize NP ib mc mr = P at P4 n28 nb hD
  refine ⟨hD.1.fr (fun b j c => P4 b j (by omega)), hD.2.1.fr (fun b j c => P4 b j (by omega)), hD.2.2.1.fr (fun b j c => P4 b j (by omega)), hD.2.2.2.1.fr (fun b j c => P4 b j (by omega)), fun v v0 v1 => ?_, by omega⟩
  by_cases q : v = w
  · subst q
    unfold Dl LR
    rw [n13, g1, g2, g3, g4, e28]
    exact ⟨⟨by omega, by omega⟩, fun _ => hg, Or.inr ⟨hne, hf0, rfl, hle, g5⟩, fun _ => Int.le_refl _⟩
  · refine (hD.2.2.2.2.1 v v0 v1).fr (fun b j c => P4 b j ?_) (by omega)
    rw [nb, n28] at c
    omega
theorem r_law0 {N : Nat} {t mc : Mem} {RT : Int → Mem → Prop} {ib k w : Int} (hL : LX N t RT) (hib : ib = 0 ∨ ib = 1) (hw : 0 ≤ w ∧ w < 3) (hk : 0 ≤ k ∧ k + 1 < t 18 6) (h0 : mc (26 + 3 * w) 2 = 0) {mr : Mem} (h : RDY RT ib k mc mr) {Q : Mem → Prop} (hQ : ∀ m1, Fr (FRlw ib w) mr m1 → LVr RT (k + 1) m1 → m1 475 30 = w → m1 486 (3 * ib + w) = mr 475 28 → Rn ((pM_reads N m1 0).bind fun m49 => if 0 ≤ 3 * ib + w ∧ 3 * ib + w < 6 then (some (mset m49 487 (3 * ib + w) (m49 475 28))).bind fun m61 => some m61 else none) Q) : Rn (pM_reading N mr w) Q := by
  have e29 := h.2.1
  have e486 : mr 486 (3 * ib + w) = -1 := by
    rcases h.law hw with c | c
    · exact c.2
    · omega
  unfold pM_reading
  rw [e29, w32_eq (x := 3 * ib) (by omega) (by omega), w32_eq (x := 3 * ib + w) (by omega) (by omega)]
  refine rn_v (rn_t (by omega) ?_)
  rw [if_pos e486]
  refine rn_v (rn_b (rk_counts (x := 0) hL hk h.1) (fun r hr => ?_))
  obtain ⟨r1, r2⟩ := r
  rcases hr with ⟨-, e, l, f⟩ | ⟨c, -⟩
  · have e' : r1 = 1 := e
    have l' : LVr RT (k + 1) r2 := l
    have f' : Fr FRa mr r2 := f
    refine rn_f (by omega) (rn_l (fun m34 h34 => rn_t (by omega) (rn_l (fun m46 h46 => ?_))))
    have e28 : m34 475 28 = mr 475 28 := by rw [h34, mset_o (by omega)]; exact f' _ _ (by unfold FRa; omega)
    have ff : Fr (FRlw ib w) mr m46 := by
      rw [h46, h34]
      exact Fr.set (Fr.set (f'.mono (fun b j c => Or.inl c)) (show FRlw ib w 475 30 from Or.inr (Or.inl ⟨rfl, rfl⟩))) (show FRlw ib w 486 (3 * ib + w) from Or.inr (Or.inr ⟨rfl, rfl⟩))
    refine hQ m46 ff ⟨hL.2.1 _ _ _ l'.1 (fun b j c => ?_), ?_⟩ ?_ ?_
    · rw [h46, mset_o (by omega), h34, mset_o (by omega)]
    · rw [h46, mset_o (by omega), h34, mset_o (by omega)]; exact l'.2
    · rw [h46, mset_o (by omega), h34, mset_s rfl rfl]
    · rw [h46, mset_s rfl rfl]; exact e28
  · exact absurd rfl c
theorem o_law {N : Nat} {t mc : Mem} {RT : Int → Mem → Prop} {ib k w x a2 : Int} (hN : 4000 ≤ N) (hL : LX N t RT) (hz : NXt t) (hv : NVt t) (hib : ib = 0 ∨ ib = 1) (hw : 0 ≤ w ∧ w < 3) (hx : x = 8 + w) (ha : a2 = 26 + 3 * w) (hnn : 0 ≤ mc a2 2) (h : CKt t mc k) (hk : t 35 k ≠ 26 ∧ t 35 k ≠ 27) : Rn (pR_readLaw N mc x a2) (STL t RT ib k mc (fun mr => pM_reading N mr w)) := by
  have hk1 := hz.2 k h.1.1 h.1.2 hk.1 hk.2
  have hz1 := hz.1
  have h01 := h.1
  unfold pR_readLaw pU_isTold
  by_cases q : 0 < mc a2 2
  · rw [if_pos q]
    refine rn_v (rn_f (by decide) (rn_b (ck_wrong (x := 6) hz h) (fun r hr => ?_)))
    obtain ⟨r1, r2⟩ := r
    have hr2 : BADk 6 (t 36 k) mc r2 := hr.2
    refine rn_s ⟨hr2.2.2.mono (fun b j c => FCv_k c), Or.inr ⟨hr.1, ?_, fun mr hm => ?_⟩⟩
    · show 1 ≤ r2 18 1
      rw [hr2.1]; decide
    · have e29 := hm.2.1
      have e486 : ¬ mr 486 (3 * ib + w) = -1 := by
        rcases hm.law hw with c | c
        · rw [← ha] at c; omega
        · omega
      show Rn (pM_reading N mr w) _
      unfold pM_reading
      rw [e29, w32_eq (x := 3 * ib) (by omega) (by omega), w32_eq (x := 3 * ib + w) (by omega) (by omega)]
      refine rn_v (rn_t (by omega) ?_)
      rw [if_neg e486]
      refine rn_v (rn_b (rk_counts (x := 1) hL ⟨h01.1, hk1⟩ hm.1) (fun s hs => ?_))
      obtain ⟨s1, s2⟩ := s
      rcases hs with ⟨c, -⟩ | ⟨-, e, hb⟩
      · exact absurd c (by decide)
      · have e' : s1 = 0 := e
        have hb' : BADr 6 (t 36 k) mr s2 := hb
        exact rn_t e' (rn_s ⟨hb'.1.trans hr2.1.symm, hb'.2.1.trans hr2.2.1.symm, hb'.2.2.mono (fun b j c => FV_b c)⟩)
  · rw [if_neg q]
    refine rn_v (rn_t rfl (rn_l (fun m16 h16 => rn_l (fun m21 h21 => ?_))))
    have f21 : Fr (fun b j => b = 18 ∧ (j = 9 ∨ j = 10)) mc m21 := by
      rw [h21, h16]
      exact (Fr.rfl'.set (by omega)).set (by omega)
    have hc21 : CKt t m21 k := h.fr f21 (fun b j c => by omega)
    have hp := ck_pass hz hc21 hk1
    refine rn_e hp.1 ?_
    have e9 : mset m21 18 7 (k + 1) 18 9 = x := by rw [mset_o (by omega), h21, mset_o (by omega), h16, mset_s rfl rfl]
    have e10 : mset m21 18 7 (k + 1) 18 10 = a2 := by rw [mset_o (by omega), h21, mset_s rfl rfl]
    have e2 : mset m21 18 7 (k + 1) a2 2 = 0 := by rw [mset_o (by omega), f21 _ _ (by omega)]; omega
    have ft : Fr (fun b j => b = 18 ∧ (j = 7 ∨ j = 9 ∨ j = 10)) mc (mset m21 18 7 (k + 1)) := (f21.mono (fun b j c => by omega)).set (by omega)
    have hct := hp.2
    generalize mset m21 18 7 (k + 1) = t' at e9 e10 e2 ft hct ⊢
    have he : TEq t t' := hct.2.2.1
    have e6 := he 18 6 (by omega)
    have hWT : WT t' := hz.WT hv he (by omega)
    have hCS : CS t' t' (k + 1) 0 [] := ⟨⟨by omega, by omega⟩, hct.2.1, ⟨by decide, by decide⟩, hct.2.2.2, by rw [e10]; exact e2, rfl, Fr.rfl'⟩
    refine rn_b (sum_top (by omega) hWT hCS) (fun r hr => ?_)
    obtain ⟨r1, r2⟩ := r
    have hrd : ∀ mr, RDY RT ib k mc mr → ∀ res : Rz4, (res.1 = 0 ∨ res.1 = 1 ∨ res.1 = 5) → Ends t' (k + 1, 0, [], [(0, 0, 1, 0, [])], 0) res → ∀ Q, (∀ m1 m2, Fr (FRlw ib w) mr m1 → m1 486 (3 * ib + w) = mr 475 28 → RPo t' RT ib (mr 475 28) res m1 m2 → Q (mset m2 487 (3 * ib + w) (m2 475 28))) → Rn (pM_reading N mr w) Q := by
      clear hr
      intro mr hm res h015 hends Q hQ
      refine r_law0 hL hib hw ⟨h01.1, hk1⟩ (by rw [← ha]; omega) hm (fun m1 f1 l1 e30 e486 => ?_)
      have hD6 := hm.2.2.1.2.2.2.2.2
      rw [NP_rf (by omega) (by omega)] at hD6
      have h28 := hm.2.2.2
      have g30 : m1 475 30 = t' 18 9 - 8 := by rw [e30, e9, hx]; omega
      have gk : 0 ≤ k + 1 ∧ k + 1 < t' 18 6 := by rw [e6]; exact ⟨by omega, hk1⟩
      have gf : 0 ≤ mr 475 28 ∧ mr 475 28 ≤ k + 1 := ⟨hD6.1, by omega⟩
      have g28 : m1 475 28 = mr 475 28 := f1 _ _ (by unfold FRlw FRa; omega)
      have g29 : m1 475 29 = ib := (f1 _ _ (by unfold FRlw FRa; omega)).trans hm.2.1
      refine rn_b (r_reads (t := t') (m := m1) (f0 := mr 475 28) (k := k + 1) hN (hL.fr he) hWT hib h015 gk l1.2 g28 g29 g30 gf l1.1 hends) (fun m2 h2 => rn_t (by omega) (rn_v (rn_s (hQ m1 m2 f1 e486 h2))))
    rcases hr with ⟨e1, j, E, hj, cs, hlen, gv, fb, ends⟩ | ⟨e1, kind, cs', k', b1, b2, ends, bf⟩
    · have cs' : CS t' r2 j 0 E := cs
      obtain ⟨c1, c2, c3, c4, c5, c6, c7⟩ := cs'
      rw [e10] at c5 c6 c7
      have hne : 0 < (E.length : Int) := by
        have := List.length_pos_iff.2 (GV_ne gv (by decide))
        omega
      have fr2 : Fr FCv mc r2 := (ft.mono (fun b j c => Or.inl ⟨c.1, by omega⟩)).trans (c7.mono (fun b j c => FCs_V (by omega) c))
      have hc2 : CKt t r2 j := by
        refine ⟨⟨by omega, by rw [← e6]; exact c1.2⟩, c2, fun b j c => ?_, c4⟩
        rw [c7 b j (by unfold FCs; omega)]
        exact he b j c
      refine rn_s ⟨fr2, Or.inl ⟨e1, j, by omega, hc2, fun mr hm => hrd mr hm _ (Or.inl rfl) ends _ (fun m1 m2 f1 e486 hpo => ?_)⟩⟩
      obtain ⟨fm, hpo, -⟩ := hpo
      have fv := law_V (v := m2 475 28) hw (RDY.f0 hm) f1 fm
      rcases hpo rfl with ⟨p1, p2, p3, p4⟩ | ⟨p1, p2, p3⟩
      · have p2' : m2 475 28 = mr 475 28 + E.length := p2
        have p3' : RcOk (m2 488) (m2 489) (1600 * ib + mr 475 28) E := p3
        have hf0 := RDY.f0 hm
        have h28 := hm.2.2.2
        have hD := hm.2.2.1
        refine ⟨Or.inl ⟨⟨hL.2.1 _ _ _ p4 (fun b j c => mset_o (by omega)), by rw [mset_o (by omega)]; exact p1⟩, (FV_29 fv).trans hm.2.1, ?_, ?_⟩, fv⟩
        · show DR (NP ib r2 (mset m2 487 (3 * ib + w) (m2 475 28)))
          have c6' : COs r2 (27 + 3 * w) E.length = E := by rw [show 27 + 3 * w = a2 + 1 by omega]; exact c6
          have hgood : goodL w E := GV_good gv fb (by omega)
          exact law_DR hib hw ha hD hf0 (by omega) (ft.mono (fun b j c => c.1)) c7 c5 c6' hne hgood f1 e486 fm p2' p3'
        · show mset m2 487 (3 * ib + w) (m2 475 28) 475 28 ≤ j
          rw [mset_o (by omega)]
          omega
      · refine ⟨Or.inr ⟨?_, ?_, ?_⟩, fv⟩
        · rw [mset_o (by omega)]; exact p1
        · rw [mset_o (by omega), ← plcT_eq he]; exact p2
        · rw [← he 35 j (by omega)]; exact p3
    · have fr2 : Fr FCv mc r2 := (ft.mono (fun b j c => Or.inl ⟨c.1, by omega⟩)).trans (bf.mono (fun b j c => FCs_V (by omega) c))
      have b1' : r2 18 1 = kind := b1
      refine rn_s ⟨fr2, Or.inr ⟨e1, ?_, fun mr hm => hrd mr hm _ (Or.inr b2) ends _ (fun m1 m2 f1 e486 hpo => ?_)⟩⟩
      · show 1 ≤ r2 18 1
        omega
      · obtain ⟨fm, -, hpo⟩ := hpo
        have hp2 := hpo (by show kind ≠ 0; omega)
        refine ⟨?_, ?_, ?_⟩
        · rw [mset_o (by omega)]; exact hp2.1.trans b1'.symm
        · rw [mset_o (by omega)]; exact hp2.2
        · exact law_V (v := m2 475 28) hw (RDY.f0 hm) f1 fm
