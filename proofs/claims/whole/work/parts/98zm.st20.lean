/-! VALLEY: statements side by side: PERSON, the statement -/
noncomputable def PZb (N : Nat) : Mem → Option Mem := fun n95 => if 0 < n95 475 8 then some n95 else if 0 ≤ n95 475 29 ∧ n95 475 29 < 2 then (some (w32 ((w32 (6 * (n95 475 29))) + (n95 480 (n95 475 29))) : Int)).bind fun x1_120 => if 0 ≤ x1_120 ∧ x1_120 < 12 then (some (mset n95 490 x1_120 (n95 475 7))).bind fun m130 => (pM_ahead N m130).bind (GQ1 N x1_120) else none else none
noncomputable def PZ (N : Nat) : Mem → Option Mem := fun m20 => (pM_lex m20).bind fun m28 => if 0 < m28 475 8 then some m28 else (if m28 475 3 = 1 then (pM_isOwn m28 (m28 475 7)).bind fun r52 => if r52 = 0 then some (m28) else (pM_blame m28 1 (m28 475 4)).bind fun m64 => some (m64) else (pM_blame m28 1 (m28 475 4)).bind fun m64 => some (m64)).bind fun n67 => (if n67 475 8 = 0 then (pM_named N n67 (n67 475 7)).bind fun r79 => if r79 = (-1) then some (n67) else (pM_blame n67 2 (n67 475 4)).bind fun m92 => some (m92) else some (n67)).bind (PZb N)
theorem e_personing {N : Nat} {m : Mem} : pM_personing N m = (if 0 ≤ m 475 29 ∧ m 475 29 < 2 then (some (if m 480 (m 475 29) = 6 then 1 else 0 : Int)).bind fun ys1_20 => (pM_counts N m ys1_20).bind fun (r20, m20) => if r20 = 0 then some m20 else PZ N m20 else none) := rfl
theorem r_pz1 {N : Nat} {t m : Mem} {RT : Int → Mem → Prop} {k : Int} (hL : LX N t RT) (h : LVr RT k m) (hc : t 35 k ≠ 24) : Rn (PZ N m) (BADr 1 (plcT t k) m) := by
  have hr := hL.1 _ _ h.1
  have h8 := h.2
  unfold PZ
  rcases r_lexM hr h.2 with ⟨e1, l⟩ | ⟨e1, e2⟩
  · refine rn_e e1 (rn_f (by omega) ?_)
    have bl : Rn ((pM_blame m 1 (m 475 4)).bind fun m64 => some m64) (BADr 1 (plcT t k) m) := by
      rw [e_blame h8, plc_live hr l]
      exact rn_v (rn_s BADr.mk')
    refine rn_b (P := BADr 1 (plcT t k) m) ?_ (fun m1 h1 => ?_)
    · refine rn_i (fun q => ?_) (fun _ => bl)
      have hw : (0 ≤ t 35 k ∧ t 35 k ≤ 24) ∧ ∀ i : Nat, i < 24 → (m 475 7 = ownW i ↔ t 35 k = i) := by
        rcases hr.2 with c | c
        · rcases c.2 with d | d
          · omega
          · omega
        · rcases c.2.2 with d | d | d | d
          · omega
          · omega
          · exact ⟨⟨d.1, d.2.1⟩, d.2.2.2⟩
          · omega
      obtain ⟨y, ey, hy⟩ := e_own (m := m) hw.2 hw.1
      refine rn_e ey (rn_f ?_ bl)
      rcases hy with hy | hy
      · omega
      · exact absurd hy.2 hc
    · refine rn_b (P := fun m2 => m2 = m1) (rn_f (by rw [h1.1]; decide) (rn_s rfl)) (fun m2 h2 => ?_)
      rw [h2]
      exact rn_t (by rw [h1.1]; decide) (rn_s h1)
  · refine rn_e e2 (rn_t ?_ (rn_s BADr.mk'))
    rw [mset_o (by omega), mset_s rfl rfl]
    decide
theorem r_pz2 {N : Nat} {t m : Mem} {RT : Int → Mem → Prop} {k ib i : Int} (hN : 2000 ≤ N) (hL : LX N t RT) (h : LVr RT k m) (hc : t 35 k = 24) (hib : ib = 0 ∨ ib = 1) (hi : 0 ≤ i ∧ i < 6) (h29 : m 475 29 = ib) (h480 : m 480 ib = i) : ((∃ a, 0 ≤ a ∧ a < i ∧ m 490 (6 * ib + a) = m 475 7) ∧ Rn (PZ N m) (BADr 2 (t 36 k) m)) ∨ ((∀ a, 0 ≤ a → a < i → m 490 (6 * ib + a) ≠ m 475 7) ∧ ∀ Q, Rn ((pM_ahead N (mset m 490 (6 * ib + i) (m 475 7))).bind (GQ1 N (6 * ib + i))) Q → Rn (PZ N m) Q) := by
  have hr := hL.1 _ _ h.1
  have h8 := h.2
  have hw : m 475 3 = 1 ∧ ∀ i : Nat, i < 24 → (m 475 7 = ownW i ↔ t 35 k = i) := by
    rcases hr.2 with c | c
    · omega
    · rcases c.2.2 with d | d | d | d
      · omega
      · omega
      · exact ⟨d.2.2.1, d.2.2.2⟩
      · have := d.1
        unfold isSg at this
        omega
  have e1 : pM_lex m = some m := by
    rcases r_lexM hr h8 with ⟨e1, -⟩ | ⟨e1, -⟩
    · exact e1
    · omega
  obtain ⟨y, ey, hy⟩ := e_own (m := m) hw.2 (by omega)
  have hy0 : y = 0 := by
    rcases hy with hy | hy
    · omega
    · exact hy.1
  have up : ∀ Q, Rn (((pM_named N m (m 475 7)).bind fun r79 => if r79 = (-1) then some (m) else (pM_blame m 2 (m 475 4)).bind fun m92 => some (m92)).bind (PZb N)) Q → Rn (PZ N m) Q := by
    intro Q hQ
    unfold PZ
    refine rn_e e1 (rn_f (by omega) (rn_e (a := m) ?_ ?_))
    · rw [if_pos hw.1, ey]
      exact if_pos hy0
    · rw [if_pos h8]
      exact hQ
  obtain ⟨z, ez, hz⟩ := r_named (v := m 475 7) hN hib (by omega) h29 h480
  rcases hz with ⟨z1, z2⟩ | ⟨z1, z2⟩
  · refine Or.inl ⟨z2, up _ ?_⟩
    rw [ez]
    refine rn_b (P := BADr 2 (t 36 k) m) ?_ (fun m1 h1 => ?_)
    · refine rn_v (rn_f z1 ?_)
      rw [e_blame h8, hr.1]
      exact rn_v (rn_s BADr.mk')
    · unfold PZb
      exact rn_t (by rw [h1.1]; decide) (rn_s h1)
  · refine Or.inr ⟨z2, fun Q hQ => up _ ?_⟩
    rw [ez]
    refine rn_e (a := m) (if_pos z1) ?_
    unfold PZb
    refine rn_f (by omega) ?_
    rw [h29, h480, w32_eq (x := 6 * ib) (by omega) (by omega), w32_eq (x := 6 * ib + i) (by omega) (by omega)]
    exact rn_t (by omega) (rn_v (rn_t (by omega) (rn_v hQ)))
/-- a name that stands already, on both sides -/
theorem there_iff {ib i n : Int} {mc mr m : Mem} {T : Int → Int} (h3 : mc 19 3 = i) (hi : 0 ≤ i ∧ i < 6) (hD : DR (NP ib mc mr)) (f : Fr (fun b j => b = 18 ∨ (b = 21 ∧ 6 * i ≤ j ∧ j < 6 * i + 6)) mc m) (hn : 1 ≤ n ∧ n ≤ 6) (hT : ∀ j, 0 ≤ j → j < n → 97 ≤ T j ∧ T j ≤ 122) (h : ∀ j, 0 ≤ j → j < 6 → m 21 (6 * i + j) = (if j < n then T j - 96 else 0)) {a : Int} (ha : 0 ≤ a ∧ a < i) : rowE m a i ↔ mr 490 (6 * ib + a) = packW T n.toNat := by
  obtain ⟨hm, hp⟩ := row_new hn hT h
  have hq := (hD.2.2.2.1.2.2 a ha.1 (by rw [NP_pl (by omega)]; show a < mc 19 3; omega)).2.1
  obtain ⟨k, k1, k2, k3, k4⟩ := hq
  have e : ∀ j, 0 ≤ j → j < 6 → NP ib mc mr 4 (6 * a + j) = m 21 (6 * a + j) := fun j j0 j1 => by
    rw [NP_pl (by omega)]
    exact (f 21 (6 * a + j) (by omega)).symm
  have hg : NMr (fun j => m 21 (6 * a + j)) k := by
    refine ⟨k1, fun j j0 j1 => ?_, fun j j0 j1 => ?_⟩
    · show 1 ≤ m 21 (6 * a + j) ∧ m 21 (6 * a + j) ≤ 26
      rw [← e j j0 (by omega)]
      exact k2 j j0 j1
    · show m 21 (6 * a + j) = 0
      rw [← e j (by omega) j1]
      exact k3 j j0 j1
  have e490 : mr 490 (6 * ib + a) = packW (fun j => m 21 (6 * a + j) + 96) k := by
    rw [NP_bk, NP_rf (by omega) (by omega)] at k4
    rw [k4]
    exact packW_ext (fun j hj => by show NP ib mc mr 4 (6 * a + j) + 96 = m 21 (6 * a + j) + 96; rw [e j (by omega) (by omega)])
  rw [e490, ← hp]
  exact name_eq hg hm
theorem o_person {N : Nat} {t mc : Mem} {RT : Int → Mem → Prop} {T : Int → Int} {L ib k : Int} (hN : 2000 ≤ N) (hL : LX N t RT) (hz : NXt t) (hib : ib = 0 ∨ ib = 1) (hcz : CZm mc) (h : CKt t mc k) (hk : t 35 k = 3) (hLs : L ≤ 1600) (hT : ∀ j, 0 ≤ j → j < L → mc 1 j = T j)
    (hnm : k + 1 < t 18 6 → t 35 (k + 1) = 24 → (1 ≤ t 37 (k + 1) ∧ t 37 (k + 1) ≤ 6) ∧ (0 ≤ t 36 (k + 1) ∧ t 36 (k + 1) + t 37 (k + 1) ≤ L) ∧ ∀ j, 0 ≤ j → j < t 37 (k + 1) → 97 ≤ T (t 36 (k + 1) + j) ∧ T (t 36 (k + 1) + j) ≤ 122)
    (hrt : ∀ m, RT (k + 1) m → t 35 (k + 1) = 24 → m 475 7 = packW (fun j => T (t 36 (k + 1) + j)) (t 37 (k + 1)).toNat) : Rn (pR_readPerson N mc) (STM t RT ib k mc (pM_personing N)) := by
  have hi3 := hcz.2
  have h01 := h.1
  have hz1 := hz.1
  have hk1 := hz.2 k h.1.1 h.1.2 (by omega) (by omega)
  have hp := ck_pass hz h hk1
  have fp : Fr FCv mc (mset mc 18 7 (k + 1)) := Fr.rfl'.set (by unfold FCv; omega)
  have r480 : ∀ mr, RDY RT ib k mc mr → mr 480 ib = mc 19 3 := fun mr hr => by
    have := hr.2.2.1.2.2.2.1.2.1
    rw [NP_bk, NP_rf (by omega) (by omega), NP_pl (by omega)] at this
    exact this
  unfold pR_readPerson
  refine rn_v ?_
  by_cases q6 : mc 19 3 < 6
  case neg =>
    refine rn_f q6 (rn_b (ck_wrong (x := 6) hz h) (fun r hr => ?_))
    obtain ⟨r1, r2⟩ := r
    have hb : BADk 6 (t 36 k) mc r2 := hr.2
    refine rn_s ⟨hb.2.2.mono (fun b j c => FCv_k c), Or.inr ⟨hr.1, ?_, fun mr hm => ?_⟩⟩
    · show 1 ≤ r2 18 1
      rw [hb.1]; decide
    · rw [e_personing, hm.2.1, r480 mr hm, if_pos (show mc 19 3 = 6 by omega)]
      refine rn_t (by omega) (rn_v (rn_b (rk_counts (x := 1) hL ⟨h.1.1, hk1⟩ hm.1) (fun s hs => ?_)))
      obtain ⟨s1, s2⟩ := s
      rcases hs with ⟨c, -⟩ | ⟨-, c, hb'⟩
      · exact absurd c (by decide)
      · exact rn_t c (rn_s ⟨hb'.1.trans hb.1.symm, hb'.2.1.trans hb.2.1.symm, hb'.2.2.mono (fun b j c => FV_b c)⟩)
  -- the reference up to the name
  have rf : ∀ mr, RDY RT ib k mc mr → ∀ Q, (∀ m1, LVr RT (k + 1) m1 → Fr FRa mr m1 → Rn (PZ N m1) Q) → Rn (pM_personing N mr) Q := by
    intro mr hm Q hQ
    rw [e_personing, hm.2.1, r480 mr hm, if_neg (show ¬ mc 19 3 = 6 by omega)]
    refine rn_t (by omega) (rn_v (rn_b (rk_counts (x := 0) hL ⟨h.1.1, hk1⟩ hm.1) (fun s hs => ?_)))
    obtain ⟨s1, s2⟩ := s
    rcases hs with ⟨-, e, l, f⟩ | ⟨c, -⟩
    · have e' : s1 = 1 := e
      exact rn_f (by omega) (hQ s2 l f)
    · exact absurd rfl c
  refine rn_t q6 (rn_e hp.1 ?_)
  have e35 : mset mc 18 7 (k + 1) 35 (k + 1) = t 35 (k + 1) := hp.2.2.2.1 35 (k + 1) (by omega)
  have e7 : mset mc 18 7 (k + 1) 18 7 = k + 1 := mset_s rfl rfl
  rw [e7, e35]
  refine rn_t (by omega) ?_
  by_cases q24 : t 35 (k + 1) = 24
  case neg =>
    refine rn_f q24 (rn_b (ck_astray hz hp.2) (fun r hr => ?_))
    obtain ⟨r1, r2⟩ := r
    have hb : BADk 1 (plcT t (k + 1)) (mset mc 18 7 (k + 1)) r2 := hr.2
    refine rn_s ⟨fp.trans (hb.2.2.mono (fun b j c => FCv_k c)), Or.inr ⟨hr.1, ?_, fun mr hm => ?_⟩⟩
    · show 1 ≤ r2 18 1
      rw [hb.1]; decide
    · refine rf mr hm _ (fun m1 l f => rn_q (r_pz1 hL l q24) (fun m2 hb' => ⟨hb'.1.trans hb.1.symm, hb'.2.1.trans hb.2.1.symm, (f.mono (fun b j c => FV_a c)).trans (hb'.2.2.mono (fun b j c => FV_b c))⟩))
  refine rn_t q24 ?_
  obtain ⟨n1, n2, n3⟩ := hnm hk1 q24
  have hi : 0 ≤ mc 19 3 ∧ mc 19 3 < 6 := ⟨hi3.1, q6⟩
  refine rn_b (c_wname (T := fun j => T (t 36 (k + 1) + j)) hN hz hp.2 hi n1 ⟨n2.1, by omega⟩ (fun j j0 j1 => ⟨?_, n3 j j0 j1⟩)) (fun m47 hw => ?_)
  · rw [mset_o (by omega)]
    exact hT _ (by omega) (by omega)
  obtain ⟨fw, hw⟩ := hw
  have F1 : Fr (fun b j => b = 18 ∨ (b = 21 ∧ 6 * mc 19 3 ≤ j ∧ j < 6 * mc 19 3 + 6)) mc m47 := (Fr.set Fr.rfl' (Or.inl rfl)).trans (fw.mono (fun b j c => Or.inr c))
  have F2 : Fr FCv mc m47 := fp.trans (fw.mono (fun b j c => by unfold FCv; omega))
  have hc2 : CKt t m47 (k + 1) := hp.2.fr fw (fun b j c => by omega)
  obtain ⟨y, ey, hy⟩ := c_there (m := m47) hN hi
  have eT : (fun j => T (t 36 (k + 1) + j)) = (fun j => T (t 36 (k + 1) + j)) := rfl
  have iffR : ∀ mr, RDY RT ib k mc mr → ∀ m1, LVr RT (k + 1) m1 → Fr FRa mr m1 → ∀ a, 0 ≤ a → a < mc 19 3 → (rowE m47 a (mc 19 3) ↔ m1 490 (6 * ib + a) = m1 475 7) := by
    intro mr hm m1 l f a a0 a1
    rw [hrt m1 l.1 q24, f 490 (6 * ib + a) (by unfold FRa; omega)]
    exact there_iff rfl hi hm.2.2.1 F1 n1 n3 hw ⟨a0, a1⟩
  have m1z : ∀ mr, RDY RT ib k mc mr → ∀ m1, Fr FRa mr m1 → m1 475 29 = ib ∧ m1 480 ib = mc 19 3 := fun mr hm m1 f => ⟨(f _ _ (by unfold FRa; omega)).trans hm.2.1, (f _ _ (by unfold FRa; omega)).trans (r480 mr hm)⟩
  refine rn_e ey ?_
  rcases hy with ⟨rfl, a, a0, a1, hrow⟩ | ⟨rfl, hno⟩
  · refine rn_f (by decide) (rn_b (ck_wrong (x := 2) hz hc2) (fun r hr => ?_))
    obtain ⟨r1, r2⟩ := r
    have hb : BADk 2 (t 36 (k + 1)) m47 r2 := hr.2
    refine rn_s ⟨F2.trans (hb.2.2.mono (fun b j c => FCv_k c)), Or.inr ⟨hr.1, ?_, fun mr hm => ?_⟩⟩
    · show 1 ≤ r2 18 1
      rw [hb.1]; decide
    · refine rf mr hm _ (fun m1 l f => ?_)
      have hz9 := m1z mr hm m1 f
      rcases r_pz2 hN hL l q24 hib hi hz9.1 hz9.2 with ⟨-, c⟩ | ⟨c, -⟩
      · exact rn_q c (fun m2 hb' => ⟨hb'.1.trans hb.1.symm, hb'.2.1.trans hb.2.1.symm, (f.mono (fun b j c => FV_a c)).trans (hb'.2.2.mono (fun b j c => FV_b c))⟩)
      · exact absurd ((iffR mr hm m1 l f a a0 a1).1 hrow) (c a a0 a1)
  · have hk2 := hz.2 (k + 1) (by omega) hk1 (by omega) (by omega)
    have hp2 := ck_pass hz hc2 hk2
    have FF : Fr (fun b j => b = 18 ∧ j = 7 ∨ (b = 21 ∧ 6 * mc 19 3 ≤ j ∧ j < 6 * mc 19 3 + 6)) mc (mset m47 18 7 (k + 1 + 1)) := ((Fr.set Fr.rfl' (Or.inl ⟨rfl, rfl⟩)).trans (fw.mono (fun b j c => Or.inr c))).set (Or.inl ⟨rfl, rfl⟩)
    obtain ⟨hm', hpk⟩ := row_new n1 n3 hw
    have tail := o_ptail (N := N) (nm := packW (fun j => T (t 36 (k + 1) + j)) (t 37 (k + 1)).toNat) (x := 6 * ib + mc 19 3) (k0 := k) (m := mset m47 18 7 (k + 1 + 1)) hL hz hib hi rfl rfl (by omega) hcz hp2.2 FF ⟨(t 37 (k + 1)).toNat, hm'.1, fun j j0 j1 => by rw [mset_o (by omega)]; exact hm'.2.1 j j0 j1, fun j j0 j1 => by rw [mset_o (by omega)]; exact hm'.2.2 j j0 j1, by
      rw [← hpk]
      exact packW_ext (fun j hj => by show m47 21 _ + 96 = mset m47 18 7 (k + 1 + 1) 21 _ + 96; rw [mset_o (by omega)])⟩
      (vals := fun b => if b = 490 then packW (fun j => T (t 36 (k + 1) + j)) (t 37 (k + 1)).toNat else if b = 481 then 8 * t 37 (k + 1 + 1 + 1 + 1) + t 37 (k + 1 + 1 + 1) else if b = 482 then t 37 (k + 1 + 1 + 1 + 1 + 1 + 1) else if b = 483 then t 37 (k + 1 + 1 + 1 + 1 + 1 + 1 + 1 + 1) else t 37 (k + 1 + 1 + 1 + 1 + 1 + 1 + 1 + 1 + 1 + 1)) rfl rfl rfl rfl rfl
    refine rn_t rfl (rn_e hp2.1 (rn_q (P := SQt t RT ib k mc (PN RT ib k mc (6 * ib + mc 19 3) _ (fun c => c = 490) (k + 1 + 1)) (GQ1 N (6 * ib + mc 19 3))) tail (fun r hr => ⟨hr.1, ?_⟩)))
    have up : ∀ mr, RDY RT ib k mc mr → ∀ Q, (∀ m', PN RT ib k mc (6 * ib + mc 19 3) (fun b => if b = 490 then packW (fun j => T (t 36 (k + 1) + j)) (t 37 (k + 1)).toNat else if b = 481 then 8 * t 37 (k + 1 + 1 + 1 + 1) + t 37 (k + 1 + 1 + 1) else if b = 482 then t 37 (k + 1 + 1 + 1 + 1 + 1 + 1) else if b = 483 then t 37 (k + 1 + 1 + 1 + 1 + 1 + 1 + 1 + 1) else t 37 (k + 1 + 1 + 1 + 1 + 1 + 1 + 1 + 1 + 1 + 1)) (fun c => c = 490) (k + 1 + 1) mr m' → Rn (GQ1 N (6 * ib + mc 19 3) m') Q) → Rn (pM_personing N mr) Q := by
      intro mr hm Q hQ
      refine rf mr hm _ (fun m1 l f => ?_)
      have hz9 := m1z mr hm m1 f
      rcases r_pz2 hN hL l q24 hib hi hz9.1 hz9.2 with ⟨⟨a, a0, a1, c⟩, -⟩ | ⟨-, c⟩
      · exact absurd ((iffR mr hm m1 l f a a0 a1).2 c) (hno a a0 a1)
      · refine c Q (rn_b (hL.2.2 (k + 1) _ (hL.2.1 _ _ _ l.1 (fun b j c => mset_o (by omega))) (by omega) hk2) (fun m2 h2 => hQ m2 ⟨hm, ⟨h2.1, ?_⟩, ?_, fun b hb => ?_⟩))
        · rw [h2.2 _ _ (by unfold FRa; omega), mset_o (by omega)]
          exact l.2
        · exact ((f.mono (fun b j c => Or.inl c)).set (Or.inr ⟨by omega, rfl⟩)).trans (h2.2.mono (fun b j c => Or.inl c))
        · rw [hb, h2.2 _ _ (by unfold FRa; omega), mset_s rfl rfl, hrt m1 l.1 q24]
          exact (if_pos rfl).symm
    rcases hr.2 with ⟨a1, k', b1, c1, d1⟩ | ⟨a1, b1, c1⟩
    · exact Or.inl ⟨a1, k', b1, c1, fun mr hm => up mr hm _ (fun m' h' => d1 mr m' h')⟩
    · exact Or.inr ⟨a1, b1, fun mr hm => up mr hm _ (fun m' h' => c1 mr m' h')⟩
