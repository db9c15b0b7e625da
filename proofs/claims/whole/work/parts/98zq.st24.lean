/-! VALLEY: the whole text, side by side -/
noncomputable def RV (N : Nat) (KR : Int → Mem → Option (Int × Mem)) : Mem → Option (Int × Mem) := fun m127 => (pM_fielding N m127).bind fun m131 => (pM_finishes N m131 1).bind fun m136 => pM_valley_L139 N KR N 1 m136
def FPo (RT : Int → Mem → Prop) (N : Nat) (ib : Int) (mc : Mem) (r : Int × Mem) : Prop := Fr FCv mc r.2 ∧ ((r.1 = 1 ∧ ∃ k' x', (1 ≤ x' ∧ x' ≤ 80) ∧ r.2 19 5 = x' ∧ ∀ mr, STA RT ib mr → ∀ (KR : Int → Mem → Option (Int × Mem)) (Q : Int × Mem → Prop), (∀ mr', RDY RT ib k' r.2 mr' → Fr (FV ib) mr mr' → Rn (KR x' mr') Q) → Rn (RV N KR mr) Q) ∨ (r.1 = 0 ∧ 1 ≤ r.2 18 1 ∧ ∀ mr, STA RT ib mr → ∀ (KR : Int → Mem → Option (Int × Mem)) (Q : Int × Mem → Prop), (∀ x' mr', mr' 475 8 = r.2 18 1 → mr' 475 9 = r.2 18 2 → Fr (FV ib) mr mr' → Rn (KR x' mr') Q) → Rn (RV N KR mr) Q))
theorem o_first {N : Nat} {T : Int → Int} {L : Int} {t mc : Mem} {en : Int → Int} {ib : Int} (hN : 4000 ≤ N) (hL : 0 ≤ L ∧ L ≤ 1600) (hs : SPt T L t en) (hv : NVt t) (hib : ib = 0 ∨ ib = 1) {kk : Mem → Option (Int × Mem)} (hc : CKt t mc 0) (hcl : CLR mc) (hT : ∀ j, 0 ≤ j → j < L → mc 1 j = T j) (hex : ∃ mr, STA (RTj T L t en) ib mr) : Rn (pR_read_L41 N kk N 0 mc) (FPo (RTj T L t en) N ib mc) := by
  have hLX := RTj.LX (N := N) (by omega) hL hs
  have hz := hs.NX hL
  have hz1 := hz.1
  have h01 := hc.1
  have ih := o_loop (N := N) (kk := kk) hN hL hs hv hib 79 (N - 1) 1
  obtain ⟨n, rfl⟩ : ∃ n, N = n + 1 := ⟨N - 1, by omega⟩
  rw [show n + 1 - 1 = n by omega] at ih
  show Rn (pR_read_L41b (n + 1) kk (lpF (fun _ _ => none) (pR_read_L41b (n + 1) kk) n) 0 mc) _
  generalize lpF (fun _ _ => none) (pR_read_L41b (n + 1) kk) n = self at ih ⊢
  obtain ⟨mr0, hm0⟩ := hex
  unfold pR_read_L41b
  refine rn_f (by decide) (rn_jl (fun J hJ => rn_f (by decide) ?_))
  rw [hJ]
  refine rn_f (by decide) ?_
  rw [if_pos (show (0 : Int) = 0 from rfl)]
  refine rn_v (rn_b (o_field hLX hz hib hc hcl) (fun r hr => ?_))
  obtain ⟨r1, m99⟩ := r
  obtain ⟨f1, hr⟩ := hr
  have f1' : Fr FCv mc m99 := f1
  rcases hr with ⟨e1, k', hk', hc', hst⟩ | ⟨e1, b1, hst⟩
  · have e1' : r1 = 1 := e1
    have hc2 : CKt t m99 k' := hc'
    have hst' : ∀ mr, STA (RTj T L t en) ib mr → Rn (pM_fielding (n + 1) mr) (fun mr' => RDs (RTj T L t en) t ib k' m99 mr' ∧ Fr (FV ib) mr mr') := fun mr hm => rn_q (hst mr mr ⟨rfl, hm⟩) (fun mr' h' => ⟨Or.inl h'.1, h'.2⟩)
    refine rn_f (by omega) (rn_b (o_fin (x := 1) (ib := ib) (N := n + 1) (by omega) hL hs hc2) (fun s hs2 => ?_))
    obtain ⟨s1, m108⟩ := s
    obtain ⟨f2, hs2⟩ := hs2
    have f2' : Fr FCv m99 m108 := f2
    have f12 : Fr FCv mc m108 := f1'.trans f2'
    rcases hs2 with ⟨e2, hc3, hfi⟩ | ⟨e2, b2, hfi⟩
    · have e2' : s1 = 1 := e2
      have hc3' : CKt t m108 (k' + 1) := hc3
      have both : ∀ mr, STA (RTj T L t en) ib mr → Rn (pM_fielding (n + 1) mr) (fun m1 => Rn (pM_finishes (n + 1) m1 1) (fun m2 => LTp (RTj T L t en) t ib 1 (k' + 1) m108 m2 ∧ Fr (FV ib) mr m2)) := fun mr hm =>
        rn_q (hst' mr hm) (fun m1 h1 => rn_q (hfi m1 h1.1) (fun m2 h2 => ⟨h2.1, h1.2.trans h2.2⟩))
      have ex2 : ∃ mr, LTp (RTj T L t en) t ib 1 (k' + 1) m108 mr := by
        obtain ⟨m1, -, m2, -, h2⟩ := both mr0 hm0
        exact ⟨m2, h2.1⟩
      have w1 : w32 ((0 : Int) + 1) = 1 := w32_eq (by decide) (by decide)
      refine rn_f (by omega) ?_
      rw [w1]
      refine rn_v (rn_q (ih (k' + 1) m108 (by omega) (by decide) (by decide) hc3' (fun j j0 j1 => by rw [f12 1 j (by unfold FCv; omega)]; exact hT j j0 j1) ex2) (fun r hr => ⟨f12.trans hr.1, ?_⟩))
      rcases hr.2 with ⟨a1, kf, xf, a2, a3, a4⟩ | ⟨a1, a2, a4⟩
      · refine Or.inl ⟨a1, kf, xf, a2, a3, fun mr hm KR Q hQ => ?_⟩
        unfold RV
        refine rn_b (both mr hm) (fun m1 h1 => rn_b h1 (fun m2 h2 => ?_))
        exact a4 m2 h2.1 (n + 1) (by omega) KR Q (fun mr' hr' fr' => hQ mr' hr' (h2.2.trans fr'))
      · refine Or.inr ⟨a1, a2, fun mr hm KR Q hQ => ?_⟩
        unfold RV
        refine rn_b (both mr hm) (fun m1 h1 => rn_b h1 (fun m2 h2 => ?_))
        exact a4 m2 h2.1 (n + 1) (by omega) KR Q (fun x' mr' g8 g9 fr' => hQ x' mr' g8 g9 (h2.2.trans fr'))
    · have e2' : s1 = 0 := e2
      have b2' : 1 ≤ m108 18 1 := b2
      refine rn_t e2' (rn_s ⟨f12, Or.inr ⟨rfl, b2', fun mr hm KR Q hQ => ?_⟩⟩)
      unfold RV
      refine rn_b (hst' mr hm) (fun m1 h1 => rn_b (hfi m1 h1.1) (fun m2 h2 => ?_))
      have g8 : m2 475 8 = m108 18 1 := h2.1
      exact lp_out (n2 := n + 1) (by omega) (by omega) (hQ 1 m2 g8 h2.2.1 (h1.2.trans h2.2.2))
  · have e1' : r1 = 0 := e1
    have b1' : 1 ≤ m99 18 1 := b1
    refine rn_t e1' (rn_s ⟨f1', Or.inr ⟨rfl, b1', fun mr hm KR Q hQ => ?_⟩⟩)
    unfold RV
    refine rn_b (hst mr mr ⟨rfl, hm⟩) (fun m1 h1 => ?_)
    have g8 : m1 475 8 = m99 18 1 := h1.1
    rw [rd_fin (by omega)]
    exact rn_v (lp_out (n2 := n + 1) (by omega) (by omega) (hQ 1 m1 g8 h1.2.1 h1.2.2))
/-- the reference begins -/
def FVs (ib : Int) : Int → Int → Prop := fun b j => FV ib b j ∨ (b = 475 ∧ (j = 1 ∨ j = 2 ∨ j = 29))
noncomputable def KRv (N : Nat) : Int → Mem → Option (Int × Mem) := fun z1_168 n168 => (some (mset n168 475 10 (n168 475 8))).bind fun m173 => (some (mset m173 475 11 (m173 475 9))).bind fun m181 => if 0 < m181 475 8 then (pM_refuses m181 1).bind fun (r193, m193) => some (r193, m193) else (some (mset m181 475 13 (m181 475 29))).bind fun m202 => (some (mset m202 475 41 1)).bind fun m207 => (pM_begin N m207).bind fun m211 => some (z1_168, m211)
noncomputable def RBg (N : Nat) (K : Mem → Option (Int × Mem)) (m : Mem) : Option (Int × Mem) := (some (mset m 475 2 (m 475 1))).bind fun m5 => (some (mset m5 475 1 0)).bind fun m10 => (some (mset m10 475 5 0)).bind fun m15 => (some (mset m15 475 8 0)).bind fun m20 => (some (mset m20 475 9 (-1))).bind fun m25 => (some (mset m25 475 29 (w32 (1 - (m25 475 13))))).bind fun m35 => if 0 ≤ m35 475 29 ∧ m35 475 29 < 2 then (some (mset m35 480 (m35 475 29) 0)).bind fun m47 => if 0 ≤ m47 475 29 ∧ m47 475 29 < 2 then (some (mset m47 485 (m47 475 29) 0)).bind fun m57 => pM_valley_L60 N (fun n87 => (some (w32 (3 * (n87 475 29)) : Int)).bind fun x1_93 => pM_valley_L94 N (fun n119 => (some (mset n119 475 28 0)).bind fun m121 => (pM_ahead N m121).bind K) N x1_93 n87) N 0 m57 else none else none
theorem e_valley {N : Nat} {m : Mem} : pM_valley N m = RBg N (RV N (KRv N)) m := rfl
theorem r_L60 {N : Nat} {ib : Int} {m0 : Mem} {Q : Int × Mem → Prop} {kk : Mem → Option (Int × Mem)} (hib : ib = 0 ∨ ib = 1) (h29 : m0 475 29 = ib) (hk : ∀ m', Fr (fun b j => b = 479 ∧ 64 * ib ≤ j ∧ j < 64 * ib + 64) m0 m' → (∀ c, 0 ≤ c → c < 64 → m' 479 (64 * ib + c) = 0) → Rn (kk m') Q) (hN : 2000 ≤ N) : Rn (pM_valley_L60 N kk N 0 m0) Q := by
  refine rl_IM (I := fun x m => (0 ≤ x ∧ x ≤ 64) ∧ Fr (fun b j => b = 479 ∧ 64 * ib ≤ j ∧ j < 64 * ib + 64) m0 m ∧ ∀ c, 0 ≤ c → c < x → m 479 (64 * ib + c) = 0) (v := fun x _ => (64 - x).toNat) (fun self x m h ih => ?_) N 0 m0 ⟨by decide, Fr.rfl', fun c c0 c1 => absurd c0 (by omega)⟩ (by show (64 - (0 : Int)).toNat < N; omega)
  obtain ⟨hx, f, hz⟩ := h
  unfold pM_valley_L60b
  rw [f 475 29 (by omega), h29, w32_eq (x := 64 * ib) (by omega) (by omega), w32_eq (x := 64 * ib + x) (by omega) (by omega)]
  refine rn_i (fun q => rn_t (by omega) (rn_v ?_)) (fun q => hk m f (fun c c0 c1 => hz c c0 (by omega)))
  rw [w32_eq (x := x + 1) (by omega) (by omega)]
  refine rn_v (ih (x + 1) _ ⟨by omega, f.set ⟨rfl, by omega⟩, fun c c0 c1 => ?_⟩ (by show (64 - (x + 1)).toNat < (64 - x).toNat; omega))
  by_cases e : c = x
  · rw [e]; exact mset_s rfl rfl
  · rw [mset_o (by omega)]; exact hz c c0 (by omega)
theorem r_L94 {N : Nat} {ib : Int} {m0 : Mem} {Q : Int × Mem → Prop} {kk : Mem → Option (Int × Mem)} (hib : ib = 0 ∨ ib = 1) (h29 : m0 475 29 = ib) (hk : ∀ m', Fr (fun b j => b = 486 ∧ 3 * ib ≤ j ∧ j < 3 * ib + 3) m0 m' → (∀ c, 0 ≤ c → c < 3 → m' 486 (3 * ib + c) = -1) → Rn (kk m') Q) (hN : 2000 ≤ N) : Rn (pM_valley_L94 N kk N (3 * ib) m0) Q := by
  refine rl_IM (I := fun x m => (3 * ib ≤ x ∧ x ≤ 3 * ib + 3) ∧ Fr (fun b j => b = 486 ∧ 3 * ib ≤ j ∧ j < 3 * ib + 3) m0 m ∧ ∀ c, 3 * ib ≤ c → c < x → m 486 c = -1) (v := fun x _ => (3 * ib + 3 - x).toNat) (fun self x m h ih => ?_) N (3 * ib) m0 ⟨by omega, Fr.rfl', fun c c0 c1 => absurd c0 (by omega)⟩ (by show (3 * ib + 3 - 3 * ib).toNat < N; omega)
  obtain ⟨hx, f, hz⟩ := h
  unfold pM_valley_L94b
  rw [f 475 29 (by omega), h29, w32_eq (x := 3 * ib) (by omega) (by omega), w32_eq (x := 3 * ib + 3) (by omega) (by omega)]
  refine rn_i (fun q => rn_t (by omega) (rn_v ?_)) (fun q => hk m f (fun c c0 c1 => hz (3 * ib + c) (by omega) (by omega)))
  rw [w32_eq (x := x + 1) (by omega) (by omega)]
  refine rn_v (ih (x + 1) _ ⟨by omega, f.set ⟨rfl, by omega⟩, fun c c0 c1 => ?_⟩ (by show (3 * ib + 3 - (x + 1)).toNat < (3 * ib + 3 - x).toNat; omega))
  by_cases e : c = x
  · rw [e]; exact mset_s rfl rfl
  · rw [mset_o (by omega)]; exact hz c c0 (by omega)
theorem r_begins {N : Nat} {T : Int → Int} {L : Int} {t mr : Mem} {en : Int → Int} {ib : Int} {Q : Int × Mem → Prop} {K : Mem → Option (Int × Mem)} (hN : 2000 ≤ N) (hL : 0 ≤ L ∧ L ≤ 1600) (hs : SPt T L t en) (hib : ib = 0 ∨ ib = 1) (h1 : mr 475 1 = L) (h13 : mr 475 13 = 1 - ib) (hT : ∀ j, 0 ≤ j → j < L → mr 476 j = T j) (hQ : ∀ m1, STA (RTj T L t en) ib m1 → m1 475 1 = 0 → Fr (FVs ib) mr m1 → Rn (K m1) Q) : Rn (RBg N K mr) Q := by
  unfold RBg
  refine rn_l (fun m1 e1 => rn_l (fun m2 e2 => rn_l (fun m3 e3 => rn_l (fun m4 e4 => rn_l (fun m5 e5 => ?_)))))
  have a2 : m5 475 2 = L := by rw [e5, mset_o (by omega), e4, mset_o (by omega), e3, mset_o (by omega), e2, mset_o (by omega), e1, mset_s rfl rfl]; exact h1
  have a1 : m5 475 1 = 0 := by rw [e5, mset_o (by omega), e4, mset_o (by omega), e3, mset_o (by omega), e2, mset_s rfl rfl]
  have a5 : m5 475 5 = 0 := by rw [e5, mset_o (by omega), e4, mset_o (by omega), e3, mset_s rfl rfl]
  have a8 : m5 475 8 = 0 := by rw [e5, mset_o (by omega), e4, mset_s rfl rfl]
  have fV : ∀ b j, (b = 475 ∧ (j = 1 ∨ j = 2 ∨ j = 5 ∨ j = 8 ∨ j = 9)) → FVs ib b j := fun b j c => by unfold FVs FV; omega
  have f5 : Fr (FVs ib) mr m5 := by
    rw [e5, e4, e3, e2, e1]
    exact ((((Fr.rfl'.set (fV _ _ (by omega))).set (fV _ _ (by omega))).set (fV _ _ (by omega))).set (fV _ _ (by omega))).set (fV _ _ (by omega))
  have a13 : m5 475 13 = 1 - ib := (f5 _ _ (by unfold FVs FV; omega)).trans h13
  clear e1 e2 e3 e4 e5
  rw [a13, w32_eq (x := 1 - (1 - ib)) (by omega) (by omega), show 1 - (1 - ib) = ib by omega]
  refine rn_l (fun m6 e6 => ?_)
  have b29 : m6 475 29 = ib := by rw [e6]; exact mset_s rfl rfl
  have f6 : Fr (fun b j => b = 475 ∧ j = 29) m5 m6 := by rw [e6]; exact Fr.rfl'.set ⟨rfl, rfl⟩
  clear e6
  rw [b29]
  refine rn_t (by omega) (rn_l (fun m7 e7 => ?_))
  have c29 : m7 475 29 = ib := by rw [e7, mset_o (by omega)]; exact b29
  rw [c29]
  refine rn_t (by omega) (rn_l (fun m8 e8 => ?_))
  have d29 : m8 475 29 = ib := by rw [e8, mset_o (by omega)]; exact c29
  have d480 : m8 480 ib = 0 := by rw [e8, mset_o (by omega), e7, mset_s rfl rfl]
  have d485 : m8 485 ib = 0 := by rw [e8, mset_s rfl rfl]
  have f8 : Fr (fun b j => (b = 480 ∨ b = 485) ∧ j = ib) m6 m8 := by rw [e8, e7]; exact (Fr.rfl'.set ⟨Or.inl rfl, rfl⟩).set ⟨Or.inr rfl, rfl⟩
  clear e7 e8
  refine r_L60 hib d29 (fun m9 f9 z9 => ?_) hN
  have g29 : m9 475 29 = ib := (f9 _ _ (by omega)).trans d29
  rw [g29, w32_eq (x := 3 * ib) (by omega) (by omega)]
  refine rn_v (r_L94 hib g29 (fun m10 f10 z10 => ?_) hN)
  have all : ∀ j, j ≠ 29 → m10 475 j = m5 475 j := fun j hj => by rw [f10 _ _ (by omega), f9 _ _ (by omega), f8 _ _ (by omega), f6 _ _ (by omega)]
  have i29 : m10 475 29 = ib := (f10 _ _ (by omega)).trans g29
  have i476 : ∀ j, 0 ≤ j → j < L → m10 476 j = T j := fun j j0 j1 => by rw [f10 _ _ (by omega), f9 _ _ (by omega), f8 _ _ (by omega), f6 _ _ (by omega), f5 _ _ (by unfold FVs FV; omega)]; exact hT j j0 j1
  have ff : Fr (FVs ib) mr m10 := (((f5.trans (f6.mono (fun b j c => by unfold FVs; omega))).trans (f8.mono (fun b j c => Or.inl (Or.inr (Or.inl ⟨by omega, c.2⟩))))).trans (f9.mono (fun b j c => Or.inl (Or.inr (Or.inr (Or.inl c)))))).trans (f10.mono (fun b j c => Or.inl (Or.inr (Or.inr (Or.inr (Or.inr (Or.inl ⟨by omega, c.2⟩)))))))
  refine rn_l (fun m11 e11 => ?_)
  have j28 : m11 475 28 = 0 := by rw [e11]; exact mset_s rfl rfl
  have f11 : Fr (fun b j => b = 475 ∧ j = 28) m10 m11 := by rw [e11]; exact Fr.rfl'.set ⟨rfl, rfl⟩
  clear e11
  have k0 := hs.1
  refine rn_b (RTj.gt (k := 0) hN hL hs ⟨by omega, by omega⟩ (by rw [f11 _ _ (by omega), all 5 (by decide), a5]; exact hs.2.1.1.symm) (by rw [f11 _ _ (by omega), all 2 (by decide)]; exact a2) (fun j j0 j1 => by rw [f11 _ _ (by omega)]; exact i476 j j0 j1)) (fun m12 h12 => hQ m12 ⟨⟨h12.1, ?_⟩, ?_, ?_, ⟨?_, ?_⟩, fun c c0 c1 => ?_, fun w w0 w1 => ?_⟩ ?_ ?_)
  · rw [h12.2 _ _ (by unfold FRa; omega), f11 _ _ (by omega), all 8 (by decide)]; exact a8
  · rw [h12.2 _ _ (by unfold FRa; omega), f11 _ _ (by omega)]; exact i29
  · rw [h12.2 _ _ (by unfold FRa; omega)]; exact j28
  · rw [h12.2 _ _ (by unfold FRa; omega), f11 _ _ (by omega), f10 _ _ (by omega), f9 _ _ (by omega)]; exact d480
  · rw [h12.2 _ _ (by unfold FRa; omega), f11 _ _ (by omega), f10 _ _ (by omega), f9 _ _ (by omega)]; exact d485
  · rw [h12.2 _ _ (by unfold FRa; omega), f11 _ _ (by omega), f10 _ _ (by omega)]; exact z9 c c0 c1
  · rw [h12.2 _ _ (by unfold FRa; omega), f11 _ _ (by omega)]; exact z10 w w0 w1
  · rw [h12.2 _ _ (by unfold FRa; omega), f11 _ _ (by omega), all 1 (by decide)]; exact a1
  · exact (ff.trans (f11.mono (fun b j c => Or.inl (Or.inl ⟨c.1, by omega⟩)))).trans (h12.2.mono (fun b j c => Or.inl (FV_a c)))
