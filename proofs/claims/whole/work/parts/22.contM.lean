noncomputable def pM_is (μ : Mem) (x0 : Int) (x1 : Int) (x2 : Int) : Option (Int) := if x0 < x1 then some (0) else if x2 < x0 then some (0) else some (1)
set_option maxHeartbeats 4000000 in
theorem c_pM_is {l : Launch} {en : En} {μ : Mem} {x0 : Int} {x1 : Int} {x2 : Int} {re : Int} (hV : VT μ) (hx0 : inR x0) (hx1 : inR x1) (hx2 : inR x2) (h : pM_is μ x0 x1 x2 = some re) : CtI l en yX12_is cX12_is 3 0 60 [vI x0, vI x1, vI x2] μ .boolean re μ ((re = 0 ∨ re = 1)) := by
  refine Tr.of false (fun h => by cases h) (by decide) (Nat.le_of_ble_eq_true rfl) (fun K Ra => ?_)
  unfold pM_is at h
  refine r_iload_n Ra (i := 0) dX12_is_0 rfl rfl ?_
  refine r_iload_n Ra (i := 1) dX12_is_1 rfl rfl ?_
  refine r_icmp_lt Ra 14 dX12_is_2 hx0 hx1 rfl (fun hc => ?_) (fun hc => ?_)
  · replace h := ipos hc h
    refine r_iconst Ra dX12_is_14 ?_
    cases h
    exact r_zret Ra (Or.inl rfl) (Or.inl rfl) dX12_is_15
  · replace h := ineg hc h
    refine r_iload_n Ra (i := 0) dX12_is_5 rfl rfl ?_
    refine r_iload_n Ra (i := 2) dX12_is_6 rfl rfl ?_
    refine r_icmp_gt Ra 14 dX12_is_7 hx0 hx2 rfl (fun hc => ?_) (fun hc => ?_)
    · replace h := ipos hc h
      refine r_iconst Ra dX12_is_14 ?_
      cases h
      exact r_zret Ra (Or.inl rfl) (Or.inl rfl) dX12_is_15
    · replace h := ineg hc h
      refine r_iconst Ra dX12_is_10 ?_
      refine r_goto Ra 15 dX12_is_11 rfl ?_
      cases h
      exact r_zret Ra (Or.inr rfl) (Or.inr rfl) dX12_is_15
noncomputable def pM_put_L3b (N : Nat) (c1 : Int) (k : Mem → Option (Mem)) (self : Int → Mem → Option (Mem)) (x2 : Int) (μ : Mem) : Option (Mem) := if x2 < 0 then k μ else if 0 ≤ μ 475 1 ∧ μ 475 1 < 1800 then (some (mset μ 476 (μ 475 1) (a32 (shr32 c1 x2) 255))).bind fun m22 => (some (mset m22 475 1 (w32 ((m22 475 1) + 1)))).bind fun m30 => (some (w32 (x2 + (-8)) : Int)).bind fun x2_33 => self x2_33 m30 else none
noncomputable def pM_put_L3 (N : Nat) (c1 : Int) (k : Mem → Option (Mem)) (n : Nat) : Int → Mem → Option (Mem) := lpF (fun _ _ => none) (pM_put_L3b N c1 k) n
noncomputable def pM_put (N : Nat) (μ : Mem) (x1 : Int) : Option (Mem) := pM_put_L3 N x1 (fun n39 => some n39) N 24 μ
theorem k_pM_put_L3 {l : Launch} {en : En} {μe : Mem} {N : Nat} {c1 : Int} {k : Mem → Option (Mem)} {K : KT} (Ra : Ru false (some (none, none, nCells, μe, 0, 0, (VT μe))) l en cX12_put yX12_put.cls 3 (rmN 0 60) K) (hi1 : inR c1) (hk : ∀  (μ9 : Mem), k μ9 = some μe → VT μ9 → ∀ L9 : Lo, K ZN 39 L9 [] μ9) : ∀ (n : Nat) (x2 : Int) (μ : Mem) (L : Lo), pM_put_L3 N c1 k n x2 μ = some μe → inR x2 → VT μ → L 0 = some (vA en 475) → L 1 = some (vI c1) → L 2 = some (vI x2) → K ZN 3 L [] μ := by
  intro n
  induction n with
  | zero => intro x2 μ L h; cases h
  | succ n ih =>
    intro x2 μ L h hx2 hV hL0 hL1 hL2
    replace h : pM_put_L3b N c1 k (pM_put_L3 N c1 k n) x2 μ = some μe := h
    unfold pM_put_L3b at h
    refine r_iload_n Ra (i := 2) dX12_put_3 rfl hL2 ?_
    refine r_if_lt Ra 39 dX12_put_4 hx2 rfl (fun hc => ?_) (fun hc => ?_)
    · replace h := ipos hc h
      exact hk μ h  hV _ 
    · replace h := ineg hc h
      refine r_aload_n Ra (i := 0) dX12_put_7 rfl hL0 ?_
      refine q_getA Ra (b := 476) f_X12_7 t475 rfl rfl rfl (hV.ref t475 rfl (by decide)) (by decide) dX12_put_8 ?_
      refine r_aload_n Ra (i := 0) dX12_put_11 rfl hL0 ?_
      refine q_getI Ra (x := μ 475 1) f_X12_13 t475 rfl rfl rfl rfl dX12_put_12 ?_
      refine r_iload_n Ra (i := 1) dX12_put_15 rfl hL1 ?_
      refine r_iload_n Ra (i := 2) dX12_put_16 rfl hL2 ?_
      refine r_ishr Ra dX12_put_17 ?_
      refine r_sipush Ra dX12_put_18 rfl ?_
      refine r_iand Ra dX12_put_21 ?_
      obtain ⟨gu22, h⟩ := gd h
      obtain ⟨m22, em22, h⟩ := bv h
      have hm22 : VT m22 := eqV em22 (hV.setI t476 (kd20 _) (inR_32 _))
      refine q_iast Ra t476 l476 gu22 em22 dX12_put_22 ?_
      refine r_aload_n Ra (i := 0) dX12_put_23 rfl hL0 ?_
      refine r_dupA Ra dX12_put_24 ?_
      refine q_getI Ra (x := m22 475 1) f_X12_13 t475 rfl rfl rfl rfl dX12_put_25 ?_
      refine r_iconst Ra dX12_put_28 ?_
      refine r_iadd Ra dX12_put_29 ?_
      obtain ⟨m30, em30, h⟩ := bv h
      have hm30 : VT m30 := eqV em30 (hm22.setI t475 rfl (inR_32 _))
      refine q_putI Ra f_X12_13 p_X12_1 t475 rfl rfl rfl em30 dX12_put_30 ?_
      obtain ⟨x2_33, ex2_33, h⟩ := bv h
      have ix2_33 : inR x2_33 := eqR ex2_33 (inR_32 _)
      refine q_iinc Ra dX12_put_33 hL2 ex2_33 ?_
      refine r_goto Ra 3 dX12_put_36 rfl ?_
      exact ih x2_33 m30 _ h ix2_33 hm30 hL0 hL1 rfl
set_option maxHeartbeats 4000000 in
theorem c_pM_put {l : Launch} {en : En} {N : Nat} {μ : Mem} {x1 : Int} {μe : Mem} (hV : VT μ) (hx1 : inR x1) (h : pM_put N μ x1 = some μe) : CtV l en yX12_put cX12_put 3 0 60 [vA en 475, vI x1] μ μe (VT μe) := by
  refine Tr.of false (fun h => by cases h) (by decide) (Nat.le_of_ble_eq_true rfl) (fun K Ra => ?_)
  unfold pM_put at h
  refine r_bipush Ra dX12_put_0 rfl ?_
  refine q_istore_n Ra 2 dX12_put_2 rfl rfl rfl ?_
  refine k_pM_put_L3 Ra hx1 ?_ _ _ _ _ h (Rk rfl) hV rfl rfl rfl
  intro n39 h hn39 L9 
  cases h
  exact r_vret Ra hn39 dX12_put_39
noncomputable def pM_refuses (μ : Mem) (x1 : Int) : Option (Int × Mem) := if 0 ≤ x1 ∧ x1 < 6 then if 0 ≤ x1 ∧ x1 < 6 then (some (mset μ 497 x1 (w32 ((μ 497 x1) + 1)))).bind fun m9 => some ((-1), m9) else none else none
set_option maxHeartbeats 4000000 in
theorem c_pM_refuses {l : Launch} {en : En} {μ : Mem} {x1 : Int} {re : Int} {μe : Mem} (hV : VT μ) (hx1 : inR x1) (h : pM_refuses μ x1 = some (re, μe)) : CtI l en yX12_refuses cX12_refuses 2 0 60 [vA en 475, vI x1] μ .int re μe (VT μe ∧ inR re) := by
  refine Tr.of false (fun h => by cases h) (by decide) (Nat.le_of_ble_eq_true rfl) (fun K Ra => ?_)
  unfold pM_refuses at h
  refine r_aload_n Ra (i := 0) dX12_refuses_0 rfl rfl ?_
  refine q_getA Ra (b := 497) f_X12_141 t475 rfl rfl rfl (hV.ref t475 rfl (by decide)) (by decide) dX12_refuses_1 ?_
  refine r_iload_n Ra (i := 1) dX12_refuses_4 rfl rfl ?_
  refine r_dup2 Ra dX12_refuses_5 ?_
  obtain ⟨gu6, h⟩ := gd h
  refine q_iald Ra t497 l497 gu6 dX12_refuses_6 ?_
  refine r_iconst Ra dX12_refuses_7 ?_
  refine r_iadd Ra dX12_refuses_8 ?_
  obtain ⟨gu9, h⟩ := gd h
  obtain ⟨m9, em9, h⟩ := bv h
  have hm9 : VT m9 := eqV em9 (hV.setI t497 (kd20 _) (inR_32 _))
  refine q_iast Ra t497 l497 gu9 em9 dX12_refuses_9 ?_
  refine r_iconst Ra dX12_refuses_10 ?_
  cases h
  exact r_iret Ra ⟨hm9, (Rk rfl)⟩ dX12_refuses_11
noncomputable def pM_feed (N : Nat) (μ : Mem) (x1 : Int) (x2 : Int) (x3 : Int) (x4 : Int) (x5 : Int) : Option (Int × Mem) := if 1600 < w32 ((μ 475 1) + 20) then (pM_refuses μ 0).bind fun (r15, m15) => some (r15, m15) else (pM_put N μ x1).bind fun m21 => (pM_put N m21 x2).bind fun m26 => (pM_put N m26 x3).bind fun m31 => (pM_put N m31 x4).bind fun m37 => (pM_put N m37 x5).bind fun m43 => some (m43 475 1, m43)
set_option maxHeartbeats 4000000 in
theorem c_pM_feed {l : Launch} {en : En} {N : Nat} {μ : Mem} {x1 : Int} {x2 : Int} {x3 : Int} {x4 : Int} {x5 : Int} {re : Int} {μe : Mem} (hV : VT μ) (hx1 : inR x1) (hx2 : inR x2) (hx3 : inR x3) (hx4 : inR x4) (hx5 : inR x5) (h : pM_feed N μ x1 x2 x3 x4 x5 = some (re, μe)) : CtI l en yX12_feed cX12_feed 6 1 82 [vA en 475, vI x1, vI x2, vI x3, vI x4, vI x5] μ .int re μe (VT μe ∧ inR re) := by
  refine Tr.of false (fun h => by cases h) (by decide) (Nat.le_of_ble_eq_true rfl) (fun K Ra => ?_)
  unfold pM_feed at h
  refine r_aload_n Ra (i := 0) dX12_feed_0 rfl rfl ?_
  refine q_getI Ra (x := μ 475 1) f_X12_13 t475 rfl rfl rfl rfl dX12_feed_1 ?_
  refine r_bipush Ra dX12_feed_4 rfl ?_
  refine r_iadd Ra dX12_feed_6 ?_
  refine r_sipush Ra dX12_feed_7 rfl ?_
  refine r_icmp_le Ra 19 dX12_feed_10 (inR_32 _) (Rk rfl) rfl (fun hc => ?_) (fun hc => ?_)
  · replace h := ineg hc h
    refine r_aload_n Ra (i := 0) dX12_feed_19 rfl rfl ?_
    refine r_iload_n Ra (i := 1) dX12_feed_20 rfl rfl ?_
    obtain ⟨m21, hr21, h⟩ := bd h
    refine q_callVV Ra (c_pM_put hV hx1 hr21) mw_X12_put mi_X12_put t475 rfl rfl rfl rfl rfl k_X12_251 rfl rfl dX12_feed_21 (fun ok21 => ?_)
    refine r_aload_n Ra (i := 0) dX12_feed_24 rfl rfl ?_
    refine r_iload_n Ra (i := 2) dX12_feed_25 rfl rfl ?_
    obtain ⟨m26, hr26, h⟩ := bd h
    refine q_callVV Ra (c_pM_put ok21 hx2 hr26) mw_X12_put mi_X12_put t475 rfl rfl rfl rfl rfl k_X12_251 rfl rfl dX12_feed_26 (fun ok26 => ?_)
    refine r_aload_n Ra (i := 0) dX12_feed_29 rfl rfl ?_
    refine r_iload_n Ra (i := 3) dX12_feed_30 rfl rfl ?_
    obtain ⟨m31, hr31, h⟩ := bd h
    refine q_callVV Ra (c_pM_put ok26 hx3 hr31) mw_X12_put mi_X12_put t475 rfl rfl rfl rfl rfl k_X12_251 rfl rfl dX12_feed_31 (fun ok31 => ?_)
    refine r_aload_n Ra (i := 0) dX12_feed_34 rfl rfl ?_
    refine r_iload Ra dX12_feed_35 rfl ?_
    obtain ⟨m37, hr37, h⟩ := bd h
    refine q_callVV Ra (c_pM_put ok31 hx4 hr37) mw_X12_put mi_X12_put t475 rfl rfl rfl rfl rfl k_X12_251 rfl rfl dX12_feed_37 (fun ok37 => ?_)
    refine r_aload_n Ra (i := 0) dX12_feed_40 rfl rfl ?_
    refine r_iload Ra dX12_feed_41 rfl ?_
    obtain ⟨m43, hr43, h⟩ := bd h
    refine q_callVV Ra (c_pM_put ok37 hx5 hr43) mw_X12_put mi_X12_put t475 rfl rfl rfl rfl rfl k_X12_251 rfl rfl dX12_feed_43 (fun ok43 => ?_)
    refine r_aload_n Ra (i := 0) dX12_feed_46 rfl rfl ?_
    refine q_getI Ra (x := m43 475 1) f_X12_13 t475 rfl rfl rfl rfl dX12_feed_47 ?_
    cases h
    exact r_iret Ra ⟨ok43, (ok43.int t475 rfl)⟩ dX12_feed_50
  · replace h := ipos hc h
    refine r_aload_n Ra (i := 0) dX12_feed_13 rfl rfl ?_
    refine r_iconst Ra dX12_feed_14 ?_
    obtain ⟨⟨r15, m15⟩, hr15, h⟩ := bd h
    refine q_callVI Ra (c_pM_refuses hV (Rk rfl) hr15) mw_X12_refuses mi_X12_refuses t475 rfl rfl rfl rfl rfl k_X12_247 rfl rfl dX12_feed_15 (fun ok15 => ?_)
    obtain ⟨hV15, ok15⟩ := ok15
    cases h
    exact r_iret Ra ⟨hV15, ok15⟩ dX12_feed_18
noncomputable def pM_end (μ : Mem) (x1 : Int) : Option (Int × Mem) := jn (α := Unit → Option (Int × Mem)) (fun (_ : Unit) => (pM_refuses μ 0).bind fun (r14, m14) => if r14 < 0 then some (0, m14) else some (1, m14)) (fun (j12 : Unit → Option (Int × Mem)) => if x1 < 0 then j12 () else if μ 475 1 < x1 then j12 () else (some (mset μ 475 1 x1)).bind fun m28 => some (1, m28))
set_option maxHeartbeats 4000000 in
theorem c_pM_end {l : Launch} {en : En} {μ : Mem} {x1 : Int} {re : Int} {μe : Mem} (hV : VT μ) (hx1 : inR x1) (h : pM_end μ x1 = some (re, μe)) : CtI l en yX12_end cX12_end 2 1 81 [vA en 475, vI x1] μ .boolean re μe (VT μe ∧ (re = 0 ∨ re = 1)) := by
  refine Tr.of false (fun h => by cases h) (by decide) (Nat.le_of_ble_eq_true rfl) (fun K Ra => ?_)
  unfold pM_end at h
  refine r_iload_n Ra (i := 1) dX12_end_0 rfl rfl ?_
  obtain ⟨j12, ej12, h⟩ := jn_elim h
  have hJ12 : j12 () = some (re, μe) → ∀ L9 : Lo, L9 0 = some (vA en 475) → K ZN 12 L9 [] μ := by
    intro h L9 f12_0
    rw [ej12] at h
    refine r_aload_n Ra (i := 0) dX12_end_12 rfl f12_0 ?_
    refine r_iconst Ra dX12_end_13 ?_
    obtain ⟨⟨r14, m14⟩, hr14, h⟩ := bd h
    refine q_callVI Ra (c_pM_refuses hV (Rk rfl) hr14) mw_X12_refuses mi_X12_refuses t475 rfl rfl rfl rfl rfl k_X12_247 rfl rfl dX12_end_14 (fun ok14 => ?_)
    obtain ⟨hV14, ok14⟩ := ok14
    refine r_if_lt Ra 24 dX12_end_17 ok14 rfl (fun hc => ?_) (fun hc => ?_)
    · replace h := ipos hc h
      refine r_iconst Ra dX12_end_24 ?_
      cases h
      exact r_zret Ra (Or.inl rfl) ⟨hV14, (Or.inl rfl)⟩ dX12_end_25
    · replace h := ineg hc h
      refine r_iconst Ra dX12_end_20 ?_
      refine r_goto Ra 25 dX12_end_21 rfl ?_
      cases h
      exact r_zret Ra (Or.inr rfl) ⟨hV14, (Or.inr rfl)⟩ dX12_end_25
  refine r_if_lt Ra 12 dX12_end_1 hx1 rfl (fun hc => ?_) (fun hc => ?_)
  · replace h := ipos hc h
    exact hJ12 h  _ rfl
  · replace h := ineg hc h
    refine r_iload_n Ra (i := 1) dX12_end_4 rfl rfl ?_
    refine r_aload_n Ra (i := 0) dX12_end_5 rfl rfl ?_
    refine q_getI Ra (x := μ 475 1) f_X12_13 t475 rfl rfl rfl rfl dX12_end_6 ?_
    refine r_icmp_le Ra 26 dX12_end_9 hx1 (hV.int t475 rfl) rfl (fun hc => ?_) (fun hc => ?_)
    · replace h := ineg hc h
      refine r_aload_n Ra (i := 0) dX12_end_26 rfl rfl ?_
      refine r_iload_n Ra (i := 1) dX12_end_27 rfl rfl ?_
      obtain ⟨m28, em28, h⟩ := bv h
      have hm28 : VT m28 := eqV em28 (hV.setI t475 rfl hx1)
      refine q_putI Ra f_X12_13 p_X12_1 t475 rfl rfl rfl em28 dX12_end_28 ?_
      refine r_iconst Ra dX12_end_31 ?_
      cases h
      exact r_zret Ra (Or.inr rfl) ⟨hm28, (Or.inr rfl)⟩ dX12_end_32
    · replace h := ipos hc h
      exact hJ12 h  _ rfl
noncomputable def pM_blame (μ : Mem) (x1 : Int) (x2 : Int) : Option (Mem) := if 0 < μ 475 8 then some μ else (some (mset μ 475 8 x1)).bind fun m10 => (some (mset m10 475 9 x2)).bind fun m15 => some m15
set_option maxHeartbeats 4000000 in
theorem c_pM_blame {l : Launch} {en : En} {μ : Mem} {x1 : Int} {x2 : Int} {μe : Mem} (hV : VT μ) (hx1 : inR x1) (hx2 : inR x2) (h : pM_blame μ x1 x2 = some μe) : CtV l en yX12_blame cX12_blame 3 0 60 [vA en 475, vI x1, vI x2] μ μe (VT μe) := by
  refine Tr.of false (fun h => by cases h) (by decide) (Nat.le_of_ble_eq_true rfl) (fun K Ra => ?_)
  unfold pM_blame at h
  refine r_aload_n Ra (i := 0) dX12_blame_0 rfl rfl ?_
  refine q_getI Ra (x := μ 475 8) f_X12_36 t475 rfl rfl rfl rfl dX12_blame_1 ?_
  refine r_if_le Ra 8 dX12_blame_4 (hV.int t475 rfl) rfl (fun hc => ?_) (fun hc => ?_)
  · replace h := ineg hc h
    refine r_aload_n Ra (i := 0) dX12_blame_8 rfl rfl ?_
    refine r_iload_n Ra (i := 1) dX12_blame_9 rfl rfl ?_
    obtain ⟨m10, em10, h⟩ := bv h
    have hm10 : VT m10 := eqV em10 (hV.setI t475 rfl hx1)
    refine q_putI Ra f_X12_36 p_X12_8 t475 rfl rfl rfl em10 dX12_blame_10 ?_
    refine r_aload_n Ra (i := 0) dX12_blame_13 rfl rfl ?_
    refine r_iload_n Ra (i := 2) dX12_blame_14 rfl rfl ?_
    obtain ⟨m15, em15, h⟩ := bv h
    have hm15 : VT m15 := eqV em15 (hm10.setI t475 rfl hx2)
    refine q_putI Ra f_X12_39 p_X12_9 t475 rfl rfl rfl em15 dX12_blame_15 ?_
    cases h
    exact r_vret Ra hm15 dX12_blame_18
  · replace h := ipos hc h
    cases h
    exact r_vret Ra hV dX12_blame_7
noncomputable def pM_isLetter (μ : Mem) (x0 : Int) : Option (Int) := if x0 < 97 then some (0) else if 122 < x0 then some (0) else some (1)
set_option maxHeartbeats 4000000 in
theorem c_pM_isLetter {l : Launch} {en : En} {μ : Mem} {x0 : Int} {re : Int} (hV : VT μ) (hx0 : inR x0) (h : pM_isLetter μ x0 = some re) : CtI l en yX12_isLetter cX12_isLetter 1 0 60 [vI x0] μ .boolean re μ ((re = 0 ∨ re = 1)) := by
  refine Tr.of false (fun h => by cases h) (by decide) (Nat.le_of_ble_eq_true rfl) (fun K Ra => ?_)
  unfold pM_isLetter at h
  refine r_iload_n Ra (i := 0) dX12_isLetter_0 rfl rfl ?_
  refine r_bipush Ra dX12_isLetter_1 rfl ?_
  refine r_icmp_lt Ra 16 dX12_isLetter_3 hx0 (Rk rfl) rfl (fun hc => ?_) (fun hc => ?_)
  · replace h := ipos hc h
    refine r_iconst Ra dX12_isLetter_16 ?_
    cases h
    exact r_zret Ra (Or.inl rfl) (Or.inl rfl) dX12_isLetter_17
  · replace h := ineg hc h
    refine r_iload_n Ra (i := 0) dX12_isLetter_6 rfl rfl ?_
    refine r_bipush Ra dX12_isLetter_7 rfl ?_
    refine r_icmp_gt Ra 16 dX12_isLetter_9 hx0 (Rk rfl) rfl (fun hc => ?_) (fun hc => ?_)
    · replace h := ipos hc h
      refine r_iconst Ra dX12_isLetter_16 ?_
      cases h
      exact r_zret Ra (Or.inl rfl) (Or.inl rfl) dX12_isLetter_17
    · replace h := ineg hc h
      refine r_iconst Ra dX12_isLetter_12 ?_
      refine r_goto Ra 17 dX12_isLetter_13 rfl ?_
      cases h
      exact r_zret Ra (Or.inr rfl) (Or.inr rfl) dX12_isLetter_17
noncomputable def pM_isDigit (μ : Mem) (x0 : Int) : Option (Int) := if x0 < 48 then some (0) else if 57 < x0 then some (0) else some (1)
set_option maxHeartbeats 4000000 in
theorem c_pM_isDigit {l : Launch} {en : En} {μ : Mem} {x0 : Int} {re : Int} (hV : VT μ) (hx0 : inR x0) (h : pM_isDigit μ x0 = some re) : CtI l en yX12_isDigit cX12_isDigit 1 0 60 [vI x0] μ .boolean re μ ((re = 0 ∨ re = 1)) := by
  refine Tr.of false (fun h => by cases h) (by decide) (Nat.le_of_ble_eq_true rfl) (fun K Ra => ?_)
  unfold pM_isDigit at h
  refine r_iload_n Ra (i := 0) dX12_isDigit_0 rfl rfl ?_
  refine r_bipush Ra dX12_isDigit_1 rfl ?_
  refine r_icmp_lt Ra 16 dX12_isDigit_3 hx0 (Rk rfl) rfl (fun hc => ?_) (fun hc => ?_)
  · replace h := ipos hc h
    refine r_iconst Ra dX12_isDigit_16 ?_
    cases h
    exact r_zret Ra (Or.inl rfl) (Or.inl rfl) dX12_isDigit_17
  · replace h := ineg hc h
    refine r_iload_n Ra (i := 0) dX12_isDigit_6 rfl rfl ?_
    refine r_bipush Ra dX12_isDigit_7 rfl ?_
    refine r_icmp_gt Ra 16 dX12_isDigit_9 hx0 (Rk rfl) rfl (fun hc => ?_) (fun hc => ?_)
    · replace h := ipos hc h
      refine r_iconst Ra dX12_isDigit_16 ?_
      cases h
      exact r_zret Ra (Or.inl rfl) (Or.inl rfl) dX12_isDigit_17
    · replace h := ineg hc h
      refine r_iconst Ra dX12_isDigit_12 ?_
      refine r_goto Ra 17 dX12_isDigit_13 rfl ?_
      cases h
      exact r_zret Ra (Or.inr rfl) (Or.inr rfl) dX12_isDigit_17
noncomputable def pM_lex (μ : Mem)  : Option (Mem) := if μ 475 12 = (-1) then some μ else (pM_blame μ 1 (μ 475 12)).bind fun m14 => some m14
set_option maxHeartbeats 4000000 in
theorem c_pM_lex {l : Launch} {en : En} {μ : Mem}  {μe : Mem} (hV : VT μ)  (h : pM_lex μ = some μe) : CtV l en yX12_lex cX12_lex 1 1 82 [vA en 475] μ μe (VT μe) := by
  refine Tr.of false (fun h => by cases h) (by decide) (Nat.le_of_ble_eq_true rfl) (fun K Ra => ?_)
  unfold pM_lex at h
  refine r_aload_n Ra (i := 0) dX12_lex_0 rfl rfl ?_
  refine q_getI Ra (x := μ 475 12) f_X12_48 t475 rfl rfl rfl rfl dX12_lex_1 ?_
  refine r_iconst Ra dX12_lex_4 ?_
  refine r_icmp_eq Ra 17 dX12_lex_5 (hV.int t475 rfl) (Rk rfl) rfl (fun hc => ?_) (fun hc => ?_)
  · replace h := ipos hc h
    cases h
    exact r_vret Ra hV dX12_lex_17
  · replace h := ineg hc h
    refine r_aload_n Ra (i := 0) dX12_lex_8 rfl rfl ?_
    refine r_iconst Ra dX12_lex_9 ?_
    refine r_aload_n Ra (i := 0) dX12_lex_10 rfl rfl ?_
    refine q_getI Ra (x := μ 475 12) f_X12_48 t475 rfl rfl rfl rfl dX12_lex_11 ?_
    obtain ⟨m14, hr14, h⟩ := bd h
    refine q_callVV Ra (c_pM_blame hV (Rk rfl) (hV.int t475 rfl) hr14) mw_X12_blame mi_X12_blame t475 rfl rfl rfl rfl rfl k_X12_255 rfl rfl dX12_lex_14 (fun ok14 => ?_)
    cases h
    exact r_vret Ra ok14 dX12_lex_17
noncomputable def pM_ahead_L5b (N : Nat) (μ : Mem)  (k : Int → Option (Mem)) (self : Int → Option (Mem)) (x1 : Int) : Option (Mem) := if x1 < μ 475 2 then if 0 ≤ x1 ∧ x1 < 1800 then if μ 476 x1 = 32 then (some (w32 (x1 + 1) : Int)).bind fun x1_35 => self x1_35 else if 0 ≤ x1 ∧ x1 < 1800 then if μ 476 x1 = 10 then (some (w32 (x1 + 1) : Int)).bind fun x1_35 => self x1_35 else k x1 else none else none else k x1
noncomputable def pM_ahead_L5 (N : Nat) (μ : Mem)  (k : Int → Option (Mem)) (n : Nat) : Int → Option (Mem) := lpF (fun _ => none) (pM_ahead_L5b N μ k) n
noncomputable def pM_ahead_L204b (N : Nat) (c2 : Int) (c3 : Int) (c4 : Int) (k : Int → Mem → Option (Mem)) (self : Int → Int → Mem → Option (Mem)) (x1 : Int) (x5 : Int) (μ : Mem) : Option (Mem) := if x1 < μ 475 2 then jn (α := Unit → Option (Mem)) (fun (_ : Unit) => (if x5 = c4 then if μ 475 12 = (-1) then (some (mset μ 475 12 x1)).bind fun m260 => some (m260) else some (μ) else some (μ)).bind fun n263 => (if x5 < c4 then if c2 = 0 then some (n263) else if 0 ≤ x1 ∧ x1 < 1800 then (some (mset n263 475 7 (o64 (shl64 (n263 475 7) 8) (n263 476 x1)))).bind fun m290 => some (m290) else none else some (n263)).bind fun n293 => if x5 < c4 then if c3 = 0 then (some (w32 (x5 + 1) : Int)).bind fun x5_325 => (some (w32 (x1 + 1) : Int)).bind fun x1_328 => self x1_328 x5_325 n293 else if 0 ≤ x1 ∧ x1 < 1800 then (some (mset n293 475 6 (w32 ((w32 ((w32 (10 * (n293 475 6))) + (n293 476 x1))) - 48)))).bind fun m322 => (some (w32 (x5 + 1) : Int)).bind fun x5_325 => (some (w32 (x1 + 1) : Int)).bind fun x1_328 => self x1_328 x5_325 m322 else none else (some (w32 (x5 + 1) : Int)).bind fun x5_325 => (some (w32 (x1 + 1) : Int)).bind fun x1_328 => self x1_328 x5_325 n293) (fun (j243 : Unit → Option (Mem)) => if c2 = 0 then if 0 ≤ x1 ∧ x1 < 1800 then (pM_isDigit μ (μ 476 x1)).bind fun r237 => if r237 = 0 then k x1 μ else j243 () else none else if 0 ≤ x1 ∧ x1 < 1800 then (pM_isLetter μ (μ 476 x1)).bind fun r222 => if r222 = 0 then k x1 μ else j243 () else none) else k x1 μ
noncomputable def pM_ahead_L204 (N : Nat) (c2 : Int) (c3 : Int) (c4 : Int) (k : Int → Mem → Option (Mem)) (n : Nat) : Int → Int → Mem → Option (Mem) := lpF (fun _ _ _ => none) (pM_ahead_L204b N c2 c3 c4 k) n
noncomputable def pM_ahead (N : Nat) (μ : Mem)  : Option (Mem) := (some (μ 475 5 : Int)).bind fun x1_4 => pM_ahead_L5 N μ (fun z1_41 => (some (mset μ 475 4 z1_41)).bind fun m43 => (some (mset m43 475 5 z1_41)).bind fun m48 => (some (mset m48 475 3 0)).bind fun m53 => (some (mset m53 475 12 (-1))).bind fun m58 => if z1_41 < m58 475 2 then if 0 ≤ z1_41 ∧ z1_41 < 1800 then (pM_isLetter m58 (m58 476 z1_41)).bind fun r76 => if 0 ≤ z1_41 ∧ z1_41 < 1800 then (pM_isDigit m58 (m58 476 z1_41)).bind fun r86 => (if r76 = 0 then if r86 = 0 then some (m58) else if 0 < z1_41 then if 0 ≤ w32 (z1_41 - 1) ∧ w32 (z1_41 - 1) < 1800 then (pM_isLetter m58 (m58 476 (w32 (z1_41 - 1)))).bind fun r110 => if r110 = 0 then if 0 ≤ w32 (z1_41 - 1) ∧ w32 (z1_41 - 1) < 1800 then (pM_isDigit m58 (m58 476 (w32 (z1_41 - 1)))).bind fun r124 => if r124 = 0 then some (m58) else (some (mset m58 475 12 z1_41)).bind fun m132 => some (m132) else none else (some (mset m58 475 12 z1_41)).bind fun m132 => some (m132) else none else some (m58) else if 0 < z1_41 then if 0 ≤ w32 (z1_41 - 1) ∧ w32 (z1_41 - 1) < 1800 then (pM_isLetter m58 (m58 476 (w32 (z1_41 - 1)))).bind fun r110 => if r110 = 0 then if 0 ≤ w32 (z1_41 - 1) ∧ w32 (z1_41 - 1) < 1800 then (pM_isDigit m58 (m58 476 (w32 (z1_41 - 1)))).bind fun r124 => if r124 = 0 then some (m58) else (some (mset m58 475 12 z1_41)).bind fun m132 => some (m132) else none else (some (mset m58 475 12 z1_41)).bind fun m132 => some (m132) else none else some (m58)).bind fun n135 => (some (mset n135 475 6 0)).bind fun m137 => (some (mset m137 475 7 0)).bind fun m142 => (some (mset m142 475 3 3)).bind fun m147 => (some (mset m147 475 5 (w32 (z1_41 + 1)))).bind fun m154 => jn (α := Unit → Option (Mem)) (fun (_ : Unit) => (some (if r76 = 0 then 2 else 1 : Int)).bind fun ys1_186 => (some (mset m154 475 3 ys1_186)).bind fun m186 => (some (if r76 = 0 then 4 else 6 : Int)).bind fun ys0_199 => pM_ahead_L204 N r76 r86 ys0_199 (fun z1_334 n334 => (some (mset n334 475 5 z1_334)).bind fun m336 => some m336) N z1_41 0 m186) (fun (j176 : Unit → Option (Mem)) => if r76 = 0 then if r86 = 0 then if 0 ≤ z1_41 ∧ z1_41 < 1800 then (some (mset m154 475 6 (m154 476 z1_41))).bind fun m172 => some m172 else none else j176 () else j176 ()) else none else none else some m58) N x1_4
theorem k_pM_ahead_L5 {l : Launch} {en : En} {μe : Mem} {N : Nat} {μ : Mem} (hV : VT μ)  {k : Int → Option (Mem)} {K : KT} (Ra : Ru false (some (none, none, nCells, μe, 0, 0, (VT μe))) l en cX12_ahead yX12_ahead.cls 6 (rmN 1 80) K)  (hk : ∀ (z1 : Int), k z1 = some μe → inR z1 → ∀ L9 : Lo, L9 0 = some (vA en 475) → L9 1 = some (vI z1) → K ZN 41 L9 [] μ) : ∀ (n : Nat) (x1 : Int) (L : Lo), pM_ahead_L5 N μ k n x1 = some μe → inR x1 → L 0 = some (vA en 475) → L 1 = some (vI x1) → K ZN 5 L [] μ := by
  intro n
  induction n with
  | zero => intro x1 L h; cases h
  | succ n ih =>
    intro x1 L h hx1 hL0 hL1
    replace h : pM_ahead_L5b N μ k (pM_ahead_L5 N μ k n) x1 = some μe := h
    unfold pM_ahead_L5b at h
    refine r_iload_n Ra (i := 1) dX12_ahead_5 rfl hL1 ?_
    refine r_aload_n Ra (i := 0) dX12_ahead_6 rfl hL0 ?_
    refine q_getI Ra (x := μ 475 2) f_X12_17 t475 rfl rfl rfl rfl dX12_ahead_7 ?_
    refine r_icmp_ge Ra 41 dX12_ahead_10 hx1 (hV.int t475 rfl) rfl (fun hc => ?_) (fun hc => ?_)
    · replace h := ineg hc h
      exact hk x1 h hx1 _ hL0 hL1
    · replace h := ipos hc h
      refine r_aload_n Ra (i := 0) dX12_ahead_13 rfl hL0 ?_
      refine q_getA Ra (b := 476) f_X12_7 t475 rfl rfl rfl (hV.ref t475 rfl (by decide)) (by decide) dX12_ahead_14 ?_
      refine r_iload_n Ra (i := 1) dX12_ahead_17 rfl hL1 ?_
      obtain ⟨gu18, h⟩ := gd h
      refine q_iald Ra t476 l476 gu18 dX12_ahead_18 ?_
      refine r_bipush Ra dX12_ahead_19 rfl ?_
      refine r_icmp_eq Ra 35 dX12_ahead_21 (hV.int t476 (kd20 _)) (Rk rfl) rfl (fun hc => ?_) (fun hc => ?_)
      · replace h := ipos hc h
        obtain ⟨x1_35, ex1_35, h⟩ := bv h
        have ix1_35 : inR x1_35 := eqR ex1_35 (inR_32 _)
        refine q_iinc Ra dX12_ahead_35 hL1 ex1_35 ?_
        refine r_goto Ra 5 dX12_ahead_38 rfl ?_
        exact ih x1_35 _ h ix1_35 hL0 rfl
      · replace h := ineg hc h
        refine r_aload_n Ra (i := 0) dX12_ahead_24 rfl hL0 ?_
        refine q_getA Ra (b := 476) f_X12_7 t475 rfl rfl rfl (hV.ref t475 rfl (by decide)) (by decide) dX12_ahead_25 ?_
        refine r_iload_n Ra (i := 1) dX12_ahead_28 rfl hL1 ?_
        obtain ⟨gu29, h⟩ := gd h
        refine q_iald Ra t476 l476 gu29 dX12_ahead_29 ?_
        refine r_bipush Ra dX12_ahead_30 rfl ?_
        refine r_icmp_ne Ra 41 dX12_ahead_32 (hV.int t476 (kd20 _)) (Rk rfl) rfl (fun hc => ?_) (fun hc => ?_)
        · replace h := ineg hc h
          exact hk x1 h hx1 _ hL0 hL1
        · replace h := ipos hc h
          obtain ⟨x1_35, ex1_35, h⟩ := bv h
          have ix1_35 : inR x1_35 := eqR ex1_35 (inR_32 _)
          refine q_iinc Ra dX12_ahead_35 hL1 ex1_35 ?_
          refine r_goto Ra 5 dX12_ahead_38 rfl ?_
          exact ih x1_35 _ h ix1_35 hL0 rfl
theorem k_pM_ahead_L204 {l : Launch} {en : En} {μe : Mem} {N : Nat} {c2 : Int} {c3 : Int} {c4 : Int} {k : Int → Mem → Option (Mem)} {K : KT} (Ra : Ru false (some (none, none, nCells, μe, 0, 0, (VT μe))) l en cX12_ahead yX12_ahead.cls 6 (rmN 1 80) K) (hi2 : inR c2) (hb2 : c2 = 0 ∨ c2 = 1) (hi3 : inR c3) (hb3 : c3 = 0 ∨ c3 = 1) (hi4 : inR c4) (hk : ∀ (z1 : Int) (μ9 : Mem), k z1 μ9 = some μe → inR z1 → VT μ9 → ∀ L9 : Lo, L9 0 = some (vA en 475) → L9 1 = some (vI z1) → K ZN 334 L9 [] μ9) : ∀ (n : Nat) (x1 : Int) (x5 : Int) (μ : Mem) (L : Lo), pM_ahead_L204 N c2 c3 c4 k n x1 x5 μ = some μe → inR x1 → inR x5 → VT μ → L 0 = some (vA en 475) → L 1 = some (vI x1) → L 2 = some (vI c2) → L 3 = some (vI c3) → L 4 = some (vI c4) → L 5 = some (vI x5) → K ZN 204 L [] μ := by
  intro n
  induction n with
  | zero => intro x1 x5 μ L h; cases h
  | succ n ih =>
    intro x1 x5 μ L h hx1 hx5 hV hL0 hL1 hL2 hL3 hL4 hL5
    replace h : pM_ahead_L204b N c2 c3 c4 k (pM_ahead_L204 N c2 c3 c4 k n) x1 x5 μ = some μe := h
    unfold pM_ahead_L204b at h
    refine r_iload_n Ra (i := 1) dX12_ahead_204 rfl hL1 ?_
    refine r_aload_n Ra (i := 0) dX12_ahead_205 rfl hL0 ?_
    refine q_getI Ra (x := μ 475 2) f_X12_17 t475 rfl rfl rfl rfl dX12_ahead_206 ?_
    refine r_icmp_ge Ra 334 dX12_ahead_209 hx1 (hV.int t475 rfl) rfl (fun hc => ?_) (fun hc => ?_)
    · replace h := ineg hc h
      exact hk x1 μ h hx1 hV _ hL0 hL1
    · replace h := ipos hc h
      refine r_iload_n Ra (i := 2) dX12_ahead_212 rfl hL2 ?_
      obtain ⟨j243, ej243, h⟩ := jn_elim h
      have hJ243 : j243 () = some μe → ∀ L9 : Lo, L9 0 = some (vA en 475) → L9 1 = some (vI x1) → L9 2 = some (vI c2) → L9 3 = some (vI c3) → L9 4 = some (vI c4) → L9 5 = some (vI x5) → K ZN 243 L9 [] μ := by
        intro h L9 f243_0 f243_1 f243_2 f243_3 f243_4 f243_5
        rw [ej243] at h
        refine r_iload Ra dX12_ahead_243 f243_5 ?_
        refine r_iload Ra dX12_ahead_245 f243_4 ?_
        obtain ⟨n263, hj263, h⟩ := bd h
        have hJ : VT n263 → ∀ L9 : Lo, L9 0 = some (vA en 475) → L9 1 = some (vI x1) → L9 2 = some (vI c2) → L9 3 = some (vI c3) → L9 4 = some (vI c4) → L9 5 = some (vI x5) → K ZN 263 L9 [] n263 := by
          intro hn263 L9 f263_0 f263_1 f263_2 f263_3 f263_4 f263_5
          refine r_iload Ra dX12_ahead_263 f263_5 ?_
          refine r_iload Ra dX12_ahead_265 f263_4 ?_
          obtain ⟨n293, hj293, h⟩ := bd h
          have hJ : VT n293 → ∀ L9 : Lo, L9 0 = some (vA en 475) → L9 1 = some (vI x1) → L9 2 = some (vI c2) → L9 3 = some (vI c3) → L9 4 = some (vI c4) → L9 5 = some (vI x5) → K ZN 293 L9 [] n293 := by
            intro hn293 L9 f293_0 f293_1 f293_2 f293_3 f293_4 f293_5
            refine r_iload Ra dX12_ahead_293 f293_5 ?_
            refine r_iload Ra dX12_ahead_295 f293_4 ?_
            refine r_icmp_ge Ra 325 dX12_ahead_297 hx5 hi4 rfl (fun hc => ?_) (fun hc => ?_)
            · replace h := ineg hc h
              obtain ⟨x5_325, ex5_325, h⟩ := bv h
              have ix5_325 : inR x5_325 := eqR ex5_325 (inR_32 _)
              refine q_iinc Ra dX12_ahead_325 f293_5 ex5_325 ?_
              obtain ⟨x1_328, ex1_328, h⟩ := bv h
              have ix1_328 : inR x1_328 := eqR ex1_328 (inR_32 _)
              refine q_iinc Ra dX12_ahead_328 f293_1 ex1_328 ?_
              refine r_goto Ra 204 dX12_ahead_331 rfl ?_
              exact ih x1_328 x5_325 n293 _ h ix1_328 ix5_325 hn293 f293_0 rfl f293_2 f293_3 f293_4 rfl
            · replace h := ipos hc h
              refine r_iload_n Ra (i := 3) dX12_ahead_300 rfl f293_3 ?_
              refine r_if_eq Ra 325 dX12_ahead_301 hi3 rfl (fun hc => ?_) (fun hc => ?_)
              · replace h := ipos hc h
                obtain ⟨x5_325, ex5_325, h⟩ := bv h
                have ix5_325 : inR x5_325 := eqR ex5_325 (inR_32 _)
                refine q_iinc Ra dX12_ahead_325 f293_5 ex5_325 ?_
                obtain ⟨x1_328, ex1_328, h⟩ := bv h
                have ix1_328 : inR x1_328 := eqR ex1_328 (inR_32 _)
                refine q_iinc Ra dX12_ahead_328 f293_1 ex1_328 ?_
                refine r_goto Ra 204 dX12_ahead_331 rfl ?_
                exact ih x1_328 x5_325 n293 _ h ix1_328 ix5_325 hn293 f293_0 rfl f293_2 f293_3 f293_4 rfl
              · replace h := ineg hc h
                refine r_aload_n Ra (i := 0) dX12_ahead_304 rfl f293_0 ?_
                refine r_bipush Ra dX12_ahead_305 rfl ?_
                refine r_aload_n Ra (i := 0) dX12_ahead_307 rfl f293_0 ?_
                refine q_getI Ra (x := n293 475 6) f_X12_29 t475 rfl rfl rfl rfl dX12_ahead_308 ?_
                refine r_imul Ra dX12_ahead_311 ?_
                refine r_aload_n Ra (i := 0) dX12_ahead_312 rfl f293_0 ?_
                refine q_getA Ra (b := 476) f_X12_7 t475 rfl rfl rfl (hn293.ref t475 rfl (by decide)) (by decide) dX12_ahead_313 ?_
                refine r_iload_n Ra (i := 1) dX12_ahead_316 rfl f293_1 ?_
                obtain ⟨gu317, h⟩ := gd h
                refine q_iald Ra t476 l476 gu317 dX12_ahead_317 ?_
                refine r_iadd Ra dX12_ahead_318 ?_
                refine r_bipush Ra dX12_ahead_319 rfl ?_
                refine r_isub Ra dX12_ahead_321 ?_
                obtain ⟨m322, em322, h⟩ := bv h
                have hm322 : VT m322 := eqV em322 (hn293.setI t475 rfl (inR_32 _))
                refine q_putI Ra f_X12_29 p_X12_6 t475 rfl rfl rfl em322 dX12_ahead_322 ?_
                obtain ⟨x5_325, ex5_325, h⟩ := bv h
                have ix5_325 : inR x5_325 := eqR ex5_325 (inR_32 _)
                refine q_iinc Ra dX12_ahead_325 f293_5 ex5_325 ?_
                obtain ⟨x1_328, ex1_328, h⟩ := bv h
                have ix1_328 : inR x1_328 := eqR ex1_328 (inR_32 _)
                refine q_iinc Ra dX12_ahead_328 f293_1 ex1_328 ?_
                refine r_goto Ra 204 dX12_ahead_331 rfl ?_
                exact ih x1_328 x5_325 m322 _ h ix1_328 ix5_325 hm322 f293_0 rfl f293_2 f293_3 f293_4 rfl
          replace h := hj293
          refine r_icmp_ge Ra 293 dX12_ahead_267 hx5 hi4 rfl (fun hc => ?_) (fun hc => ?_)
          · replace h := ineg hc h
            cases h
            exact hJ hn263 _ f263_0 f263_1 f263_2 f263_3 f263_4 f263_5
          · replace h := ipos hc h
            refine r_iload_n Ra (i := 2) dX12_ahead_270 rfl f263_2 ?_
            refine r_if_eq Ra 293 dX12_ahead_271 hi2 rfl (fun hc => ?_) (fun hc => ?_)
            · replace h := ipos hc h
              cases h
              exact hJ hn263 _ f263_0 f263_1 f263_2 f263_3 f263_4 f263_5
            · replace h := ineg hc h
              refine r_aload_n Ra (i := 0) dX12_ahead_274 rfl f263_0 ?_
              refine r_aload_n Ra (i := 0) dX12_ahead_275 rfl f263_0 ?_
              refine q_getJ Ra (x := n263 475 7) f_X12_32 t475 rfl rfl rfl rfl dX12_ahead_276 ?_
              refine r_bipush Ra dX12_ahead_279 rfl ?_
              refine r_lshl Ra dX12_ahead_281 ?_
              refine r_aload_n Ra (i := 0) dX12_ahead_282 rfl f263_0 ?_
              refine q_getA Ra (b := 476) f_X12_7 t475 rfl rfl rfl (hn263.ref t475 rfl (by decide)) (by decide) dX12_ahead_283 ?_
              refine r_iload_n Ra (i := 1) dX12_ahead_286 rfl f263_1 ?_
              obtain ⟨gu287, h⟩ := gd h
              refine q_iald Ra t476 l476 gu287 dX12_ahead_287 ?_
              refine r_i2l Ra dX12_ahead_288 (hn263.int t476 (kd20 _)) ?_
              refine r_lor Ra dX12_ahead_289 ?_
              obtain ⟨m290, em290, h⟩ := bv h
              have hm290 : VT m290 := eqV em290 (hn263.setJ t475 rfl (inL_64 _))
              refine q_putJ Ra f_X12_32 p_X12_7 t475 rfl rfl rfl em290 dX12_ahead_290 ?_
              cases h
              exact hJ hm290 _ f263_0 f263_1 f263_2 f263_3 f263_4 f263_5
        replace h := hj263
        refine r_icmp_ne Ra 263 dX12_ahead_247 hx5 hi4 rfl (fun hc => ?_) (fun hc => ?_)
        · replace h := ineg hc h
          cases h
          exact hJ hV _ f243_0 f243_1 f243_2 f243_3 f243_4 f243_5
        · replace h := ipos hc h
          refine r_aload_n Ra (i := 0) dX12_ahead_250 rfl f243_0 ?_
          refine q_getI Ra (x := μ 475 12) f_X12_48 t475 rfl rfl rfl rfl dX12_ahead_251 ?_
          refine r_iconst Ra dX12_ahead_254 ?_
          refine r_icmp_ne Ra 263 dX12_ahead_255 (hV.int t475 rfl) (Rk rfl) rfl (fun hc => ?_) (fun hc => ?_)
          · replace h := ineg hc h
            cases h
            exact hJ hV _ f243_0 f243_1 f243_2 f243_3 f243_4 f243_5
          · replace h := ipos hc h
            refine r_aload_n Ra (i := 0) dX12_ahead_258 rfl f243_0 ?_
            refine r_iload_n Ra (i := 1) dX12_ahead_259 rfl f243_1 ?_
            obtain ⟨m260, em260, h⟩ := bv h
            have hm260 : VT m260 := eqV em260 (hV.setI t475 rfl hx1)
            refine q_putI Ra f_X12_48 p_X12_12 t475 rfl rfl rfl em260 dX12_ahead_260 ?_
            cases h
            exact hJ hm260 _ f243_0 f243_1 f243_2 f243_3 f243_4 f243_5
      refine r_if_eq Ra 231 dX12_ahead_213 hi2 rfl (fun hc => ?_) (fun hc => ?_)
      · replace h := ipos hc h
        refine r_aload_n Ra (i := 0) dX12_ahead_231 rfl hL0 ?_
        refine q_getA Ra (b := 476) f_X12_7 t475 rfl rfl rfl (hV.ref t475 rfl (by decide)) (by decide) dX12_ahead_232 ?_
        refine r_iload_n Ra (i := 1) dX12_ahead_235 rfl hL1 ?_
        obtain ⟨gu236, h⟩ := gd h
        refine q_iald Ra t476 l476 gu236 dX12_ahead_236 ?_
        obtain ⟨r237, hr237, h⟩ := bd h
        refine q_callSI Ra (c_pM_isDigit hV (hV.int t476 (kd20 _)) hr237) mw_X12_isDigit ms_X12_isDigit rfl rfl k_X12_263 rfl rfl dX12_ahead_237 (fun ok237 => ?_)
        refine r_if_eq Ra 334 dX12_ahead_240 (inR_01 ok237) rfl (fun hc => ?_) (fun hc => ?_)
        · replace h := ipos hc h
          exact hk x1 μ h hx1 hV _ hL0 hL1
        · replace h := ineg hc h
          exact hJ243 h  _ hL0 hL1 hL2 hL3 hL4 hL5
      · replace h := ineg hc h
        refine r_aload_n Ra (i := 0) dX12_ahead_216 rfl hL0 ?_
        refine q_getA Ra (b := 476) f_X12_7 t475 rfl rfl rfl (hV.ref t475 rfl (by decide)) (by decide) dX12_ahead_217 ?_
        refine r_iload_n Ra (i := 1) dX12_ahead_220 rfl hL1 ?_
        obtain ⟨gu221, h⟩ := gd h
        refine q_iald Ra t476 l476 gu221 dX12_ahead_221 ?_
        obtain ⟨r222, hr222, h⟩ := bd h
        refine q_callSI Ra (c_pM_isLetter hV (hV.int t476 (kd20 _)) hr222) mw_X12_isLetter ms_X12_isLetter rfl rfl k_X12_259 rfl rfl dX12_ahead_222 (fun ok222 => ?_)
        refine r_if_eq Ra 334 dX12_ahead_225 (inR_01 ok222) rfl (fun hc => ?_) (fun hc => ?_)
        · replace h := ipos hc h
          exact hk x1 μ h hx1 hV _ hL0 hL1
        · replace h := ineg hc h
          refine r_goto Ra 243 dX12_ahead_228 rfl ?_
          exact hJ243 h  _ hL0 hL1 hL2 hL3 hL4 hL5
set_option maxHeartbeats 4000000 in
theorem c_pM_ahead {l : Launch} {en : En} {N : Nat} {μ : Mem}  {μe : Mem} (hV : VT μ)  (h : pM_ahead N μ = some μe) : CtV l en yX12_ahead cX12_ahead 6 1 80 [vA en 475] μ μe (VT μe) := by
  refine Tr.of false (fun h => by cases h) (by decide) (Nat.le_of_ble_eq_true rfl) (fun K Ra => ?_)
  unfold pM_ahead at h
  refine r_aload_n Ra (i := 0) dX12_ahead_0 rfl rfl ?_
  refine q_getI Ra (x := μ 475 5) f_X12_26 t475 rfl rfl rfl rfl dX12_ahead_1 ?_
  obtain ⟨x1_4, ex1_4, h⟩ := bv h
  have ix1_4 : inR x1_4 := eqR ex1_4 (hV.int t475 rfl)
  refine q_istore_n Ra 1 dX12_ahead_4 rfl rfl ex1_4 ?_
  refine k_pM_ahead_L5 hV Ra ?_ _ _ _ h ix1_4 rfl rfl
  intro z1_41 h iz1_41 L9 f41_0 f41_1
  refine r_aload_n Ra (i := 0) dX12_ahead_41 rfl f41_0 ?_
  refine r_iload_n Ra (i := 1) dX12_ahead_42 rfl f41_1 ?_
  obtain ⟨m43, em43, h⟩ := bv h
  have hm43 : VT m43 := eqV em43 (hV.setI t475 rfl iz1_41)
  refine q_putI Ra f_X12_23 p_X12_4 t475 rfl rfl rfl em43 dX12_ahead_43 ?_
  refine r_aload_n Ra (i := 0) dX12_ahead_46 rfl f41_0 ?_
  refine r_iload_n Ra (i := 1) dX12_ahead_47 rfl f41_1 ?_
  obtain ⟨m48, em48, h⟩ := bv h
  have hm48 : VT m48 := eqV em48 (hm43.setI t475 rfl iz1_41)
  refine q_putI Ra f_X12_26 p_X12_5 t475 rfl rfl rfl em48 dX12_ahead_48 ?_
  refine r_aload_n Ra (i := 0) dX12_ahead_51 rfl f41_0 ?_
  refine r_iconst Ra dX12_ahead_52 ?_
  obtain ⟨m53, em53, h⟩ := bv h
  have hm53 : VT m53 := eqV em53 (hm48.setI t475 rfl (Rk rfl))
  refine q_putI Ra f_X12_20 p_X12_3 t475 rfl rfl rfl em53 dX12_ahead_53 ?_
  refine r_aload_n Ra (i := 0) dX12_ahead_56 rfl f41_0 ?_
  refine r_iconst Ra dX12_ahead_57 ?_
  obtain ⟨m58, em58, h⟩ := bv h
  have hm58 : VT m58 := eqV em58 (hm53.setI t475 rfl (Rk rfl))
  refine q_putI Ra f_X12_48 p_X12_12 t475 rfl rfl rfl em58 dX12_ahead_58 ?_
  refine r_iload_n Ra (i := 1) dX12_ahead_61 rfl f41_1 ?_
  refine r_aload_n Ra (i := 0) dX12_ahead_62 rfl f41_0 ?_
  refine q_getI Ra (x := m58 475 2) f_X12_17 t475 rfl rfl rfl rfl dX12_ahead_63 ?_
  refine r_icmp_lt Ra 70 dX12_ahead_66 iz1_41 (hm58.int t475 rfl) rfl (fun hc => ?_) (fun hc => ?_)
  · replace h := ipos hc h
    refine r_aload_n Ra (i := 0) dX12_ahead_70 rfl f41_0 ?_
    refine q_getA Ra (b := 476) f_X12_7 t475 rfl rfl rfl (hm58.ref t475 rfl (by decide)) (by decide) dX12_ahead_71 ?_
    refine r_iload_n Ra (i := 1) dX12_ahead_74 rfl f41_1 ?_
    obtain ⟨gu75, h⟩ := gd h
    refine q_iald Ra t476 l476 gu75 dX12_ahead_75 ?_
    obtain ⟨r76, hr76, h⟩ := bd h
    refine q_callSI Ra (c_pM_isLetter hm58 (hm58.int t476 (kd20 _)) hr76) mw_X12_isLetter ms_X12_isLetter rfl rfl k_X12_259 rfl rfl dX12_ahead_76 (fun ok76 => ?_)
    refine q_istore_n Ra 2 dX12_ahead_79 rfl rfl rfl ?_
    refine r_aload_n Ra (i := 0) dX12_ahead_80 rfl f41_0 ?_
    refine q_getA Ra (b := 476) f_X12_7 t475 rfl rfl rfl (hm58.ref t475 rfl (by decide)) (by decide) dX12_ahead_81 ?_
    refine r_iload_n Ra (i := 1) dX12_ahead_84 rfl f41_1 ?_
    obtain ⟨gu85, h⟩ := gd h
    refine q_iald Ra t476 l476 gu85 dX12_ahead_85 ?_
    obtain ⟨r86, hr86, h⟩ := bd h
    refine q_callSI Ra (c_pM_isDigit hm58 (hm58.int t476 (kd20 _)) hr86) mw_X12_isDigit ms_X12_isDigit rfl rfl k_X12_263 rfl rfl dX12_ahead_86 (fun ok86 => ?_)
    refine q_istore_n Ra 3 dX12_ahead_89 rfl rfl rfl ?_
    refine r_iload_n Ra (i := 2) dX12_ahead_90 rfl rfl ?_
    obtain ⟨n135, hj135, h⟩ := bd h
    have hJ : VT n135 → ∀ L9 : Lo, L9 0 = some (vA en 475) → L9 1 = some (vI z1_41) → L9 2 = some (vI r76) → L9 3 = some (vI r86) → K ZN 135 L9 [] n135 := by
      intro hn135 L9 f135_0 f135_1 f135_2 f135_3
      refine r_aload_n Ra (i := 0) dX12_ahead_135 rfl f135_0 ?_
      refine r_iconst Ra dX12_ahead_136 ?_
      obtain ⟨m137, em137, h⟩ := bv h
      have hm137 : VT m137 := eqV em137 (hn135.setI t475 rfl (Rk rfl))
      refine q_putI Ra f_X12_29 p_X12_6 t475 rfl rfl rfl em137 dX12_ahead_137 ?_
      refine r_aload_n Ra (i := 0) dX12_ahead_140 rfl f135_0 ?_
      refine r_lconst (v := 0) Ra dX12_ahead_141 rfl ?_
      obtain ⟨m142, em142, h⟩ := bv h
      have hm142 : VT m142 := eqV em142 (hm137.setJ t475 rfl (Lk rfl))
      refine q_putJ Ra f_X12_32 p_X12_7 t475 rfl rfl rfl em142 dX12_ahead_142 ?_
      refine r_aload_n Ra (i := 0) dX12_ahead_145 rfl f135_0 ?_
      refine r_iconst Ra dX12_ahead_146 ?_
      obtain ⟨m147, em147, h⟩ := bv h
      have hm147 : VT m147 := eqV em147 (hm142.setI t475 rfl (Rk rfl))
      refine q_putI Ra f_X12_20 p_X12_3 t475 rfl rfl rfl em147 dX12_ahead_147 ?_
      refine r_aload_n Ra (i := 0) dX12_ahead_150 rfl f135_0 ?_
      refine r_iload_n Ra (i := 1) dX12_ahead_151 rfl f135_1 ?_
      refine r_iconst Ra dX12_ahead_152 ?_
      refine r_iadd Ra dX12_ahead_153 ?_
      obtain ⟨m154, em154, h⟩ := bv h
      have hm154 : VT m154 := eqV em154 (hm147.setI t475 rfl (inR_32 _))
      refine q_putI Ra f_X12_26 p_X12_5 t475 rfl rfl rfl em154 dX12_ahead_154 ?_
      refine r_iload_n Ra (i := 2) dX12_ahead_157 rfl f135_2 ?_
      obtain ⟨j176, ej176, h⟩ := jn_elim h
      have hJ176 : j176 () = some μe → ∀ L9 : Lo, L9 0 = some (vA en 475) → L9 1 = some (vI z1_41) → L9 2 = some (vI r76) → L9 3 = some (vI r86) → K ZN 176 L9 [] m154 := by
        intro h L9 f176_0 f176_1 f176_2 f176_3
        rw [ej176] at h
        refine r_aload_n Ra (i := 0) dX12_ahead_176 rfl f176_0 ?_
        refine r_iload_n Ra (i := 2) dX12_ahead_177 rfl f176_2 ?_
        obtain ⟨ys1_186, eys1_186, h⟩ := bv h
        have hJ : inR ys1_186 → ∀ L9 : Lo, L9 0 = some (vA en 475) → L9 1 = some (vI z1_41) → L9 2 = some (vI r76) → L9 3 = some (vI r86) → K ZN 186 L9 [vI ys1_186, vA en 475] m154 := by
          intro iys1_186 L9 f186_0 f186_1 f186_2 f186_3
          obtain ⟨m186, em186, h⟩ := bv h
          have hm186 : VT m186 := eqV em186 (hm154.setI t475 rfl iys1_186)
          refine q_putI Ra f_X12_20 p_X12_3 t475 rfl rfl rfl em186 dX12_ahead_186 ?_
          refine r_iload_n Ra (i := 2) dX12_ahead_189 rfl f186_2 ?_
          obtain ⟨ys0_199, eys0_199, h⟩ := bv h
          have hJ : inR ys0_199 → ∀ L9 : Lo, L9 0 = some (vA en 475) → L9 1 = some (vI z1_41) → L9 2 = some (vI r76) → L9 3 = some (vI r86) → K ZN 199 L9 [vI ys0_199] m186 := by
            intro iys0_199 L9 f199_0 f199_1 f199_2 f199_3
            refine q_istore Ra dX12_ahead_199 rfl rfl ?_
            refine r_iconst Ra dX12_ahead_201 ?_
            refine q_istore Ra dX12_ahead_202 rfl rfl ?_
            refine k_pM_ahead_L204 Ra (inR_01 ok76) ok76 (inR_01 ok86) ok86 iys0_199 ?_ _ _ _ _ _ h iz1_41 (Rk rfl) hm186 f199_0 f199_1 f199_2 f199_3 rfl rfl
            intro z1_334 n334 h iz1_334 hn334 L9 f334_0 f334_1
            refine r_aload_n Ra (i := 0) dX12_ahead_334 rfl f334_0 ?_
            refine r_iload_n Ra (i := 1) dX12_ahead_335 rfl f334_1 ?_
            obtain ⟨m336, em336, h⟩ := bv h
            have hm336 : VT m336 := eqV em336 (hn334.setI t475 rfl iz1_334)
            refine q_putI Ra f_X12_26 p_X12_5 t475 rfl rfl rfl em336 dX12_ahead_336 ?_
            cases h
            exact r_vret Ra hm336 dX12_ahead_339
          refine r_if_eq Ra 198 dX12_ahead_190 (inR_01 ok76) rfl (fun hc => ?_) (fun hc => ?_)
          · replace eys0_199 := eys0_199.trans (if_pos hc)
            refine r_iconst Ra dX12_ahead_198 ?_
            subst eys0_199
            exact hJ (Rk rfl) _ f186_0 f186_1 f186_2 f186_3
          · replace eys0_199 := eys0_199.trans (if_neg hc)
            refine r_bipush Ra dX12_ahead_193 rfl ?_
            refine r_goto Ra 199 dX12_ahead_195 rfl ?_
            subst eys0_199
            exact hJ (Rk rfl) _ f186_0 f186_1 f186_2 f186_3
        refine r_if_eq Ra 185 dX12_ahead_178 (inR_01 ok76) rfl (fun hc => ?_) (fun hc => ?_)
        · replace eys1_186 := eys1_186.trans (if_pos hc)
          refine r_iconst Ra dX12_ahead_185 ?_
          subst eys1_186
          exact hJ (Rk rfl) _ f176_0 f176_1 f176_2 f176_3
        · replace eys1_186 := eys1_186.trans (if_neg hc)
          refine r_iconst Ra dX12_ahead_181 ?_
          refine r_goto Ra 186 dX12_ahead_182 rfl ?_
          subst eys1_186
          exact hJ (Rk rfl) _ f176_0 f176_1 f176_2 f176_3
      refine r_if_ne Ra 176 dX12_ahead_158 (inR_01 ok76) rfl (fun hc => ?_) (fun hc => ?_)
      · replace h := ineg hc h
        exact hJ176 h  _ f135_0 f135_1 f135_2 f135_3
      · replace h := ipos hc h
        refine r_iload_n Ra (i := 3) dX12_ahead_161 rfl f135_3 ?_
        refine r_if_ne Ra 176 dX12_ahead_162 (inR_01 ok86) rfl (fun hc => ?_) (fun hc => ?_)
        · replace h := ineg hc h
          exact hJ176 h  _ f135_0 f135_1 f135_2 f135_3
        · replace h := ipos hc h
          refine r_aload_n Ra (i := 0) dX12_ahead_165 rfl f135_0 ?_
          refine r_aload_n Ra (i := 0) dX12_ahead_166 rfl f135_0 ?_
          refine q_getA Ra (b := 476) f_X12_7 t475 rfl rfl rfl (hm154.ref t475 rfl (by decide)) (by decide) dX12_ahead_167 ?_
          refine r_iload_n Ra (i := 1) dX12_ahead_170 rfl f135_1 ?_
          obtain ⟨gu171, h⟩ := gd h
          refine q_iald Ra t476 l476 gu171 dX12_ahead_171 ?_
          obtain ⟨m172, em172, h⟩ := bv h
          have hm172 : VT m172 := eqV em172 (hm154.setI t475 rfl (hm154.int t476 (kd20 _)))
          refine q_putI Ra f_X12_29 p_X12_6 t475 rfl rfl rfl em172 dX12_ahead_172 ?_
          cases h
          exact r_vret Ra hm172 dX12_ahead_175
    replace h := hj135
    refine r_if_ne Ra 98 dX12_ahead_91 (inR_01 ok76) rfl (fun hc => ?_) (fun hc => ?_)
    · replace h := ineg hc h
      refine r_iload_n Ra (i := 1) dX12_ahead_98 rfl f41_1 ?_
      refine r_if_le Ra 135 dX12_ahead_99 iz1_41 rfl (fun hc => ?_) (fun hc => ?_)
      · replace h := ineg hc h
        cases h
        exact hJ hm58 _ f41_0 f41_1 rfl rfl
      · replace h := ipos hc h
        refine r_aload_n Ra (i := 0) dX12_ahead_102 rfl f41_0 ?_
        refine q_getA Ra (b := 476) f_X12_7 t475 rfl rfl rfl (hm58.ref t475 rfl (by decide)) (by decide) dX12_ahead_103 ?_
        refine r_iload_n Ra (i := 1) dX12_ahead_106 rfl f41_1 ?_
        refine r_iconst Ra dX12_ahead_107 ?_
        refine r_isub Ra dX12_ahead_108 ?_
        obtain ⟨gu109, h⟩ := gd h
        refine q_iald Ra t476 l476 gu109 dX12_ahead_109 ?_
        obtain ⟨r110, hr110, h⟩ := bd h
        refine q_callSI Ra (c_pM_isLetter hm58 (hm58.int t476 (kd20 _)) hr110) mw_X12_isLetter ms_X12_isLetter rfl rfl k_X12_259 rfl rfl dX12_ahead_110 (fun ok110 => ?_)
        refine r_if_ne Ra 130 dX12_ahead_113 (inR_01 ok110) rfl (fun hc => ?_) (fun hc => ?_)
        · replace h := ineg hc h
          refine r_aload_n Ra (i := 0) dX12_ahead_130 rfl f41_0 ?_
          refine r_iload_n Ra (i := 1) dX12_ahead_131 rfl f41_1 ?_
          obtain ⟨m132, em132, h⟩ := bv h
          have hm132 : VT m132 := eqV em132 (hm58.setI t475 rfl iz1_41)
          refine q_putI Ra f_X12_48 p_X12_12 t475 rfl rfl rfl em132 dX12_ahead_132 ?_
          cases h
          exact hJ hm132 _ f41_0 f41_1 rfl rfl
        · replace h := ipos hc h
          refine r_aload_n Ra (i := 0) dX12_ahead_116 rfl f41_0 ?_
          refine q_getA Ra (b := 476) f_X12_7 t475 rfl rfl rfl (hm58.ref t475 rfl (by decide)) (by decide) dX12_ahead_117 ?_
          refine r_iload_n Ra (i := 1) dX12_ahead_120 rfl f41_1 ?_
          refine r_iconst Ra dX12_ahead_121 ?_
          refine r_isub Ra dX12_ahead_122 ?_
          obtain ⟨gu123, h⟩ := gd h
          refine q_iald Ra t476 l476 gu123 dX12_ahead_123 ?_
          obtain ⟨r124, hr124, h⟩ := bd h
          refine q_callSI Ra (c_pM_isDigit hm58 (hm58.int t476 (kd20 _)) hr124) mw_X12_isDigit ms_X12_isDigit rfl rfl k_X12_263 rfl rfl dX12_ahead_124 (fun ok124 => ?_)
          refine r_if_eq Ra 135 dX12_ahead_127 (inR_01 ok124) rfl (fun hc => ?_) (fun hc => ?_)
          · replace h := ipos hc h
            cases h
            exact hJ hm58 _ f41_0 f41_1 rfl rfl
          · replace h := ineg hc h
            refine r_aload_n Ra (i := 0) dX12_ahead_130 rfl f41_0 ?_
            refine r_iload_n Ra (i := 1) dX12_ahead_131 rfl f41_1 ?_
            obtain ⟨m132, em132, h⟩ := bv h
            have hm132 : VT m132 := eqV em132 (hm58.setI t475 rfl iz1_41)
            refine q_putI Ra f_X12_48 p_X12_12 t475 rfl rfl rfl em132 dX12_ahead_132 ?_
            cases h
            exact hJ hm132 _ f41_0 f41_1 rfl rfl
    · replace h := ipos hc h
      refine r_iload_n Ra (i := 3) dX12_ahead_94 rfl rfl ?_
      refine r_if_eq Ra 135 dX12_ahead_95 (inR_01 ok86) rfl (fun hc => ?_) (fun hc => ?_)
      · replace h := ipos hc h
        cases h
        exact hJ hm58 _ f41_0 f41_1 rfl rfl
      · replace h := ineg hc h
        refine r_iload_n Ra (i := 1) dX12_ahead_98 rfl f41_1 ?_
        refine r_if_le Ra 135 dX12_ahead_99 iz1_41 rfl (fun hc => ?_) (fun hc => ?_)
        · replace h := ineg hc h
          cases h
          exact hJ hm58 _ f41_0 f41_1 rfl rfl
        · replace h := ipos hc h
          refine r_aload_n Ra (i := 0) dX12_ahead_102 rfl f41_0 ?_
          refine q_getA Ra (b := 476) f_X12_7 t475 rfl rfl rfl (hm58.ref t475 rfl (by decide)) (by decide) dX12_ahead_103 ?_
          refine r_iload_n Ra (i := 1) dX12_ahead_106 rfl f41_1 ?_
          refine r_iconst Ra dX12_ahead_107 ?_
          refine r_isub Ra dX12_ahead_108 ?_
          obtain ⟨gu109, h⟩ := gd h
          refine q_iald Ra t476 l476 gu109 dX12_ahead_109 ?_
          obtain ⟨r110, hr110, h⟩ := bd h
          refine q_callSI Ra (c_pM_isLetter hm58 (hm58.int t476 (kd20 _)) hr110) mw_X12_isLetter ms_X12_isLetter rfl rfl k_X12_259 rfl rfl dX12_ahead_110 (fun ok110 => ?_)
          refine r_if_ne Ra 130 dX12_ahead_113 (inR_01 ok110) rfl (fun hc => ?_) (fun hc => ?_)
          · replace h := ineg hc h
            refine r_aload_n Ra (i := 0) dX12_ahead_130 rfl f41_0 ?_
            refine r_iload_n Ra (i := 1) dX12_ahead_131 rfl f41_1 ?_
            obtain ⟨m132, em132, h⟩ := bv h
            have hm132 : VT m132 := eqV em132 (hm58.setI t475 rfl iz1_41)
            refine q_putI Ra f_X12_48 p_X12_12 t475 rfl rfl rfl em132 dX12_ahead_132 ?_
            cases h
            exact hJ hm132 _ f41_0 f41_1 rfl rfl
          · replace h := ipos hc h
            refine r_aload_n Ra (i := 0) dX12_ahead_116 rfl f41_0 ?_
            refine q_getA Ra (b := 476) f_X12_7 t475 rfl rfl rfl (hm58.ref t475 rfl (by decide)) (by decide) dX12_ahead_117 ?_
            refine r_iload_n Ra (i := 1) dX12_ahead_120 rfl f41_1 ?_
            refine r_iconst Ra dX12_ahead_121 ?_
            refine r_isub Ra dX12_ahead_122 ?_
            obtain ⟨gu123, h⟩ := gd h
            refine q_iald Ra t476 l476 gu123 dX12_ahead_123 ?_
            obtain ⟨r124, hr124, h⟩ := bd h
            refine q_callSI Ra (c_pM_isDigit hm58 (hm58.int t476 (kd20 _)) hr124) mw_X12_isDigit ms_X12_isDigit rfl rfl k_X12_263 rfl rfl dX12_ahead_124 (fun ok124 => ?_)
            refine r_if_eq Ra 135 dX12_ahead_127 (inR_01 ok124) rfl (fun hc => ?_) (fun hc => ?_)
            · replace h := ipos hc h
              cases h
              exact hJ hm58 _ f41_0 f41_1 rfl rfl
            · replace h := ineg hc h
              refine r_aload_n Ra (i := 0) dX12_ahead_130 rfl f41_0 ?_
              refine r_iload_n Ra (i := 1) dX12_ahead_131 rfl f41_1 ?_
              obtain ⟨m132, em132, h⟩ := bv h
              have hm132 : VT m132 := eqV em132 (hm58.setI t475 rfl iz1_41)
              refine q_putI Ra f_X12_48 p_X12_12 t475 rfl rfl rfl em132 dX12_ahead_132 ?_
              cases h
              exact hJ hm132 _ f41_0 f41_1 rfl rfl
  · replace h := ineg hc h
    cases h
    exact r_vret Ra hm58 dX12_ahead_69
noncomputable def pM_isSign (μ : Mem) (x1 : Int) : Option (Int) := if μ 475 3 = 3 then if μ 475 6 = x1 then some (1) else some (0) else some (0)
set_option maxHeartbeats 4000000 in
theorem c_pM_isSign {l : Launch} {en : En} {μ : Mem} {x1 : Int} {re : Int} (hV : VT μ) (hx1 : inR x1) (h : pM_isSign μ x1 = some re) : CtI l en yX12_isSign cX12_isSign 2 0 60 [vA en 475, vI x1] μ .boolean re μ ((re = 0 ∨ re = 1)) := by
  refine Tr.of false (fun h => by cases h) (by decide) (Nat.le_of_ble_eq_true rfl) (fun K Ra => ?_)
  unfold pM_isSign at h
  refine r_aload_n Ra (i := 0) dX12_isSign_0 rfl rfl ?_
  refine q_getI Ra (x := μ 475 3) f_X12_20 t475 rfl rfl rfl rfl dX12_isSign_1 ?_
  refine r_iconst Ra dX12_isSign_4 ?_
  refine r_icmp_ne Ra 20 dX12_isSign_5 (hV.int t475 rfl) (Rk rfl) rfl (fun hc => ?_) (fun hc => ?_)
  · replace h := ineg hc h
    refine r_iconst Ra dX12_isSign_20 ?_
    cases h
    exact r_zret Ra (Or.inl rfl) (Or.inl rfl) dX12_isSign_21
  · replace h := ipos hc h
    refine r_aload_n Ra (i := 0) dX12_isSign_8 rfl rfl ?_
    refine q_getI Ra (x := μ 475 6) f_X12_29 t475 rfl rfl rfl rfl dX12_isSign_9 ?_
    refine r_iload_n Ra (i := 1) dX12_isSign_12 rfl rfl ?_
    refine r_icmp_ne Ra 20 dX12_isSign_13 (hV.int t475 rfl) hx1 rfl (fun hc => ?_) (fun hc => ?_)
    · replace h := ineg hc h
      refine r_iconst Ra dX12_isSign_20 ?_
      cases h
      exact r_zret Ra (Or.inl rfl) (Or.inl rfl) dX12_isSign_21
    · replace h := ipos hc h
      refine r_iconst Ra dX12_isSign_16 ?_
      refine r_goto Ra 21 dX12_isSign_17 rfl ?_
      cases h
      exact r_zret Ra (Or.inr rfl) (Or.inr rfl) dX12_isSign_21
noncomputable def pM_isWord (μ : Mem) (x1 : Int) : Option (Int) := if μ 475 3 = 1 then if μ 475 7 = x1 then some (1) else some (0) else some (0)
set_option maxHeartbeats 4000000 in
theorem c_pM_isWord {l : Launch} {en : En} {μ : Mem} {x1 : Int} {re : Int} (hV : VT μ) (hx1 : inL x1) (h : pM_isWord μ x1 = some re) : CtI l en yX12_isWord cX12_isWord 3 0 60 [vA en 475, vJ x1] μ .boolean re μ ((re = 0 ∨ re = 1)) := by
  refine Tr.of false (fun h => by cases h) (by decide) (Nat.le_of_ble_eq_true rfl) (fun K Ra => ?_)
  unfold pM_isWord at h
  refine r_aload_n Ra (i := 0) dX12_isWord_0 rfl rfl ?_
  refine q_getI Ra (x := μ 475 3) f_X12_20 t475 rfl rfl rfl rfl dX12_isWord_1 ?_
  refine r_iconst Ra dX12_isWord_4 ?_
  refine r_icmp_ne Ra 21 dX12_isWord_5 (hV.int t475 rfl) (Rk rfl) rfl (fun hc => ?_) (fun hc => ?_)
  · replace h := ineg hc h
    refine r_iconst Ra dX12_isWord_21 ?_
    cases h
    exact r_zret Ra (Or.inl rfl) (Or.inl rfl) dX12_isWord_22
  · replace h := ipos hc h
    refine r_aload_n Ra (i := 0) dX12_isWord_8 rfl rfl ?_
    refine q_getJ Ra (x := μ 475 7) f_X12_32 t475 rfl rfl rfl rfl dX12_isWord_9 ?_
    refine r_lload_n Ra (i := 1) dX12_isWord_12 rfl rfl rfl ?_
    refine r_lcmp Ra dX12_isWord_13 ?_
    refine q_lif_ne Ra 21 dX12_isWord_14 (hV.long t475 rfl) hx1 rfl (fun hc => ?_) (fun hc => ?_)
    · replace h := ineg hc h
      refine r_iconst Ra dX12_isWord_21 ?_
      cases h
      exact r_zret Ra (Or.inl rfl) (Or.inl rfl) dX12_isWord_22
    · replace h := ipos hc h
      refine r_iconst Ra dX12_isWord_17 ?_
      refine r_goto Ra 22 dX12_isWord_18 rfl ?_
      cases h
      exact r_zret Ra (Or.inr rfl) (Or.inr rfl) dX12_isWord_22
noncomputable def pM_must (N : Nat) (μ : Mem) (x1 : Int) : Option (Mem) := (pM_lex μ).bind fun m1 => (pM_isSign m1 x1).bind fun r6 => (if r6 = 0 then (pM_blame m1 1 (m1 475 4)).bind fun m18 => some (m18) else some (m1)).bind fun n21 => if n21 475 8 = 0 then (pM_ahead N n21).bind fun m29 => some m29 else some n21
set_option maxHeartbeats 4000000 in
theorem c_pM_must {l : Launch} {en : En} {N : Nat} {μ : Mem} {x1 : Int} {μe : Mem} (hV : VT μ) (hx1 : inR x1) (h : pM_must N μ x1 = some μe) : CtV l en yX12_must cX12_must 2 2 105 [vA en 475, vI x1] μ μe (VT μe) := by
  refine Tr.of false (fun h => by cases h) (by decide) (Nat.le_of_ble_eq_true rfl) (fun K Ra => ?_)
  unfold pM_must at h
  refine r_aload_n Ra (i := 0) dX12_must_0 rfl rfl ?_
  obtain ⟨m1, hr1, h⟩ := bd h
  refine q_callVV Ra (c_pM_lex hV hr1) mw_X12_lex mi_X12_lex t475 rfl rfl rfl rfl rfl k_X12_266 rfl rfl dX12_must_1 (fun ok1 => ?_)
  refine r_aload_n Ra (i := 0) dX12_must_4 rfl rfl ?_
  refine r_iload_n Ra (i := 1) dX12_must_5 rfl rfl ?_
  obtain ⟨r6, hr6, h⟩ := bd h
  refine q_callVI Ra (c_pM_isSign ok1 hx1 hr6) mw_X12_isSign mi_X12_isSign t475 rfl rfl rfl rfl rfl k_X12_269 rfl rfl dX12_must_6 (fun ok6 => ?_)
  obtain ⟨n21, hj21, h⟩ := bd h
  have hJ : VT n21 → ∀ L9 : Lo, L9 0 = some (vA en 475) → K ZN 21 L9 [] n21 := by
    intro hn21 L9 f21_0
    refine r_aload_n Ra (i := 0) dX12_must_21 rfl f21_0 ?_
    refine q_getI Ra (x := n21 475 8) f_X12_36 t475 rfl rfl rfl rfl dX12_must_22 ?_
    refine r_if_ne Ra 32 dX12_must_25 (hn21.int t475 rfl) rfl (fun hc => ?_) (fun hc => ?_)
    · replace h := ineg hc h
      cases h
      exact r_vret Ra hn21 dX12_must_32
    · replace h := ipos hc h
      refine r_aload_n Ra (i := 0) dX12_must_28 rfl f21_0 ?_
      obtain ⟨m29, hr29, h⟩ := bd h
      refine q_callVV Ra (c_pM_ahead hn21 hr29) mw_X12_ahead mi_X12_ahead t475 rfl rfl rfl rfl rfl k_X12_272 rfl rfl dX12_must_29 (fun ok29 => ?_)
      cases h
      exact r_vret Ra ok29 dX12_must_32
  replace h := hj21
  refine r_if_ne Ra 21 dX12_must_9 (inR_01 ok6) rfl (fun hc => ?_) (fun hc => ?_)
  · replace h := ineg hc h
    cases h
    exact hJ ok1 _ rfl
  · replace h := ipos hc h
    refine r_aload_n Ra (i := 0) dX12_must_12 rfl rfl ?_
    refine r_iconst Ra dX12_must_13 ?_
    refine r_aload_n Ra (i := 0) dX12_must_14 rfl rfl ?_
    refine q_getI Ra (x := m1 475 4) f_X12_23 t475 rfl rfl rfl rfl dX12_must_15 ?_
    obtain ⟨m18, hr18, h⟩ := bd h
    refine q_callVV Ra (c_pM_blame ok1 (Rk rfl) (ok1.int t475 rfl) hr18) mw_X12_blame mi_X12_blame t475 rfl rfl rfl rfl rfl k_X12_255 rfl rfl dX12_must_18 (fun ok18 => ?_)
    cases h
    exact hJ ok18 _ rfl
noncomputable def pM_isOwn (μ : Mem) (x1 : Int) : Option (Int) := if x1 = 439854918756 then some (1) else if x1 = 25209 then some (1) else if x1 = 6579575 then some (1) else if x1 = 123581014175598 then some (1) else if x1 = 24948 then some (1) else if x1 = 30064 then some (1) else if x1 = 495672714612 then some (1) else if x1 = 1870095731 then some (1) else if x1 = 439721159795 then some (1) else if x1 = 7566702 then some (1) else if x1 = 499850634611 then some (1) else if x1 = 1835627380 then some (1) else if x1 = 109330212154734 then some (1) else if x1 = 7499639 then some (1) else if x1 = 6578553 then some (1) else if x1 = 1752135026 then some (1) else if x1 = 1751217765 then some (1) else if x1 = 26982 then some (1) else if x1 = 28530 then some (1) else if x1 = 6385252 then some (1) else if x1 = 7237492 then some (1) else if x1 = 6384748 then some (1) else if x1 = 7170414 then some (1) else if x1 = 7168376 then some (1) else some (0)
set_option maxHeartbeats 4000000 in
theorem c_pM_isOwn {l : Launch} {en : En} {μ : Mem} {x1 : Int} {re : Int} (hV : VT μ) (hx1 : inL x1) (h : pM_isOwn μ x1 = some re) : CtI l en yX12_isOwn cX12_isOwn 3 0 60 [vA en 475, vJ x1] μ .boolean re μ ((re = 0 ∨ re = 1)) := by
  refine Tr.of false (fun h => by cases h) (by decide) (Nat.le_of_ble_eq_true rfl) (fun K Ra => ?_)
  unfold pM_isOwn at h
  refine r_lload_n Ra (i := 1) dX12_isOwn_0 rfl rfl rfl ?_
  refine r_ldc2 Ra dX12_isOwn_1 kc_X12_275 ?_
  refine r_lcmp Ra dX12_isOwn_4 ?_
  refine q_lif_eq Ra 40 dX12_isOwn_5 hx1 (Lk rfl) rfl (fun hc => ?_) (fun hc => ?_)
  · replace h := ipos hc h
    refine r_iconst Ra dX12_isOwn_40 ?_
    cases h
    exact r_zret Ra (Or.inr rfl) (Or.inr rfl) dX12_isOwn_41
  · replace h := ineg hc h
    refine r_lload_n Ra (i := 1) dX12_isOwn_8 rfl rfl rfl ?_
    refine r_ldc2 Ra dX12_isOwn_9 kc_X12_277 ?_
    refine r_lcmp Ra dX12_isOwn_12 ?_
    refine q_lif_eq Ra 40 dX12_isOwn_13 hx1 (Lk rfl) rfl (fun hc => ?_) (fun hc => ?_)
    · replace h := ipos hc h
      refine r_iconst Ra dX12_isOwn_40 ?_
      cases h
      exact r_zret Ra (Or.inr rfl) (Or.inr rfl) dX12_isOwn_41
    · replace h := ineg hc h
      refine r_lload_n Ra (i := 1) dX12_isOwn_16 rfl rfl rfl ?_
      refine r_ldc2 Ra dX12_isOwn_17 kc_X12_279 ?_
      refine r_lcmp Ra dX12_isOwn_20 ?_
      refine q_lif_eq Ra 40 dX12_isOwn_21 hx1 (Lk rfl) rfl (fun hc => ?_) (fun hc => ?_)
      · replace h := ipos hc h
        refine r_iconst Ra dX12_isOwn_40 ?_
        cases h
        exact r_zret Ra (Or.inr rfl) (Or.inr rfl) dX12_isOwn_41
      · replace h := ineg hc h
        refine r_lload_n Ra (i := 1) dX12_isOwn_24 rfl rfl rfl ?_
        refine r_ldc2 Ra dX12_isOwn_25 kc_X12_281 ?_
        refine r_lcmp Ra dX12_isOwn_28 ?_
        refine q_lif_eq Ra 40 dX12_isOwn_29 hx1 (Lk rfl) rfl (fun hc => ?_) (fun hc => ?_)
        · replace h := ipos hc h
          refine r_iconst Ra dX12_isOwn_40 ?_
          cases h
          exact r_zret Ra (Or.inr rfl) (Or.inr rfl) dX12_isOwn_41
        · replace h := ineg hc h
          refine r_lload_n Ra (i := 1) dX12_isOwn_32 rfl rfl rfl ?_
          refine r_ldc2 Ra dX12_isOwn_33 kc_X12_283 ?_
          refine r_lcmp Ra dX12_isOwn_36 ?_
          refine q_lif_ne Ra 42 dX12_isOwn_37 hx1 (Lk rfl) rfl (fun hc => ?_) (fun hc => ?_)
          · replace h := ineg hc h
            refine r_lload_n Ra (i := 1) dX12_isOwn_42 rfl rfl rfl ?_
            refine r_ldc2 Ra dX12_isOwn_43 kc_X12_285 ?_
            refine r_lcmp Ra dX12_isOwn_46 ?_
            refine q_lif_eq Ra 82 dX12_isOwn_47 hx1 (Lk rfl) rfl (fun hc => ?_) (fun hc => ?_)
            · replace h := ipos hc h
              refine r_iconst Ra dX12_isOwn_82 ?_
              cases h
              exact r_zret Ra (Or.inr rfl) (Or.inr rfl) dX12_isOwn_83
            · replace h := ineg hc h
              refine r_lload_n Ra (i := 1) dX12_isOwn_50 rfl rfl rfl ?_
              refine r_ldc2 Ra dX12_isOwn_51 kc_X12_287 ?_
              refine r_lcmp Ra dX12_isOwn_54 ?_
              refine q_lif_eq Ra 82 dX12_isOwn_55 hx1 (Lk rfl) rfl (fun hc => ?_) (fun hc => ?_)
              · replace h := ipos hc h
                refine r_iconst Ra dX12_isOwn_82 ?_
                cases h
                exact r_zret Ra (Or.inr rfl) (Or.inr rfl) dX12_isOwn_83
              · replace h := ineg hc h
                refine r_lload_n Ra (i := 1) dX12_isOwn_58 rfl rfl rfl ?_
                refine r_ldc2 Ra dX12_isOwn_59 kc_X12_289 ?_
                refine r_lcmp Ra dX12_isOwn_62 ?_
                refine q_lif_eq Ra 82 dX12_isOwn_63 hx1 (Lk rfl) rfl (fun hc => ?_) (fun hc => ?_)
                · replace h := ipos hc h
                  refine r_iconst Ra dX12_isOwn_82 ?_
                  cases h
                  exact r_zret Ra (Or.inr rfl) (Or.inr rfl) dX12_isOwn_83
                · replace h := ineg hc h
                  refine r_lload_n Ra (i := 1) dX12_isOwn_66 rfl rfl rfl ?_
                  refine r_ldc2 Ra dX12_isOwn_67 kc_X12_291 ?_
                  refine r_lcmp Ra dX12_isOwn_70 ?_
                  refine q_lif_eq Ra 82 dX12_isOwn_71 hx1 (Lk rfl) rfl (fun hc => ?_) (fun hc => ?_)
                  · replace h := ipos hc h
                    refine r_iconst Ra dX12_isOwn_82 ?_
                    cases h
                    exact r_zret Ra (Or.inr rfl) (Or.inr rfl) dX12_isOwn_83
                  · replace h := ineg hc h
                    refine r_lload_n Ra (i := 1) dX12_isOwn_74 rfl rfl rfl ?_
                    refine r_ldc2 Ra dX12_isOwn_75 kc_X12_293 ?_
                    refine r_lcmp Ra dX12_isOwn_78 ?_
                    refine q_lif_ne Ra 84 dX12_isOwn_79 hx1 (Lk rfl) rfl (fun hc => ?_) (fun hc => ?_)
                    · replace h := ineg hc h
                      refine r_lload_n Ra (i := 1) dX12_isOwn_84 rfl rfl rfl ?_
                      refine r_ldc2 Ra dX12_isOwn_85 kc_X12_295 ?_
                      refine r_lcmp Ra dX12_isOwn_88 ?_
                      refine q_lif_eq Ra 124 dX12_isOwn_89 hx1 (Lk rfl) rfl (fun hc => ?_) (fun hc => ?_)
                      · replace h := ipos hc h
                        refine r_iconst Ra dX12_isOwn_124 ?_
                        cases h
                        exact r_zret Ra (Or.inr rfl) (Or.inr rfl) dX12_isOwn_125
                      · replace h := ineg hc h
                        refine r_lload_n Ra (i := 1) dX12_isOwn_92 rfl rfl rfl ?_
                        refine r_ldc2 Ra dX12_isOwn_93 kc_X12_297 ?_
                        refine r_lcmp Ra dX12_isOwn_96 ?_
                        refine q_lif_eq Ra 124 dX12_isOwn_97 hx1 (Lk rfl) rfl (fun hc => ?_) (fun hc => ?_)
                        · replace h := ipos hc h
                          refine r_iconst Ra dX12_isOwn_124 ?_
                          cases h
                          exact r_zret Ra (Or.inr rfl) (Or.inr rfl) dX12_isOwn_125
                        · replace h := ineg hc h
                          refine r_lload_n Ra (i := 1) dX12_isOwn_100 rfl rfl rfl ?_
                          refine r_ldc2 Ra dX12_isOwn_101 kc_X12_299 ?_
                          refine r_lcmp Ra dX12_isOwn_104 ?_
                          refine q_lif_eq Ra 124 dX12_isOwn_105 hx1 (Lk rfl) rfl (fun hc => ?_) (fun hc => ?_)
                          · replace h := ipos hc h
                            refine r_iconst Ra dX12_isOwn_124 ?_
                            cases h
                            exact r_zret Ra (Or.inr rfl) (Or.inr rfl) dX12_isOwn_125
                          · replace h := ineg hc h
                            refine r_lload_n Ra (i := 1) dX12_isOwn_108 rfl rfl rfl ?_
                            refine r_ldc2 Ra dX12_isOwn_109 kc_X12_301 ?_
                            refine r_lcmp Ra dX12_isOwn_112 ?_
                            refine q_lif_eq Ra 124 dX12_isOwn_113 hx1 (Lk rfl) rfl (fun hc => ?_) (fun hc => ?_)
                            · replace h := ipos hc h
                              refine r_iconst Ra dX12_isOwn_124 ?_
                              cases h
                              exact r_zret Ra (Or.inr rfl) (Or.inr rfl) dX12_isOwn_125
                            · replace h := ineg hc h
                              refine r_lload_n Ra (i := 1) dX12_isOwn_116 rfl rfl rfl ?_
                              refine r_ldc2 Ra dX12_isOwn_117 kc_X12_303 ?_
                              refine r_lcmp Ra dX12_isOwn_120 ?_
                              refine q_lif_ne Ra 126 dX12_isOwn_121 hx1 (Lk rfl) rfl (fun hc => ?_) (fun hc => ?_)
                              · replace h := ineg hc h
                                refine r_lload_n Ra (i := 1) dX12_isOwn_126 rfl rfl rfl ?_
                                refine r_ldc2 Ra dX12_isOwn_127 kc_X12_305 ?_
                                refine r_lcmp Ra dX12_isOwn_130 ?_
                                refine q_lif_eq Ra 166 dX12_isOwn_131 hx1 (Lk rfl) rfl (fun hc => ?_) (fun hc => ?_)
                                · replace h := ipos hc h
                                  refine r_iconst Ra dX12_isOwn_166 ?_
                                  cases h
                                  exact r_zret Ra (Or.inr rfl) (Or.inr rfl) dX12_isOwn_167
                                · replace h := ineg hc h
                                  refine r_lload_n Ra (i := 1) dX12_isOwn_134 rfl rfl rfl ?_
                                  refine r_ldc2 Ra dX12_isOwn_135 kc_X12_307 ?_
                                  refine r_lcmp Ra dX12_isOwn_138 ?_
                                  refine q_lif_eq Ra 166 dX12_isOwn_139 hx1 (Lk rfl) rfl (fun hc => ?_) (fun hc => ?_)
                                  · replace h := ipos hc h
                                    refine r_iconst Ra dX12_isOwn_166 ?_
                                    cases h
                                    exact r_zret Ra (Or.inr rfl) (Or.inr rfl) dX12_isOwn_167
                                  · replace h := ineg hc h
                                    refine r_lload_n Ra (i := 1) dX12_isOwn_142 rfl rfl rfl ?_
                                    refine r_ldc2 Ra dX12_isOwn_143 kc_X12_309 ?_
                                    refine r_lcmp Ra dX12_isOwn_146 ?_
                                    refine q_lif_eq Ra 166 dX12_isOwn_147 hx1 (Lk rfl) rfl (fun hc => ?_) (fun hc => ?_)
                                    · replace h := ipos hc h
                                      refine r_iconst Ra dX12_isOwn_166 ?_
                                      cases h
                                      exact r_zret Ra (Or.inr rfl) (Or.inr rfl) dX12_isOwn_167
                                    · replace h := ineg hc h
                                      refine r_lload_n Ra (i := 1) dX12_isOwn_150 rfl rfl rfl ?_
                                      refine r_ldc2 Ra dX12_isOwn_151 kc_X12_311 ?_
                                      refine r_lcmp Ra dX12_isOwn_154 ?_
                                      refine q_lif_eq Ra 166 dX12_isOwn_155 hx1 (Lk rfl) rfl (fun hc => ?_) (fun hc => ?_)
                                      · replace h := ipos hc h
                                        refine r_iconst Ra dX12_isOwn_166 ?_
                                        cases h
                                        exact r_zret Ra (Or.inr rfl) (Or.inr rfl) dX12_isOwn_167
                                      · replace h := ineg hc h
                                        refine r_lload_n Ra (i := 1) dX12_isOwn_158 rfl rfl rfl ?_
                                        refine r_ldc2 Ra dX12_isOwn_159 kc_X12_313 ?_
                                        refine r_lcmp Ra dX12_isOwn_162 ?_
                                        refine q_lif_ne Ra 168 dX12_isOwn_163 hx1 (Lk rfl) rfl (fun hc => ?_) (fun hc => ?_)
                                        · replace h := ineg hc h
                                          refine r_lload_n Ra (i := 1) dX12_isOwn_168 rfl rfl rfl ?_
                                          refine r_ldc2 Ra dX12_isOwn_169 kc_X12_315 ?_
                                          refine r_lcmp Ra dX12_isOwn_172 ?_
                                          refine q_lif_eq Ra 200 dX12_isOwn_173 hx1 (Lk rfl) rfl (fun hc => ?_) (fun hc => ?_)
                                          · replace h := ipos hc h
                                            refine r_iconst Ra dX12_isOwn_200 ?_
                                            cases h
                                            exact r_zret Ra (Or.inr rfl) (Or.inr rfl) dX12_isOwn_201
                                          · replace h := ineg hc h
                                            refine r_lload_n Ra (i := 1) dX12_isOwn_176 rfl rfl rfl ?_
                                            refine r_ldc2 Ra dX12_isOwn_177 kc_X12_317 ?_
                                            refine r_lcmp Ra dX12_isOwn_180 ?_
                                            refine q_lif_eq Ra 200 dX12_isOwn_181 hx1 (Lk rfl) rfl (fun hc => ?_) (fun hc => ?_)
                                            · replace h := ipos hc h
                                              refine r_iconst Ra dX12_isOwn_200 ?_
                                              cases h
                                              exact r_zret Ra (Or.inr rfl) (Or.inr rfl) dX12_isOwn_201
                                            · replace h := ineg hc h
                                              refine r_lload_n Ra (i := 1) dX12_isOwn_184 rfl rfl rfl ?_
                                              refine r_ldc2 Ra dX12_isOwn_185 kc_X12_319 ?_
                                              refine r_lcmp Ra dX12_isOwn_188 ?_
                                              refine q_lif_eq Ra 200 dX12_isOwn_189 hx1 (Lk rfl) rfl (fun hc => ?_) (fun hc => ?_)
                                              · replace h := ipos hc h
                                                refine r_iconst Ra dX12_isOwn_200 ?_
                                                cases h
                                                exact r_zret Ra (Or.inr rfl) (Or.inr rfl) dX12_isOwn_201
                                              · replace h := ineg hc h
                                                refine r_lload_n Ra (i := 1) dX12_isOwn_192 rfl rfl rfl ?_
                                                refine r_ldc2 Ra dX12_isOwn_193 kc_X12_321 ?_
                                                refine r_lcmp Ra dX12_isOwn_196 ?_
                                                refine q_lif_ne Ra 202 dX12_isOwn_197 hx1 (Lk rfl) rfl (fun hc => ?_) (fun hc => ?_)
                                                · replace h := ineg hc h
                                                  refine r_iconst Ra dX12_isOwn_202 ?_
                                                  cases h
                                                  exact r_zret Ra (Or.inl rfl) (Or.inl rfl) dX12_isOwn_203
                                                · replace h := ipos hc h
                                                  refine r_iconst Ra dX12_isOwn_200 ?_
                                                  cases h
                                                  exact r_zret Ra (Or.inr rfl) (Or.inr rfl) dX12_isOwn_201
                                        · replace h := ipos hc h
                                          refine r_iconst Ra dX12_isOwn_166 ?_
                                          cases h
                                          exact r_zret Ra (Or.inr rfl) (Or.inr rfl) dX12_isOwn_167
                              · replace h := ipos hc h
                                refine r_iconst Ra dX12_isOwn_124 ?_
                                cases h
                                exact r_zret Ra (Or.inr rfl) (Or.inr rfl) dX12_isOwn_125
                    · replace h := ipos hc h
                      refine r_iconst Ra dX12_isOwn_82 ?_
                      cases h
                      exact r_zret Ra (Or.inr rfl) (Or.inr rfl) dX12_isOwn_83
          · replace h := ipos hc h
            refine r_iconst Ra dX12_isOwn_40 ?_
            cases h
            exact r_zret Ra (Or.inr rfl) (Or.inr rfl) dX12_isOwn_41
noncomputable def pM_named_L2b (N : Nat) (μ : Mem) (c1 : Int) (k : Unit → Option (Int)) (self : Int → Option (Int)) (x3 : Int) : Option (Int) := if 0 ≤ μ 475 29 ∧ μ 475 29 < 2 then if x3 < μ 480 (μ 475 29) then if 0 ≤ w32 ((w32 (6 * (μ 475 29))) + x3) ∧ w32 ((w32 (6 * (μ 475 29))) + x3) < 12 then if μ 490 (w32 ((w32 (6 * (μ 475 29))) + x3)) = c1 then some (x3) else (some (w32 (x3 + 1) : Int)).bind fun x3_36 => self x3_36 else none else k () else none
noncomputable def pM_named_L2 (N : Nat) (μ : Mem) (c1 : Int) (k : Unit → Option (Int)) (n : Nat) : Int → Option (Int) := lpF (fun _ => none) (pM_named_L2b N μ c1 k) n
noncomputable def pM_named (N : Nat) (μ : Mem) (x1 : Int) : Option (Int) := pM_named_L2 N μ x1 (fun (_ : Unit) => some ((-1))) N 0
theorem k_pM_named_L2 {l : Launch} {en : En} {re : Int} {N : Nat} {μ : Mem} (hV : VT μ) {c1 : Int} {k : Unit → Option (Int)} {K : KT} (Ra : Ru false (some (some .int, some (vI re), nCells, μ, 0, 0, (inR re))) l en cX12_named yX12_named.cls 4 (rmN 0 60) K) (hi1 : inL c1) (hk : k () = some re → ∀ L9 : Lo, K ZN 42 L9 [] μ) : ∀ (n : Nat) (x3 : Int) (L : Lo), pM_named_L2 N μ c1 k n x3 = some re → inR x3 → L 0 = some (vA en 475) → L 1 = some (vJ c1) → L 2 = some mark → L 3 = some (vI x3) → K ZN 2 L [] μ := by
  intro n
  induction n with
  | zero => intro x3 L h; cases h
  | succ n ih =>
    intro x3 L h hx3 hL0 hL1 qhL1 hL3
    replace h : pM_named_L2b N μ c1 k (pM_named_L2 N μ c1 k n) x3 = some re := h
    unfold pM_named_L2b at h
    refine r_iload_n Ra (i := 3) dX12_named_2 rfl hL3 ?_
    refine r_aload_n Ra (i := 0) dX12_named_3 rfl hL0 ?_
    refine q_getA Ra (b := 480) f_X12_63 t475 rfl rfl rfl (hV.ref t475 rfl (by decide)) (by decide) dX12_named_4 ?_
    refine r_aload_n Ra (i := 0) dX12_named_7 rfl hL0 ?_
    refine q_getI Ra (x := μ 475 29) f_X12_100 t475 rfl rfl rfl rfl dX12_named_8 ?_
    obtain ⟨gu11, h⟩ := gd h
    refine q_iald Ra t480 l480 gu11 dX12_named_11 ?_
    refine r_icmp_ge Ra 42 dX12_named_12 hx3 (hV.int t480 (kd20 _)) rfl (fun hc => ?_) (fun hc => ?_)
    · replace h := ineg hc h
      exact hk h  _ 
    · replace h := ipos hc h
      refine r_aload_n Ra (i := 0) dX12_named_15 rfl hL0 ?_
      refine q_getA Ra (b := 490) f_X12_93 t475 rfl rfl rfl (hV.ref t475 rfl (by decide)) (by decide) dX12_named_16 ?_
      refine r_bipush Ra dX12_named_19 rfl ?_
      refine r_aload_n Ra (i := 0) dX12_named_21 rfl hL0 ?_
      refine q_getI Ra (x := μ 475 29) f_X12_100 t475 rfl rfl rfl rfl dX12_named_22 ?_
      refine r_imul Ra dX12_named_25 ?_
      refine r_iload_n Ra (i := 3) dX12_named_26 rfl hL3 ?_
      refine r_iadd Ra dX12_named_27 ?_
      obtain ⟨gu28, h⟩ := gd h
      refine q_lald Ra t490 l490 gu28 dX12_named_28 ?_
      refine r_lload_n Ra (i := 1) dX12_named_29 rfl hL1 qhL1 ?_
      refine r_lcmp Ra dX12_named_30 ?_
      refine q_lif_ne Ra 36 dX12_named_31 (hV.long t490 (kd22 _)) hi1 rfl (fun hc => ?_) (fun hc => ?_)
      · replace h := ineg hc h
        obtain ⟨x3_36, ex3_36, h⟩ := bv h
        have ix3_36 : inR x3_36 := eqR ex3_36 (inR_32 _)
        refine q_iinc Ra dX12_named_36 hL3 ex3_36 ?_
        refine r_goto Ra 2 dX12_named_39 rfl ?_
        exact ih x3_36 _ h ix3_36 hL0 hL1 qhL1 rfl
      · replace h := ipos hc h
        refine r_iload_n Ra (i := 3) dX12_named_34 rfl hL3 ?_
        cases h
        exact r_iret Ra hx3 dX12_named_35
set_option maxHeartbeats 4000000 in
theorem c_pM_named {l : Launch} {en : En} {N : Nat} {μ : Mem} {x1 : Int} {re : Int} (hV : VT μ) (hx1 : inL x1) (h : pM_named N μ x1 = some re) : CtI l en yX12_named cX12_named 4 0 60 [vA en 475, vJ x1] μ .int re μ (inR re) := by
  refine Tr.of false (fun h => by cases h) (by decide) (Nat.le_of_ble_eq_true rfl) (fun K Ra => ?_)
  unfold pM_named at h
  refine r_iconst Ra dX12_named_0 ?_
  refine q_istore_n Ra 3 dX12_named_1 rfl rfl rfl ?_
  refine k_pM_named_L2 hV Ra hx1 ?_ _ _ _ h (Rk rfl) rfl rfl rfl rfl
  intro h L9 
  refine r_iconst Ra dX12_named_42 ?_
  cases h
  exact r_iret Ra (Rk rfl) dX12_named_43
noncomputable def pM_number (N : Nat) (μ : Mem) (x1 : Int) (x2 : Int) : Option (Int × Mem) := (pM_lex μ).bind fun m1 => if 0 < m1 475 8 then some (0, m1) else (if m1 475 3 = 2 then some (m1) else (pM_blame m1 1 (m1 475 4)).bind fun m27 => some (m27)).bind fun n30 => (if n30 475 8 = 0 then (pM_is n30 (n30 475 6) x1 x2).bind fun r43 => if r43 = 0 then (pM_blame n30 4 (n30 475 4)).bind fun m55 => some (m55) else some (n30) else some (n30)).bind fun n58 => (some (n58 475 6 : Int)).bind fun x3_62 => if n58 475 8 = 0 then (pM_ahead N n58).bind fun m71 => some (x3_62, m71) else some (x3_62, n58)
set_option maxHeartbeats 4000000 in
theorem c_pM_number {l : Launch} {en : En} {N : Nat} {μ : Mem} {x1 : Int} {x2 : Int} {re : Int} {μe : Mem} (hV : VT μ) (hx1 : inR x1) (hx2 : inR x2) (h : pM_number N μ x1 x2 = some (re, μe)) : CtI l en yX12_number cX12_number 4 2 105 [vA en 475, vI x1, vI x2] μ .int re μe (VT μe ∧ inR re) := by
  refine Tr.of false (fun h => by cases h) (by decide) (Nat.le_of_ble_eq_true rfl) (fun K Ra => ?_)
  unfold pM_number at h
  refine r_aload_n Ra (i := 0) dX12_number_0 rfl rfl ?_
  obtain ⟨m1, hr1, h⟩ := bd h
  refine q_callVV Ra (c_pM_lex hV hr1) mw_X12_lex mi_X12_lex t475 rfl rfl rfl rfl rfl k_X12_266 rfl rfl dX12_number_1 (fun ok1 => ?_)
  refine r_aload_n Ra (i := 0) dX12_number_4 rfl rfl ?_
  refine q_getI Ra (x := m1 475 8) f_X12_36 t475 rfl rfl rfl rfl dX12_number_5 ?_
  refine r_if_le Ra 13 dX12_number_8 (ok1.int t475 rfl) rfl (fun hc => ?_) (fun hc => ?_)
  · replace h := ineg hc h
    refine r_aload_n Ra (i := 0) dX12_number_13 rfl rfl ?_
    refine q_getI Ra (x := m1 475 3) f_X12_20 t475 rfl rfl rfl rfl dX12_number_14 ?_
    refine r_iconst Ra dX12_number_17 ?_
    obtain ⟨n30, hj30, h⟩ := bd h
    have hJ : VT n30 → ∀ L9 : Lo, L9 0 = some (vA en 475) → L9 1 = some (vI x1) → L9 2 = some (vI x2) → K ZN 30 L9 [] n30 := by
      intro hn30 L9 f30_0 f30_1 f30_2
      refine r_aload_n Ra (i := 0) dX12_number_30 rfl f30_0 ?_
      refine q_getI Ra (x := n30 475 8) f_X12_36 t475 rfl rfl rfl rfl dX12_number_31 ?_
      obtain ⟨n58, hj58, h⟩ := bd h
      have hJ : VT n58 → ∀ L9 : Lo, L9 0 = some (vA en 475) → K ZN 58 L9 [] n58 := by
        intro hn58 L9 f58_0
        refine r_aload_n Ra (i := 0) dX12_number_58 rfl f58_0 ?_
        refine q_getI Ra (x := n58 475 6) f_X12_29 t475 rfl rfl rfl rfl dX12_number_59 ?_
        obtain ⟨x3_62, ex3_62, h⟩ := bv h
        have ix3_62 : inR x3_62 := eqR ex3_62 (hn58.int t475 rfl)
        refine q_istore_n Ra 3 dX12_number_62 rfl rfl ex3_62 ?_
        refine r_aload_n Ra (i := 0) dX12_number_63 rfl f58_0 ?_
        refine q_getI Ra (x := n58 475 8) f_X12_36 t475 rfl rfl rfl rfl dX12_number_64 ?_
        refine r_if_ne Ra 74 dX12_number_67 (hn58.int t475 rfl) rfl (fun hc => ?_) (fun hc => ?_)
        · replace h := ineg hc h
          refine r_iload_n Ra (i := 3) dX12_number_74 rfl rfl ?_
          cases h
          exact r_iret Ra ⟨hn58, ix3_62⟩ dX12_number_75
        · replace h := ipos hc h
          refine r_aload_n Ra (i := 0) dX12_number_70 rfl f58_0 ?_
          obtain ⟨m71, hr71, h⟩ := bd h
          refine q_callVV Ra (c_pM_ahead hn58 hr71) mw_X12_ahead mi_X12_ahead t475 rfl rfl rfl rfl rfl k_X12_272 rfl rfl dX12_number_71 (fun ok71 => ?_)
          refine r_iload_n Ra (i := 3) dX12_number_74 rfl rfl ?_
          cases h
          exact r_iret Ra ⟨ok71, ix3_62⟩ dX12_number_75
      replace h := hj58
      refine r_if_ne Ra 58 dX12_number_34 (hn30.int t475 rfl) rfl (fun hc => ?_) (fun hc => ?_)
      · replace h := ineg hc h
        cases h
        exact hJ hn30 _ f30_0
      · replace h := ipos hc h
        refine r_aload_n Ra (i := 0) dX12_number_37 rfl f30_0 ?_
        refine q_getI Ra (x := n30 475 6) f_X12_29 t475 rfl rfl rfl rfl dX12_number_38 ?_
        refine r_iload_n Ra (i := 1) dX12_number_41 rfl f30_1 ?_
        refine r_iload_n Ra (i := 2) dX12_number_42 rfl f30_2 ?_
        obtain ⟨r43, hr43, h⟩ := bd h
        refine q_callSI Ra (c_pM_is hn30 (hn30.int t475 rfl) hx1 hx2 hr43) mw_X12_is ms_X12_is rfl rfl k_X12_323 rfl rfl dX12_number_43 (fun ok43 => ?_)
        refine r_if_ne Ra 58 dX12_number_46 (inR_01 ok43) rfl (fun hc => ?_) (fun hc => ?_)
        · replace h := ineg hc h
          cases h
          exact hJ hn30 _ f30_0
        · replace h := ipos hc h
          refine r_aload_n Ra (i := 0) dX12_number_49 rfl f30_0 ?_
          refine r_iconst Ra dX12_number_50 ?_
          refine r_aload_n Ra (i := 0) dX12_number_51 rfl f30_0 ?_
          refine q_getI Ra (x := n30 475 4) f_X12_23 t475 rfl rfl rfl rfl dX12_number_52 ?_
          obtain ⟨m55, hr55, h⟩ := bd h
          refine q_callVV Ra (c_pM_blame hn30 (Rk rfl) (hn30.int t475 rfl) hr55) mw_X12_blame mi_X12_blame t475 rfl rfl rfl rfl rfl k_X12_255 rfl rfl dX12_number_55 (fun ok55 => ?_)
          cases h
          exact hJ ok55 _ f30_0
    replace h := hj30
    refine r_icmp_eq Ra 30 dX12_number_18 (ok1.int t475 rfl) (Rk rfl) rfl (fun hc => ?_) (fun hc => ?_)
    · replace h := ipos hc h
      cases h
      exact hJ ok1 _ rfl rfl rfl
    · replace h := ineg hc h
      refine r_aload_n Ra (i := 0) dX12_number_21 rfl rfl ?_
      refine r_iconst Ra dX12_number_22 ?_
      refine r_aload_n Ra (i := 0) dX12_number_23 rfl rfl ?_
      refine q_getI Ra (x := m1 475 4) f_X12_23 t475 rfl rfl rfl rfl dX12_number_24 ?_
      obtain ⟨m27, hr27, h⟩ := bd h
      refine q_callVV Ra (c_pM_blame ok1 (Rk rfl) (ok1.int t475 rfl) hr27) mw_X12_blame mi_X12_blame t475 rfl rfl rfl rfl rfl k_X12_255 rfl rfl dX12_number_27 (fun ok27 => ?_)
      cases h
      exact hJ ok27 _ rfl rfl rfl
  · replace h := ipos hc h
    refine r_iconst Ra dX12_number_11 ?_
    cases h
    exact r_iret Ra ⟨ok1, (Rk rfl)⟩ dX12_number_12
noncomputable def pM_add (μ : Mem) (x1 : Int) (x2 : Int) : Option (Mem) := if 0 ≤ w32 ((w32 (1600 * (μ 475 29))) + (μ 475 28)) ∧ w32 ((w32 (1600 * (μ 475 29))) + (μ 475 28)) < 3200 then (some (mset μ 488 (w32 ((w32 (1600 * (μ 475 29))) + (μ 475 28))) x1)).bind fun m18 => if 0 ≤ w32 ((w32 (1600 * (m18 475 29))) + (m18 475 28)) ∧ w32 ((w32 (1600 * (m18 475 29))) + (m18 475 28)) < 3200 then (some (mset m18 489 (w32 ((w32 (1600 * (m18 475 29))) + (m18 475 28))) x2)).bind fun m37 => (some (mset m37 475 28 (w32 ((m37 475 28) + 1)))).bind fun m45 => some m45 else none else none
set_option maxHeartbeats 4000000 in
theorem c_pM_add {l : Launch} {en : En} {μ : Mem} {x1 : Int} {x2 : Int} {μe : Mem} (hV : VT μ) (hx1 : inR x1) (hx2 : inR x2) (h : pM_add μ x1 x2 = some μe) : CtV l en yX12_add cX12_add 3 0 60 [vA en 475, vI x1, vI x2] μ μe (VT μe) := by
  refine Tr.of false (fun h => by cases h) (by decide) (Nat.le_of_ble_eq_true rfl) (fun K Ra => ?_)
  unfold pM_add at h
  refine r_aload_n Ra (i := 0) dX12_add_0 rfl rfl ?_
  refine q_getA Ra (b := 488) f_X12_87 t475 rfl rfl rfl (hV.ref t475 rfl (by decide)) (by decide) dX12_add_1 ?_
  refine r_sipush Ra dX12_add_4 rfl ?_
  refine r_aload_n Ra (i := 0) dX12_add_7 rfl rfl ?_
  refine q_getI Ra (x := μ 475 29) f_X12_100 t475 rfl rfl rfl rfl dX12_add_8 ?_
  refine r_imul Ra dX12_add_11 ?_
  refine r_aload_n Ra (i := 0) dX12_add_12 rfl rfl ?_
  refine q_getI Ra (x := μ 475 28) f_X12_97 t475 rfl rfl rfl rfl dX12_add_13 ?_
  refine r_iadd Ra dX12_add_16 ?_
  refine r_iload_n Ra (i := 1) dX12_add_17 rfl rfl ?_
  obtain ⟨gu18, h⟩ := gd h
  obtain ⟨m18, em18, h⟩ := bv h
  have hm18 : VT m18 := eqV em18 (hV.setI t488 (kd20 _) hx1)
  refine q_iast Ra t488 l488 gu18 em18 dX12_add_18 ?_
  refine r_aload_n Ra (i := 0) dX12_add_19 rfl rfl ?_
  refine q_getA Ra (b := 489) f_X12_90 t475 rfl rfl rfl (hm18.ref t475 rfl (by decide)) (by decide) dX12_add_20 ?_
  refine r_sipush Ra dX12_add_23 rfl ?_
  refine r_aload_n Ra (i := 0) dX12_add_26 rfl rfl ?_
  refine q_getI Ra (x := m18 475 29) f_X12_100 t475 rfl rfl rfl rfl dX12_add_27 ?_
  refine r_imul Ra dX12_add_30 ?_
  refine r_aload_n Ra (i := 0) dX12_add_31 rfl rfl ?_
  refine q_getI Ra (x := m18 475 28) f_X12_97 t475 rfl rfl rfl rfl dX12_add_32 ?_
  refine r_iadd Ra dX12_add_35 ?_
  refine r_iload_n Ra (i := 2) dX12_add_36 rfl rfl ?_
  obtain ⟨gu37, h⟩ := gd h
  obtain ⟨m37, em37, h⟩ := bv h
  have hm37 : VT m37 := eqV em37 (hm18.setI t489 (kd20 _) hx2)
  refine q_iast Ra t489 l489 gu37 em37 dX12_add_37 ?_
  refine r_aload_n Ra (i := 0) dX12_add_38 rfl rfl ?_
  refine r_dupA Ra dX12_add_39 ?_
  refine q_getI Ra (x := m37 475 28) f_X12_97 t475 rfl rfl rfl rfl dX12_add_40 ?_
  refine r_iconst Ra dX12_add_43 ?_
  refine r_iadd Ra dX12_add_44 ?_
  obtain ⟨m45, em45, h⟩ := bv h
  have hm45 : VT m45 := eqV em45 (hm37.setI t475 rfl (inR_32 _))
  refine q_putI Ra f_X12_97 p_X12_28 t475 rfl rfl rfl em45 dX12_add_45 ?_
  cases h
  exact r_vret Ra hm45 dX12_add_48
noncomputable def pM_rank (μ : Mem) (x0 : Int) : Option (Int) := if x0 = 42 then some (1) else if x0 = 41 then some (2) else if x0 = 43 then some (3) else if x0 = 38 then some (4) else if x0 = 39 then some (4) else if x0 = 40 then some (4) else if x0 = 31 then some (5) else if x0 = 32 then some (5) else some (6)
set_option maxHeartbeats 4000000 in
theorem c_pM_rank {l : Launch} {en : En} {μ : Mem} {x0 : Int} {re : Int} (hV : VT μ) (hx0 : inR x0) (h : pM_rank μ x0 = some re) : CtI l en yX12_rank cX12_rank 1 0 60 [vI x0] μ .int re μ (inR re) := by
  refine Tr.of false (fun h => by cases h) (by decide) (Nat.le_of_ble_eq_true rfl) (fun K Ra => ?_)
  unfold pM_rank at h
  refine r_iload_n Ra (i := 0) dX12_rank_0 rfl rfl ?_
  refine r_bipush Ra dX12_rank_1 rfl ?_
  refine r_icmp_ne Ra 10 dX12_rank_3 hx0 (Rk rfl) rfl (fun hc => ?_) (fun hc => ?_)
  · replace h := ineg hc h
    refine r_iload_n Ra (i := 0) dX12_rank_10 rfl rfl ?_
    refine r_bipush Ra dX12_rank_11 rfl ?_
    refine r_icmp_ne Ra 20 dX12_rank_13 hx0 (Rk rfl) rfl (fun hc => ?_) (fun hc => ?_)
    · replace h := ineg hc h
      refine r_iload_n Ra (i := 0) dX12_rank_20 rfl rfl ?_
      refine r_bipush Ra dX12_rank_21 rfl ?_
      refine r_icmp_ne Ra 30 dX12_rank_23 hx0 (Rk rfl) rfl (fun hc => ?_) (fun hc => ?_)
      · replace h := ineg hc h
        refine r_iload_n Ra (i := 0) dX12_rank_30 rfl rfl ?_
        refine r_bipush Ra dX12_rank_31 rfl ?_
        refine r_icmp_eq Ra 48 dX12_rank_33 hx0 (Rk rfl) rfl (fun hc => ?_) (fun hc => ?_)
        · replace h := ipos hc h
          refine r_iconst Ra dX12_rank_48 ?_
          refine r_goto Ra 70 dX12_rank_49 rfl ?_
          cases h
          exact r_iret Ra (Rk rfl) dX12_rank_70
        · replace h := ineg hc h
          refine r_iload_n Ra (i := 0) dX12_rank_36 rfl rfl ?_
          refine r_bipush Ra dX12_rank_37 rfl ?_
          refine r_icmp_eq Ra 48 dX12_rank_39 hx0 (Rk rfl) rfl (fun hc => ?_) (fun hc => ?_)
          · replace h := ipos hc h
            refine r_iconst Ra dX12_rank_48 ?_
            refine r_goto Ra 70 dX12_rank_49 rfl ?_
            cases h
            exact r_iret Ra (Rk rfl) dX12_rank_70
          · replace h := ineg hc h
            refine r_iload_n Ra (i := 0) dX12_rank_42 rfl rfl ?_
            refine r_bipush Ra dX12_rank_43 rfl ?_
            refine r_icmp_ne Ra 52 dX12_rank_45 hx0 (Rk rfl) rfl (fun hc => ?_) (fun hc => ?_)
            · replace h := ineg hc h
              refine r_iload_n Ra (i := 0) dX12_rank_52 rfl rfl ?_
              refine r_bipush Ra dX12_rank_53 rfl ?_
              refine r_icmp_eq Ra 64 dX12_rank_55 hx0 (Rk rfl) rfl (fun hc => ?_) (fun hc => ?_)
              · replace h := ipos hc h
                refine r_iconst Ra dX12_rank_64 ?_
                refine r_goto Ra 70 dX12_rank_65 rfl ?_
                cases h
                exact r_iret Ra (Rk rfl) dX12_rank_70
              · replace h := ineg hc h
                refine r_iload_n Ra (i := 0) dX12_rank_58 rfl rfl ?_
                refine r_bipush Ra dX12_rank_59 rfl ?_
                refine r_icmp_ne Ra 68 dX12_rank_61 hx0 (Rk rfl) rfl (fun hc => ?_) (fun hc => ?_)
                · replace h := ineg hc h
                  refine r_bipush Ra dX12_rank_68 rfl ?_
                  cases h
                  exact r_iret Ra (Rk rfl) dX12_rank_70
                · replace h := ipos hc h
                  refine r_iconst Ra dX12_rank_64 ?_
                  refine r_goto Ra 70 dX12_rank_65 rfl ?_
                  cases h
                  exact r_iret Ra (Rk rfl) dX12_rank_70
            · replace h := ipos hc h
              refine r_iconst Ra dX12_rank_48 ?_
              refine r_goto Ra 70 dX12_rank_49 rfl ?_
              cases h
              exact r_iret Ra (Rk rfl) dX12_rank_70
      · replace h := ipos hc h
        refine r_iconst Ra dX12_rank_26 ?_
        refine r_goto Ra 70 dX12_rank_27 rfl ?_
        cases h
        exact r_iret Ra (Rk rfl) dX12_rank_70
    · replace h := ipos hc h
      refine r_iconst Ra dX12_rank_16 ?_
      refine r_goto Ra 70 dX12_rank_17 rfl ?_
      cases h
      exact r_iret Ra (Rk rfl) dX12_rank_70
  · replace h := ipos hc h
    refine r_iconst Ra dX12_rank_6 ?_
    refine r_goto Ra 70 dX12_rank_7 rfl ?_
    cases h
    exact r_iret Ra (Rk rfl) dX12_rank_70
noncomputable def pM_joins_L0b (N : Nat) (c1 : Int) (k : Mem → Option (Mem)) (self : Mem → Option (Mem))  (μ : Mem) : Option (Mem) := if 0 ≤ w32 ((μ 475 36) - 1) ∧ w32 ((μ 475 36) - 1) < 20 then if μ 495 (w32 ((μ 475 36) - 1)) < μ 475 39 then if 0 ≤ w32 ((μ 475 39) - 1) ∧ w32 ((μ 475 39) - 1) < 500 then (pM_rank μ (μ 496 (w32 ((μ 475 39) - 1)))).bind fun r29 => if r29 < c1 then k μ else (some (mset μ 475 39 (w32 ((μ 475 39) - 1)))).bind fun m43 => if 0 ≤ m43 475 39 ∧ m43 475 39 < 500 then (pM_add m43 (m43 496 (m43 475 39)) 0).bind fun m57 => if 0 ≤ m57 475 39 ∧ m57 475 39 < 500 then if m57 496 (m57 475 39) = 43 then (some (mset m57 475 37 (w32 ((m57 475 37) - 1)))).bind fun m81 => self m81 else self m57 else none else none else none else k μ else none
noncomputable def pM_joins_L0 (N : Nat) (c1 : Int) (k : Mem → Option (Mem)) (n : Nat) : Mem → Option (Mem) := lpF (fun _ => none) (pM_joins_L0b N c1 k) n
noncomputable def pM_joins (N : Nat) (μ : Mem) (x1 : Int) : Option (Mem) := pM_joins_L0 N x1 (fun n87 => some n87) N μ
theorem k_pM_joins_L0 {l : Launch} {en : En} {μe : Mem} {N : Nat} {c1 : Int} {k : Mem → Option (Mem)} {K : KT} (Ra : Ru false (some (none, none, nCells, μe, 0, 0, (VT μe))) l en cX12_joins yX12_joins.cls 2 (rmN 1 82) K) (hi1 : inR c1) (hk : ∀  (μ9 : Mem), k μ9 = some μe → VT μ9 → ∀ L9 : Lo, K ZN 87 L9 [] μ9) : ∀ (n : Nat) (μ : Mem) (L : Lo), pM_joins_L0 N c1 k n μ = some μe → VT μ → L 0 = some (vA en 475) → L 1 = some (vI c1) → K ZN 0 L [] μ := by
  intro n
  induction n with
  | zero => intro μ L h; cases h
  | succ n ih =>
    intro μ L h  hV hL0 hL1
    replace h : pM_joins_L0b N c1 k (pM_joins_L0 N c1 k n) μ = some μe := h
    unfold pM_joins_L0b at h
    refine r_aload_n Ra (i := 0) dX12_joins_0 rfl hL0 ?_
    refine q_getI Ra (x := μ 475 39) f_X12_131 t475 rfl rfl rfl rfl dX12_joins_1 ?_
    refine r_aload_n Ra (i := 0) dX12_joins_4 rfl hL0 ?_
    refine q_getA Ra (b := 495) f_X12_119 t475 rfl rfl rfl (hV.ref t475 rfl (by decide)) (by decide) dX12_joins_5 ?_
    refine r_aload_n Ra (i := 0) dX12_joins_8 rfl hL0 ?_
    refine q_getI Ra (x := μ 475 36) f_X12_122 t475 rfl rfl rfl rfl dX12_joins_9 ?_
    refine r_iconst Ra dX12_joins_12 ?_
    refine r_isub Ra dX12_joins_13 ?_
    obtain ⟨gu14, h⟩ := gd h
    refine q_iald Ra t495 l495 gu14 dX12_joins_14 ?_
    refine r_icmp_le Ra 87 dX12_joins_15 (hV.int t475 rfl) (hV.int t495 (kd20 _)) rfl (fun hc => ?_) (fun hc => ?_)
    · replace h := ineg hc h
      exact hk μ h  hV _ 
    · replace h := ipos hc h
      refine r_aload_n Ra (i := 0) dX12_joins_18 rfl hL0 ?_
      refine q_getA Ra (b := 496) f_X12_128 t475 rfl rfl rfl (hV.ref t475 rfl (by decide)) (by decide) dX12_joins_19 ?_
      refine r_aload_n Ra (i := 0) dX12_joins_22 rfl hL0 ?_
      refine q_getI Ra (x := μ 475 39) f_X12_131 t475 rfl rfl rfl rfl dX12_joins_23 ?_
      refine r_iconst Ra dX12_joins_26 ?_
      refine r_isub Ra dX12_joins_27 ?_
      obtain ⟨gu28, h⟩ := gd h
      refine q_iald Ra t496 l496 gu28 dX12_joins_28 ?_
      obtain ⟨r29, hr29, h⟩ := bd h
      refine q_callSI Ra (c_pM_rank hV (hV.int t496 (kd20 _)) hr29) mw_X12_rank ms_X12_rank rfl rfl k_X12_327 rfl rfl dX12_joins_29 (fun ok29 => ?_)
      refine r_iload_n Ra (i := 1) dX12_joins_32 rfl hL1 ?_
      refine r_icmp_lt Ra 87 dX12_joins_33 ok29 hi1 rfl (fun hc => ?_) (fun hc => ?_)
      · replace h := ipos hc h
        exact hk μ h  hV _ 
      · replace h := ineg hc h
        refine r_aload_n Ra (i := 0) dX12_joins_36 rfl hL0 ?_
        refine r_dupA Ra dX12_joins_37 ?_
        refine q_getI Ra (x := μ 475 39) f_X12_131 t475 rfl rfl rfl rfl dX12_joins_38 ?_
        refine r_iconst Ra dX12_joins_41 ?_
        refine r_isub Ra dX12_joins_42 ?_
        obtain ⟨m43, em43, h⟩ := bv h
        have hm43 : VT m43 := eqV em43 (hV.setI t475 rfl (inR_32 _))
        refine q_putI Ra f_X12_131 p_X12_39 t475 rfl rfl rfl em43 dX12_joins_43 ?_
        refine r_aload_n Ra (i := 0) dX12_joins_46 rfl hL0 ?_
        refine r_aload_n Ra (i := 0) dX12_joins_47 rfl hL0 ?_
        refine q_getA Ra (b := 496) f_X12_128 t475 rfl rfl rfl (hm43.ref t475 rfl (by decide)) (by decide) dX12_joins_48 ?_
        refine r_aload_n Ra (i := 0) dX12_joins_51 rfl hL0 ?_
        refine q_getI Ra (x := m43 475 39) f_X12_131 t475 rfl rfl rfl rfl dX12_joins_52 ?_
        obtain ⟨gu55, h⟩ := gd h
        refine q_iald Ra t496 l496 gu55 dX12_joins_55 ?_
        refine r_iconst Ra dX12_joins_56 ?_
        obtain ⟨m57, hr57, h⟩ := bd h
        refine q_callVV Ra (c_pM_add hm43 (hm43.int t496 (kd20 _)) (Rk rfl) hr57) mw_X12_add mi_X12_add t475 rfl rfl rfl rfl rfl k_X12_330 rfl rfl dX12_joins_57 (fun ok57 => ?_)
        refine r_aload_n Ra (i := 0) dX12_joins_60 rfl hL0 ?_
        refine q_getA Ra (b := 496) f_X12_128 t475 rfl rfl rfl (ok57.ref t475 rfl (by decide)) (by decide) dX12_joins_61 ?_
        refine r_aload_n Ra (i := 0) dX12_joins_64 rfl hL0 ?_
        refine q_getI Ra (x := m57 475 39) f_X12_131 t475 rfl rfl rfl rfl dX12_joins_65 ?_
        obtain ⟨gu68, h⟩ := gd h
        refine q_iald Ra t496 l496 gu68 dX12_joins_68 ?_
        refine r_bipush Ra dX12_joins_69 rfl ?_
        refine r_icmp_ne Ra 0 dX12_joins_71 (ok57.int t496 (kd20 _)) (Rk rfl) rfl (fun hc => ?_) (fun hc => ?_)
        · replace h := ineg hc h
          exact ih m57 _ h  ok57 hL0 hL1
        · replace h := ipos hc h
          refine r_aload_n Ra (i := 0) dX12_joins_74 rfl hL0 ?_
          refine r_dupA Ra dX12_joins_75 ?_
          refine q_getI Ra (x := m57 475 37) f_X12_125 t475 rfl rfl rfl rfl dX12_joins_76 ?_
          refine r_iconst Ra dX12_joins_79 ?_
          refine r_isub Ra dX12_joins_80 ?_
          obtain ⟨m81, em81, h⟩ := bv h
          have hm81 : VT m81 := eqV em81 (ok57.setI t475 rfl (inR_32 _))
          refine q_putI Ra f_X12_125 p_X12_37 t475 rfl rfl rfl em81 dX12_joins_81 ?_
          refine r_goto Ra 0 dX12_joins_84 rfl ?_
          exact ih m81 _ h  hm81 hL0 hL1
set_option maxHeartbeats 4000000 in
theorem c_pM_joins {l : Launch} {en : En} {N : Nat} {μ : Mem} {x1 : Int} {μe : Mem} (hV : VT μ) (hx1 : inR x1) (h : pM_joins N μ x1 = some μe) : CtV l en yX12_joins cX12_joins 2 1 82 [vA en 475, vI x1] μ μe (VT μe) := by
  refine Tr.of false (fun h => by cases h) (by decide) (Nat.le_of_ble_eq_true rfl) (fun K Ra => ?_)
  unfold pM_joins at h
  refine k_pM_joins_L0 Ra hx1 ?_ _ _ _ h hV rfl rfl
  intro n87 h hn87 L9 
  cases h
  exact r_vret Ra hn87 dX12_joins_87
noncomputable def pM_holdsBack (μ : Mem) (x1 : Int) : Option (Mem) := if 0 ≤ μ 475 39 ∧ μ 475 39 < 500 then (some (mset μ 496 (μ 475 39) x1)).bind fun m9 => (some (mset m9 475 39 (w32 ((m9 475 39) + 1)))).bind fun m17 => some m17 else none
set_option maxHeartbeats 4000000 in
theorem c_pM_holdsBack {l : Launch} {en : En} {μ : Mem} {x1 : Int} {μe : Mem} (hV : VT μ) (hx1 : inR x1) (h : pM_holdsBack μ x1 = some μe) : CtV l en yX12_holdsBack cX12_holdsBack 2 0 60 [vA en 475, vI x1] μ μe (VT μe) := by
  refine Tr.of false (fun h => by cases h) (by decide) (Nat.le_of_ble_eq_true rfl) (fun K Ra => ?_)
  unfold pM_holdsBack at h
  refine r_aload_n Ra (i := 0) dX12_holdsBack_0 rfl rfl ?_
  refine q_getA Ra (b := 496) f_X12_128 t475 rfl rfl rfl (hV.ref t475 rfl (by decide)) (by decide) dX12_holdsBack_1 ?_
  refine r_aload_n Ra (i := 0) dX12_holdsBack_4 rfl rfl ?_
  refine q_getI Ra (x := μ 475 39) f_X12_131 t475 rfl rfl rfl rfl dX12_holdsBack_5 ?_
  refine r_iload_n Ra (i := 1) dX12_holdsBack_8 rfl rfl ?_
  obtain ⟨gu9, h⟩ := gd h
  obtain ⟨m9, em9, h⟩ := bv h
  have hm9 : VT m9 := eqV em9 (hV.setI t496 (kd20 _) hx1)
  refine q_iast Ra t496 l496 gu9 em9 dX12_holdsBack_9 ?_
  refine r_aload_n Ra (i := 0) dX12_holdsBack_10 rfl rfl ?_
  refine r_dupA Ra dX12_holdsBack_11 ?_
  refine q_getI Ra (x := m9 475 39) f_X12_131 t475 rfl rfl rfl rfl dX12_holdsBack_12 ?_
  refine r_iconst Ra dX12_holdsBack_15 ?_
  refine r_iadd Ra dX12_holdsBack_16 ?_
  obtain ⟨m17, em17, h⟩ := bv h
  have hm17 : VT m17 := eqV em17 (hm9.setI t475 rfl (inR_32 _))
  refine q_putI Ra f_X12_131 p_X12_39 t475 rfl rfl rfl em17 dX12_holdsBack_17 ?_
  cases h
  exact r_vret Ra hm17 dX12_holdsBack_20
noncomputable def pM_pushes (μ : Mem) (x1 : Int) : Option (Mem) := if 0 ≤ μ 475 36 ∧ μ 475 36 < 20 then (some (mset μ 491 (μ 475 36) x1)).bind fun m9 => if 0 ≤ m9 475 36 ∧ m9 475 36 < 20 then (some (mset m9 492 (m9 475 36) 0)).bind fun m19 => if 0 ≤ m19 475 36 ∧ m19 475 36 < 20 then (some (mset m19 493 (m19 475 36) 1)).bind fun m29 => if 0 ≤ m29 475 36 ∧ m29 475 36 < 20 then (some (mset m29 495 (m29 475 36) (m29 475 39))).bind fun m42 => (some (mset m42 475 36 (w32 ((m42 475 36) + 1)))).bind fun m50 => some m50 else none else none else none else none
set_option maxHeartbeats 4000000 in
theorem c_pM_pushes {l : Launch} {en : En} {μ : Mem} {x1 : Int} {μe : Mem} (hV : VT μ) (hx1 : inR x1) (h : pM_pushes μ x1 = some μe) : CtV l en yX12_pushes cX12_pushes 2 0 60 [vA en 475, vI x1] μ μe (VT μe) := by
  refine Tr.of false (fun h => by cases h) (by decide) (Nat.le_of_ble_eq_true rfl) (fun K Ra => ?_)
  unfold pM_pushes at h
  refine r_aload_n Ra (i := 0) dX12_pushes_0 rfl rfl ?_
  refine q_getA Ra (b := 491) f_X12_106 t475 rfl rfl rfl (hV.ref t475 rfl (by decide)) (by decide) dX12_pushes_1 ?_
  refine r_aload_n Ra (i := 0) dX12_pushes_4 rfl rfl ?_
  refine q_getI Ra (x := μ 475 36) f_X12_122 t475 rfl rfl rfl rfl dX12_pushes_5 ?_
  refine r_iload_n Ra (i := 1) dX12_pushes_8 rfl rfl ?_
  obtain ⟨gu9, h⟩ := gd h
  obtain ⟨m9, em9, h⟩ := bv h
  have hm9 : VT m9 := eqV em9 (hV.setI t491 (kd20 _) hx1)
  refine q_iast Ra t491 l491 gu9 em9 dX12_pushes_9 ?_
  refine r_aload_n Ra (i := 0) dX12_pushes_10 rfl rfl ?_
  refine q_getA Ra (b := 492) f_X12_109 t475 rfl rfl rfl (hm9.ref t475 rfl (by decide)) (by decide) dX12_pushes_11 ?_
  refine r_aload_n Ra (i := 0) dX12_pushes_14 rfl rfl ?_
  refine q_getI Ra (x := m9 475 36) f_X12_122 t475 rfl rfl rfl rfl dX12_pushes_15 ?_
  refine r_iconst Ra dX12_pushes_18 ?_
  obtain ⟨gu19, h⟩ := gd h
  obtain ⟨m19, em19, h⟩ := bv h
  have hm19 : VT m19 := eqV em19 (hm9.setI t492 (kd20 _) (Rk rfl))
  refine q_iast Ra t492 l492 gu19 em19 dX12_pushes_19 ?_
  refine r_aload_n Ra (i := 0) dX12_pushes_20 rfl rfl ?_
  refine q_getA Ra (b := 493) f_X12_112 t475 rfl rfl rfl (hm19.ref t475 rfl (by decide)) (by decide) dX12_pushes_21 ?_
  refine r_aload_n Ra (i := 0) dX12_pushes_24 rfl rfl ?_
  refine q_getI Ra (x := m19 475 36) f_X12_122 t475 rfl rfl rfl rfl dX12_pushes_25 ?_
  refine r_iconst Ra dX12_pushes_28 ?_
  obtain ⟨gu29, h⟩ := gd h
  obtain ⟨m29, em29, h⟩ := bv h
  have hm29 : VT m29 := eqV em29 (hm19.setZ t493 (kd21 _) (Or.inr rfl))
  refine q_zast Ra t493 l493 gu29 (Or.inr rfl) em29 dX12_pushes_29 ?_
  refine r_aload_n Ra (i := 0) dX12_pushes_30 rfl rfl ?_
  refine q_getA Ra (b := 495) f_X12_119 t475 rfl rfl rfl (hm29.ref t475 rfl (by decide)) (by decide) dX12_pushes_31 ?_
  refine r_aload_n Ra (i := 0) dX12_pushes_34 rfl rfl ?_
  refine q_getI Ra (x := m29 475 36) f_X12_122 t475 rfl rfl rfl rfl dX12_pushes_35 ?_
  refine r_aload_n Ra (i := 0) dX12_pushes_38 rfl rfl ?_
  refine q_getI Ra (x := m29 475 39) f_X12_131 t475 rfl rfl rfl rfl dX12_pushes_39 ?_
  obtain ⟨gu42, h⟩ := gd h
  obtain ⟨m42, em42, h⟩ := bv h
  have hm42 : VT m42 := eqV em42 (hm29.setI t495 (kd20 _) (hm29.int t475 rfl))
  refine q_iast Ra t495 l495 gu42 em42 dX12_pushes_42 ?_
  refine r_aload_n Ra (i := 0) dX12_pushes_43 rfl rfl ?_
  refine r_dupA Ra dX12_pushes_44 ?_
  refine q_getI Ra (x := m42 475 36) f_X12_122 t475 rfl rfl rfl rfl dX12_pushes_45 ?_
  refine r_iconst Ra dX12_pushes_48 ?_
  refine r_iadd Ra dX12_pushes_49 ?_
  obtain ⟨m50, em50, h⟩ := bv h
  have hm50 : VT m50 := eqV em50 (hm42.setI t475 rfl (inR_32 _))
  refine q_putI Ra f_X12_122 p_X12_36 t475 rfl rfl rfl em50 dX12_pushes_50 ?_
  cases h
  exact r_vret Ra hm50 dX12_pushes_53
noncomputable def pM_opens (N : Nat) (μ : Mem) (x1 : Int) : Option (Mem) := (if μ 475 37 = 7 then (pM_blame μ 5 (μ 475 4)).bind fun m15 => some (m15) else some (μ)).bind fun n18 => if 0 < n18 475 8 then some n18 else (some (mset n18 475 37 (w32 ((n18 475 37) + 1)))).bind fun m33 => (pM_ahead N m33).bind fun m37 => (pM_pushes m37 x1).bind fun m42 => some m42
set_option maxHeartbeats 4000000 in
theorem c_pM_opens {l : Launch} {en : En} {N : Nat} {μ : Mem} {x1 : Int} {μe : Mem} (hV : VT μ) (hx1 : inR x1) (h : pM_opens N μ x1 = some μe) : CtV l en yX12_opens cX12_opens 2 2 105 [vA en 475, vI x1] μ μe (VT μe) := by
  refine Tr.of false (fun h => by cases h) (by decide) (Nat.le_of_ble_eq_true rfl) (fun K Ra => ?_)
  unfold pM_opens at h
  refine r_aload_n Ra (i := 0) dX12_opens_0 rfl rfl ?_
  refine q_getI Ra (x := μ 475 37) f_X12_125 t475 rfl rfl rfl rfl dX12_opens_1 ?_
  refine r_bipush Ra dX12_opens_4 rfl ?_
  obtain ⟨n18, hj18, h⟩ := bd h
  have hJ : VT n18 → ∀ L9 : Lo, L9 0 = some (vA en 475) → L9 1 = some (vI x1) → K ZN 18 L9 [] n18 := by
    intro hn18 L9 f18_0 f18_1
    refine r_aload_n Ra (i := 0) dX12_opens_18 rfl f18_0 ?_
    refine q_getI Ra (x := n18 475 8) f_X12_36 t475 rfl rfl rfl rfl dX12_opens_19 ?_
    refine r_if_le Ra 26 dX12_opens_22 (hn18.int t475 rfl) rfl (fun hc => ?_) (fun hc => ?_)
    · replace h := ineg hc h
      refine r_aload_n Ra (i := 0) dX12_opens_26 rfl f18_0 ?_
      refine r_dupA Ra dX12_opens_27 ?_
      refine q_getI Ra (x := n18 475 37) f_X12_125 t475 rfl rfl rfl rfl dX12_opens_28 ?_
      refine r_iconst Ra dX12_opens_31 ?_
      refine r_iadd Ra dX12_opens_32 ?_
      obtain ⟨m33, em33, h⟩ := bv h
      have hm33 : VT m33 := eqV em33 (hn18.setI t475 rfl (inR_32 _))
      refine q_putI Ra f_X12_125 p_X12_37 t475 rfl rfl rfl em33 dX12_opens_33 ?_
      refine r_aload_n Ra (i := 0) dX12_opens_36 rfl f18_0 ?_
      obtain ⟨m37, hr37, h⟩ := bd h
      refine q_callVV Ra (c_pM_ahead hm33 hr37) mw_X12_ahead mi_X12_ahead t475 rfl rfl rfl rfl rfl k_X12_272 rfl rfl dX12_opens_37 (fun ok37 => ?_)
      refine r_aload_n Ra (i := 0) dX12_opens_40 rfl f18_0 ?_
      refine r_iload_n Ra (i := 1) dX12_opens_41 rfl f18_1 ?_
      obtain ⟨m42, hr42, h⟩ := bd h
      refine q_callVV Ra (c_pM_pushes ok37 hx1 hr42) mw_X12_pushes mi_X12_pushes t475 rfl rfl rfl rfl rfl k_X12_333 rfl rfl dX12_opens_42 (fun ok42 => ?_)
      cases h
      exact r_vret Ra ok42 dX12_opens_45
    · replace h := ipos hc h
      cases h
      exact r_vret Ra hn18 dX12_opens_25
  replace h := hj18
  refine r_icmp_ne Ra 18 dX12_opens_6 (hV.int t475 rfl) (Rk rfl) rfl (fun hc => ?_) (fun hc => ?_)
  · replace h := ineg hc h
    cases h
    exact hJ hV _ rfl rfl
  · replace h := ipos hc h
    refine r_aload_n Ra (i := 0) dX12_opens_9 rfl rfl ?_
    refine r_iconst Ra dX12_opens_10 ?_
    refine r_aload_n Ra (i := 0) dX12_opens_11 rfl rfl ?_
    refine q_getI Ra (x := μ 475 4) f_X12_23 t475 rfl rfl rfl rfl dX12_opens_12 ?_
    obtain ⟨m15, hr15, h⟩ := bd h
    refine q_callVV Ra (c_pM_blame hV (Rk rfl) (hV.int t475 rfl) hr15) mw_X12_blame mi_X12_blame t475 rfl rfl rfl rfl rfl k_X12_255 rfl rfl dX12_opens_15 (fun ok15 => ?_)
    cases h
    exact hJ ok15 _ rfl rfl
noncomputable def pM_isTest (μ : Mem) (x0 : Int) : Option (Int) := if x0 = 1 then some (1) else if x0 = 5 then some (1) else if x0 = 6 then some (1) else some (0)
set_option maxHeartbeats 4000000 in
theorem c_pM_isTest {l : Launch} {en : En} {μ : Mem} {x0 : Int} {re : Int} (hV : VT μ) (hx0 : inR x0) (h : pM_isTest μ x0 = some re) : CtI l en yX12_isTest cX12_isTest 1 0 60 [vI x0] μ .boolean re μ ((re = 0 ∨ re = 1)) := by
  refine Tr.of false (fun h => by cases h) (by decide) (Nat.le_of_ble_eq_true rfl) (fun K Ra => ?_)
  unfold pM_isTest at h
  refine r_iload_n Ra (i := 0) dX12_isTest_0 rfl rfl ?_
  refine r_iconst Ra dX12_isTest_1 ?_
  refine r_icmp_eq Ra 16 dX12_isTest_2 hx0 (Rk rfl) rfl (fun hc => ?_) (fun hc => ?_)
  · replace h := ipos hc h
    refine r_iconst Ra dX12_isTest_16 ?_
    refine r_goto Ra 21 dX12_isTest_17 rfl ?_
    cases h
    exact r_zret Ra (Or.inr rfl) (Or.inr rfl) dX12_isTest_21
  · replace h := ineg hc h
    refine r_iload_n Ra (i := 0) dX12_isTest_5 rfl rfl ?_
    refine r_iconst Ra dX12_isTest_6 ?_
    refine r_icmp_eq Ra 16 dX12_isTest_7 hx0 (Rk rfl) rfl (fun hc => ?_) (fun hc => ?_)
    · replace h := ipos hc h
      refine r_iconst Ra dX12_isTest_16 ?_
      refine r_goto Ra 21 dX12_isTest_17 rfl ?_
      cases h
      exact r_zret Ra (Or.inr rfl) (Or.inr rfl) dX12_isTest_21
    · replace h := ineg hc h
      refine r_iload_n Ra (i := 0) dX12_isTest_10 rfl rfl ?_
      refine r_bipush Ra dX12_isTest_11 rfl ?_
      refine r_icmp_ne Ra 20 dX12_isTest_13 hx0 (Rk rfl) rfl (fun hc => ?_) (fun hc => ?_)
      · replace h := ineg hc h
        refine r_iconst Ra dX12_isTest_20 ?_
        cases h
        exact r_zret Ra (Or.inl rfl) (Or.inl rfl) dX12_isTest_21
      · replace h := ipos hc h
        refine r_iconst Ra dX12_isTest_16 ?_
        refine r_goto Ra 21 dX12_isTest_17 rfl ?_
        cases h
        exact r_zret Ra (Or.inr rfl) (Or.inr rfl) dX12_isTest_21
noncomputable def pM_operand (N : Nat) (μ : Mem)  : Option (Int × Mem) := (pM_lex μ).bind fun m1 => if 0 < m1 475 8 then some (1, m1) else (some (w32 ((m1 475 36) - 1) : Int)).bind fun x1_19 => if 0 ≤ x1_19 ∧ x1_19 < 20 then (pM_isTest m1 (m1 491 x1_19)).bind fun r26 => (if r26 = 0 then some ((0 : Int)) else if 0 ≤ x1_19 ∧ x1_19 < 20 then if m1 493 x1_19 = 0 then some ((0 : Int)) else some ((1 : Int)) else none).bind fun ys0_46 => jn (α := Unit → Option (Int × Mem)) (fun (_ : Unit) => if 0 ≤ x1_19 ∧ x1_19 < 20 then (some (mset m1 493 x1_19 0)).bind fun m116 => jn (α := Unit → Option (Int × Mem)) (fun (_ : Unit) => jn (α := Unit → Option (Int × Mem)) (fun (_ : Unit) => (pM_isSign m116 40).bind fun r174 => if r174 = 0 then (pM_isWord m116 7170414).bind fun r191 => jn (α := Unit → Option (Int × Mem)) (fun (_ : Unit) => (pM_isWord m116 7170414).bind fun r221 => (if r221 = 0 then (pM_isWord m116 7168376).bind fun r236 => if r236 = 0 then some ((44 : Int)) else some ((37 : Int)) else some ((36 : Int))).bind fun ys0_249 => (pM_ahead N m116).bind fun m251 => (pM_lex m251).bind fun m255 => (pM_isSign m255 40).bind fun r261 => (if r261 = 0 then (pM_blame m255 1 (m255 475 4)).bind fun m273 => some (m273) else some (m255)).bind fun n276 => (some (if ys0_249 = 44 then 6 else 3 : Int)).bind fun ys1_289 => (pM_opens N n276 ys1_289).bind fun m289 => if m289 475 8 = 0 then if 0 ≤ w32 ((m289 475 36) - 1) ∧ w32 ((m289 475 36) - 1) < 20 then (some (mset m289 494 (w32 ((m289 475 36) - 1)) ys0_249)).bind fun m310 => some (0, m310) else none else some (0, m289)) (fun (j217 : Unit → Option (Int × Mem)) => if r191 = 0 then (pM_isWord m116 7168376).bind fun r201 => if r201 = 0 then (pM_isWord m116 26982).bind fun r211 => if r211 = 0 then (if m116 475 3 = 2 then some ((0 : Int)) else (pM_isWord m116 109330212154734).bind fun r329 => if r329 = 0 then (pM_isWord m116 7499639).bind fun r343 => if r343 = 0 then (pM_isWord m116 6579575).bind fun r357 => if r357 = 0 then (pM_isWord m116 6578553).bind fun r371 => if r371 = 0 then (pM_isWord m116 1752135026).bind fun r385 => if r385 = 0 then (pM_isWord m116 1751217765).bind fun r399 => if r399 = 0 then (pM_isWord m116 495672714612).bind fun r414 => if r414 = 0 then some (((-1) : Int)) else some ((7 : Int)) else some ((6 : Int)) else some ((5 : Int)) else some ((4 : Int)) else some ((3 : Int)) else some ((2 : Int)) else some ((1 : Int))).bind fun ys0_426 => (some (if ys0_426 < 5 then if 5 < ys0_426 then if m116 475 30 = 1 then (-1) else ys0_426 else ys0_426 else if m116 475 30 = 0 then (-1) else if 5 < ys0_426 then if m116 475 30 = 1 then (-1) else ys0_426 else ys0_426 : Int)).bind fun yl3_454 => (if yl3_454 = (-1) then (pM_blame m116 1 (m116 475 4)).bind fun m465 => some (m465) else some (m116)).bind fun n468 => if 0 < n468 475 8 then some (1, n468) else (pM_add n468 yl3_454 (n468 475 6)).bind fun m483 => (pM_ahead N m483).bind fun m487 => some (1, m487) else j217 () else j217 () else j217 ()) else (pM_opens N m116 2).bind fun m182 => some (0, m182)) (fun (j171 : Unit → Option (Int × Mem)) => if ys0_46 = 0 then j171 () else (pM_isWord m116 6384748).bind fun r145 => if r145 = 0 then j171 () else (pM_add m116 30 0).bind fun m155 => if 0 ≤ x1_19 ∧ x1_19 < 20 then (some (mset m155 492 x1_19 2)).bind fun m164 => (pM_ahead N m164).bind fun m166 => some (1, m166) else none)) (fun (j137 : Unit → Option (Int × Mem)) => if ys0_46 = 0 then j137 () else (pM_isSign m116 91).bind fun r124 => if r124 = 0 then j137 () else (pM_opens N m116 5).bind fun m132 => some (0, m132)) else none) (fun (j110 : Unit → Option (Int × Mem)) => if ys0_46 = 0 then j110 () else (pM_isWord m1 7237492).bind fun r55 => if r55 = 0 then j110 () else (if m1 475 37 = 7 then (pM_blame m1 5 (m1 475 4)).bind fun m76 => some (m76) else some (m1)).bind fun n79 => if 0 < n79 475 8 then some (1, n79) else (some (mset n79 475 37 (w32 ((n79 475 37) + 1)))).bind fun m95 => (pM_holdsBack m95 43).bind fun m101 => (pM_ahead N m101).bind fun m105 => some (0, m105)) else none
set_option maxHeartbeats 4000000 in
theorem c_pM_operand {l : Launch} {en : En} {N : Nat} {μ : Mem}  {re : Int} {μe : Mem} (hV : VT μ)  (h : pM_operand N μ = some (re, μe)) : CtI l en yX12_operand cX12_operand 4 3 126 [vA en 475] μ .boolean re μe (VT μe ∧ (re = 0 ∨ re = 1)) := by
  refine Tr.of false (fun h => by cases h) (by decide) (Nat.le_of_ble_eq_true rfl) (fun K Ra => ?_)
  unfold pM_operand at h
  refine r_aload_n Ra (i := 0) dX12_operand_0 rfl rfl ?_
  obtain ⟨m1, hr1, h⟩ := bd h
  refine q_callVV Ra (c_pM_lex hV hr1) mw_X12_lex mi_X12_lex t475 rfl rfl rfl rfl rfl k_X12_266 rfl rfl dX12_operand_1 (fun ok1 => ?_)
  refine r_aload_n Ra (i := 0) dX12_operand_4 rfl rfl ?_
  refine q_getI Ra (x := m1 475 8) f_X12_36 t475 rfl rfl rfl rfl dX12_operand_5 ?_
  refine r_if_le Ra 13 dX12_operand_8 (ok1.int t475 rfl) rfl (fun hc => ?_) (fun hc => ?_)
  · replace h := ineg hc h
    refine r_aload_n Ra (i := 0) dX12_operand_13 rfl rfl ?_
    refine q_getI Ra (x := m1 475 36) f_X12_122 t475 rfl rfl rfl rfl dX12_operand_14 ?_
    refine r_iconst Ra dX12_operand_17 ?_
    refine r_isub Ra dX12_operand_18 ?_
    obtain ⟨x1_19, ex1_19, h⟩ := bv h
    have ix1_19 : inR x1_19 := eqR ex1_19 (inR_32 _)
    refine q_istore_n Ra 1 dX12_operand_19 rfl rfl ex1_19 ?_
    refine r_aload_n Ra (i := 0) dX12_operand_20 rfl rfl ?_
    refine q_getA Ra (b := 491) f_X12_106 t475 rfl rfl rfl (ok1.ref t475 rfl (by decide)) (by decide) dX12_operand_21 ?_
    refine r_iload_n Ra (i := 1) dX12_operand_24 rfl rfl ?_
    obtain ⟨gu25, h⟩ := gd h
    refine q_iald Ra t491 l491 gu25 dX12_operand_25 ?_
    obtain ⟨r26, hr26, h⟩ := bd h
    refine q_callSI Ra (c_pM_isTest ok1 (ok1.int t491 (kd20 _)) hr26) mw_X12_isTest ms_X12_isTest rfl rfl k_X12_336 rfl rfl dX12_operand_26 (fun ok26 => ?_)
    obtain ⟨ys0_46, hj46, h⟩ := bd h
    have hJ : inR ys0_46 → (ys0_46 = 0 ∨ ys0_46 = 1) → ∀ L9 : Lo, L9 0 = some (vA en 475) → L9 1 = some (vI x1_19) → K ZN 46 L9 [vI ys0_46] m1 := by
      intro iys0_46 bys0_46 L9 f46_0 f46_1
      refine q_istore_n Ra 2 dX12_operand_46 rfl rfl rfl ?_
      refine r_iload_n Ra (i := 2) dX12_operand_47 rfl rfl ?_
      obtain ⟨j110, ej110, h⟩ := jn_elim h
      have hJ110 : j110 () = some (re, μe) → ∀ L9 : Lo, L9 0 = some (vA en 475) → L9 1 = some (vI x1_19) → L9 2 = some (vI ys0_46) → K ZN 110 L9 [] m1 := by
        intro h L9 f110_0 f110_1 f110_2
        rw [ej110] at h
        refine r_aload_n Ra (i := 0) dX12_operand_110 rfl f110_0 ?_
        refine q_getA Ra (b := 493) f_X12_112 t475 rfl rfl rfl (ok1.ref t475 rfl (by decide)) (by decide) dX12_operand_111 ?_
        refine r_iload_n Ra (i := 1) dX12_operand_114 rfl f110_1 ?_
        refine r_iconst Ra dX12_operand_115 ?_
        obtain ⟨gu116, h⟩ := gd h
        obtain ⟨m116, em116, h⟩ := bv h
        have hm116 : VT m116 := eqV em116 (ok1.setZ t493 (kd21 _) (Or.inl rfl))
        refine q_zast Ra t493 l493 gu116 (Or.inl rfl) em116 dX12_operand_116 ?_
        refine r_iload_n Ra (i := 2) dX12_operand_117 rfl f110_2 ?_
        obtain ⟨j137, ej137, h⟩ := jn_elim h
        have hJ137 : j137 () = some (re, μe) → ∀ L9 : Lo, L9 0 = some (vA en 475) → L9 1 = some (vI x1_19) → L9 2 = some (vI ys0_46) → K ZN 137 L9 [] m116 := by
          intro h L9 f137_0 f137_1 f137_2
          rw [ej137] at h
          refine r_iload_n Ra (i := 2) dX12_operand_137 rfl f137_2 ?_
          obtain ⟨j171, ej171, h⟩ := jn_elim h
          have hJ171 : j171 () = some (re, μe) → ∀ L9 : Lo, L9 0 = some (vA en 475) → K ZN 171 L9 [] m116 := by
            intro h L9 f171_0
            rw [ej171] at h
            refine r_aload_n Ra (i := 0) dX12_operand_171 rfl f171_0 ?_
            refine r_bipush Ra dX12_operand_172 rfl ?_
            obtain ⟨r174, hr174, h⟩ := bd h
            refine q_callVI Ra (c_pM_isSign hm116 (Rk rfl) hr174) mw_X12_isSign mi_X12_isSign t475 rfl rfl rfl rfl rfl k_X12_269 rfl rfl dX12_operand_174 (fun ok174 => ?_)
            refine r_if_eq Ra 187 dX12_operand_177 (inR_01 ok174) rfl (fun hc => ?_) (fun hc => ?_)
            · replace h := ipos hc h
              refine r_aload_n Ra (i := 0) dX12_operand_187 rfl f171_0 ?_
              refine r_ldc2 Ra dX12_operand_188 kc_X12_319 ?_
              obtain ⟨r191, hr191, h⟩ := bd h
              refine q_callVI Ra (c_pM_isWord hm116 (Lk rfl) hr191) mw_X12_isWord mi_X12_isWord t475 rfl rfl rfl rfl rfl k_X12_339 rfl rfl dX12_operand_191 (fun ok191 => ?_)
              obtain ⟨j217, ej217, h⟩ := jn_elim h
              have hJ217 : j217 () = some (re, μe) → ∀ L9 : Lo, L9 0 = some (vA en 475) → K ZN 217 L9 [] m116 := by
                intro h L9 f217_0
                rw [ej217] at h
                refine r_aload_n Ra (i := 0) dX12_operand_217 rfl f217_0 ?_
                refine r_ldc2 Ra dX12_operand_218 kc_X12_319 ?_
                obtain ⟨r221, hr221, h⟩ := bd h
                refine q_callVI Ra (c_pM_isWord hm116 (Lk rfl) hr221) mw_X12_isWord mi_X12_isWord t475 rfl rfl rfl rfl rfl k_X12_339 rfl rfl dX12_operand_221 (fun ok221 => ?_)
                obtain ⟨ys0_249, hj249, h⟩ := bd h
                have hJ : inR ys0_249 → ∀ L9 : Lo, L9 0 = some (vA en 475) → K ZN 249 L9 [vI ys0_249] m116 := by
                  intro iys0_249 L9 f249_0
                  refine q_istore_n Ra 3 dX12_operand_249 rfl rfl rfl ?_
                  refine r_aload_n Ra (i := 0) dX12_operand_250 rfl f249_0 ?_
                  obtain ⟨m251, hr251, h⟩ := bd h
                  refine q_callVV Ra (c_pM_ahead hm116 hr251) mw_X12_ahead mi_X12_ahead t475 rfl rfl rfl rfl rfl k_X12_272 rfl rfl dX12_operand_251 (fun ok251 => ?_)
                  refine r_aload_n Ra (i := 0) dX12_operand_254 rfl f249_0 ?_
                  obtain ⟨m255, hr255, h⟩ := bd h
                  refine q_callVV Ra (c_pM_lex ok251 hr255) mw_X12_lex mi_X12_lex t475 rfl rfl rfl rfl rfl k_X12_266 rfl rfl dX12_operand_255 (fun ok255 => ?_)
                  refine r_aload_n Ra (i := 0) dX12_operand_258 rfl f249_0 ?_
                  refine r_bipush Ra dX12_operand_259 rfl ?_
                  obtain ⟨r261, hr261, h⟩ := bd h
                  refine q_callVI Ra (c_pM_isSign ok255 (Rk rfl) hr261) mw_X12_isSign mi_X12_isSign t475 rfl rfl rfl rfl rfl k_X12_269 rfl rfl dX12_operand_261 (fun ok261 => ?_)
                  obtain ⟨n276, hj276, h⟩ := bd h
                  have hJ : VT n276 → ∀ L9 : Lo, L9 0 = some (vA en 475) → L9 3 = some (vI ys0_249) → K ZN 276 L9 [] n276 := by
                    intro hn276 L9 f276_0 f276_3
                    refine r_aload_n Ra (i := 0) dX12_operand_276 rfl f276_0 ?_
                    refine r_iload_n Ra (i := 3) dX12_operand_277 rfl f276_3 ?_
                    refine r_bipush Ra dX12_operand_278 rfl ?_
                    obtain ⟨ys1_289, eys1_289, h⟩ := bv h
                    have hJ : inR ys1_289 → ∀ L9 : Lo, L9 0 = some (vA en 475) → L9 3 = some (vI ys0_249) → K ZN 289 L9 [vI ys1_289, vA en 475] n276 := by
                      intro iys1_289 L9 f289_0 f289_3
                      obtain ⟨m289, hr289, h⟩ := bd h
                      refine q_callVV Ra (c_pM_opens hn276 iys1_289 hr289) mw_X12_opens mi_X12_opens t475 rfl rfl rfl rfl rfl k_X12_346 rfl rfl dX12_operand_289 (fun ok289 => ?_)
                      refine r_aload_n Ra (i := 0) dX12_operand_292 rfl f289_0 ?_
                      refine q_getI Ra (x := m289 475 8) f_X12_36 t475 rfl rfl rfl rfl dX12_operand_293 ?_
                      refine r_if_ne Ra 311 dX12_operand_296 (ok289.int t475 rfl) rfl (fun hc => ?_) (fun hc => ?_)
                      · replace h := ineg hc h
                        refine r_iconst Ra dX12_operand_311 ?_
                        cases h
                        exact r_zret Ra (Or.inl rfl) ⟨ok289, (Or.inl rfl)⟩ dX12_operand_312
                      · replace h := ipos hc h
                        refine r_aload_n Ra (i := 0) dX12_operand_299 rfl f289_0 ?_
                        refine q_getA Ra (b := 494) f_X12_116 t475 rfl rfl rfl (ok289.ref t475 rfl (by decide)) (by decide) dX12_operand_300 ?_
                        refine r_aload_n Ra (i := 0) dX12_operand_303 rfl f289_0 ?_
                        refine q_getI Ra (x := m289 475 36) f_X12_122 t475 rfl rfl rfl rfl dX12_operand_304 ?_
                        refine r_iconst Ra dX12_operand_307 ?_
                        refine r_isub Ra dX12_operand_308 ?_
                        refine r_iload_n Ra (i := 3) dX12_operand_309 rfl f289_3 ?_
                        obtain ⟨gu310, h⟩ := gd h
                        obtain ⟨m310, em310, h⟩ := bv h
                        have hm310 : VT m310 := eqV em310 (ok289.setI t494 (kd20 _) iys0_249)
                        refine q_iast Ra t494 l494 gu310 em310 dX12_operand_310 ?_
                        refine r_iconst Ra dX12_operand_311 ?_
                        cases h
                        exact r_zret Ra (Or.inl rfl) ⟨hm310, (Or.inl rfl)⟩ dX12_operand_312
                    refine r_icmp_ne Ra 288 dX12_operand_280 iys0_249 (Rk rfl) rfl (fun hc => ?_) (fun hc => ?_)
                    · replace eys1_289 := eys1_289.trans (if_neg hc)
                      refine r_iconst Ra dX12_operand_288 ?_
                      subst eys1_289
                      exact hJ (Rk rfl) _ f276_0 f276_3
                    · replace eys1_289 := eys1_289.trans (if_pos hc)
                      refine r_bipush Ra dX12_operand_283 rfl ?_
                      refine r_goto Ra 289 dX12_operand_285 rfl ?_
                      subst eys1_289
                      exact hJ (Rk rfl) _ f276_0 f276_3
                  replace h := hj276
                  refine r_if_ne Ra 276 dX12_operand_264 (inR_01 ok261) rfl (fun hc => ?_) (fun hc => ?_)
                  · replace h := ineg hc h
                    cases h
                    exact hJ ok255 _ f249_0 rfl
                  · replace h := ipos hc h
                    refine r_aload_n Ra (i := 0) dX12_operand_267 rfl f249_0 ?_
                    refine r_iconst Ra dX12_operand_268 ?_
                    refine r_aload_n Ra (i := 0) dX12_operand_269 rfl f249_0 ?_
                    refine q_getI Ra (x := m255 475 4) f_X12_23 t475 rfl rfl rfl rfl dX12_operand_270 ?_
                    obtain ⟨m273, hr273, h⟩ := bd h
                    refine q_callVV Ra (c_pM_blame ok255 (Rk rfl) (ok255.int t475 rfl) hr273) mw_X12_blame mi_X12_blame t475 rfl rfl rfl rfl rfl k_X12_255 rfl rfl dX12_operand_273 (fun ok273 => ?_)
                    cases h
                    exact hJ ok273 _ f249_0 rfl
                replace h := hj249
                refine r_if_eq Ra 232 dX12_operand_224 (inR_01 ok221) rfl (fun hc => ?_) (fun hc => ?_)
                · replace h := ipos hc h
                  refine r_aload_n Ra (i := 0) dX12_operand_232 rfl f217_0 ?_
                  refine r_ldc2 Ra dX12_operand_233 kc_X12_321 ?_
                  obtain ⟨r236, hr236, h⟩ := bd h
                  refine q_callVI Ra (c_pM_isWord hm116 (Lk rfl) hr236) mw_X12_isWord mi_X12_isWord t475 rfl rfl rfl rfl rfl k_X12_339 rfl rfl dX12_operand_236 (fun ok236 => ?_)
                  refine r_if_eq Ra 247 dX12_operand_239 (inR_01 ok236) rfl (fun hc => ?_) (fun hc => ?_)
                  · replace h := ipos hc h
                    refine r_bipush Ra dX12_operand_247 rfl ?_
                    cases h
                    exact hJ (Rk rfl) _ f217_0
                  · replace h := ineg hc h
                    refine r_bipush Ra dX12_operand_242 rfl ?_
                    refine r_goto Ra 249 dX12_operand_244 rfl ?_
                    cases h
                    exact hJ (Rk rfl) _ f217_0
                · replace h := ineg hc h
                  refine r_bipush Ra dX12_operand_227 rfl ?_
                  refine r_goto Ra 249 dX12_operand_229 rfl ?_
                  cases h
                  exact hJ (Rk rfl) _ f217_0
              refine r_if_ne Ra 217 dX12_operand_194 (inR_01 ok191) rfl (fun hc => ?_) (fun hc => ?_)
              · replace h := ineg hc h
                exact hJ217 h  _ f171_0
              · replace h := ipos hc h
                refine r_aload_n Ra (i := 0) dX12_operand_197 rfl f171_0 ?_
                refine r_ldc2 Ra dX12_operand_198 kc_X12_321 ?_
                obtain ⟨r201, hr201, h⟩ := bd h
                refine q_callVI Ra (c_pM_isWord hm116 (Lk rfl) hr201) mw_X12_isWord mi_X12_isWord t475 rfl rfl rfl rfl rfl k_X12_339 rfl rfl dX12_operand_201 (fun ok201 => ?_)
                refine r_if_ne Ra 217 dX12_operand_204 (inR_01 ok201) rfl (fun hc => ?_) (fun hc => ?_)
                · replace h := ineg hc h
                  exact hJ217 h  _ f171_0
                · replace h := ipos hc h
                  refine r_aload_n Ra (i := 0) dX12_operand_207 rfl f171_0 ?_
                  refine r_ldc2 Ra dX12_operand_208 kc_X12_309 ?_
                  obtain ⟨r211, hr211, h⟩ := bd h
                  refine q_callVI Ra (c_pM_isWord hm116 (Lk rfl) hr211) mw_X12_isWord mi_X12_isWord t475 rfl rfl rfl rfl rfl k_X12_339 rfl rfl dX12_operand_211 (fun ok211 => ?_)
                  refine r_if_eq Ra 313 dX12_operand_214 (inR_01 ok211) rfl (fun hc => ?_) (fun hc => ?_)
                  · replace h := ipos hc h
                    refine r_aload_n Ra (i := 0) dX12_operand_313 rfl f171_0 ?_
                    refine q_getI Ra (x := m116 475 3) f_X12_20 t475 rfl rfl rfl rfl dX12_operand_314 ?_
                    refine r_iconst Ra dX12_operand_317 ?_
                    obtain ⟨ys0_426, hj426, h⟩ := bd h
                    have hJ : inR ys0_426 → ∀ L9 : Lo, L9 0 = some (vA en 475) → K ZN 426 L9 [vI ys0_426] m116 := by
                      intro iys0_426 L9 f426_0
                      refine q_istore_n Ra 3 dX12_operand_426 rfl rfl rfl ?_
                      refine r_iload_n Ra (i := 3) dX12_operand_427 rfl rfl ?_
                      refine r_iconst Ra dX12_operand_428 ?_
                      obtain ⟨yl3_454, eyl3_454, h⟩ := bv h
                      have hJ : inR yl3_454 → ∀ L9 : Lo, L9 0 = some (vA en 475) → L9 3 = some (vI yl3_454) → K ZN 454 L9 [] m116 := by
                        intro iyl3_454 L9 f454_0 f454_3
                        refine r_iload_n Ra (i := 3) dX12_operand_454 rfl f454_3 ?_
                        refine r_iconst Ra dX12_operand_455 ?_
                        obtain ⟨n468, hj468, h⟩ := bd h
                        have hJ : VT n468 → ∀ L9 : Lo, L9 0 = some (vA en 475) → L9 3 = some (vI yl3_454) → K ZN 468 L9 [] n468 := by
                          intro hn468 L9 f468_0 f468_3
                          refine r_aload_n Ra (i := 0) dX12_operand_468 rfl f468_0 ?_
                          refine q_getI Ra (x := n468 475 8) f_X12_36 t475 rfl rfl rfl rfl dX12_operand_469 ?_
                          refine r_if_le Ra 477 dX12_operand_472 (hn468.int t475 rfl) rfl (fun hc => ?_) (fun hc => ?_)
                          · replace h := ineg hc h
                            refine r_aload_n Ra (i := 0) dX12_operand_477 rfl f468_0 ?_
                            refine r_iload_n Ra (i := 3) dX12_operand_478 rfl f468_3 ?_
                            refine r_aload_n Ra (i := 0) dX12_operand_479 rfl f468_0 ?_
                            refine q_getI Ra (x := n468 475 6) f_X12_29 t475 rfl rfl rfl rfl dX12_operand_480 ?_
                            obtain ⟨m483, hr483, h⟩ := bd h
                            refine q_callVV Ra (c_pM_add hn468 iyl3_454 (hn468.int t475 rfl) hr483) mw_X12_add mi_X12_add t475 rfl rfl rfl rfl rfl k_X12_330 rfl rfl dX12_operand_483 (fun ok483 => ?_)
                            refine r_aload_n Ra (i := 0) dX12_operand_486 rfl f468_0 ?_
                            obtain ⟨m487, hr487, h⟩ := bd h
                            refine q_callVV Ra (c_pM_ahead ok483 hr487) mw_X12_ahead mi_X12_ahead t475 rfl rfl rfl rfl rfl k_X12_272 rfl rfl dX12_operand_487 (fun ok487 => ?_)
                            refine r_iconst Ra dX12_operand_490 ?_
                            cases h
                            exact r_zret Ra (Or.inr rfl) ⟨ok487, (Or.inr rfl)⟩ dX12_operand_491
                          · replace h := ipos hc h
                            refine r_iconst Ra dX12_operand_475 ?_
                            cases h
                            exact r_zret Ra (Or.inr rfl) ⟨hn468, (Or.inr rfl)⟩ dX12_operand_476
                        replace h := hj468
                        refine r_icmp_ne Ra 468 dX12_operand_456 iyl3_454 (Rk rfl) rfl (fun hc => ?_) (fun hc => ?_)
                        · replace h := ineg hc h
                          cases h
                          exact hJ hm116 _ f454_0 f454_3
                        · replace h := ipos hc h
                          refine r_aload_n Ra (i := 0) dX12_operand_459 rfl f454_0 ?_
                          refine r_iconst Ra dX12_operand_460 ?_
                          refine r_aload_n Ra (i := 0) dX12_operand_461 rfl f454_0 ?_
                          refine q_getI Ra (x := m116 475 4) f_X12_23 t475 rfl rfl rfl rfl dX12_operand_462 ?_
                          obtain ⟨m465, hr465, h⟩ := bd h
                          refine q_callVV Ra (c_pM_blame hm116 (Rk rfl) (hm116.int t475 rfl) hr465) mw_X12_blame mi_X12_blame t475 rfl rfl rfl rfl rfl k_X12_255 rfl rfl dX12_operand_465 (fun ok465 => ?_)
                          cases h
                          exact hJ ok465 _ f454_0 f454_3
                      refine r_icmp_lt Ra 439 dX12_operand_429 iys0_426 (Rk rfl) rfl (fun hc => ?_) (fun hc => ?_)
                      · replace eyl3_454 := eyl3_454.trans (if_pos hc)
                        refine r_iload_n Ra (i := 3) dX12_operand_439 rfl rfl ?_
                        refine r_iconst Ra dX12_operand_440 ?_
                        refine r_icmp_le Ra 454 dX12_operand_441 iys0_426 (Rk rfl) rfl (fun hc => ?_) (fun hc => ?_)
                        · replace eyl3_454 := eyl3_454.trans (if_neg hc)
                          subst eyl3_454
                          exact hJ iys0_426 _ f426_0 rfl
                        · replace eyl3_454 := eyl3_454.trans (if_pos hc)
                          refine r_aload_n Ra (i := 0) dX12_operand_444 rfl f426_0 ?_
                          refine q_getI Ra (x := m116 475 30) f_X12_103 t475 rfl rfl rfl rfl dX12_operand_445 ?_
                          refine r_iconst Ra dX12_operand_448 ?_
                          refine r_icmp_ne Ra 454 dX12_operand_449 (hm116.int t475 rfl) (Rk rfl) rfl (fun hc => ?_) (fun hc => ?_)
                          · replace eyl3_454 := eyl3_454.trans (if_neg hc)
                            subst eyl3_454
                            exact hJ iys0_426 _ f426_0 rfl
                          · replace eyl3_454 := eyl3_454.trans (if_pos hc)
                            refine r_iconst Ra dX12_operand_452 ?_
                            refine q_istore_n Ra 3 dX12_operand_453 rfl rfl rfl ?_
                            subst eyl3_454
                            exact hJ (Rk rfl) _ f426_0 rfl
                      · replace eyl3_454 := eyl3_454.trans (if_neg hc)
                        refine r_aload_n Ra (i := 0) dX12_operand_432 rfl f426_0 ?_
                        refine q_getI Ra (x := m116 475 30) f_X12_103 t475 rfl rfl rfl rfl dX12_operand_433 ?_
                        refine r_if_eq Ra 452 dX12_operand_436 (hm116.int t475 rfl) rfl (fun hc => ?_) (fun hc => ?_)
                        · replace eyl3_454 := eyl3_454.trans (if_pos hc)
                          refine r_iconst Ra dX12_operand_452 ?_
                          refine q_istore_n Ra 3 dX12_operand_453 rfl rfl rfl ?_
                          subst eyl3_454
                          exact hJ (Rk rfl) _ f426_0 rfl
                        · replace eyl3_454 := eyl3_454.trans (if_neg hc)
                          refine r_iload_n Ra (i := 3) dX12_operand_439 rfl rfl ?_
                          refine r_iconst Ra dX12_operand_440 ?_
                          refine r_icmp_le Ra 454 dX12_operand_441 iys0_426 (Rk rfl) rfl (fun hc => ?_) (fun hc => ?_)
                          · replace eyl3_454 := eyl3_454.trans (if_neg hc)
                            subst eyl3_454
                            exact hJ iys0_426 _ f426_0 rfl
                          · replace eyl3_454 := eyl3_454.trans (if_pos hc)
                            refine r_aload_n Ra (i := 0) dX12_operand_444 rfl f426_0 ?_
                            refine q_getI Ra (x := m116 475 30) f_X12_103 t475 rfl rfl rfl rfl dX12_operand_445 ?_
                            refine r_iconst Ra dX12_operand_448 ?_
                            refine r_icmp_ne Ra 454 dX12_operand_449 (hm116.int t475 rfl) (Rk rfl) rfl (fun hc => ?_) (fun hc => ?_)
                            · replace eyl3_454 := eyl3_454.trans (if_neg hc)
                              subst eyl3_454
                              exact hJ iys0_426 _ f426_0 rfl
                            · replace eyl3_454 := eyl3_454.trans (if_pos hc)
                              refine r_iconst Ra dX12_operand_452 ?_
                              refine q_istore_n Ra 3 dX12_operand_453 rfl rfl rfl ?_
                              subst eyl3_454
                              exact hJ (Rk rfl) _ f426_0 rfl
                    replace h := hj426
                    refine r_icmp_ne Ra 325 dX12_operand_318 (hm116.int t475 rfl) (Rk rfl) rfl (fun hc => ?_) (fun hc => ?_)
                    · replace h := ineg hc h
                      refine r_aload_n Ra (i := 0) dX12_operand_325 rfl f171_0 ?_
                      refine r_ldc2 Ra dX12_operand_326 kc_X12_299 ?_
                      obtain ⟨r329, hr329, h⟩ := bd h
                      refine q_callVI Ra (c_pM_isWord hm116 (Lk rfl) hr329) mw_X12_isWord mi_X12_isWord t475 rfl rfl rfl rfl rfl k_X12_339 rfl rfl dX12_operand_329 (fun ok329 => ?_)
                      refine r_if_eq Ra 339 dX12_operand_332 (inR_01 ok329) rfl (fun hc => ?_) (fun hc => ?_)
                      · replace h := ipos hc h
                        refine r_aload_n Ra (i := 0) dX12_operand_339 rfl f171_0 ?_
                        refine r_ldc2 Ra dX12_operand_340 kc_X12_301 ?_
                        obtain ⟨r343, hr343, h⟩ := bd h
                        refine q_callVI Ra (c_pM_isWord hm116 (Lk rfl) hr343) mw_X12_isWord mi_X12_isWord t475 rfl rfl rfl rfl rfl k_X12_339 rfl rfl dX12_operand_343 (fun ok343 => ?_)
                        refine r_if_eq Ra 353 dX12_operand_346 (inR_01 ok343) rfl (fun hc => ?_) (fun hc => ?_)
                        · replace h := ipos hc h
                          refine r_aload_n Ra (i := 0) dX12_operand_353 rfl f171_0 ?_
                          refine r_ldc2 Ra dX12_operand_354 kc_X12_279 ?_
                          obtain ⟨r357, hr357, h⟩ := bd h
                          refine q_callVI Ra (c_pM_isWord hm116 (Lk rfl) hr357) mw_X12_isWord mi_X12_isWord t475 rfl rfl rfl rfl rfl k_X12_339 rfl rfl dX12_operand_357 (fun ok357 => ?_)
                          refine r_if_eq Ra 367 dX12_operand_360 (inR_01 ok357) rfl (fun hc => ?_) (fun hc => ?_)
                          · replace h := ipos hc h
                            refine r_aload_n Ra (i := 0) dX12_operand_367 rfl f171_0 ?_
                            refine r_ldc2 Ra dX12_operand_368 kc_X12_303 ?_
                            obtain ⟨r371, hr371, h⟩ := bd h
                            refine q_callVI Ra (c_pM_isWord hm116 (Lk rfl) hr371) mw_X12_isWord mi_X12_isWord t475 rfl rfl rfl rfl rfl k_X12_339 rfl rfl dX12_operand_371 (fun ok371 => ?_)
                            refine r_if_eq Ra 381 dX12_operand_374 (inR_01 ok371) rfl (fun hc => ?_) (fun hc => ?_)
                            · replace h := ipos hc h
                              refine r_aload_n Ra (i := 0) dX12_operand_381 rfl f171_0 ?_
                              refine r_ldc2 Ra dX12_operand_382 kc_X12_305 ?_
                              obtain ⟨r385, hr385, h⟩ := bd h
                              refine q_callVI Ra (c_pM_isWord hm116 (Lk rfl) hr385) mw_X12_isWord mi_X12_isWord t475 rfl rfl rfl rfl rfl k_X12_339 rfl rfl dX12_operand_385 (fun ok385 => ?_)
                              refine r_if_eq Ra 395 dX12_operand_388 (inR_01 ok385) rfl (fun hc => ?_) (fun hc => ?_)
                              · replace h := ipos hc h
                                refine r_aload_n Ra (i := 0) dX12_operand_395 rfl f171_0 ?_
                                refine r_ldc2 Ra dX12_operand_396 kc_X12_307 ?_
                                obtain ⟨r399, hr399, h⟩ := bd h
                                refine q_callVI Ra (c_pM_isWord hm116 (Lk rfl) hr399) mw_X12_isWord mi_X12_isWord t475 rfl rfl rfl rfl rfl k_X12_339 rfl rfl dX12_operand_399 (fun ok399 => ?_)
                                refine r_if_eq Ra 410 dX12_operand_402 (inR_01 ok399) rfl (fun hc => ?_) (fun hc => ?_)
                                · replace h := ipos hc h
                                  refine r_aload_n Ra (i := 0) dX12_operand_410 rfl f171_0 ?_
                                  refine r_ldc2 Ra dX12_operand_411 kc_X12_287 ?_
                                  obtain ⟨r414, hr414, h⟩ := bd h
                                  refine q_callVI Ra (c_pM_isWord hm116 (Lk rfl) hr414) mw_X12_isWord mi_X12_isWord t475 rfl rfl rfl rfl rfl k_X12_339 rfl rfl dX12_operand_414 (fun ok414 => ?_)
                                  refine r_if_eq Ra 425 dX12_operand_417 (inR_01 ok414) rfl (fun hc => ?_) (fun hc => ?_)
                                  · replace h := ipos hc h
                                    refine r_iconst Ra dX12_operand_425 ?_
                                    cases h
                                    exact hJ (Rk rfl) _ f171_0
                                  · replace h := ineg hc h
                                    refine r_bipush Ra dX12_operand_420 rfl ?_
                                    refine r_goto Ra 426 dX12_operand_422 rfl ?_
                                    cases h
                                    exact hJ (Rk rfl) _ f171_0
                                · replace h := ineg hc h
                                  refine r_bipush Ra dX12_operand_405 rfl ?_
                                  refine r_goto Ra 426 dX12_operand_407 rfl ?_
                                  cases h
                                  exact hJ (Rk rfl) _ f171_0
                              · replace h := ineg hc h
                                refine r_iconst Ra dX12_operand_391 ?_
                                refine r_goto Ra 426 dX12_operand_392 rfl ?_
                                cases h
                                exact hJ (Rk rfl) _ f171_0
                            · replace h := ineg hc h
                              refine r_iconst Ra dX12_operand_377 ?_
                              refine r_goto Ra 426 dX12_operand_378 rfl ?_
                              cases h
                              exact hJ (Rk rfl) _ f171_0
                          · replace h := ineg hc h
                            refine r_iconst Ra dX12_operand_363 ?_
                            refine r_goto Ra 426 dX12_operand_364 rfl ?_
                            cases h
                            exact hJ (Rk rfl) _ f171_0
                        · replace h := ineg hc h
                          refine r_iconst Ra dX12_operand_349 ?_
                          refine r_goto Ra 426 dX12_operand_350 rfl ?_
                          cases h
                          exact hJ (Rk rfl) _ f171_0
                      · replace h := ineg hc h
                        refine r_iconst Ra dX12_operand_335 ?_
                        refine r_goto Ra 426 dX12_operand_336 rfl ?_
                        cases h
                        exact hJ (Rk rfl) _ f171_0
                    · replace h := ipos hc h
                      refine r_iconst Ra dX12_operand_321 ?_
                      refine r_goto Ra 426 dX12_operand_322 rfl ?_
                      cases h
                      exact hJ (Rk rfl) _ f171_0
                  · replace h := ineg hc h
                    exact hJ217 h  _ f171_0
            · replace h := ineg hc h
              refine r_aload_n Ra (i := 0) dX12_operand_180 rfl f171_0 ?_
              refine r_iconst Ra dX12_operand_181 ?_
              obtain ⟨m182, hr182, h⟩ := bd h
              refine q_callVV Ra (c_pM_opens hm116 (Rk rfl) hr182) mw_X12_opens mi_X12_opens t475 rfl rfl rfl rfl rfl k_X12_346 rfl rfl dX12_operand_182 (fun ok182 => ?_)
              refine r_iconst Ra dX12_operand_185 ?_
              cases h
              exact r_zret Ra (Or.inl rfl) ⟨ok182, (Or.inl rfl)⟩ dX12_operand_186
          refine r_if_eq Ra 171 dX12_operand_138 iys0_46 rfl (fun hc => ?_) (fun hc => ?_)
          · replace h := ipos hc h
            exact hJ171 h  _ f137_0
          · replace h := ineg hc h
            refine r_aload_n Ra (i := 0) dX12_operand_141 rfl f137_0 ?_
            refine r_ldc2 Ra dX12_operand_142 kc_X12_317 ?_
            obtain ⟨r145, hr145, h⟩ := bd h
            refine q_callVI Ra (c_pM_isWord hm116 (Lk rfl) hr145) mw_X12_isWord mi_X12_isWord t475 rfl rfl rfl rfl rfl k_X12_339 rfl rfl dX12_operand_145 (fun ok145 => ?_)
            refine r_if_eq Ra 171 dX12_operand_148 (inR_01 ok145) rfl (fun hc => ?_) (fun hc => ?_)
            · replace h := ipos hc h
              exact hJ171 h  _ f137_0
            · replace h := ineg hc h
              refine r_aload_n Ra (i := 0) dX12_operand_151 rfl f137_0 ?_
              refine r_bipush Ra dX12_operand_152 rfl ?_
              refine r_iconst Ra dX12_operand_154 ?_
              obtain ⟨m155, hr155, h⟩ := bd h
              refine q_callVV Ra (c_pM_add hm116 (Rk rfl) (Rk rfl) hr155) mw_X12_add mi_X12_add t475 rfl rfl rfl rfl rfl k_X12_330 rfl rfl dX12_operand_155 (fun ok155 => ?_)
              refine r_aload_n Ra (i := 0) dX12_operand_158 rfl f137_0 ?_
              refine q_getA Ra (b := 492) f_X12_109 t475 rfl rfl rfl (ok155.ref t475 rfl (by decide)) (by decide) dX12_operand_159 ?_
              refine r_iload_n Ra (i := 1) dX12_operand_162 rfl f137_1 ?_
              refine r_iconst Ra dX12_operand_163 ?_
              obtain ⟨gu164, h⟩ := gd h
              obtain ⟨m164, em164, h⟩ := bv h
              have hm164 : VT m164 := eqV em164 (ok155.setI t492 (kd20 _) (Rk rfl))
              refine q_iast Ra t492 l492 gu164 em164 dX12_operand_164 ?_
              refine r_aload_n Ra (i := 0) dX12_operand_165 rfl f137_0 ?_
              obtain ⟨m166, hr166, h⟩ := bd h
              refine q_callVV Ra (c_pM_ahead hm164 hr166) mw_X12_ahead mi_X12_ahead t475 rfl rfl rfl rfl rfl k_X12_272 rfl rfl dX12_operand_166 (fun ok166 => ?_)
              refine r_iconst Ra dX12_operand_169 ?_
              cases h
              exact r_zret Ra (Or.inr rfl) ⟨ok166, (Or.inr rfl)⟩ dX12_operand_170
        refine r_if_eq Ra 137 dX12_operand_118 iys0_46 rfl (fun hc => ?_) (fun hc => ?_)
        · replace h := ipos hc h
          exact hJ137 h  _ f110_0 f110_1 f110_2
        · replace h := ineg hc h
          refine r_aload_n Ra (i := 0) dX12_operand_121 rfl f110_0 ?_
          refine r_bipush Ra dX12_operand_122 rfl ?_
          obtain ⟨r124, hr124, h⟩ := bd h
          refine q_callVI Ra (c_pM_isSign hm116 (Rk rfl) hr124) mw_X12_isSign mi_X12_isSign t475 rfl rfl rfl rfl rfl k_X12_269 rfl rfl dX12_operand_124 (fun ok124 => ?_)
          refine r_if_eq Ra 137 dX12_operand_127 (inR_01 ok124) rfl (fun hc => ?_) (fun hc => ?_)
          · replace h := ipos hc h
            exact hJ137 h  _ f110_0 f110_1 f110_2
          · replace h := ineg hc h
            refine r_aload_n Ra (i := 0) dX12_operand_130 rfl f110_0 ?_
            refine r_iconst Ra dX12_operand_131 ?_
            obtain ⟨m132, hr132, h⟩ := bd h
            refine q_callVV Ra (c_pM_opens hm116 (Rk rfl) hr132) mw_X12_opens mi_X12_opens t475 rfl rfl rfl rfl rfl k_X12_346 rfl rfl dX12_operand_132 (fun ok132 => ?_)
            refine r_iconst Ra dX12_operand_135 ?_
            cases h
            exact r_zret Ra (Or.inl rfl) ⟨ok132, (Or.inl rfl)⟩ dX12_operand_136
      refine r_if_eq Ra 110 dX12_operand_48 iys0_46 rfl (fun hc => ?_) (fun hc => ?_)
      · replace h := ipos hc h
        exact hJ110 h  _ f46_0 f46_1 rfl
      · replace h := ineg hc h
        refine r_aload_n Ra (i := 0) dX12_operand_51 rfl f46_0 ?_
        refine r_ldc2 Ra dX12_operand_52 kc_X12_315 ?_
        obtain ⟨r55, hr55, h⟩ := bd h
        refine q_callVI Ra (c_pM_isWord ok1 (Lk rfl) hr55) mw_X12_isWord mi_X12_isWord t475 rfl rfl rfl rfl rfl k_X12_339 rfl rfl dX12_operand_55 (fun ok55 => ?_)
        refine r_if_eq Ra 110 dX12_operand_58 (inR_01 ok55) rfl (fun hc => ?_) (fun hc => ?_)
        · replace h := ipos hc h
          exact hJ110 h  _ f46_0 f46_1 rfl
        · replace h := ineg hc h
          refine r_aload_n Ra (i := 0) dX12_operand_61 rfl f46_0 ?_
          refine q_getI Ra (x := m1 475 37) f_X12_125 t475 rfl rfl rfl rfl dX12_operand_62 ?_
          refine r_bipush Ra dX12_operand_65 rfl ?_
          obtain ⟨n79, hj79, h⟩ := bd h
          have hJ : VT n79 → ∀ L9 : Lo, L9 0 = some (vA en 475) → K ZN 79 L9 [] n79 := by
            intro hn79 L9 f79_0
            refine r_aload_n Ra (i := 0) dX12_operand_79 rfl f79_0 ?_
            refine q_getI Ra (x := n79 475 8) f_X12_36 t475 rfl rfl rfl rfl dX12_operand_80 ?_
            refine r_if_le Ra 88 dX12_operand_83 (hn79.int t475 rfl) rfl (fun hc => ?_) (fun hc => ?_)
            · replace h := ineg hc h
              refine r_aload_n Ra (i := 0) dX12_operand_88 rfl f79_0 ?_
              refine r_dupA Ra dX12_operand_89 ?_
              refine q_getI Ra (x := n79 475 37) f_X12_125 t475 rfl rfl rfl rfl dX12_operand_90 ?_
              refine r_iconst Ra dX12_operand_93 ?_
              refine r_iadd Ra dX12_operand_94 ?_
              obtain ⟨m95, em95, h⟩ := bv h
              have hm95 : VT m95 := eqV em95 (hn79.setI t475 rfl (inR_32 _))
              refine q_putI Ra f_X12_125 p_X12_37 t475 rfl rfl rfl em95 dX12_operand_95 ?_
              refine r_aload_n Ra (i := 0) dX12_operand_98 rfl f79_0 ?_
              refine r_bipush Ra dX12_operand_99 rfl ?_
              obtain ⟨m101, hr101, h⟩ := bd h
              refine q_callVV Ra (c_pM_holdsBack hm95 (Rk rfl) hr101) mw_X12_holdsBack mi_X12_holdsBack t475 rfl rfl rfl rfl rfl k_X12_343 rfl rfl dX12_operand_101 (fun ok101 => ?_)
              refine r_aload_n Ra (i := 0) dX12_operand_104 rfl f79_0 ?_
              obtain ⟨m105, hr105, h⟩ := bd h
              refine q_callVV Ra (c_pM_ahead ok101 hr105) mw_X12_ahead mi_X12_ahead t475 rfl rfl rfl rfl rfl k_X12_272 rfl rfl dX12_operand_105 (fun ok105 => ?_)
              refine r_iconst Ra dX12_operand_108 ?_
              cases h
              exact r_zret Ra (Or.inl rfl) ⟨ok105, (Or.inl rfl)⟩ dX12_operand_109
            · replace h := ipos hc h
              refine r_iconst Ra dX12_operand_86 ?_
              cases h
              exact r_zret Ra (Or.inr rfl) ⟨hn79, (Or.inr rfl)⟩ dX12_operand_87
          replace h := hj79
          refine r_icmp_ne Ra 79 dX12_operand_67 (ok1.int t475 rfl) (Rk rfl) rfl (fun hc => ?_) (fun hc => ?_)
          · replace h := ineg hc h
            cases h
            exact hJ ok1 _ f46_0
          · replace h := ipos hc h
            refine r_aload_n Ra (i := 0) dX12_operand_70 rfl f46_0 ?_
            refine r_iconst Ra dX12_operand_71 ?_
            refine r_aload_n Ra (i := 0) dX12_operand_72 rfl f46_0 ?_
            refine q_getI Ra (x := m1 475 4) f_X12_23 t475 rfl rfl rfl rfl dX12_operand_73 ?_
            obtain ⟨m76, hr76, h⟩ := bd h
            refine q_callVV Ra (c_pM_blame ok1 (Rk rfl) (ok1.int t475 rfl) hr76) mw_X12_blame mi_X12_blame t475 rfl rfl rfl rfl rfl k_X12_255 rfl rfl dX12_operand_76 (fun ok76 => ?_)
            cases h
            exact hJ ok76 _ f46_0
    replace h := hj46
    refine r_if_eq Ra 45 dX12_operand_29 (inR_01 ok26) rfl (fun hc => ?_) (fun hc => ?_)
    · replace h := ipos hc h
      refine r_iconst Ra dX12_operand_45 ?_
      cases h
      exact hJ (Rk rfl) (Or.inl rfl) _ rfl rfl
    · replace h := ineg hc h
      refine r_aload_n Ra (i := 0) dX12_operand_32 rfl rfl ?_
      refine q_getA Ra (b := 493) f_X12_112 t475 rfl rfl rfl (ok1.ref t475 rfl (by decide)) (by decide) dX12_operand_33 ?_
      refine r_iload_n Ra (i := 1) dX12_operand_36 rfl rfl ?_
      obtain ⟨gu37, h⟩ := gd h
      refine q_zald Ra t493 l493 gu37 dX12_operand_37 ?_
      refine r_if_eq Ra 45 dX12_operand_38 (inR_01 (ok1.bool t493 (kd21 _))) rfl (fun hc => ?_) (fun hc => ?_)
      · replace h := ipos hc h
        refine r_iconst Ra dX12_operand_45 ?_
        cases h
        exact hJ (Rk rfl) (Or.inl rfl) _ rfl rfl
      · replace h := ineg hc h
        refine r_iconst Ra dX12_operand_41 ?_
        refine r_goto Ra 46 dX12_operand_42 rfl ?_
        cases h
        exact hJ (Rk rfl) (Or.inr rfl) _ rfl rfl
  · replace h := ipos hc h
    refine r_iconst Ra dX12_operand_11 ?_
    cases h
    exact r_zret Ra (Or.inr rfl) ⟨ok1, (Or.inr rfl)⟩ dX12_operand_12
noncomputable def pM_goesOn (N : Nat) (μ : Mem)  : Option (Int × Mem) := (pM_lex μ).bind fun m1 => if 0 < m1 475 8 then some (0, m1) else (some (w32 ((m1 475 36) - 1) : Int)).bind fun x1_19 => if 0 ≤ x1_19 ∧ x1_19 < 20 then (some (m1 491 x1_19 : Int)).bind fun x2_26 => (pM_isTest m1 x2_26).bind fun r28 => if 0 ≤ x1_19 ∧ x1_19 < 20 then jn (α := Unit → Option (Int × Mem)) (fun (_ : Unit) => jn (α := Unit → Option (Int × Mem)) (fun (_ : Unit) => jn (α := Unit → Option (Int × Mem)) (fun (_ : Unit) => (if r28 = 0 then some (m1) else if 0 ≤ x1_19 ∧ x1_19 < 20 then if m1 492 x1_19 = 0 then (pM_blame m1 1 (m1 475 4)).bind fun m419 => some (m419) else some (m1) else none).bind fun n422 => if x2_26 < 2 then if n422 475 8 = 0 then (pM_joins N n422 1).bind fun m436 => some (0, m436) else some (0, n422) else jn (α := Unit → Option (Int × Mem)) (fun (_ : Unit) => (pM_isSign n422 44).bind fun r455 => (if r455 = 0 then (pM_blame n422 1 (n422 475 4)).bind fun m467 => some (m467) else some (n422)).bind fun n470 => if 0 < n470 475 8 then some (0, n470) else (pM_joins N n470 1).bind fun m481 => (some (if x2_26 = 3 then 4 else 3 : Int)).bind fun ys2_499 => if 0 ≤ x1_19 ∧ x1_19 < 20 then (some (mset m481 491 x1_19 ys2_499)).bind fun m499 => if 0 ≤ x1_19 ∧ x1_19 < 20 then (some (mset m499 492 x1_19 0)).bind fun m506 => (pM_ahead N m506).bind fun m508 => (some (mset m508 475 40 0)).bind fun m513 => some (1, m513) else none else none) (fun (j452 : Unit → Option (Int × Mem)) => if x2_26 = 3 then j452 () else if x2_26 = 6 then j452 () else (some (if x2_26 = 5 then 93 else 41 : Int)).bind fun ys1_531 => (pM_isSign n422 ys1_531).bind fun r531 => (if r531 = 0 then (pM_blame n422 1 (n422 475 4)).bind fun m543 => some (m543) else some (n422)).bind fun n546 => if 0 < n546 475 8 then some (0, n546) else (pM_joins N n546 1).bind fun m557 => (some (mset m557 475 36 (w32 ((m557 475 36) - 1)))).bind fun m567 => (some (mset m567 475 37 (w32 ((m567 475 37) - 1)))).bind fun m577 => (if x2_26 = 4 then if 0 ≤ x1_19 ∧ x1_19 < 20 then (pM_add m577 (m577 494 x1_19) 0).bind fun m593 => some (m593) else none else some (m577)).bind fun n596 => (if x2_26 = 5 then if 0 ≤ w32 ((n596 475 36) - 1) ∧ w32 ((n596 475 36) - 1) < 20 then (some (mset n596 492 (w32 ((n596 475 36) - 1)) 2)).bind fun m612 => some (m612) else none else some (n596)).bind fun n613 => (pM_ahead N n613).bind fun m614 => some (1, m614))) (fun (j400 : Unit → Option (Int × Mem)) => if r28 = 0 then j400 () else (pM_isWord m1 6385252).bind fun r293 => jn (α := Unit → Option (Int × Mem)) (fun (_ : Unit) => if 0 ≤ x1_19 ∧ x1_19 < 20 then (if m1 492 x1_19 = 0 then (pM_blame m1 1 (m1 475 4)).bind fun m324 => some (m324) else some (m1)).bind fun n327 => if 0 < n327 475 8 then some (0, n327) else (pM_isWord n327 6385252).bind fun r340 => (some (if r340 = 0 then 1 else 2 : Int)).bind fun ys1_356 => (pM_joins N n327 ys1_356).bind fun m356 => (some (if r340 = 0 then 42 else 41 : Int)).bind fun ys1_372 => (pM_holdsBack m356 ys1_372).bind fun m372 => if 0 ≤ x1_19 ∧ x1_19 < 20 then (some (mset m372 492 x1_19 0)).bind fun m381 => if 0 ≤ x1_19 ∧ x1_19 < 20 then (some (mset m381 493 x1_19 1)).bind fun m388 => (pM_ahead N m388).bind fun m390 => (some (mset m390 475 40 0)).bind fun m395 => some (1, m395) else none else none else none) (fun (j309 : Unit → Option (Int × Mem)) => if r293 = 0 then (pM_isWord m1 28530).bind fun r303 => if r303 = 0 then j400 () else j309 () else j309 ()))) (fun (j285 : Unit → Option (Int × Mem)) => if r28 = 0 then j285 () else if 0 ≤ x1_19 ∧ x1_19 < 20 then if m1 492 x1_19 = 0 then (pM_isSign m1 60).bind fun r204 => jn (α := Unit → Option (Int × Mem)) (fun (_ : Unit) => (pM_joins N m1 5).bind fun m230 => (pM_isSign m230 60).bind fun r237 => (if r237 = 0 then (pM_isSign m230 62).bind fun r251 => if r251 = 0 then some ((40 : Int)) else some ((39 : Int)) else some ((38 : Int))).bind fun ys1_264 => (pM_holdsBack m230 ys1_264).bind fun m264 => if 0 ≤ x1_19 ∧ x1_19 < 20 then (some (mset m264 492 x1_19 1)).bind fun m273 => (pM_ahead N m273).bind fun m275 => (some (mset m275 475 40 0)).bind fun m280 => some (1, m280) else none) (fun (j228 : Unit → Option (Int × Mem)) => if r204 = 0 then (pM_isSign m1 62).bind fun r213 => if r213 = 0 then (pM_isSign m1 61).bind fun r222 => if r222 = 0 then j285 () else j228 () else j228 () else j228 ()) else j285 () else none)) (fun (j188 : Unit → Option (Int × Mem)) => if m1 492 x1_19 < 2 then (pM_isSign m1 43).bind fun r45 => jn (α := Unit → Option (Int × Mem)) (fun (_ : Unit) => (pM_isSign m1 43).bind fun r91 => (if r91 = 0 then (pM_isSign m1 45).bind fun r100 => if r100 = 0 then some ((6 : Int)) else some ((5 : Int)) else some ((5 : Int))).bind fun ys1_112 => (pM_joins N m1 ys1_112).bind fun m112 => (pM_isSign m112 43).bind fun r119 => (if r119 = 0 then (pM_isSign m112 45).bind fun r133 => if r133 = 0 then (pM_isSign m112 42).bind fun r147 => if r147 = 0 then (pM_isSign m112 47).bind fun r161 => if r161 = 0 then some ((35 : Int)) else some ((34 : Int)) else some ((33 : Int)) else some ((32 : Int)) else some ((31 : Int))).bind fun ys1_174 => (pM_holdsBack m112 ys1_174).bind fun m174 => (pM_ahead N m174).bind fun m178 => (some (mset m178 475 40 0)).bind fun m183 => some (1, m183)) (fun (j87 : Unit → Option (Int × Mem)) => if r45 = 0 then (pM_isSign m1 45).bind fun r54 => if r54 = 0 then (pM_isSign m1 42).bind fun r63 => if r63 = 0 then (pM_isSign m1 47).bind fun r72 => if r72 = 0 then (pM_isSign m1 37).bind fun r81 => if r81 = 0 then j188 () else j87 () else j87 () else j87 () else j87 () else j87 ()) else j188 ()) else none else none
set_option maxHeartbeats 4000000 in
theorem c_pM_goesOn {l : Launch} {en : En} {N : Nat} {μ : Mem}  {re : Int} {μe : Mem} (hV : VT μ)  (h : pM_goesOn N μ = some (re, μe)) : CtI l en yX12_goesOn cX12_goesOn 5 2 105 [vA en 475] μ .boolean re μe (VT μe ∧ (re = 0 ∨ re = 1)) := by
  refine Tr.of false (fun h => by cases h) (by decide) (Nat.le_of_ble_eq_true rfl) (fun K Ra => ?_)
  unfold pM_goesOn at h
  refine r_aload_n Ra (i := 0) dX12_goesOn_0 rfl rfl ?_
  obtain ⟨m1, hr1, h⟩ := bd h
  refine q_callVV Ra (c_pM_lex hV hr1) mw_X12_lex mi_X12_lex t475 rfl rfl rfl rfl rfl k_X12_266 rfl rfl dX12_goesOn_1 (fun ok1 => ?_)
  refine r_aload_n Ra (i := 0) dX12_goesOn_4 rfl rfl ?_
  refine q_getI Ra (x := m1 475 8) f_X12_36 t475 rfl rfl rfl rfl dX12_goesOn_5 ?_
  refine r_if_le Ra 13 dX12_goesOn_8 (ok1.int t475 rfl) rfl (fun hc => ?_) (fun hc => ?_)
  · replace h := ineg hc h
    refine r_aload_n Ra (i := 0) dX12_goesOn_13 rfl rfl ?_
    refine q_getI Ra (x := m1 475 36) f_X12_122 t475 rfl rfl rfl rfl dX12_goesOn_14 ?_
    refine r_iconst Ra dX12_goesOn_17 ?_
    refine r_isub Ra dX12_goesOn_18 ?_
    obtain ⟨x1_19, ex1_19, h⟩ := bv h
    have ix1_19 : inR x1_19 := eqR ex1_19 (inR_32 _)
    refine q_istore_n Ra 1 dX12_goesOn_19 rfl rfl ex1_19 ?_
    refine r_aload_n Ra (i := 0) dX12_goesOn_20 rfl rfl ?_
    refine q_getA Ra (b := 491) f_X12_106 t475 rfl rfl rfl (ok1.ref t475 rfl (by decide)) (by decide) dX12_goesOn_21 ?_
    refine r_iload_n Ra (i := 1) dX12_goesOn_24 rfl rfl ?_
    obtain ⟨gu25, h⟩ := gd h
    refine q_iald Ra t491 l491 gu25 dX12_goesOn_25 ?_
    obtain ⟨x2_26, ex2_26, h⟩ := bv h
    have ix2_26 : inR x2_26 := eqR ex2_26 (ok1.int t491 (kd20 _))
    refine q_istore_n Ra 2 dX12_goesOn_26 rfl rfl ex2_26 ?_
    refine r_iload_n Ra (i := 2) dX12_goesOn_27 rfl rfl ?_
    obtain ⟨r28, hr28, h⟩ := bd h
    refine q_callSI Ra (c_pM_isTest ok1 ix2_26 hr28) mw_X12_isTest ms_X12_isTest rfl rfl k_X12_336 rfl rfl dX12_goesOn_28 (fun ok28 => ?_)
    refine q_istore_n Ra 3 dX12_goesOn_31 rfl rfl rfl ?_
    refine r_aload_n Ra (i := 0) dX12_goesOn_32 rfl rfl ?_
    refine q_getA Ra (b := 492) f_X12_109 t475 rfl rfl rfl (ok1.ref t475 rfl (by decide)) (by decide) dX12_goesOn_33 ?_
    refine r_iload_n Ra (i := 1) dX12_goesOn_36 rfl rfl ?_
    obtain ⟨gu37, h⟩ := gd h
    refine q_iald Ra t492 l492 gu37 dX12_goesOn_37 ?_
    refine r_iconst Ra dX12_goesOn_38 ?_
    obtain ⟨j188, ej188, h⟩ := jn_elim h
    have hJ188 : j188 () = some (re, μe) → ∀ L9 : Lo, L9 0 = some (vA en 475) → L9 1 = some (vI x1_19) → L9 2 = some (vI x2_26) → L9 3 = some (vI r28) → K ZN 188 L9 [] m1 := by
      intro h L9 f188_0 f188_1 f188_2 f188_3
      rw [ej188] at h
      refine r_iload_n Ra (i := 3) dX12_goesOn_188 rfl f188_3 ?_
      obtain ⟨j285, ej285, h⟩ := jn_elim h
      have hJ285 : j285 () = some (re, μe) → ∀ L9 : Lo, L9 0 = some (vA en 475) → L9 1 = some (vI x1_19) → L9 2 = some (vI x2_26) → L9 3 = some (vI r28) → K ZN 285 L9 [] m1 := by
        intro h L9 f285_0 f285_1 f285_2 f285_3
        rw [ej285] at h
        refine r_iload_n Ra (i := 3) dX12_goesOn_285 rfl f285_3 ?_
        obtain ⟨j400, ej400, h⟩ := jn_elim h
        have hJ400 : j400 () = some (re, μe) → ∀ L9 : Lo, L9 0 = some (vA en 475) → L9 1 = some (vI x1_19) → L9 2 = some (vI x2_26) → L9 3 = some (vI r28) → K ZN 400 L9 [] m1 := by
          intro h L9 f400_0 f400_1 f400_2 f400_3
          rw [ej400] at h
          refine r_iload_n Ra (i := 3) dX12_goesOn_400 rfl f400_3 ?_
          obtain ⟨n422, hj422, h⟩ := bd h
          have hJ : VT n422 → ∀ L9 : Lo, L9 0 = some (vA en 475) → L9 1 = some (vI x1_19) → L9 2 = some (vI x2_26) → K ZN 422 L9 [] n422 := by
            intro hn422 L9 f422_0 f422_1 f422_2
            refine r_iload_n Ra (i := 2) dX12_goesOn_422 rfl f422_2 ?_
            refine r_iconst Ra dX12_goesOn_423 ?_
            refine r_icmp_ge Ra 441 dX12_goesOn_424 ix2_26 (Rk rfl) rfl (fun hc => ?_) (fun hc => ?_)
            · replace h := ineg hc h
              refine r_iload_n Ra (i := 2) dX12_goesOn_441 rfl f422_2 ?_
              refine r_iconst Ra dX12_goesOn_442 ?_
              obtain ⟨j452, ej452, h⟩ := jn_elim h
              have hJ452 : j452 () = some (re, μe) → ∀ L9 : Lo, L9 0 = some (vA en 475) → L9 1 = some (vI x1_19) → L9 2 = some (vI x2_26) → K ZN 452 L9 [] n422 := by
                intro h L9 f452_0 f452_1 f452_2
                rw [ej452] at h
                refine r_aload_n Ra (i := 0) dX12_goesOn_452 rfl f452_0 ?_
                refine r_bipush Ra dX12_goesOn_453 rfl ?_
                obtain ⟨r455, hr455, h⟩ := bd h
                refine q_callVI Ra (c_pM_isSign hn422 (Rk rfl) hr455) mw_X12_isSign mi_X12_isSign t475 rfl rfl rfl rfl rfl k_X12_269 rfl rfl dX12_goesOn_455 (fun ok455 => ?_)
                obtain ⟨n470, hj470, h⟩ := bd h
                have hJ : VT n470 → ∀ L9 : Lo, L9 0 = some (vA en 475) → L9 1 = some (vI x1_19) → L9 2 = some (vI x2_26) → K ZN 470 L9 [] n470 := by
                  intro hn470 L9 f470_0 f470_1 f470_2
                  refine r_aload_n Ra (i := 0) dX12_goesOn_470 rfl f470_0 ?_
                  refine q_getI Ra (x := n470 475 8) f_X12_36 t475 rfl rfl rfl rfl dX12_goesOn_471 ?_
                  refine r_if_le Ra 479 dX12_goesOn_474 (hn470.int t475 rfl) rfl (fun hc => ?_) (fun hc => ?_)
                  · replace h := ineg hc h
                    refine r_aload_n Ra (i := 0) dX12_goesOn_479 rfl f470_0 ?_
                    refine r_iconst Ra dX12_goesOn_480 ?_
                    obtain ⟨m481, hr481, h⟩ := bd h
                    refine q_callVV Ra (c_pM_joins hn470 (Rk rfl) hr481) mw_X12_joins mi_X12_joins t475 rfl rfl rfl rfl rfl k_X12_349 rfl rfl dX12_goesOn_481 (fun ok481 => ?_)
                    refine r_aload_n Ra (i := 0) dX12_goesOn_484 rfl f470_0 ?_
                    refine q_getA Ra (b := 491) f_X12_106 t475 rfl rfl rfl (ok481.ref t475 rfl (by decide)) (by decide) dX12_goesOn_485 ?_
                    refine r_iload_n Ra (i := 1) dX12_goesOn_488 rfl f470_1 ?_
                    refine r_iload_n Ra (i := 2) dX12_goesOn_489 rfl f470_2 ?_
                    refine r_iconst Ra dX12_goesOn_490 ?_
                    obtain ⟨ys2_499, eys2_499, h⟩ := bv h
                    have hJ : inR ys2_499 → ∀ L9 : Lo, L9 0 = some (vA en 475) → L9 1 = some (vI x1_19) → K ZN 499 L9 [vI ys2_499, vI x1_19, vA en 491] m481 := by
                      intro iys2_499 L9 f499_0 f499_1
                      obtain ⟨gu499, h⟩ := gd h
                      obtain ⟨m499, em499, h⟩ := bv h
                      have hm499 : VT m499 := eqV em499 (ok481.setI t491 (kd20 _) iys2_499)
                      refine q_iast Ra t491 l491 gu499 em499 dX12_goesOn_499 ?_
                      refine r_aload_n Ra (i := 0) dX12_goesOn_500 rfl f499_0 ?_
                      refine q_getA Ra (b := 492) f_X12_109 t475 rfl rfl rfl (hm499.ref t475 rfl (by decide)) (by decide) dX12_goesOn_501 ?_
                      refine r_iload_n Ra (i := 1) dX12_goesOn_504 rfl f499_1 ?_
                      refine r_iconst Ra dX12_goesOn_505 ?_
                      obtain ⟨gu506, h⟩ := gd h
                      obtain ⟨m506, em506, h⟩ := bv h
                      have hm506 : VT m506 := eqV em506 (hm499.setI t492 (kd20 _) (Rk rfl))
                      refine q_iast Ra t492 l492 gu506 em506 dX12_goesOn_506 ?_
                      refine r_aload_n Ra (i := 0) dX12_goesOn_507 rfl f499_0 ?_
                      obtain ⟨m508, hr508, h⟩ := bd h
                      refine q_callVV Ra (c_pM_ahead hm506 hr508) mw_X12_ahead mi_X12_ahead t475 rfl rfl rfl rfl rfl k_X12_272 rfl rfl dX12_goesOn_508 (fun ok508 => ?_)
                      refine r_aload_n Ra (i := 0) dX12_goesOn_511 rfl f499_0 ?_
                      refine r_iconst Ra dX12_goesOn_512 ?_
                      obtain ⟨m513, em513, h⟩ := bv h
                      have hm513 : VT m513 := eqV em513 (ok508.setZ t475 rfl (Or.inl rfl))
                      refine q_putZ Ra f_X12_134 p_X12_40 t475 rfl rfl rfl em513 (Or.inl rfl) dX12_goesOn_513 ?_
                      refine r_iconst Ra dX12_goesOn_516 ?_
                      cases h
                      exact r_zret Ra (Or.inr rfl) ⟨hm513, (Or.inr rfl)⟩ dX12_goesOn_517
                    refine r_icmp_ne Ra 498 dX12_goesOn_491 ix2_26 (Rk rfl) rfl (fun hc => ?_) (fun hc => ?_)
                    · replace eys2_499 := eys2_499.trans (if_neg hc)
                      refine r_iconst Ra dX12_goesOn_498 ?_
                      subst eys2_499
                      exact hJ (Rk rfl) _ f470_0 f470_1
                    · replace eys2_499 := eys2_499.trans (if_pos hc)
                      refine r_iconst Ra dX12_goesOn_494 ?_
                      refine r_goto Ra 499 dX12_goesOn_495 rfl ?_
                      subst eys2_499
                      exact hJ (Rk rfl) _ f470_0 f470_1
                  · replace h := ipos hc h
                    refine r_iconst Ra dX12_goesOn_477 ?_
                    cases h
                    exact r_zret Ra (Or.inl rfl) ⟨hn470, (Or.inl rfl)⟩ dX12_goesOn_478
                replace h := hj470
                refine r_if_ne Ra 470 dX12_goesOn_458 (inR_01 ok455) rfl (fun hc => ?_) (fun hc => ?_)
                · replace h := ineg hc h
                  cases h
                  exact hJ hn422 _ f452_0 f452_1 f452_2
                · replace h := ipos hc h
                  refine r_aload_n Ra (i := 0) dX12_goesOn_461 rfl f452_0 ?_
                  refine r_iconst Ra dX12_goesOn_462 ?_
                  refine r_aload_n Ra (i := 0) dX12_goesOn_463 rfl f452_0 ?_
                  refine q_getI Ra (x := n422 475 4) f_X12_23 t475 rfl rfl rfl rfl dX12_goesOn_464 ?_
                  obtain ⟨m467, hr467, h⟩ := bd h
                  refine q_callVV Ra (c_pM_blame hn422 (Rk rfl) (hn422.int t475 rfl) hr467) mw_X12_blame mi_X12_blame t475 rfl rfl rfl rfl rfl k_X12_255 rfl rfl dX12_goesOn_467 (fun ok467 => ?_)
                  cases h
                  exact hJ ok467 _ f452_0 f452_1 f452_2
              refine r_icmp_eq Ra 452 dX12_goesOn_443 ix2_26 (Rk rfl) rfl (fun hc => ?_) (fun hc => ?_)
              · replace h := ipos hc h
                exact hJ452 h  _ f422_0 f422_1 f422_2
              · replace h := ineg hc h
                refine r_iload_n Ra (i := 2) dX12_goesOn_446 rfl f422_2 ?_
                refine r_bipush Ra dX12_goesOn_447 rfl ?_
                refine r_icmp_ne Ra 518 dX12_goesOn_449 ix2_26 (Rk rfl) rfl (fun hc => ?_) (fun hc => ?_)
                · replace h := ineg hc h
                  refine r_aload_n Ra (i := 0) dX12_goesOn_518 rfl f422_0 ?_
                  refine r_iload_n Ra (i := 2) dX12_goesOn_519 rfl f422_2 ?_
                  refine r_iconst Ra dX12_goesOn_520 ?_
                  obtain ⟨ys1_531, eys1_531, h⟩ := bv h
                  have hJ : inR ys1_531 → ∀ L9 : Lo, L9 0 = some (vA en 475) → L9 1 = some (vI x1_19) → L9 2 = some (vI x2_26) → K ZN 531 L9 [vI ys1_531, vA en 475] n422 := by
                    intro iys1_531 L9 f531_0 f531_1 f531_2
                    obtain ⟨r531, hr531, h⟩ := bd h
                    refine q_callVI Ra (c_pM_isSign hn422 iys1_531 hr531) mw_X12_isSign mi_X12_isSign t475 rfl rfl rfl rfl rfl k_X12_269 rfl rfl dX12_goesOn_531 (fun ok531 => ?_)
                    obtain ⟨n546, hj546, h⟩ := bd h
                    have hJ : VT n546 → ∀ L9 : Lo, L9 0 = some (vA en 475) → L9 1 = some (vI x1_19) → L9 2 = some (vI x2_26) → K ZN 546 L9 [] n546 := by
                      intro hn546 L9 f546_0 f546_1 f546_2
                      refine r_aload_n Ra (i := 0) dX12_goesOn_546 rfl f546_0 ?_
                      refine q_getI Ra (x := n546 475 8) f_X12_36 t475 rfl rfl rfl rfl dX12_goesOn_547 ?_
                      refine r_if_le Ra 555 dX12_goesOn_550 (hn546.int t475 rfl) rfl (fun hc => ?_) (fun hc => ?_)
                      · replace h := ineg hc h
                        refine r_aload_n Ra (i := 0) dX12_goesOn_555 rfl f546_0 ?_
                        refine r_iconst Ra dX12_goesOn_556 ?_
                        obtain ⟨m557, hr557, h⟩ := bd h
                        refine q_callVV Ra (c_pM_joins hn546 (Rk rfl) hr557) mw_X12_joins mi_X12_joins t475 rfl rfl rfl rfl rfl k_X12_349 rfl rfl dX12_goesOn_557 (fun ok557 => ?_)
                        refine r_aload_n Ra (i := 0) dX12_goesOn_560 rfl f546_0 ?_
                        refine r_dupA Ra dX12_goesOn_561 ?_
                        refine q_getI Ra (x := m557 475 36) f_X12_122 t475 rfl rfl rfl rfl dX12_goesOn_562 ?_
                        refine r_iconst Ra dX12_goesOn_565 ?_
                        refine r_isub Ra dX12_goesOn_566 ?_
                        obtain ⟨m567, em567, h⟩ := bv h
                        have hm567 : VT m567 := eqV em567 (ok557.setI t475 rfl (inR_32 _))
                        refine q_putI Ra f_X12_122 p_X12_36 t475 rfl rfl rfl em567 dX12_goesOn_567 ?_
                        refine r_aload_n Ra (i := 0) dX12_goesOn_570 rfl f546_0 ?_
                        refine r_dupA Ra dX12_goesOn_571 ?_
                        refine q_getI Ra (x := m567 475 37) f_X12_125 t475 rfl rfl rfl rfl dX12_goesOn_572 ?_
                        refine r_iconst Ra dX12_goesOn_575 ?_
                        refine r_isub Ra dX12_goesOn_576 ?_
                        obtain ⟨m577, em577, h⟩ := bv h
                        have hm577 : VT m577 := eqV em577 (hm567.setI t475 rfl (inR_32 _))
                        refine q_putI Ra f_X12_125 p_X12_37 t475 rfl rfl rfl em577 dX12_goesOn_577 ?_
                        refine r_iload_n Ra (i := 2) dX12_goesOn_580 rfl f546_2 ?_
                        refine r_iconst Ra dX12_goesOn_581 ?_
                        obtain ⟨n596, hj596, h⟩ := bd h
                        have hJ : VT n596 → ∀ L9 : Lo, L9 0 = some (vA en 475) → L9 2 = some (vI x2_26) → K ZN 596 L9 [] n596 := by
                          intro hn596 L9 f596_0 f596_2
                          refine r_iload_n Ra (i := 2) dX12_goesOn_596 rfl f596_2 ?_
                          refine r_iconst Ra dX12_goesOn_597 ?_
                          obtain ⟨n613, hj613, h⟩ := bd h
                          have hJ : VT n613 → ∀ L9 : Lo, L9 0 = some (vA en 475) → K ZN 613 L9 [] n613 := by
                            intro hn613 L9 f613_0
                            refine r_aload_n Ra (i := 0) dX12_goesOn_613 rfl f613_0 ?_
                            obtain ⟨m614, hr614, h⟩ := bd h
                            refine q_callVV Ra (c_pM_ahead hn613 hr614) mw_X12_ahead mi_X12_ahead t475 rfl rfl rfl rfl rfl k_X12_272 rfl rfl dX12_goesOn_614 (fun ok614 => ?_)
                            refine r_iconst Ra dX12_goesOn_617 ?_
                            cases h
                            exact r_zret Ra (Or.inr rfl) ⟨ok614, (Or.inr rfl)⟩ dX12_goesOn_618
                          replace h := hj613
                          refine r_icmp_ne Ra 613 dX12_goesOn_598 ix2_26 (Rk rfl) rfl (fun hc => ?_) (fun hc => ?_)
                          · replace h := ineg hc h
                            cases h
                            exact hJ hn596 _ f596_0
                          · replace h := ipos hc h
                            refine r_aload_n Ra (i := 0) dX12_goesOn_601 rfl f596_0 ?_
                            refine q_getA Ra (b := 492) f_X12_109 t475 rfl rfl rfl (hn596.ref t475 rfl (by decide)) (by decide) dX12_goesOn_602 ?_
                            refine r_aload_n Ra (i := 0) dX12_goesOn_605 rfl f596_0 ?_
                            refine q_getI Ra (x := n596 475 36) f_X12_122 t475 rfl rfl rfl rfl dX12_goesOn_606 ?_
                            refine r_iconst Ra dX12_goesOn_609 ?_
                            refine r_isub Ra dX12_goesOn_610 ?_
                            refine r_iconst Ra dX12_goesOn_611 ?_
                            obtain ⟨gu612, h⟩ := gd h
                            obtain ⟨m612, em612, h⟩ := bv h
                            have hm612 : VT m612 := eqV em612 (hn596.setI t492 (kd20 _) (Rk rfl))
                            refine q_iast Ra t492 l492 gu612 em612 dX12_goesOn_612 ?_
                            cases h
                            exact hJ hm612 _ f596_0
                        replace h := hj596
                        refine r_icmp_ne Ra 596 dX12_goesOn_582 ix2_26 (Rk rfl) rfl (fun hc => ?_) (fun hc => ?_)
                        · replace h := ineg hc h
                          cases h
                          exact hJ hm577 _ f546_0 f546_2
                        · replace h := ipos hc h
                          refine r_aload_n Ra (i := 0) dX12_goesOn_585 rfl f546_0 ?_
                          refine r_aload_n Ra (i := 0) dX12_goesOn_586 rfl f546_0 ?_
                          refine q_getA Ra (b := 494) f_X12_116 t475 rfl rfl rfl (hm577.ref t475 rfl (by decide)) (by decide) dX12_goesOn_587 ?_
                          refine r_iload_n Ra (i := 1) dX12_goesOn_590 rfl f546_1 ?_
                          obtain ⟨gu591, h⟩ := gd h
                          refine q_iald Ra t494 l494 gu591 dX12_goesOn_591 ?_
                          refine r_iconst Ra dX12_goesOn_592 ?_
                          obtain ⟨m593, hr593, h⟩ := bd h
                          refine q_callVV Ra (c_pM_add hm577 (hm577.int t494 (kd20 _)) (Rk rfl) hr593) mw_X12_add mi_X12_add t475 rfl rfl rfl rfl rfl k_X12_330 rfl rfl dX12_goesOn_593 (fun ok593 => ?_)
                          cases h
                          exact hJ ok593 _ f546_0 f546_2
                      · replace h := ipos hc h
                        refine r_iconst Ra dX12_goesOn_553 ?_
                        cases h
                        exact r_zret Ra (Or.inl rfl) ⟨hn546, (Or.inl rfl)⟩ dX12_goesOn_554
                    replace h := hj546
                    refine r_if_ne Ra 546 dX12_goesOn_534 (inR_01 ok531) rfl (fun hc => ?_) (fun hc => ?_)
                    · replace h := ineg hc h
                      cases h
                      exact hJ hn422 _ f531_0 f531_1 f531_2
                    · replace h := ipos hc h
                      refine r_aload_n Ra (i := 0) dX12_goesOn_537 rfl f531_0 ?_
                      refine r_iconst Ra dX12_goesOn_538 ?_
                      refine r_aload_n Ra (i := 0) dX12_goesOn_539 rfl f531_0 ?_
                      refine q_getI Ra (x := n422 475 4) f_X12_23 t475 rfl rfl rfl rfl dX12_goesOn_540 ?_
                      obtain ⟨m543, hr543, h⟩ := bd h
                      refine q_callVV Ra (c_pM_blame hn422 (Rk rfl) (hn422.int t475 rfl) hr543) mw_X12_blame mi_X12_blame t475 rfl rfl rfl rfl rfl k_X12_255 rfl rfl dX12_goesOn_543 (fun ok543 => ?_)
                      cases h
                      exact hJ ok543 _ f531_0 f531_1 f531_2
                  refine r_icmp_ne Ra 529 dX12_goesOn_521 ix2_26 (Rk rfl) rfl (fun hc => ?_) (fun hc => ?_)
                  · replace eys1_531 := eys1_531.trans (if_neg hc)
                    refine r_bipush Ra dX12_goesOn_529 rfl ?_
                    subst eys1_531
                    exact hJ (Rk rfl) _ f422_0 f422_1 f422_2
                  · replace eys1_531 := eys1_531.trans (if_pos hc)
                    refine r_bipush Ra dX12_goesOn_524 rfl ?_
                    refine r_goto Ra 531 dX12_goesOn_526 rfl ?_
                    subst eys1_531
                    exact hJ (Rk rfl) _ f422_0 f422_1 f422_2
                · replace h := ipos hc h
                  exact hJ452 h  _ f422_0 f422_1 f422_2
            · replace h := ipos hc h
              refine r_aload_n Ra (i := 0) dX12_goesOn_427 rfl f422_0 ?_
              refine q_getI Ra (x := n422 475 8) f_X12_36 t475 rfl rfl rfl rfl dX12_goesOn_428 ?_
              refine r_if_ne Ra 439 dX12_goesOn_431 (hn422.int t475 rfl) rfl (fun hc => ?_) (fun hc => ?_)
              · replace h := ineg hc h
                refine r_iconst Ra dX12_goesOn_439 ?_
                cases h
                exact r_zret Ra (Or.inl rfl) ⟨hn422, (Or.inl rfl)⟩ dX12_goesOn_440
              · replace h := ipos hc h
                refine r_aload_n Ra (i := 0) dX12_goesOn_434 rfl f422_0 ?_
                refine r_iconst Ra dX12_goesOn_435 ?_
                obtain ⟨m436, hr436, h⟩ := bd h
                refine q_callVV Ra (c_pM_joins hn422 (Rk rfl) hr436) mw_X12_joins mi_X12_joins t475 rfl rfl rfl rfl rfl k_X12_349 rfl rfl dX12_goesOn_436 (fun ok436 => ?_)
                refine r_iconst Ra dX12_goesOn_439 ?_
                cases h
                exact r_zret Ra (Or.inl rfl) ⟨ok436, (Or.inl rfl)⟩ dX12_goesOn_440
          replace h := hj422
          refine r_if_eq Ra 422 dX12_goesOn_401 (inR_01 ok28) rfl (fun hc => ?_) (fun hc => ?_)
          · replace h := ipos hc h
            cases h
            exact hJ ok1 _ f400_0 f400_1 f400_2
          · replace h := ineg hc h
            refine r_aload_n Ra (i := 0) dX12_goesOn_404 rfl f400_0 ?_
            refine q_getA Ra (b := 492) f_X12_109 t475 rfl rfl rfl (ok1.ref t475 rfl (by decide)) (by decide) dX12_goesOn_405 ?_
            refine r_iload_n Ra (i := 1) dX12_goesOn_408 rfl f400_1 ?_
            obtain ⟨gu409, h⟩ := gd h
            refine q_iald Ra t492 l492 gu409 dX12_goesOn_409 ?_
            refine r_if_ne Ra 422 dX12_goesOn_410 (ok1.int t492 (kd20 _)) rfl (fun hc => ?_) (fun hc => ?_)
            · replace h := ineg hc h
              cases h
              exact hJ ok1 _ f400_0 f400_1 f400_2
            · replace h := ipos hc h
              refine r_aload_n Ra (i := 0) dX12_goesOn_413 rfl f400_0 ?_
              refine r_iconst Ra dX12_goesOn_414 ?_
              refine r_aload_n Ra (i := 0) dX12_goesOn_415 rfl f400_0 ?_
              refine q_getI Ra (x := m1 475 4) f_X12_23 t475 rfl rfl rfl rfl dX12_goesOn_416 ?_
              obtain ⟨m419, hr419, h⟩ := bd h
              refine q_callVV Ra (c_pM_blame ok1 (Rk rfl) (ok1.int t475 rfl) hr419) mw_X12_blame mi_X12_blame t475 rfl rfl rfl rfl rfl k_X12_255 rfl rfl dX12_goesOn_419 (fun ok419 => ?_)
              cases h
              exact hJ ok419 _ f400_0 f400_1 f400_2
        refine r_if_eq Ra 400 dX12_goesOn_286 (inR_01 ok28) rfl (fun hc => ?_) (fun hc => ?_)
        · replace h := ipos hc h
          exact hJ400 h  _ f285_0 f285_1 f285_2 f285_3
        · replace h := ineg hc h
          refine r_aload_n Ra (i := 0) dX12_goesOn_289 rfl f285_0 ?_
          refine r_ldc2 Ra dX12_goesOn_290 kc_X12_313 ?_
          obtain ⟨r293, hr293, h⟩ := bd h
          refine q_callVI Ra (c_pM_isWord ok1 (Lk rfl) hr293) mw_X12_isWord mi_X12_isWord t475 rfl rfl rfl rfl rfl k_X12_339 rfl rfl dX12_goesOn_293 (fun ok293 => ?_)
          obtain ⟨j309, ej309, h⟩ := jn_elim h
          have hJ309 : j309 () = some (re, μe) → ∀ L9 : Lo, L9 0 = some (vA en 475) → L9 1 = some (vI x1_19) → K ZN 309 L9 [] m1 := by
            intro h L9 f309_0 f309_1
            rw [ej309] at h
            refine r_aload_n Ra (i := 0) dX12_goesOn_309 rfl f309_0 ?_
            refine q_getA Ra (b := 492) f_X12_109 t475 rfl rfl rfl (ok1.ref t475 rfl (by decide)) (by decide) dX12_goesOn_310 ?_
            refine r_iload_n Ra (i := 1) dX12_goesOn_313 rfl f309_1 ?_
            obtain ⟨gu314, h⟩ := gd h
            refine q_iald Ra t492 l492 gu314 dX12_goesOn_314 ?_
            obtain ⟨n327, hj327, h⟩ := bd h
            have hJ : VT n327 → ∀ L9 : Lo, L9 0 = some (vA en 475) → L9 1 = some (vI x1_19) → K ZN 327 L9 [] n327 := by
              intro hn327 L9 f327_0 f327_1
              refine r_aload_n Ra (i := 0) dX12_goesOn_327 rfl f327_0 ?_
              refine q_getI Ra (x := n327 475 8) f_X12_36 t475 rfl rfl rfl rfl dX12_goesOn_328 ?_
              refine r_if_le Ra 336 dX12_goesOn_331 (hn327.int t475 rfl) rfl (fun hc => ?_) (fun hc => ?_)
              · replace h := ineg hc h
                refine r_aload_n Ra (i := 0) dX12_goesOn_336 rfl f327_0 ?_
                refine r_ldc2 Ra dX12_goesOn_337 kc_X12_313 ?_
                obtain ⟨r340, hr340, h⟩ := bd h
                refine q_callVI Ra (c_pM_isWord hn327 (Lk rfl) hr340) mw_X12_isWord mi_X12_isWord t475 rfl rfl rfl rfl rfl k_X12_339 rfl rfl dX12_goesOn_340 (fun ok340 => ?_)
                refine q_istore Ra dX12_goesOn_343 rfl rfl ?_
                refine r_aload_n Ra (i := 0) dX12_goesOn_345 rfl f327_0 ?_
                refine r_iload Ra dX12_goesOn_346 rfl ?_
                obtain ⟨ys1_356, eys1_356, h⟩ := bv h
                have hJ : inR ys1_356 → ∀ L9 : Lo, L9 0 = some (vA en 475) → L9 1 = some (vI x1_19) → L9 4 = some (vI r340) → K ZN 356 L9 [vI ys1_356, vA en 475] n327 := by
                  intro iys1_356 L9 f356_0 f356_1 f356_4
                  obtain ⟨m356, hr356, h⟩ := bd h
                  refine q_callVV Ra (c_pM_joins hn327 iys1_356 hr356) mw_X12_joins mi_X12_joins t475 rfl rfl rfl rfl rfl k_X12_349 rfl rfl dX12_goesOn_356 (fun ok356 => ?_)
                  refine r_aload_n Ra (i := 0) dX12_goesOn_359 rfl f356_0 ?_
                  refine r_iload Ra dX12_goesOn_360 f356_4 ?_
                  obtain ⟨ys1_372, eys1_372, h⟩ := bv h
                  have hJ : inR ys1_372 → ∀ L9 : Lo, L9 0 = some (vA en 475) → L9 1 = some (vI x1_19) → K ZN 372 L9 [vI ys1_372, vA en 475] m356 := by
                    intro iys1_372 L9 f372_0 f372_1
                    obtain ⟨m372, hr372, h⟩ := bd h
                    refine q_callVV Ra (c_pM_holdsBack ok356 iys1_372 hr372) mw_X12_holdsBack mi_X12_holdsBack t475 rfl rfl rfl rfl rfl k_X12_343 rfl rfl dX12_goesOn_372 (fun ok372 => ?_)
                    refine r_aload_n Ra (i := 0) dX12_goesOn_375 rfl f372_0 ?_
                    refine q_getA Ra (b := 492) f_X12_109 t475 rfl rfl rfl (ok372.ref t475 rfl (by decide)) (by decide) dX12_goesOn_376 ?_
                    refine r_iload_n Ra (i := 1) dX12_goesOn_379 rfl f372_1 ?_
                    refine r_iconst Ra dX12_goesOn_380 ?_
                    obtain ⟨gu381, h⟩ := gd h
                    obtain ⟨m381, em381, h⟩ := bv h
                    have hm381 : VT m381 := eqV em381 (ok372.setI t492 (kd20 _) (Rk rfl))
                    refine q_iast Ra t492 l492 gu381 em381 dX12_goesOn_381 ?_
                    refine r_aload_n Ra (i := 0) dX12_goesOn_382 rfl f372_0 ?_
                    refine q_getA Ra (b := 493) f_X12_112 t475 rfl rfl rfl (hm381.ref t475 rfl (by decide)) (by decide) dX12_goesOn_383 ?_
                    refine r_iload_n Ra (i := 1) dX12_goesOn_386 rfl f372_1 ?_
                    refine r_iconst Ra dX12_goesOn_387 ?_
                    obtain ⟨gu388, h⟩ := gd h
                    obtain ⟨m388, em388, h⟩ := bv h
                    have hm388 : VT m388 := eqV em388 (hm381.setZ t493 (kd21 _) (Or.inr rfl))
                    refine q_zast Ra t493 l493 gu388 (Or.inr rfl) em388 dX12_goesOn_388 ?_
                    refine r_aload_n Ra (i := 0) dX12_goesOn_389 rfl f372_0 ?_
                    obtain ⟨m390, hr390, h⟩ := bd h
                    refine q_callVV Ra (c_pM_ahead hm388 hr390) mw_X12_ahead mi_X12_ahead t475 rfl rfl rfl rfl rfl k_X12_272 rfl rfl dX12_goesOn_390 (fun ok390 => ?_)
                    refine r_aload_n Ra (i := 0) dX12_goesOn_393 rfl f372_0 ?_
                    refine r_iconst Ra dX12_goesOn_394 ?_
                    obtain ⟨m395, em395, h⟩ := bv h
                    have hm395 : VT m395 := eqV em395 (ok390.setZ t475 rfl (Or.inl rfl))
                    refine q_putZ Ra f_X12_134 p_X12_40 t475 rfl rfl rfl em395 (Or.inl rfl) dX12_goesOn_395 ?_
                    refine r_iconst Ra dX12_goesOn_398 ?_
                    cases h
                    exact r_zret Ra (Or.inr rfl) ⟨hm395, (Or.inr rfl)⟩ dX12_goesOn_399
                  refine r_if_eq Ra 370 dX12_goesOn_362 (inR_01 ok340) rfl (fun hc => ?_) (fun hc => ?_)
                  · replace eys1_372 := eys1_372.trans (if_pos hc)
                    refine r_bipush Ra dX12_goesOn_370 rfl ?_
                    subst eys1_372
                    exact hJ (Rk rfl) _ f356_0 f356_1
                  · replace eys1_372 := eys1_372.trans (if_neg hc)
                    refine r_bipush Ra dX12_goesOn_365 rfl ?_
                    refine r_goto Ra 372 dX12_goesOn_367 rfl ?_
                    subst eys1_372
                    exact hJ (Rk rfl) _ f356_0 f356_1
                refine r_if_eq Ra 355 dX12_goesOn_348 (inR_01 ok340) rfl (fun hc => ?_) (fun hc => ?_)
                · replace eys1_356 := eys1_356.trans (if_pos hc)
                  refine r_iconst Ra dX12_goesOn_355 ?_
                  subst eys1_356
                  exact hJ (Rk rfl) _ f327_0 f327_1 rfl
                · replace eys1_356 := eys1_356.trans (if_neg hc)
                  refine r_iconst Ra dX12_goesOn_351 ?_
                  refine r_goto Ra 356 dX12_goesOn_352 rfl ?_
                  subst eys1_356
                  exact hJ (Rk rfl) _ f327_0 f327_1 rfl
              · replace h := ipos hc h
                refine r_iconst Ra dX12_goesOn_334 ?_
                cases h
                exact r_zret Ra (Or.inl rfl) ⟨hn327, (Or.inl rfl)⟩ dX12_goesOn_335
            replace h := hj327
            refine r_if_ne Ra 327 dX12_goesOn_315 (ok1.int t492 (kd20 _)) rfl (fun hc => ?_) (fun hc => ?_)
            · replace h := ineg hc h
              cases h
              exact hJ ok1 _ f309_0 f309_1
            · replace h := ipos hc h
              refine r_aload_n Ra (i := 0) dX12_goesOn_318 rfl f309_0 ?_
              refine r_iconst Ra dX12_goesOn_319 ?_
              refine r_aload_n Ra (i := 0) dX12_goesOn_320 rfl f309_0 ?_
              refine q_getI Ra (x := m1 475 4) f_X12_23 t475 rfl rfl rfl rfl dX12_goesOn_321 ?_
              obtain ⟨m324, hr324, h⟩ := bd h
              refine q_callVV Ra (c_pM_blame ok1 (Rk rfl) (ok1.int t475 rfl) hr324) mw_X12_blame mi_X12_blame t475 rfl rfl rfl rfl rfl k_X12_255 rfl rfl dX12_goesOn_324 (fun ok324 => ?_)
              cases h
              exact hJ ok324 _ f309_0 f309_1
          refine r_if_ne Ra 309 dX12_goesOn_296 (inR_01 ok293) rfl (fun hc => ?_) (fun hc => ?_)
          · replace h := ineg hc h
            exact hJ309 h  _ f285_0 f285_1
          · replace h := ipos hc h
            refine r_aload_n Ra (i := 0) dX12_goesOn_299 rfl f285_0 ?_
            refine r_ldc2 Ra dX12_goesOn_300 kc_X12_311 ?_
            obtain ⟨r303, hr303, h⟩ := bd h
            refine q_callVI Ra (c_pM_isWord ok1 (Lk rfl) hr303) mw_X12_isWord mi_X12_isWord t475 rfl rfl rfl rfl rfl k_X12_339 rfl rfl dX12_goesOn_303 (fun ok303 => ?_)
            refine r_if_eq Ra 400 dX12_goesOn_306 (inR_01 ok303) rfl (fun hc => ?_) (fun hc => ?_)
            · replace h := ipos hc h
              exact hJ400 h  _ f285_0 f285_1 f285_2 f285_3
            · replace h := ineg hc h
              exact hJ309 h  _ f285_0 f285_1
      refine r_if_eq Ra 285 dX12_goesOn_189 (inR_01 ok28) rfl (fun hc => ?_) (fun hc => ?_)
      · replace h := ipos hc h
        exact hJ285 h  _ f188_0 f188_1 f188_2 f188_3
      · replace h := ineg hc h
        refine r_aload_n Ra (i := 0) dX12_goesOn_192 rfl f188_0 ?_
        refine q_getA Ra (b := 492) f_X12_109 t475 rfl rfl rfl (ok1.ref t475 rfl (by decide)) (by decide) dX12_goesOn_193 ?_
        refine r_iload_n Ra (i := 1) dX12_goesOn_196 rfl f188_1 ?_
        obtain ⟨gu197, h⟩ := gd h
        refine q_iald Ra t492 l492 gu197 dX12_goesOn_197 ?_
        refine r_if_ne Ra 285 dX12_goesOn_198 (ok1.int t492 (kd20 _)) rfl (fun hc => ?_) (fun hc => ?_)
        · replace h := ineg hc h
          exact hJ285 h  _ f188_0 f188_1 f188_2 f188_3
        · replace h := ipos hc h
          refine r_aload_n Ra (i := 0) dX12_goesOn_201 rfl f188_0 ?_
          refine r_bipush Ra dX12_goesOn_202 rfl ?_
          obtain ⟨r204, hr204, h⟩ := bd h
          refine q_callVI Ra (c_pM_isSign ok1 (Rk rfl) hr204) mw_X12_isSign mi_X12_isSign t475 rfl rfl rfl rfl rfl k_X12_269 rfl rfl dX12_goesOn_204 (fun ok204 => ?_)
          obtain ⟨j228, ej228, h⟩ := jn_elim h
          have hJ228 : j228 () = some (re, μe) → ∀ L9 : Lo, L9 0 = some (vA en 475) → L9 1 = some (vI x1_19) → K ZN 228 L9 [] m1 := by
            intro h L9 f228_0 f228_1
            rw [ej228] at h
            refine r_aload_n Ra (i := 0) dX12_goesOn_228 rfl f228_0 ?_
            refine r_iconst Ra dX12_goesOn_229 ?_
            obtain ⟨m230, hr230, h⟩ := bd h
            refine q_callVV Ra (c_pM_joins ok1 (Rk rfl) hr230) mw_X12_joins mi_X12_joins t475 rfl rfl rfl rfl rfl k_X12_349 rfl rfl dX12_goesOn_230 (fun ok230 => ?_)
            refine r_aload_n Ra (i := 0) dX12_goesOn_233 rfl f228_0 ?_
            refine r_aload_n Ra (i := 0) dX12_goesOn_234 rfl f228_0 ?_
            refine r_bipush Ra dX12_goesOn_235 rfl ?_
            obtain ⟨r237, hr237, h⟩ := bd h
            refine q_callVI Ra (c_pM_isSign ok230 (Rk rfl) hr237) mw_X12_isSign mi_X12_isSign t475 rfl rfl rfl rfl rfl k_X12_269 rfl rfl dX12_goesOn_237 (fun ok237 => ?_)
            obtain ⟨ys1_264, hj264, h⟩ := bd h
            have hJ : inR ys1_264 → ∀ L9 : Lo, L9 0 = some (vA en 475) → L9 1 = some (vI x1_19) → K ZN 264 L9 [vI ys1_264, vA en 475] m230 := by
              intro iys1_264 L9 f264_0 f264_1
              obtain ⟨m264, hr264, h⟩ := bd h
              refine q_callVV Ra (c_pM_holdsBack ok230 iys1_264 hr264) mw_X12_holdsBack mi_X12_holdsBack t475 rfl rfl rfl rfl rfl k_X12_343 rfl rfl dX12_goesOn_264 (fun ok264 => ?_)
              refine r_aload_n Ra (i := 0) dX12_goesOn_267 rfl f264_0 ?_
              refine q_getA Ra (b := 492) f_X12_109 t475 rfl rfl rfl (ok264.ref t475 rfl (by decide)) (by decide) dX12_goesOn_268 ?_
              refine r_iload_n Ra (i := 1) dX12_goesOn_271 rfl f264_1 ?_
              refine r_iconst Ra dX12_goesOn_272 ?_
              obtain ⟨gu273, h⟩ := gd h
              obtain ⟨m273, em273, h⟩ := bv h
              have hm273 : VT m273 := eqV em273 (ok264.setI t492 (kd20 _) (Rk rfl))
              refine q_iast Ra t492 l492 gu273 em273 dX12_goesOn_273 ?_
              refine r_aload_n Ra (i := 0) dX12_goesOn_274 rfl f264_0 ?_
              obtain ⟨m275, hr275, h⟩ := bd h
              refine q_callVV Ra (c_pM_ahead hm273 hr275) mw_X12_ahead mi_X12_ahead t475 rfl rfl rfl rfl rfl k_X12_272 rfl rfl dX12_goesOn_275 (fun ok275 => ?_)
              refine r_aload_n Ra (i := 0) dX12_goesOn_278 rfl f264_0 ?_
              refine r_iconst Ra dX12_goesOn_279 ?_
              obtain ⟨m280, em280, h⟩ := bv h
              have hm280 : VT m280 := eqV em280 (ok275.setZ t475 rfl (Or.inl rfl))
              refine q_putZ Ra f_X12_134 p_X12_40 t475 rfl rfl rfl em280 (Or.inl rfl) dX12_goesOn_280 ?_
              refine r_iconst Ra dX12_goesOn_283 ?_
              cases h
              exact r_zret Ra (Or.inr rfl) ⟨hm280, (Or.inr rfl)⟩ dX12_goesOn_284
            replace h := hj264
            refine r_if_eq Ra 248 dX12_goesOn_240 (inR_01 ok237) rfl (fun hc => ?_) (fun hc => ?_)
            · replace h := ipos hc h
              refine r_aload_n Ra (i := 0) dX12_goesOn_248 rfl f228_0 ?_
              refine r_bipush Ra dX12_goesOn_249 rfl ?_
              obtain ⟨r251, hr251, h⟩ := bd h
              refine q_callVI Ra (c_pM_isSign ok230 (Rk rfl) hr251) mw_X12_isSign mi_X12_isSign t475 rfl rfl rfl rfl rfl k_X12_269 rfl rfl dX12_goesOn_251 (fun ok251 => ?_)
              refine r_if_eq Ra 262 dX12_goesOn_254 (inR_01 ok251) rfl (fun hc => ?_) (fun hc => ?_)
              · replace h := ipos hc h
                refine r_bipush Ra dX12_goesOn_262 rfl ?_
                cases h
                exact hJ (Rk rfl) _ f228_0 f228_1
              · replace h := ineg hc h
                refine r_bipush Ra dX12_goesOn_257 rfl ?_
                refine r_goto Ra 264 dX12_goesOn_259 rfl ?_
                cases h
                exact hJ (Rk rfl) _ f228_0 f228_1
            · replace h := ineg hc h
              refine r_bipush Ra dX12_goesOn_243 rfl ?_
              refine r_goto Ra 264 dX12_goesOn_245 rfl ?_
              cases h
              exact hJ (Rk rfl) _ f228_0 f228_1
          refine r_if_ne Ra 228 dX12_goesOn_207 (inR_01 ok204) rfl (fun hc => ?_) (fun hc => ?_)
          · replace h := ineg hc h
            exact hJ228 h  _ f188_0 f188_1
          · replace h := ipos hc h
            refine r_aload_n Ra (i := 0) dX12_goesOn_210 rfl f188_0 ?_
            refine r_bipush Ra dX12_goesOn_211 rfl ?_
            obtain ⟨r213, hr213, h⟩ := bd h
            refine q_callVI Ra (c_pM_isSign ok1 (Rk rfl) hr213) mw_X12_isSign mi_X12_isSign t475 rfl rfl rfl rfl rfl k_X12_269 rfl rfl dX12_goesOn_213 (fun ok213 => ?_)
            refine r_if_ne Ra 228 dX12_goesOn_216 (inR_01 ok213) rfl (fun hc => ?_) (fun hc => ?_)
            · replace h := ineg hc h
              exact hJ228 h  _ f188_0 f188_1
            · replace h := ipos hc h
              refine r_aload_n Ra (i := 0) dX12_goesOn_219 rfl f188_0 ?_
              refine r_bipush Ra dX12_goesOn_220 rfl ?_
              obtain ⟨r222, hr222, h⟩ := bd h
              refine q_callVI Ra (c_pM_isSign ok1 (Rk rfl) hr222) mw_X12_isSign mi_X12_isSign t475 rfl rfl rfl rfl rfl k_X12_269 rfl rfl dX12_goesOn_222 (fun ok222 => ?_)
              refine r_if_eq Ra 285 dX12_goesOn_225 (inR_01 ok222) rfl (fun hc => ?_) (fun hc => ?_)
              · replace h := ipos hc h
                exact hJ285 h  _ f188_0 f188_1 f188_2 f188_3
              · replace h := ineg hc h
                exact hJ228 h  _ f188_0 f188_1
    refine r_icmp_ge Ra 188 dX12_goesOn_39 (ok1.int t492 (kd20 _)) (Rk rfl) rfl (fun hc => ?_) (fun hc => ?_)
    · replace h := ineg hc h
      exact hJ188 h  _ rfl rfl rfl rfl
    · replace h := ipos hc h
      refine r_aload_n Ra (i := 0) dX12_goesOn_42 rfl rfl ?_
      refine r_bipush Ra dX12_goesOn_43 rfl ?_
      obtain ⟨r45, hr45, h⟩ := bd h
      refine q_callVI Ra (c_pM_isSign ok1 (Rk rfl) hr45) mw_X12_isSign mi_X12_isSign t475 rfl rfl rfl rfl rfl k_X12_269 rfl rfl dX12_goesOn_45 (fun ok45 => ?_)
      obtain ⟨j87, ej87, h⟩ := jn_elim h
      have hJ87 : j87 () = some (re, μe) → ∀ L9 : Lo, L9 0 = some (vA en 475) → K ZN 87 L9 [] m1 := by
        intro h L9 f87_0
        rw [ej87] at h
        refine r_aload_n Ra (i := 0) dX12_goesOn_87 rfl f87_0 ?_
        refine r_aload_n Ra (i := 0) dX12_goesOn_88 rfl f87_0 ?_
        refine r_bipush Ra dX12_goesOn_89 rfl ?_
        obtain ⟨r91, hr91, h⟩ := bd h
        refine q_callVI Ra (c_pM_isSign ok1 (Rk rfl) hr91) mw_X12_isSign mi_X12_isSign t475 rfl rfl rfl rfl rfl k_X12_269 rfl rfl dX12_goesOn_91 (fun ok91 => ?_)
        obtain ⟨ys1_112, hj112, h⟩ := bd h
        have hJ : inR ys1_112 → ∀ L9 : Lo, L9 0 = some (vA en 475) → K ZN 112 L9 [vI ys1_112, vA en 475] m1 := by
          intro iys1_112 L9 f112_0
          obtain ⟨m112, hr112, h⟩ := bd h
          refine q_callVV Ra (c_pM_joins ok1 iys1_112 hr112) mw_X12_joins mi_X12_joins t475 rfl rfl rfl rfl rfl k_X12_349 rfl rfl dX12_goesOn_112 (fun ok112 => ?_)
          refine r_aload_n Ra (i := 0) dX12_goesOn_115 rfl f112_0 ?_
          refine r_aload_n Ra (i := 0) dX12_goesOn_116 rfl f112_0 ?_
          refine r_bipush Ra dX12_goesOn_117 rfl ?_
          obtain ⟨r119, hr119, h⟩ := bd h
          refine q_callVI Ra (c_pM_isSign ok112 (Rk rfl) hr119) mw_X12_isSign mi_X12_isSign t475 rfl rfl rfl rfl rfl k_X12_269 rfl rfl dX12_goesOn_119 (fun ok119 => ?_)
          obtain ⟨ys1_174, hj174, h⟩ := bd h
          have hJ : inR ys1_174 → ∀ L9 : Lo, L9 0 = some (vA en 475) → K ZN 174 L9 [vI ys1_174, vA en 475] m112 := by
            intro iys1_174 L9 f174_0
            obtain ⟨m174, hr174, h⟩ := bd h
            refine q_callVV Ra (c_pM_holdsBack ok112 iys1_174 hr174) mw_X12_holdsBack mi_X12_holdsBack t475 rfl rfl rfl rfl rfl k_X12_343 rfl rfl dX12_goesOn_174 (fun ok174 => ?_)
            refine r_aload_n Ra (i := 0) dX12_goesOn_177 rfl f174_0 ?_
            obtain ⟨m178, hr178, h⟩ := bd h
            refine q_callVV Ra (c_pM_ahead ok174 hr178) mw_X12_ahead mi_X12_ahead t475 rfl rfl rfl rfl rfl k_X12_272 rfl rfl dX12_goesOn_178 (fun ok178 => ?_)
            refine r_aload_n Ra (i := 0) dX12_goesOn_181 rfl f174_0 ?_
            refine r_iconst Ra dX12_goesOn_182 ?_
            obtain ⟨m183, em183, h⟩ := bv h
            have hm183 : VT m183 := eqV em183 (ok178.setZ t475 rfl (Or.inl rfl))
            refine q_putZ Ra f_X12_134 p_X12_40 t475 rfl rfl rfl em183 (Or.inl rfl) dX12_goesOn_183 ?_
            refine r_iconst Ra dX12_goesOn_186 ?_
            cases h
            exact r_zret Ra (Or.inr rfl) ⟨hm183, (Or.inr rfl)⟩ dX12_goesOn_187
          replace h := hj174
          refine r_if_eq Ra 130 dX12_goesOn_122 (inR_01 ok119) rfl (fun hc => ?_) (fun hc => ?_)
          · replace h := ipos hc h
            refine r_aload_n Ra (i := 0) dX12_goesOn_130 rfl f112_0 ?_
            refine r_bipush Ra dX12_goesOn_131 rfl ?_
            obtain ⟨r133, hr133, h⟩ := bd h
            refine q_callVI Ra (c_pM_isSign ok112 (Rk rfl) hr133) mw_X12_isSign mi_X12_isSign t475 rfl rfl rfl rfl rfl k_X12_269 rfl rfl dX12_goesOn_133 (fun ok133 => ?_)
            refine r_if_eq Ra 144 dX12_goesOn_136 (inR_01 ok133) rfl (fun hc => ?_) (fun hc => ?_)
            · replace h := ipos hc h
              refine r_aload_n Ra (i := 0) dX12_goesOn_144 rfl f112_0 ?_
              refine r_bipush Ra dX12_goesOn_145 rfl ?_
              obtain ⟨r147, hr147, h⟩ := bd h
              refine q_callVI Ra (c_pM_isSign ok112 (Rk rfl) hr147) mw_X12_isSign mi_X12_isSign t475 rfl rfl rfl rfl rfl k_X12_269 rfl rfl dX12_goesOn_147 (fun ok147 => ?_)
              refine r_if_eq Ra 158 dX12_goesOn_150 (inR_01 ok147) rfl (fun hc => ?_) (fun hc => ?_)
              · replace h := ipos hc h
                refine r_aload_n Ra (i := 0) dX12_goesOn_158 rfl f112_0 ?_
                refine r_bipush Ra dX12_goesOn_159 rfl ?_
                obtain ⟨r161, hr161, h⟩ := bd h
                refine q_callVI Ra (c_pM_isSign ok112 (Rk rfl) hr161) mw_X12_isSign mi_X12_isSign t475 rfl rfl rfl rfl rfl k_X12_269 rfl rfl dX12_goesOn_161 (fun ok161 => ?_)
                refine r_if_eq Ra 172 dX12_goesOn_164 (inR_01 ok161) rfl (fun hc => ?_) (fun hc => ?_)
                · replace h := ipos hc h
                  refine r_bipush Ra dX12_goesOn_172 rfl ?_
                  cases h
                  exact hJ (Rk rfl) _ f112_0
                · replace h := ineg hc h
                  refine r_bipush Ra dX12_goesOn_167 rfl ?_
                  refine r_goto Ra 174 dX12_goesOn_169 rfl ?_
                  cases h
                  exact hJ (Rk rfl) _ f112_0
              · replace h := ineg hc h
                refine r_bipush Ra dX12_goesOn_153 rfl ?_
                refine r_goto Ra 174 dX12_goesOn_155 rfl ?_
                cases h
                exact hJ (Rk rfl) _ f112_0
            · replace h := ineg hc h
              refine r_bipush Ra dX12_goesOn_139 rfl ?_
              refine r_goto Ra 174 dX12_goesOn_141 rfl ?_
              cases h
              exact hJ (Rk rfl) _ f112_0
          · replace h := ineg hc h
            refine r_bipush Ra dX12_goesOn_125 rfl ?_
            refine r_goto Ra 174 dX12_goesOn_127 rfl ?_
            cases h
            exact hJ (Rk rfl) _ f112_0
        replace h := hj112
        refine r_if_ne Ra 106 dX12_goesOn_94 (inR_01 ok91) rfl (fun hc => ?_) (fun hc => ?_)
        · replace h := ineg hc h
          refine r_iconst Ra dX12_goesOn_106 ?_
          refine r_goto Ra 112 dX12_goesOn_107 rfl ?_
          cases h
          exact hJ (Rk rfl) _ f87_0
        · replace h := ipos hc h
          refine r_aload_n Ra (i := 0) dX12_goesOn_97 rfl f87_0 ?_
          refine r_bipush Ra dX12_goesOn_98 rfl ?_
          obtain ⟨r100, hr100, h⟩ := bd h
          refine q_callVI Ra (c_pM_isSign ok1 (Rk rfl) hr100) mw_X12_isSign mi_X12_isSign t475 rfl rfl rfl rfl rfl k_X12_269 rfl rfl dX12_goesOn_100 (fun ok100 => ?_)
          refine r_if_eq Ra 110 dX12_goesOn_103 (inR_01 ok100) rfl (fun hc => ?_) (fun hc => ?_)
          · replace h := ipos hc h
            refine r_bipush Ra dX12_goesOn_110 rfl ?_
            cases h
            exact hJ (Rk rfl) _ f87_0
          · replace h := ineg hc h
            refine r_iconst Ra dX12_goesOn_106 ?_
            refine r_goto Ra 112 dX12_goesOn_107 rfl ?_
            cases h
            exact hJ (Rk rfl) _ f87_0
      refine r_if_ne Ra 87 dX12_goesOn_48 (inR_01 ok45) rfl (fun hc => ?_) (fun hc => ?_)
      · replace h := ineg hc h
        exact hJ87 h  _ rfl
      · replace h := ipos hc h
        refine r_aload_n Ra (i := 0) dX12_goesOn_51 rfl rfl ?_
        refine r_bipush Ra dX12_goesOn_52 rfl ?_
        obtain ⟨r54, hr54, h⟩ := bd h
        refine q_callVI Ra (c_pM_isSign ok1 (Rk rfl) hr54) mw_X12_isSign mi_X12_isSign t475 rfl rfl rfl rfl rfl k_X12_269 rfl rfl dX12_goesOn_54 (fun ok54 => ?_)
        refine r_if_ne Ra 87 dX12_goesOn_57 (inR_01 ok54) rfl (fun hc => ?_) (fun hc => ?_)
        · replace h := ineg hc h
          exact hJ87 h  _ rfl
        · replace h := ipos hc h
          refine r_aload_n Ra (i := 0) dX12_goesOn_60 rfl rfl ?_
          refine r_bipush Ra dX12_goesOn_61 rfl ?_
          obtain ⟨r63, hr63, h⟩ := bd h
          refine q_callVI Ra (c_pM_isSign ok1 (Rk rfl) hr63) mw_X12_isSign mi_X12_isSign t475 rfl rfl rfl rfl rfl k_X12_269 rfl rfl dX12_goesOn_63 (fun ok63 => ?_)
          refine r_if_ne Ra 87 dX12_goesOn_66 (inR_01 ok63) rfl (fun hc => ?_) (fun hc => ?_)
          · replace h := ineg hc h
            exact hJ87 h  _ rfl
          · replace h := ipos hc h
            refine r_aload_n Ra (i := 0) dX12_goesOn_69 rfl rfl ?_
            refine r_bipush Ra dX12_goesOn_70 rfl ?_
            obtain ⟨r72, hr72, h⟩ := bd h
            refine q_callVI Ra (c_pM_isSign ok1 (Rk rfl) hr72) mw_X12_isSign mi_X12_isSign t475 rfl rfl rfl rfl rfl k_X12_269 rfl rfl dX12_goesOn_72 (fun ok72 => ?_)
            refine r_if_ne Ra 87 dX12_goesOn_75 (inR_01 ok72) rfl (fun hc => ?_) (fun hc => ?_)
            · replace h := ineg hc h
              exact hJ87 h  _ rfl
            · replace h := ipos hc h
              refine r_aload_n Ra (i := 0) dX12_goesOn_78 rfl rfl ?_
              refine r_bipush Ra dX12_goesOn_79 rfl ?_
              obtain ⟨r81, hr81, h⟩ := bd h
              refine q_callVI Ra (c_pM_isSign ok1 (Rk rfl) hr81) mw_X12_isSign mi_X12_isSign t475 rfl rfl rfl rfl rfl k_X12_269 rfl rfl dX12_goesOn_81 (fun ok81 => ?_)
              refine r_if_eq Ra 188 dX12_goesOn_84 (inR_01 ok81) rfl (fun hc => ?_) (fun hc => ?_)
              · replace h := ipos hc h
                exact hJ188 h  _ rfl rfl rfl rfl
              · replace h := ineg hc h
                exact hJ87 h  _ rfl
  · replace h := ipos hc h
    refine r_iconst Ra dX12_goesOn_11 ?_
    cases h
    exact r_zret Ra (Or.inl rfl) ⟨ok1, (Or.inl rfl)⟩ dX12_goesOn_12
noncomputable def pM_reads_L43b (N : Nat)  (k : Mem → Option (Mem)) (self : Int → Mem → Option (Mem)) (x2 : Int) (μ : Mem) : Option (Mem) := if x2 = 0 then k μ else (if μ 475 40 = 0 then (pM_operand N μ).bind fun (r56, m56) => (some (mset m56 475 40 r56)).bind fun m59 => some (x2, m59) else (pM_goesOn N μ).bind fun (r66, m66) => some (r66, m66)).bind fun (yl2_70, n70) => if yl2_70 = 0 then self 0 n70 else if n70 475 8 = 0 then self 1 n70 else self 0 n70
noncomputable def pM_reads_L43 (N : Nat)  (k : Mem → Option (Mem)) (n : Nat) : Int → Mem → Option (Mem) := lpF (fun _ _ => none) (pM_reads_L43b N k) n
noncomputable def pM_reads (N : Nat) (μ : Mem) (x1 : Int) : Option (Mem) := if 0 < μ 475 8 then some μ else (some (mset μ 475 36 0)).bind fun m10 => (some (mset m10 475 37 0)).bind fun m15 => (some (mset m15 475 39 0)).bind fun m20 => (some (mset m20 475 40 0)).bind fun m25 => (some (if x1 = 0 then 0 else 1 : Int)).bind fun ys1_38 => (pM_pushes m25 ys1_38).bind fun m38 => pM_reads_L43 N (fun n90 => some n90) N 1 m38
theorem k_pM_reads_L43 {l : Launch} {en : En} {μe : Mem} {N : Nat}  {k : Mem → Option (Mem)} {K : KT} (Ra : Ru false (some (none, none, nCells, μe, 0, 0, (VT μe))) l en cX12_reads yX12_reads.cls 3 (rmN 4 149) K)  (hk : ∀  (μ9 : Mem), k μ9 = some μe → VT μ9 → ∀ L9 : Lo, K ZN 90 L9 [] μ9) : ∀ (n : Nat) (x2 : Int) (μ : Mem) (L : Lo), pM_reads_L43 N k n x2 μ = some μe → inR x2 → VT μ → L 0 = some (vA en 475) → L 2 = some (vI x2) → K ZN 43 L [] μ := by
  intro n
  induction n with
  | zero => intro x2 μ L h; cases h
  | succ n ih =>
    intro x2 μ L h hx2 hV hL0 hL2
    replace h : pM_reads_L43b N k (pM_reads_L43 N k n) x2 μ = some μe := h
    unfold pM_reads_L43b at h
    refine r_iload_n Ra (i := 2) dX12_reads_43 rfl hL2 ?_
    refine r_if_eq Ra 90 dX12_reads_44 hx2 rfl (fun hc => ?_) (fun hc => ?_)
    · replace h := ipos hc h
      exact hk μ h  hV _ 
    · replace h := ineg hc h
      refine r_aload_n Ra (i := 0) dX12_reads_47 rfl hL0 ?_
      refine q_getZ Ra (x := μ 475 40) f_X12_134 t475 rfl rfl rfl rfl dX12_reads_48 ?_
      obtain ⟨⟨yl2_70, n70⟩, hj70, h⟩ := bd h
      have hJ : inR yl2_70 → VT n70 → ∀ L9 : Lo, L9 0 = some (vA en 475) → L9 2 = some (vI yl2_70) → K ZN 70 L9 [] n70 := by
        intro iyl2_70 hn70 L9 f70_0 f70_2
        refine r_iload_n Ra (i := 2) dX12_reads_70 rfl f70_2 ?_
        refine r_if_eq Ra 85 dX12_reads_71 iyl2_70 rfl (fun hc => ?_) (fun hc => ?_)
        · replace h := ipos hc h
          refine r_iconst Ra dX12_reads_85 ?_
          refine q_istore_n Ra 2 dX12_reads_86 rfl rfl rfl ?_
          refine r_goto Ra 43 dX12_reads_87 rfl ?_
          exact ih 0 n70 _ h (Rk rfl) hn70 f70_0 rfl
        · replace h := ineg hc h
          refine r_aload_n Ra (i := 0) dX12_reads_74 rfl f70_0 ?_
          refine q_getI Ra (x := n70 475 8) f_X12_36 t475 rfl rfl rfl rfl dX12_reads_75 ?_
          refine r_if_ne Ra 85 dX12_reads_78 (hn70.int t475 rfl) rfl (fun hc => ?_) (fun hc => ?_)
          · replace h := ineg hc h
            refine r_iconst Ra dX12_reads_85 ?_
            refine q_istore_n Ra 2 dX12_reads_86 rfl rfl rfl ?_
            refine r_goto Ra 43 dX12_reads_87 rfl ?_
            exact ih 0 n70 _ h (Rk rfl) hn70 f70_0 rfl
          · replace h := ipos hc h
            refine r_iconst Ra dX12_reads_81 ?_
            refine r_goto Ra 86 dX12_reads_82 rfl ?_
            refine q_istore_n Ra 2 dX12_reads_86 rfl rfl rfl ?_
            refine r_goto Ra 43 dX12_reads_87 rfl ?_
            exact ih 1 n70 _ h (Rk rfl) hn70 f70_0 rfl
      replace h := hj70
      refine r_if_ne Ra 65 dX12_reads_51 (inR_01 (hV.bool t475 rfl)) rfl (fun hc => ?_) (fun hc => ?_)
      · replace h := ineg hc h
        refine r_aload_n Ra (i := 0) dX12_reads_65 rfl hL0 ?_
        obtain ⟨⟨r66, m66⟩, hr66, h⟩ := bd h
        refine q_callVI Ra (c_pM_goesOn hV hr66) mw_X12_goesOn mi_X12_goesOn t475 rfl rfl rfl rfl rfl k_X12_355 rfl rfl dX12_reads_66 (fun ok66 => ?_)
        obtain ⟨hV66, ok66⟩ := ok66
        refine q_istore_n Ra 2 dX12_reads_69 rfl rfl rfl ?_
        cases h
        exact hJ (inR_01 ok66) hV66 _ hL0 rfl
      · replace h := ipos hc h
        refine r_aload_n Ra (i := 0) dX12_reads_54 rfl hL0 ?_
        refine r_aload_n Ra (i := 0) dX12_reads_55 rfl hL0 ?_
        obtain ⟨⟨r56, m56⟩, hr56, h⟩ := bd h
        refine q_callVI Ra (c_pM_operand hV hr56) mw_X12_operand mi_X12_operand t475 rfl rfl rfl rfl rfl k_X12_352 rfl rfl dX12_reads_56 (fun ok56 => ?_)
        obtain ⟨hV56, ok56⟩ := ok56
        obtain ⟨m59, em59, h⟩ := bv h
        have hm59 : VT m59 := eqV em59 (hV56.setZ t475 rfl ok56)
        refine q_putZ Ra f_X12_134 p_X12_40 t475 rfl rfl rfl em59 ok56 dX12_reads_59 ?_
        refine r_goto Ra 70 dX12_reads_62 rfl ?_
        cases h
        exact hJ hx2 hm59 _ hL0 hL2
set_option maxHeartbeats 4000000 in
theorem c_pM_reads {l : Launch} {en : En} {N : Nat} {μ : Mem} {x1 : Int} {μe : Mem} (hV : VT μ) (hx1 : x1 = 0 ∨ x1 = 1) (h : pM_reads N μ x1 = some μe) : CtV l en yX12_reads cX12_reads 3 4 149 [vA en 475, vI x1] μ μe (VT μe) := by
  refine Tr.of false (fun h => by cases h) (by decide) (Nat.le_of_ble_eq_true rfl) (fun K Ra => ?_)
  unfold pM_reads at h
  refine r_aload_n Ra (i := 0) dX12_reads_0 rfl rfl ?_
  refine q_getI Ra (x := μ 475 8) f_X12_36 t475 rfl rfl rfl rfl dX12_reads_1 ?_
  refine r_if_le Ra 8 dX12_reads_4 (hV.int t475 rfl) rfl (fun hc => ?_) (fun hc => ?_)
  · replace h := ineg hc h
    refine r_aload_n Ra (i := 0) dX12_reads_8 rfl rfl ?_
    refine r_iconst Ra dX12_reads_9 ?_
    obtain ⟨m10, em10, h⟩ := bv h
    have hm10 : VT m10 := eqV em10 (hV.setI t475 rfl (Rk rfl))
    refine q_putI Ra f_X12_122 p_X12_36 t475 rfl rfl rfl em10 dX12_reads_10 ?_
    refine r_aload_n Ra (i := 0) dX12_reads_13 rfl rfl ?_
    refine r_iconst Ra dX12_reads_14 ?_
    obtain ⟨m15, em15, h⟩ := bv h
    have hm15 : VT m15 := eqV em15 (hm10.setI t475 rfl (Rk rfl))
    refine q_putI Ra f_X12_125 p_X12_37 t475 rfl rfl rfl em15 dX12_reads_15 ?_
    refine r_aload_n Ra (i := 0) dX12_reads_18 rfl rfl ?_
    refine r_iconst Ra dX12_reads_19 ?_
    obtain ⟨m20, em20, h⟩ := bv h
    have hm20 : VT m20 := eqV em20 (hm15.setI t475 rfl (Rk rfl))
    refine q_putI Ra f_X12_131 p_X12_39 t475 rfl rfl rfl em20 dX12_reads_20 ?_
    refine r_aload_n Ra (i := 0) dX12_reads_23 rfl rfl ?_
    refine r_iconst Ra dX12_reads_24 ?_
    obtain ⟨m25, em25, h⟩ := bv h
    have hm25 : VT m25 := eqV em25 (hm20.setZ t475 rfl (Or.inl rfl))
    refine q_putZ Ra f_X12_134 p_X12_40 t475 rfl rfl rfl em25 (Or.inl rfl) dX12_reads_25 ?_
    refine r_aload_n Ra (i := 0) dX12_reads_28 rfl rfl ?_
    refine r_iload_n Ra (i := 1) dX12_reads_29 rfl rfl ?_
    obtain ⟨ys1_38, eys1_38, h⟩ := bv h
    have hJ : inR ys1_38 → (ys1_38 = 0 ∨ ys1_38 = 1) → ∀ L9 : Lo, L9 0 = some (vA en 475) → K ZN 38 L9 [vI ys1_38, vA en 475] m25 := by
      intro iys1_38 bys1_38 L9 f38_0
      obtain ⟨m38, hr38, h⟩ := bd h
      refine q_callVV Ra (c_pM_pushes hm25 iys1_38 hr38) mw_X12_pushes mi_X12_pushes t475 rfl rfl rfl rfl rfl k_X12_333 rfl rfl dX12_reads_38 (fun ok38 => ?_)
      refine r_iconst Ra dX12_reads_41 ?_
      refine q_istore_n Ra 2 dX12_reads_42 rfl rfl rfl ?_
      refine k_pM_reads_L43 Ra ?_ _ _ _ _ h (Rk rfl) ok38 f38_0 rfl
      intro n90 h hn90 L9 
      cases h
      exact r_vret Ra hn90 dX12_reads_90
    refine r_if_eq Ra 37 dX12_reads_30 (inR_01 hx1) rfl (fun hc => ?_) (fun hc => ?_)
    · replace eys1_38 := eys1_38.trans (if_pos hc)
      refine r_iconst Ra dX12_reads_37 ?_
      subst eys1_38
      exact hJ (Rk rfl) (Or.inl rfl) _ rfl
    · replace eys1_38 := eys1_38.trans (if_neg hc)
      refine r_iconst Ra dX12_reads_33 ?_
      refine r_goto Ra 38 dX12_reads_34 rfl ?_
      subst eys1_38
      exact hJ (Rk rfl) (Or.inr rfl) _ rfl
  · replace h := ipos hc h
    cases h
    exact r_vret Ra hV dX12_reads_7
noncomputable def pM_counts (N : Nat) (μ : Mem) (x1 : Int) : Option (Int × Mem) := (if μ 475 8 = 0 then if x1 = 0 then some (μ) else (pM_blame μ 6 (μ 475 4)).bind fun m18 => some (m18) else some (μ)).bind fun n21 => (if n21 475 8 = 0 then (pM_ahead N n21).bind fun m29 => some (m29) else some (n21)).bind fun n32 => if n32 475 8 = 0 then some (1, n32) else some (0, n32)
set_option maxHeartbeats 4000000 in
theorem c_pM_counts {l : Launch} {en : En} {N : Nat} {μ : Mem} {x1 : Int} {re : Int} {μe : Mem} (hV : VT μ) (hx1 : x1 = 0 ∨ x1 = 1) (h : pM_counts N μ x1 = some (re, μe)) : CtI l en yX12_counts cX12_counts 2 2 105 [vA en 475, vI x1] μ .boolean re μe (VT μe ∧ (re = 0 ∨ re = 1)) := by
  refine Tr.of false (fun h => by cases h) (by decide) (Nat.le_of_ble_eq_true rfl) (fun K Ra => ?_)
  unfold pM_counts at h
  refine r_aload_n Ra (i := 0) dX12_counts_0 rfl rfl ?_
  refine q_getI Ra (x := μ 475 8) f_X12_36 t475 rfl rfl rfl rfl dX12_counts_1 ?_
  obtain ⟨n21, hj21, h⟩ := bd h
  have hJ : VT n21 → ∀ L9 : Lo, L9 0 = some (vA en 475) → K ZN 21 L9 [] n21 := by
    intro hn21 L9 f21_0
    refine r_aload_n Ra (i := 0) dX12_counts_21 rfl f21_0 ?_
    refine q_getI Ra (x := n21 475 8) f_X12_36 t475 rfl rfl rfl rfl dX12_counts_22 ?_
    obtain ⟨n32, hj32, h⟩ := bd h
    have hJ : VT n32 → ∀ L9 : Lo, L9 0 = some (vA en 475) → K ZN 32 L9 [] n32 := by
      intro hn32 L9 f32_0
      refine r_aload_n Ra (i := 0) dX12_counts_32 rfl f32_0 ?_
      refine q_getI Ra (x := n32 475 8) f_X12_36 t475 rfl rfl rfl rfl dX12_counts_33 ?_
      refine r_if_ne Ra 43 dX12_counts_36 (hn32.int t475 rfl) rfl (fun hc => ?_) (fun hc => ?_)
      · replace h := ineg hc h
        refine r_iconst Ra dX12_counts_43 ?_
        cases h
        exact r_zret Ra (Or.inl rfl) ⟨hn32, (Or.inl rfl)⟩ dX12_counts_44
      · replace h := ipos hc h
        refine r_iconst Ra dX12_counts_39 ?_
        refine r_goto Ra 44 dX12_counts_40 rfl ?_
        cases h
        exact r_zret Ra (Or.inr rfl) ⟨hn32, (Or.inr rfl)⟩ dX12_counts_44
    replace h := hj32
    refine r_if_ne Ra 32 dX12_counts_25 (hn21.int t475 rfl) rfl (fun hc => ?_) (fun hc => ?_)
    · replace h := ineg hc h
      cases h
      exact hJ hn21 _ f21_0
    · replace h := ipos hc h
      refine r_aload_n Ra (i := 0) dX12_counts_28 rfl f21_0 ?_
      obtain ⟨m29, hr29, h⟩ := bd h
      refine q_callVV Ra (c_pM_ahead hn21 hr29) mw_X12_ahead mi_X12_ahead t475 rfl rfl rfl rfl rfl k_X12_272 rfl rfl dX12_counts_29 (fun ok29 => ?_)
      cases h
      exact hJ ok29 _ f21_0
  replace h := hj21
  refine r_if_ne Ra 21 dX12_counts_4 (hV.int t475 rfl) rfl (fun hc => ?_) (fun hc => ?_)
  · replace h := ineg hc h
    cases h
    exact hJ hV _ rfl
  · replace h := ipos hc h
    refine r_iload_n Ra (i := 1) dX12_counts_7 rfl rfl ?_
    refine r_if_eq Ra 21 dX12_counts_8 (inR_01 hx1) rfl (fun hc => ?_) (fun hc => ?_)
    · replace h := ipos hc h
      cases h
      exact hJ hV _ rfl
    · replace h := ineg hc h
      refine r_aload_n Ra (i := 0) dX12_counts_11 rfl rfl ?_
      refine r_bipush Ra dX12_counts_12 rfl ?_
      refine r_aload_n Ra (i := 0) dX12_counts_14 rfl rfl ?_
      refine q_getI Ra (x := μ 475 4) f_X12_23 t475 rfl rfl rfl rfl dX12_counts_15 ?_
      obtain ⟨m18, hr18, h⟩ := bd h
      refine q_callVV Ra (c_pM_blame hV (Rk rfl) (hV.int t475 rfl) hr18) mw_X12_blame mi_X12_blame t475 rfl rfl rfl rfl rfl k_X12_255 rfl rfl dX12_counts_18 (fun ok18 => ?_)
      cases h
      exact hJ ok18 _ rfl
noncomputable def pM_must_ (N : Nat) (μ : Mem) (x1 : Int) : Option (Mem) := (pM_lex μ).bind fun m1 => if 0 < m1 475 8 then some m1 else (pM_isWord m1 x1).bind fun r14 => (if r14 = 0 then (pM_blame m1 1 (m1 475 4)).bind fun m26 => some (m26) else some (m1)).bind fun n29 => if n29 475 8 = 0 then (pM_ahead N n29).bind fun m37 => some m37 else some n29
set_option maxHeartbeats 4000000 in
theorem c_pM_must_ {l : Launch} {en : En} {N : Nat} {μ : Mem} {x1 : Int} {μe : Mem} (hV : VT μ) (hx1 : inL x1) (h : pM_must_ N μ x1 = some μe) : CtV l en yX12_must_ cX12_must_ 3 2 105 [vA en 475, vJ x1] μ μe (VT μe) := by
  refine Tr.of false (fun h => by cases h) (by decide) (Nat.le_of_ble_eq_true rfl) (fun K Ra => ?_)
  unfold pM_must_ at h
  refine r_aload_n Ra (i := 0) dX12_must__0 rfl rfl ?_
  obtain ⟨m1, hr1, h⟩ := bd h
  refine q_callVV Ra (c_pM_lex hV hr1) mw_X12_lex mi_X12_lex t475 rfl rfl rfl rfl rfl k_X12_266 rfl rfl dX12_must__1 (fun ok1 => ?_)
  refine r_aload_n Ra (i := 0) dX12_must__4 rfl rfl ?_
  refine q_getI Ra (x := m1 475 8) f_X12_36 t475 rfl rfl rfl rfl dX12_must__5 ?_
  refine r_if_le Ra 12 dX12_must__8 (ok1.int t475 rfl) rfl (fun hc => ?_) (fun hc => ?_)
  · replace h := ineg hc h
    refine r_aload_n Ra (i := 0) dX12_must__12 rfl rfl ?_
    refine r_lload_n Ra (i := 1) dX12_must__13 rfl rfl rfl ?_
    obtain ⟨r14, hr14, h⟩ := bd h
    refine q_callVI Ra (c_pM_isWord ok1 hx1 hr14) mw_X12_isWord mi_X12_isWord t475 rfl rfl rfl rfl rfl k_X12_339 rfl rfl dX12_must__14 (fun ok14 => ?_)
    obtain ⟨n29, hj29, h⟩ := bd h
    have hJ : VT n29 → ∀ L9 : Lo, L9 0 = some (vA en 475) → K ZN 29 L9 [] n29 := by
      intro hn29 L9 f29_0
      refine r_aload_n Ra (i := 0) dX12_must__29 rfl f29_0 ?_
      refine q_getI Ra (x := n29 475 8) f_X12_36 t475 rfl rfl rfl rfl dX12_must__30 ?_
      refine r_if_ne Ra 40 dX12_must__33 (hn29.int t475 rfl) rfl (fun hc => ?_) (fun hc => ?_)
      · replace h := ineg hc h
        cases h
        exact r_vret Ra hn29 dX12_must__40
      · replace h := ipos hc h
        refine r_aload_n Ra (i := 0) dX12_must__36 rfl f29_0 ?_
        obtain ⟨m37, hr37, h⟩ := bd h
        refine q_callVV Ra (c_pM_ahead hn29 hr37) mw_X12_ahead mi_X12_ahead t475 rfl rfl rfl rfl rfl k_X12_272 rfl rfl dX12_must__37 (fun ok37 => ?_)
        cases h
        exact r_vret Ra ok37 dX12_must__40
    replace h := hj29
    refine r_if_ne Ra 29 dX12_must__17 (inR_01 ok14) rfl (fun hc => ?_) (fun hc => ?_)
    · replace h := ineg hc h
      cases h
      exact hJ ok1 _ rfl
    · replace h := ipos hc h
      refine r_aload_n Ra (i := 0) dX12_must__20 rfl rfl ?_
      refine r_iconst Ra dX12_must__21 ?_
      refine r_aload_n Ra (i := 0) dX12_must__22 rfl rfl ?_
      refine q_getI Ra (x := m1 475 4) f_X12_23 t475 rfl rfl rfl rfl dX12_must__23 ?_
      obtain ⟨m26, hr26, h⟩ := bd h
      refine q_callVV Ra (c_pM_blame ok1 (Rk rfl) (ok1.int t475 rfl) hr26) mw_X12_blame mi_X12_blame t475 rfl rfl rfl rfl rfl k_X12_255 rfl rfl dX12_must__26 (fun ok26 => ?_)
      cases h
      exact hJ ok26 _ rfl
  · replace h := ipos hc h
    cases h
    exact r_vret Ra ok1 dX12_must__11
noncomputable def pM_cellTold (N : Nat) (μ : Mem)  : Option (Int × Mem) := if 0 ≤ μ 475 29 ∧ μ 475 29 < 2 then (pM_number N μ 0 (w32 ((μ 477 (μ 475 29)) - 1))).bind fun (r13, m13) => if 0 ≤ m13 475 29 ∧ m13 475 29 < 2 then (pM_number N m13 0 (w32 ((m13 478 (m13 475 29)) - 1))).bind fun (r32, m32) => some (w32 ((w32 (8 * r32)) + r13), m32) else none else none
set_option maxHeartbeats 4000000 in
theorem c_pM_cellTold {l : Launch} {en : En} {N : Nat} {μ : Mem}  {re : Int} {μe : Mem} (hV : VT μ)  (h : pM_cellTold N μ = some (re, μe)) : CtI l en yX12_cellTold cX12_cellTold 2 3 128 [vA en 475] μ .int re μe (VT μe ∧ inR re) := by
  refine Tr.of false (fun h => by cases h) (by decide) (Nat.le_of_ble_eq_true rfl) (fun K Ra => ?_)
  unfold pM_cellTold at h
  refine r_aload_n Ra (i := 0) dX12_cellTold_0 rfl rfl ?_
  refine r_iconst Ra dX12_cellTold_1 ?_
  refine r_aload_n Ra (i := 0) dX12_cellTold_2 rfl rfl ?_
  refine q_getA Ra (b := 477) f_X12_54 t475 rfl rfl rfl (hV.ref t475 rfl (by decide)) (by decide) dX12_cellTold_3 ?_
  refine r_aload_n Ra (i := 0) dX12_cellTold_6 rfl rfl ?_
  refine q_getI Ra (x := μ 475 29) f_X12_100 t475 rfl rfl rfl rfl dX12_cellTold_7 ?_
  obtain ⟨gu10, h⟩ := gd h
  refine q_iald Ra t477 l477 gu10 dX12_cellTold_10 ?_
  refine r_iconst Ra dX12_cellTold_11 ?_
  refine r_isub Ra dX12_cellTold_12 ?_
  obtain ⟨⟨r13, m13⟩, hr13, h⟩ := bd h
  refine q_callVI Ra (c_pM_number hV (Rk rfl) (inR_32 _) hr13) mw_X12_number mi_X12_number t475 rfl rfl rfl rfl rfl k_X12_358 rfl rfl dX12_cellTold_13 (fun ok13 => ?_)
  obtain ⟨hV13, ok13⟩ := ok13
  refine q_istore_n Ra 1 dX12_cellTold_16 rfl rfl rfl ?_
  refine r_bipush Ra dX12_cellTold_17 rfl ?_
  refine r_aload_n Ra (i := 0) dX12_cellTold_19 rfl rfl ?_
  refine r_iconst Ra dX12_cellTold_20 ?_
  refine r_aload_n Ra (i := 0) dX12_cellTold_21 rfl rfl ?_
  refine q_getA Ra (b := 478) f_X12_57 t475 rfl rfl rfl (hV13.ref t475 rfl (by decide)) (by decide) dX12_cellTold_22 ?_
  refine r_aload_n Ra (i := 0) dX12_cellTold_25 rfl rfl ?_
  refine q_getI Ra (x := m13 475 29) f_X12_100 t475 rfl rfl rfl rfl dX12_cellTold_26 ?_
  obtain ⟨gu29, h⟩ := gd h
  refine q_iald Ra t478 l478 gu29 dX12_cellTold_29 ?_
  refine r_iconst Ra dX12_cellTold_30 ?_
  refine r_isub Ra dX12_cellTold_31 ?_
  obtain ⟨⟨r32, m32⟩, hr32, h⟩ := bd h
  refine q_callVI Ra (c_pM_number hV13 (Rk rfl) (inR_32 _) hr32) mw_X12_number mi_X12_number t475 rfl rfl rfl rfl rfl k_X12_358 rfl rfl dX12_cellTold_32 (fun ok32 => ?_)
  obtain ⟨hV32, ok32⟩ := ok32
  refine r_imul Ra dX12_cellTold_35 ?_
  refine r_iload_n Ra (i := 1) dX12_cellTold_36 rfl rfl ?_
  refine r_iadd Ra dX12_cellTold_37 ?_
  cases h
  exact r_iret Ra ⟨hV32, (inR_32 _)⟩ dX12_cellTold_38
noncomputable def pM_fielding (N : Nat) (μ : Mem)  : Option (Mem) := (pM_must_ N μ 439854918756).bind fun m4 => (pM_number N m4 2 8).bind fun (r19, m19) => if 0 ≤ m4 475 29 ∧ m4 475 29 < 2 then (some (mset m19 477 (m4 475 29) r19)).bind fun m22 => (pM_must_ N m22 25209).bind fun m27 => (pM_number N m27 2 8).bind fun (r42, m42) => if 0 ≤ m27 475 29 ∧ m27 475 29 < 2 then (some (mset m42 478 (m27 475 29) r42)).bind fun m45 => some m45 else none else none
set_option maxHeartbeats 4000000 in
theorem c_pM_fielding {l : Launch} {en : En} {N : Nat} {μ : Mem}  {μe : Mem} (hV : VT μ)  (h : pM_fielding N μ = some μe) : CtV l en yX12_fielding cX12_fielding 1 3 128 [vA en 475] μ μe (VT μe) := by
  refine Tr.of false (fun h => by cases h) (by decide) (Nat.le_of_ble_eq_true rfl) (fun K Ra => ?_)
  unfold pM_fielding at h
  refine r_aload_n Ra (i := 0) dX12_fielding_0 rfl rfl ?_
  refine r_ldc2 Ra dX12_fielding_1 kc_X12_275 ?_
  obtain ⟨m4, hr4, h⟩ := bd h
  refine q_callVV Ra (c_pM_must_ hV (Lk rfl) hr4) mw_X12_must_ mi_X12_must_ t475 rfl rfl rfl rfl rfl k_X12_362 rfl rfl dX12_fielding_4 (fun ok4 => ?_)
  refine r_aload_n Ra (i := 0) dX12_fielding_7 rfl rfl ?_
  refine q_getA Ra (b := 477) f_X12_54 t475 rfl rfl rfl (ok4.ref t475 rfl (by decide)) (by decide) dX12_fielding_8 ?_
  refine r_aload_n Ra (i := 0) dX12_fielding_11 rfl rfl ?_
  refine q_getI Ra (x := m4 475 29) f_X12_100 t475 rfl rfl rfl rfl dX12_fielding_12 ?_
  refine r_aload_n Ra (i := 0) dX12_fielding_15 rfl rfl ?_
  refine r_iconst Ra dX12_fielding_16 ?_
  refine r_bipush Ra dX12_fielding_17 rfl ?_
  obtain ⟨⟨r19, m19⟩, hr19, h⟩ := bd h
  refine q_callVI Ra (c_pM_number ok4 (Rk rfl) (Rk rfl) hr19) mw_X12_number mi_X12_number t475 rfl rfl rfl rfl rfl k_X12_358 rfl rfl dX12_fielding_19 (fun ok19 => ?_)
  obtain ⟨hV19, ok19⟩ := ok19
  obtain ⟨gu22, h⟩ := gd h
  obtain ⟨m22, em22, h⟩ := bv h
  have hm22 : VT m22 := eqV em22 (hV19.setI t477 (kd20 _) ok19)
  refine q_iast Ra t477 l477 gu22 em22 dX12_fielding_22 ?_
  refine r_aload_n Ra (i := 0) dX12_fielding_23 rfl rfl ?_
  refine r_ldc2 Ra dX12_fielding_24 kc_X12_277 ?_
  obtain ⟨m27, hr27, h⟩ := bd h
  refine q_callVV Ra (c_pM_must_ hm22 (Lk rfl) hr27) mw_X12_must_ mi_X12_must_ t475 rfl rfl rfl rfl rfl k_X12_362 rfl rfl dX12_fielding_27 (fun ok27 => ?_)
  refine r_aload_n Ra (i := 0) dX12_fielding_30 rfl rfl ?_
  refine q_getA Ra (b := 478) f_X12_57 t475 rfl rfl rfl (ok27.ref t475 rfl (by decide)) (by decide) dX12_fielding_31 ?_
  refine r_aload_n Ra (i := 0) dX12_fielding_34 rfl rfl ?_
  refine q_getI Ra (x := m27 475 29) f_X12_100 t475 rfl rfl rfl rfl dX12_fielding_35 ?_
  refine r_aload_n Ra (i := 0) dX12_fielding_38 rfl rfl ?_
  refine r_iconst Ra dX12_fielding_39 ?_
  refine r_bipush Ra dX12_fielding_40 rfl ?_
  obtain ⟨⟨r42, m42⟩, hr42, h⟩ := bd h
  refine q_callVI Ra (c_pM_number ok27 (Rk rfl) (Rk rfl) hr42) mw_X12_number mi_X12_number t475 rfl rfl rfl rfl rfl k_X12_358 rfl rfl dX12_fielding_42 (fun ok42 => ?_)
  obtain ⟨hV42, ok42⟩ := ok42
  obtain ⟨gu45, h⟩ := gd h
  obtain ⟨m45, em45, h⟩ := bv h
  have hm45 : VT m45 := eqV em45 (hV42.setI t478 (kd20 _) ok42)
  refine q_iast Ra t478 l478 gu45 em45 dX12_fielding_45 ?_
  cases h
  exact r_vret Ra hm45 dX12_fielding_46
noncomputable def pM_dewing (N : Nat) (μ : Mem)  : Option (Mem) := (pM_counts N μ 0).bind fun (r2, m2) => if r2 = 0 then some m2 else (pM_cellTold N m2).bind fun (r10, m10) => (pM_number N m10 0 99).bind fun (r18, m18) => if m18 475 8 = 0 then if 0 ≤ w32 ((w32 (64 * (m18 475 29))) + r10) ∧ w32 ((w32 (64 * (m18 475 29))) + r10) < 128 then (some (mset m18 479 (w32 ((w32 (64 * (m18 475 29))) + r10)) r18)).bind fun m43 => some m43 else none else some m18
set_option maxHeartbeats 4000000 in
theorem c_pM_dewing {l : Launch} {en : En} {N : Nat} {μ : Mem}  {μe : Mem} (hV : VT μ)  (h : pM_dewing N μ = some μe) : CtV l en yX12_dewing cX12_dewing 3 4 149 [vA en 475] μ μe (VT μe) := by
  refine Tr.of false (fun h => by cases h) (by decide) (Nat.le_of_ble_eq_true rfl) (fun K Ra => ?_)
  unfold pM_dewing at h
  refine r_aload_n Ra (i := 0) dX12_dewing_0 rfl rfl ?_
  refine r_iconst Ra dX12_dewing_1 ?_
  obtain ⟨⟨r2, m2⟩, hr2, h⟩ := bd h
  refine q_callVI Ra (c_pM_counts hV (Or.inl rfl) hr2) mw_X12_counts mi_X12_counts t475 rfl rfl rfl rfl rfl k_X12_366 rfl rfl dX12_dewing_2 (fun ok2 => ?_)
  obtain ⟨hV2, ok2⟩ := ok2
  refine r_if_ne Ra 9 dX12_dewing_5 (inR_01 ok2) rfl (fun hc => ?_) (fun hc => ?_)
  · replace h := ineg hc h
    refine r_aload_n Ra (i := 0) dX12_dewing_9 rfl rfl ?_
    obtain ⟨⟨r10, m10⟩, hr10, h⟩ := bd h
    refine q_callVI Ra (c_pM_cellTold hV2 hr10) mw_X12_cellTold mi_X12_cellTold t475 rfl rfl rfl rfl rfl k_X12_370 rfl rfl dX12_dewing_10 (fun ok10 => ?_)
    obtain ⟨hV10, ok10⟩ := ok10
    refine q_istore_n Ra 1 dX12_dewing_13 rfl rfl rfl ?_
    refine r_aload_n Ra (i := 0) dX12_dewing_14 rfl rfl ?_
    refine r_iconst Ra dX12_dewing_15 ?_
    refine r_bipush Ra dX12_dewing_16 rfl ?_
    obtain ⟨⟨r18, m18⟩, hr18, h⟩ := bd h
    refine q_callVI Ra (c_pM_number hV10 (Rk rfl) (Rk rfl) hr18) mw_X12_number mi_X12_number t475 rfl rfl rfl rfl rfl k_X12_358 rfl rfl dX12_dewing_18 (fun ok18 => ?_)
    obtain ⟨hV18, ok18⟩ := ok18
    refine q_istore_n Ra 2 dX12_dewing_21 rfl rfl rfl ?_
    refine r_aload_n Ra (i := 0) dX12_dewing_22 rfl rfl ?_
    refine q_getI Ra (x := m18 475 8) f_X12_36 t475 rfl rfl rfl rfl dX12_dewing_23 ?_
    refine r_if_ne Ra 44 dX12_dewing_26 (hV18.int t475 rfl) rfl (fun hc => ?_) (fun hc => ?_)
    · replace h := ineg hc h
      cases h
      exact r_vret Ra hV18 dX12_dewing_44
    · replace h := ipos hc h
      refine r_aload_n Ra (i := 0) dX12_dewing_29 rfl rfl ?_
      refine q_getA Ra (b := 479) f_X12_60 t475 rfl rfl rfl (hV18.ref t475 rfl (by decide)) (by decide) dX12_dewing_30 ?_
      refine r_bipush Ra dX12_dewing_33 rfl ?_
      refine r_aload_n Ra (i := 0) dX12_dewing_35 rfl rfl ?_
      refine q_getI Ra (x := m18 475 29) f_X12_100 t475 rfl rfl rfl rfl dX12_dewing_36 ?_
      refine r_imul Ra dX12_dewing_39 ?_
      refine r_iload_n Ra (i := 1) dX12_dewing_40 rfl rfl ?_
      refine r_iadd Ra dX12_dewing_41 ?_
      refine r_iload_n Ra (i := 2) dX12_dewing_42 rfl rfl ?_
      obtain ⟨gu43, h⟩ := gd h
      obtain ⟨m43, em43, h⟩ := bv h
      have hm43 : VT m43 := eqV em43 (hV18.setI t479 (kd20 _) ok18)
      refine q_iast Ra t479 l479 gu43 em43 dX12_dewing_43 ?_
      cases h
      exact r_vret Ra hm43 dX12_dewing_44
  · replace h := ipos hc h
    cases h
    exact r_vret Ra hV2 dX12_dewing_8
noncomputable def pM_personing (N : Nat) (μ : Mem)  : Option (Mem) := if 0 ≤ μ 475 29 ∧ μ 475 29 < 2 then (some (if μ 480 (μ 475 29) = 6 then 1 else 0 : Int)).bind fun ys1_20 => (pM_counts N μ ys1_20).bind fun (r20, m20) => if r20 = 0 then some m20 else (pM_lex m20).bind fun m28 => if 0 < m28 475 8 then some m28 else (if m28 475 3 = 1 then (pM_isOwn m28 (m28 475 7)).bind fun r52 => if r52 = 0 then some (m28) else (pM_blame m28 1 (m28 475 4)).bind fun m64 => some (m64) else (pM_blame m28 1 (m28 475 4)).bind fun m64 => some (m64)).bind fun n67 => (if n67 475 8 = 0 then (pM_named N n67 (n67 475 7)).bind fun r79 => if r79 = (-1) then some (n67) else (pM_blame n67 2 (n67 475 4)).bind fun m92 => some (m92) else some (n67)).bind fun n95 => if 0 < n95 475 8 then some n95 else if 0 ≤ n95 475 29 ∧ n95 475 29 < 2 then (some (w32 ((w32 (6 * (n95 475 29))) + (n95 480 (n95 475 29))) : Int)).bind fun x1_120 => if 0 ≤ x1_120 ∧ x1_120 < 12 then (some (mset n95 490 x1_120 (n95 475 7))).bind fun m130 => (pM_ahead N m130).bind fun m132 => (pM_must_ N m132 24948).bind fun m139 => (pM_cellTold N m139).bind fun (r148, m148) => if 0 ≤ x1_120 ∧ x1_120 < 12 then (some (mset m148 481 x1_120 r148)).bind fun m151 => (pM_must_ N m151 30064).bind fun m156 => (pM_number N m156 0 8).bind fun (r168, m168) => if 0 ≤ x1_120 ∧ x1_120 < 12 then (some (mset m168 482 x1_120 r168)).bind fun m171 => (pM_must_ N m171 495672714612).bind fun m176 => (pM_number N m176 1 99).bind fun (r188, m188) => if 0 ≤ x1_120 ∧ x1_120 < 12 then (some (mset m188 483 x1_120 r188)).bind fun m191 => (pM_must_ N m191 1870095731).bind fun m196 => (pM_number N m196 0 99).bind fun (r208, m208) => if 0 ≤ x1_120 ∧ x1_120 < 12 then (some (mset m208 484 x1_120 r208)).bind fun m211 => if m211 475 8 = 0 then if 0 ≤ m211 475 29 ∧ m211 475 29 < 2 then if 0 ≤ m211 475 29 ∧ m211 475 29 < 2 then (some (mset m211 480 (m211 475 29) (w32 ((m211 480 (m211 475 29)) + 1)))).bind fun m231 => some m231 else none else none else some m211 else none else none else none else none else none else none else none
set_option maxHeartbeats 4000000 in
theorem c_pM_personing {l : Launch} {en : En} {N : Nat} {μ : Mem}  {μe : Mem} (hV : VT μ)  (h : pM_personing N μ = some μe) : CtV l en yX12_personing cX12_personing 2 4 149 [vA en 475] μ μe (VT μe) := by
  refine Tr.of false (fun h => by cases h) (by decide) (Nat.le_of_ble_eq_true rfl) (fun K Ra => ?_)
  unfold pM_personing at h
  refine r_aload_n Ra (i := 0) dX12_personing_0 rfl rfl ?_
  refine r_aload_n Ra (i := 0) dX12_personing_1 rfl rfl ?_
  refine q_getA Ra (b := 480) f_X12_63 t475 rfl rfl rfl (hV.ref t475 rfl (by decide)) (by decide) dX12_personing_2 ?_
  refine r_aload_n Ra (i := 0) dX12_personing_5 rfl rfl ?_
  refine q_getI Ra (x := μ 475 29) f_X12_100 t475 rfl rfl rfl rfl dX12_personing_6 ?_
  obtain ⟨gu9, h⟩ := gd h
  refine q_iald Ra t480 l480 gu9 dX12_personing_9 ?_
  refine r_bipush Ra dX12_personing_10 rfl ?_
  obtain ⟨ys1_20, eys1_20, h⟩ := bv h
  have hJ : inR ys1_20 → (ys1_20 = 0 ∨ ys1_20 = 1) → ∀ L9 : Lo, L9 0 = some (vA en 475) → K ZN 20 L9 [vI ys1_20, vA en 475] μ := by
    intro iys1_20 bys1_20 L9 f20_0
    obtain ⟨⟨r20, m20⟩, hr20, h⟩ := bd h
    refine q_callVI Ra (c_pM_counts hV bys1_20 hr20) mw_X12_counts mi_X12_counts t475 rfl rfl rfl rfl rfl k_X12_366 rfl rfl dX12_personing_20 (fun ok20 => ?_)
    obtain ⟨hV20, ok20⟩ := ok20
    refine r_if_ne Ra 27 dX12_personing_23 (inR_01 ok20) rfl (fun hc => ?_) (fun hc => ?_)
    · replace h := ineg hc h
      refine r_aload_n Ra (i := 0) dX12_personing_27 rfl f20_0 ?_
      obtain ⟨m28, hr28, h⟩ := bd h
      refine q_callVV Ra (c_pM_lex hV20 hr28) mw_X12_lex mi_X12_lex t475 rfl rfl rfl rfl rfl k_X12_266 rfl rfl dX12_personing_28 (fun ok28 => ?_)
      refine r_aload_n Ra (i := 0) dX12_personing_31 rfl f20_0 ?_
      refine q_getI Ra (x := m28 475 8) f_X12_36 t475 rfl rfl rfl rfl dX12_personing_32 ?_
      refine r_if_le Ra 39 dX12_personing_35 (ok28.int t475 rfl) rfl (fun hc => ?_) (fun hc => ?_)
      · replace h := ineg hc h
        refine r_aload_n Ra (i := 0) dX12_personing_39 rfl f20_0 ?_
        refine q_getI Ra (x := m28 475 3) f_X12_20 t475 rfl rfl rfl rfl dX12_personing_40 ?_
        refine r_iconst Ra dX12_personing_43 ?_
        obtain ⟨n67, hj67, h⟩ := bd h
        have hJ : VT n67 → ∀ L9 : Lo, L9 0 = some (vA en 475) → K ZN 67 L9 [] n67 := by
          intro hn67 L9 f67_0
          refine r_aload_n Ra (i := 0) dX12_personing_67 rfl f67_0 ?_
          refine q_getI Ra (x := n67 475 8) f_X12_36 t475 rfl rfl rfl rfl dX12_personing_68 ?_
          obtain ⟨n95, hj95, h⟩ := bd h
          have hJ : VT n95 → ∀ L9 : Lo, L9 0 = some (vA en 475) → K ZN 95 L9 [] n95 := by
            intro hn95 L9 f95_0
            refine r_aload_n Ra (i := 0) dX12_personing_95 rfl f95_0 ?_
            refine q_getI Ra (x := n95 475 8) f_X12_36 t475 rfl rfl rfl rfl dX12_personing_96 ?_
            refine r_if_le Ra 103 dX12_personing_99 (hn95.int t475 rfl) rfl (fun hc => ?_) (fun hc => ?_)
            · replace h := ineg hc h
              refine r_bipush Ra dX12_personing_103 rfl ?_
              refine r_aload_n Ra (i := 0) dX12_personing_105 rfl f95_0 ?_
              refine q_getI Ra (x := n95 475 29) f_X12_100 t475 rfl rfl rfl rfl dX12_personing_106 ?_
              refine r_imul Ra dX12_personing_109 ?_
              refine r_aload_n Ra (i := 0) dX12_personing_110 rfl f95_0 ?_
              refine q_getA Ra (b := 480) f_X12_63 t475 rfl rfl rfl (hn95.ref t475 rfl (by decide)) (by decide) dX12_personing_111 ?_
              refine r_aload_n Ra (i := 0) dX12_personing_114 rfl f95_0 ?_
              refine q_getI Ra (x := n95 475 29) f_X12_100 t475 rfl rfl rfl rfl dX12_personing_115 ?_
              obtain ⟨gu118, h⟩ := gd h
              refine q_iald Ra t480 l480 gu118 dX12_personing_118 ?_
              refine r_iadd Ra dX12_personing_119 ?_
              obtain ⟨x1_120, ex1_120, h⟩ := bv h
              have ix1_120 : inR x1_120 := eqR ex1_120 (inR_32 _)
              refine q_istore_n Ra 1 dX12_personing_120 rfl rfl ex1_120 ?_
              refine r_aload_n Ra (i := 0) dX12_personing_121 rfl f95_0 ?_
              refine q_getA Ra (b := 490) f_X12_93 t475 rfl rfl rfl (hn95.ref t475 rfl (by decide)) (by decide) dX12_personing_122 ?_
              refine r_iload_n Ra (i := 1) dX12_personing_125 rfl rfl ?_
              refine r_aload_n Ra (i := 0) dX12_personing_126 rfl f95_0 ?_
              refine q_getJ Ra (x := n95 475 7) f_X12_32 t475 rfl rfl rfl rfl dX12_personing_127 ?_
              obtain ⟨gu130, h⟩ := gd h
              obtain ⟨m130, em130, h⟩ := bv h
              have hm130 : VT m130 := eqV em130 (hn95.setJ t490 (kd22 _) (hn95.long t475 rfl))
              refine q_last Ra t490 l490 gu130 em130 dX12_personing_130 ?_
              refine r_aload_n Ra (i := 0) dX12_personing_131 rfl f95_0 ?_
              obtain ⟨m132, hr132, h⟩ := bd h
              refine q_callVV Ra (c_pM_ahead hm130 hr132) mw_X12_ahead mi_X12_ahead t475 rfl rfl rfl rfl rfl k_X12_272 rfl rfl dX12_personing_132 (fun ok132 => ?_)
              refine r_aload_n Ra (i := 0) dX12_personing_135 rfl f95_0 ?_
              refine r_ldc2 Ra dX12_personing_136 kc_X12_283 ?_
              obtain ⟨m139, hr139, h⟩ := bd h
              refine q_callVV Ra (c_pM_must_ ok132 (Lk rfl) hr139) mw_X12_must_ mi_X12_must_ t475 rfl rfl rfl rfl rfl k_X12_362 rfl rfl dX12_personing_139 (fun ok139 => ?_)
              refine r_aload_n Ra (i := 0) dX12_personing_142 rfl f95_0 ?_
              refine q_getA Ra (b := 481) f_X12_66 t475 rfl rfl rfl (ok139.ref t475 rfl (by decide)) (by decide) dX12_personing_143 ?_
              refine r_iload_n Ra (i := 1) dX12_personing_146 rfl rfl ?_
              refine r_aload_n Ra (i := 0) dX12_personing_147 rfl f95_0 ?_
              obtain ⟨⟨r148, m148⟩, hr148, h⟩ := bd h
              refine q_callVI Ra (c_pM_cellTold ok139 hr148) mw_X12_cellTold mi_X12_cellTold t475 rfl rfl rfl rfl rfl k_X12_370 rfl rfl dX12_personing_148 (fun ok148 => ?_)
              obtain ⟨hV148, ok148⟩ := ok148
              obtain ⟨gu151, h⟩ := gd h
              obtain ⟨m151, em151, h⟩ := bv h
              have hm151 : VT m151 := eqV em151 (hV148.setI t481 (kd20 _) ok148)
              refine q_iast Ra t481 l481 gu151 em151 dX12_personing_151 ?_
              refine r_aload_n Ra (i := 0) dX12_personing_152 rfl f95_0 ?_
              refine r_ldc2 Ra dX12_personing_153 kc_X12_285 ?_
              obtain ⟨m156, hr156, h⟩ := bd h
              refine q_callVV Ra (c_pM_must_ hm151 (Lk rfl) hr156) mw_X12_must_ mi_X12_must_ t475 rfl rfl rfl rfl rfl k_X12_362 rfl rfl dX12_personing_156 (fun ok156 => ?_)
              refine r_aload_n Ra (i := 0) dX12_personing_159 rfl f95_0 ?_
              refine q_getA Ra (b := 482) f_X12_69 t475 rfl rfl rfl (ok156.ref t475 rfl (by decide)) (by decide) dX12_personing_160 ?_
              refine r_iload_n Ra (i := 1) dX12_personing_163 rfl rfl ?_
              refine r_aload_n Ra (i := 0) dX12_personing_164 rfl f95_0 ?_
              refine r_iconst Ra dX12_personing_165 ?_
              refine r_bipush Ra dX12_personing_166 rfl ?_
              obtain ⟨⟨r168, m168⟩, hr168, h⟩ := bd h
              refine q_callVI Ra (c_pM_number ok156 (Rk rfl) (Rk rfl) hr168) mw_X12_number mi_X12_number t475 rfl rfl rfl rfl rfl k_X12_358 rfl rfl dX12_personing_168 (fun ok168 => ?_)
              obtain ⟨hV168, ok168⟩ := ok168
              obtain ⟨gu171, h⟩ := gd h
              obtain ⟨m171, em171, h⟩ := bv h
              have hm171 : VT m171 := eqV em171 (hV168.setI t482 (kd20 _) ok168)
              refine q_iast Ra t482 l482 gu171 em171 dX12_personing_171 ?_
              refine r_aload_n Ra (i := 0) dX12_personing_172 rfl f95_0 ?_
              refine r_ldc2 Ra dX12_personing_173 kc_X12_287 ?_
              obtain ⟨m176, hr176, h⟩ := bd h
              refine q_callVV Ra (c_pM_must_ hm171 (Lk rfl) hr176) mw_X12_must_ mi_X12_must_ t475 rfl rfl rfl rfl rfl k_X12_362 rfl rfl dX12_personing_176 (fun ok176 => ?_)
              refine r_aload_n Ra (i := 0) dX12_personing_179 rfl f95_0 ?_
              refine q_getA Ra (b := 483) f_X12_72 t475 rfl rfl rfl (ok176.ref t475 rfl (by decide)) (by decide) dX12_personing_180 ?_
              refine r_iload_n Ra (i := 1) dX12_personing_183 rfl rfl ?_
              refine r_aload_n Ra (i := 0) dX12_personing_184 rfl f95_0 ?_
              refine r_iconst Ra dX12_personing_185 ?_
              refine r_bipush Ra dX12_personing_186 rfl ?_
              obtain ⟨⟨r188, m188⟩, hr188, h⟩ := bd h
              refine q_callVI Ra (c_pM_number ok176 (Rk rfl) (Rk rfl) hr188) mw_X12_number mi_X12_number t475 rfl rfl rfl rfl rfl k_X12_358 rfl rfl dX12_personing_188 (fun ok188 => ?_)
              obtain ⟨hV188, ok188⟩ := ok188
              obtain ⟨gu191, h⟩ := gd h
              obtain ⟨m191, em191, h⟩ := bv h
              have hm191 : VT m191 := eqV em191 (hV188.setI t483 (kd20 _) ok188)
              refine q_iast Ra t483 l483 gu191 em191 dX12_personing_191 ?_
              refine r_aload_n Ra (i := 0) dX12_personing_192 rfl f95_0 ?_
              refine r_ldc2 Ra dX12_personing_193 kc_X12_289 ?_
              obtain ⟨m196, hr196, h⟩ := bd h
              refine q_callVV Ra (c_pM_must_ hm191 (Lk rfl) hr196) mw_X12_must_ mi_X12_must_ t475 rfl rfl rfl rfl rfl k_X12_362 rfl rfl dX12_personing_196 (fun ok196 => ?_)
              refine r_aload_n Ra (i := 0) dX12_personing_199 rfl f95_0 ?_
              refine q_getA Ra (b := 484) f_X12_75 t475 rfl rfl rfl (ok196.ref t475 rfl (by decide)) (by decide) dX12_personing_200 ?_
              refine r_iload_n Ra (i := 1) dX12_personing_203 rfl rfl ?_
              refine r_aload_n Ra (i := 0) dX12_personing_204 rfl f95_0 ?_
              refine r_iconst Ra dX12_personing_205 ?_
              refine r_bipush Ra dX12_personing_206 rfl ?_
              obtain ⟨⟨r208, m208⟩, hr208, h⟩ := bd h
              refine q_callVI Ra (c_pM_number ok196 (Rk rfl) (Rk rfl) hr208) mw_X12_number mi_X12_number t475 rfl rfl rfl rfl rfl k_X12_358 rfl rfl dX12_personing_208 (fun ok208 => ?_)
              obtain ⟨hV208, ok208⟩ := ok208
              obtain ⟨gu211, h⟩ := gd h
              obtain ⟨m211, em211, h⟩ := bv h
              have hm211 : VT m211 := eqV em211 (hV208.setI t484 (kd20 _) ok208)
              refine q_iast Ra t484 l484 gu211 em211 dX12_personing_211 ?_
              refine r_aload_n Ra (i := 0) dX12_personing_212 rfl f95_0 ?_
              refine q_getI Ra (x := m211 475 8) f_X12_36 t475 rfl rfl rfl rfl dX12_personing_213 ?_
              refine r_if_ne Ra 232 dX12_personing_216 (hm211.int t475 rfl) rfl (fun hc => ?_) (fun hc => ?_)
              · replace h := ineg hc h
                cases h
                exact r_vret Ra hm211 dX12_personing_232
              · replace h := ipos hc h
                refine r_aload_n Ra (i := 0) dX12_personing_219 rfl f95_0 ?_
                refine q_getA Ra (b := 480) f_X12_63 t475 rfl rfl rfl (hm211.ref t475 rfl (by decide)) (by decide) dX12_personing_220 ?_
                refine r_aload_n Ra (i := 0) dX12_personing_223 rfl f95_0 ?_
                refine q_getI Ra (x := m211 475 29) f_X12_100 t475 rfl rfl rfl rfl dX12_personing_224 ?_
                refine r_dup2 Ra dX12_personing_227 ?_
                obtain ⟨gu228, h⟩ := gd h
                refine q_iald Ra t480 l480 gu228 dX12_personing_228 ?_
                refine r_iconst Ra dX12_personing_229 ?_
                refine r_iadd Ra dX12_personing_230 ?_
                obtain ⟨gu231, h⟩ := gd h
                obtain ⟨m231, em231, h⟩ := bv h
                have hm231 : VT m231 := eqV em231 (hm211.setI t480 (kd20 _) (inR_32 _))
                refine q_iast Ra t480 l480 gu231 em231 dX12_personing_231 ?_
                cases h
                exact r_vret Ra hm231 dX12_personing_232
            · replace h := ipos hc h
              cases h
              exact r_vret Ra hn95 dX12_personing_102
          replace h := hj95
          refine r_if_ne Ra 95 dX12_personing_71 (hn67.int t475 rfl) rfl (fun hc => ?_) (fun hc => ?_)
          · replace h := ineg hc h
            cases h
            exact hJ hn67 _ f67_0
          · replace h := ipos hc h
            refine r_aload_n Ra (i := 0) dX12_personing_74 rfl f67_0 ?_
            refine r_aload_n Ra (i := 0) dX12_personing_75 rfl f67_0 ?_
            refine q_getJ Ra (x := n67 475 7) f_X12_32 t475 rfl rfl rfl rfl dX12_personing_76 ?_
            obtain ⟨r79, hr79, h⟩ := bd h
            refine q_callVI Ra (c_pM_named hn67 (hn67.long t475 rfl) hr79) mw_X12_named mi_X12_named t475 rfl rfl rfl rfl rfl k_X12_377 rfl rfl dX12_personing_79 (fun ok79 => ?_)
            refine r_iconst Ra dX12_personing_82 ?_
            refine r_icmp_eq Ra 95 dX12_personing_83 ok79 (Rk rfl) rfl (fun hc => ?_) (fun hc => ?_)
            · replace h := ipos hc h
              cases h
              exact hJ hn67 _ f67_0
            · replace h := ineg hc h
              refine r_aload_n Ra (i := 0) dX12_personing_86 rfl f67_0 ?_
              refine r_iconst Ra dX12_personing_87 ?_
              refine r_aload_n Ra (i := 0) dX12_personing_88 rfl f67_0 ?_
              refine q_getI Ra (x := n67 475 4) f_X12_23 t475 rfl rfl rfl rfl dX12_personing_89 ?_
              obtain ⟨m92, hr92, h⟩ := bd h
              refine q_callVV Ra (c_pM_blame hn67 (Rk rfl) (hn67.int t475 rfl) hr92) mw_X12_blame mi_X12_blame t475 rfl rfl rfl rfl rfl k_X12_255 rfl rfl dX12_personing_92 (fun ok92 => ?_)
              cases h
              exact hJ ok92 _ f67_0
        replace h := hj67
        refine r_icmp_ne Ra 58 dX12_personing_44 (ok28.int t475 rfl) (Rk rfl) rfl (fun hc => ?_) (fun hc => ?_)
        · replace h := ineg hc h
          refine r_aload_n Ra (i := 0) dX12_personing_58 rfl f20_0 ?_
          refine r_iconst Ra dX12_personing_59 ?_
          refine r_aload_n Ra (i := 0) dX12_personing_60 rfl f20_0 ?_
          refine q_getI Ra (x := m28 475 4) f_X12_23 t475 rfl rfl rfl rfl dX12_personing_61 ?_
          obtain ⟨m64, hr64, h⟩ := bd h
          refine q_callVV Ra (c_pM_blame ok28 (Rk rfl) (ok28.int t475 rfl) hr64) mw_X12_blame mi_X12_blame t475 rfl rfl rfl rfl rfl k_X12_255 rfl rfl dX12_personing_64 (fun ok64 => ?_)
          cases h
          exact hJ ok64 _ f20_0
        · replace h := ipos hc h
          refine r_aload_n Ra (i := 0) dX12_personing_47 rfl f20_0 ?_
          refine r_aload_n Ra (i := 0) dX12_personing_48 rfl f20_0 ?_
          refine q_getJ Ra (x := m28 475 7) f_X12_32 t475 rfl rfl rfl rfl dX12_personing_49 ?_
          obtain ⟨r52, hr52, h⟩ := bd h
          refine q_callVI Ra (c_pM_isOwn ok28 (ok28.long t475 rfl) hr52) mw_X12_isOwn mi_X12_isOwn t475 rfl rfl rfl rfl rfl k_X12_374 rfl rfl dX12_personing_52 (fun ok52 => ?_)
          refine r_if_eq Ra 67 dX12_personing_55 (inR_01 ok52) rfl (fun hc => ?_) (fun hc => ?_)
          · replace h := ipos hc h
            cases h
            exact hJ ok28 _ f20_0
          · replace h := ineg hc h
            refine r_aload_n Ra (i := 0) dX12_personing_58 rfl f20_0 ?_
            refine r_iconst Ra dX12_personing_59 ?_
            refine r_aload_n Ra (i := 0) dX12_personing_60 rfl f20_0 ?_
            refine q_getI Ra (x := m28 475 4) f_X12_23 t475 rfl rfl rfl rfl dX12_personing_61 ?_
            obtain ⟨m64, hr64, h⟩ := bd h
            refine q_callVV Ra (c_pM_blame ok28 (Rk rfl) (ok28.int t475 rfl) hr64) mw_X12_blame mi_X12_blame t475 rfl rfl rfl rfl rfl k_X12_255 rfl rfl dX12_personing_64 (fun ok64 => ?_)
            cases h
            exact hJ ok64 _ f20_0
      · replace h := ipos hc h
        cases h
        exact r_vret Ra ok28 dX12_personing_38
    · replace h := ipos hc h
      cases h
      exact r_vret Ra hV20 dX12_personing_26
  refine r_icmp_ne Ra 19 dX12_personing_12 (hV.int t480 (kd20 _)) (Rk rfl) rfl (fun hc => ?_) (fun hc => ?_)
  · replace eys1_20 := eys1_20.trans (if_neg hc)
    refine r_iconst Ra dX12_personing_19 ?_
    subst eys1_20
    exact hJ (Rk rfl) (Or.inl rfl) _ rfl
  · replace eys1_20 := eys1_20.trans (if_pos hc)
    refine r_iconst Ra dX12_personing_15 ?_
    refine r_goto Ra 20 dX12_personing_16 rfl ?_
    subst eys1_20
    exact hJ (Rk rfl) (Or.inr rfl) _ rfl
noncomputable def pM_reading (N : Nat) (μ : Mem) (x1 : Int) : Option (Mem) := (some (w32 ((w32 (3 * (μ 475 29))) + x1) : Int)).bind fun x2_8 => if 0 ≤ x2_8 ∧ x2_8 < 6 then (some (if μ 486 x2_8 = (-1) then 0 else 1 : Int)).bind fun ys1_25 => (pM_counts N μ ys1_25).bind fun (r25, m25) => if r25 = 0 then some m25 else (some (mset m25 475 30 x1)).bind fun m34 => if 0 ≤ x2_8 ∧ x2_8 < 6 then (some (mset m34 486 x2_8 (m34 475 28))).bind fun m46 => (pM_reads N m46 0).bind fun m49 => if 0 ≤ x2_8 ∧ x2_8 < 6 then (some (mset m49 487 x2_8 (m49 475 28))).bind fun m61 => some m61 else none else none else none
set_option maxHeartbeats 4000000 in
theorem c_pM_reading {l : Launch} {en : En} {N : Nat} {μ : Mem} {x1 : Int} {μe : Mem} (hV : VT μ) (hx1 : inR x1) (h : pM_reading N μ x1 = some μe) : CtV l en yX12_reading cX12_reading 3 5 171 [vA en 475, vI x1] μ μe (VT μe) := by
  refine Tr.of false (fun h => by cases h) (by decide) (Nat.le_of_ble_eq_true rfl) (fun K Ra => ?_)
  unfold pM_reading at h
  refine r_iconst Ra dX12_reading_0 ?_
  refine r_aload_n Ra (i := 0) dX12_reading_1 rfl rfl ?_
  refine q_getI Ra (x := μ 475 29) f_X12_100 t475 rfl rfl rfl rfl dX12_reading_2 ?_
  refine r_imul Ra dX12_reading_5 ?_
  refine r_iload_n Ra (i := 1) dX12_reading_6 rfl rfl ?_
  refine r_iadd Ra dX12_reading_7 ?_
  obtain ⟨x2_8, ex2_8, h⟩ := bv h
  have ix2_8 : inR x2_8 := eqR ex2_8 (inR_32 _)
  refine q_istore_n Ra 2 dX12_reading_8 rfl rfl ex2_8 ?_
  refine r_aload_n Ra (i := 0) dX12_reading_9 rfl rfl ?_
  refine r_aload_n Ra (i := 0) dX12_reading_10 rfl rfl ?_
  refine q_getA Ra (b := 486) f_X12_81 t475 rfl rfl rfl (hV.ref t475 rfl (by decide)) (by decide) dX12_reading_11 ?_
  refine r_iload_n Ra (i := 2) dX12_reading_14 rfl rfl ?_
  obtain ⟨gu15, h⟩ := gd h
  refine q_iald Ra t486 l486 gu15 dX12_reading_15 ?_
  refine r_iconst Ra dX12_reading_16 ?_
  obtain ⟨ys1_25, eys1_25, h⟩ := bv h
  have hJ : inR ys1_25 → (ys1_25 = 0 ∨ ys1_25 = 1) → ∀ L9 : Lo, L9 0 = some (vA en 475) → L9 1 = some (vI x1) → L9 2 = some (vI x2_8) → K ZN 25 L9 [vI ys1_25, vA en 475] μ := by
    intro iys1_25 bys1_25 L9 f25_0 f25_1 f25_2
    obtain ⟨⟨r25, m25⟩, hr25, h⟩ := bd h
    refine q_callVI Ra (c_pM_counts hV bys1_25 hr25) mw_X12_counts mi_X12_counts t475 rfl rfl rfl rfl rfl k_X12_366 rfl rfl dX12_reading_25 (fun ok25 => ?_)
    obtain ⟨hV25, ok25⟩ := ok25
    refine r_if_ne Ra 32 dX12_reading_28 (inR_01 ok25) rfl (fun hc => ?_) (fun hc => ?_)
    · replace h := ineg hc h
      refine r_aload_n Ra (i := 0) dX12_reading_32 rfl f25_0 ?_
      refine r_iload_n Ra (i := 1) dX12_reading_33 rfl f25_1 ?_
      obtain ⟨m34, em34, h⟩ := bv h
      have hm34 : VT m34 := eqV em34 (hV25.setI t475 rfl hx1)
      refine q_putI Ra f_X12_103 p_X12_30 t475 rfl rfl rfl em34 dX12_reading_34 ?_
      refine r_aload_n Ra (i := 0) dX12_reading_37 rfl f25_0 ?_
      refine q_getA Ra (b := 486) f_X12_81 t475 rfl rfl rfl (hm34.ref t475 rfl (by decide)) (by decide) dX12_reading_38 ?_
      refine r_iload_n Ra (i := 2) dX12_reading_41 rfl f25_2 ?_
      refine r_aload_n Ra (i := 0) dX12_reading_42 rfl f25_0 ?_
      refine q_getI Ra (x := m34 475 28) f_X12_97 t475 rfl rfl rfl rfl dX12_reading_43 ?_
      obtain ⟨gu46, h⟩ := gd h
      obtain ⟨m46, em46, h⟩ := bv h
      have hm46 : VT m46 := eqV em46 (hm34.setI t486 (kd20 _) (hm34.int t475 rfl))
      refine q_iast Ra t486 l486 gu46 em46 dX12_reading_46 ?_
      refine r_aload_n Ra (i := 0) dX12_reading_47 rfl f25_0 ?_
      refine r_iconst Ra dX12_reading_48 ?_
      obtain ⟨m49, hr49, h⟩ := bd h
      refine q_callVV Ra (c_pM_reads hm46 (Or.inl rfl) hr49) mw_X12_reads mi_X12_reads t475 rfl rfl rfl rfl rfl k_X12_381 rfl rfl dX12_reading_49 (fun ok49 => ?_)
      refine r_aload_n Ra (i := 0) dX12_reading_52 rfl f25_0 ?_
      refine q_getA Ra (b := 487) f_X12_84 t475 rfl rfl rfl (ok49.ref t475 rfl (by decide)) (by decide) dX12_reading_53 ?_
      refine r_iload_n Ra (i := 2) dX12_reading_56 rfl f25_2 ?_
      refine r_aload_n Ra (i := 0) dX12_reading_57 rfl f25_0 ?_
      refine q_getI Ra (x := m49 475 28) f_X12_97 t475 rfl rfl rfl rfl dX12_reading_58 ?_
      obtain ⟨gu61, h⟩ := gd h
      obtain ⟨m61, em61, h⟩ := bv h
      have hm61 : VT m61 := eqV em61 (ok49.setI t487 (kd20 _) (ok49.int t475 rfl))
      refine q_iast Ra t487 l487 gu61 em61 dX12_reading_61 ?_
      cases h
      exact r_vret Ra hm61 dX12_reading_62
    · replace h := ipos hc h
      cases h
      exact r_vret Ra hV25 dX12_reading_31
  refine r_icmp_eq Ra 24 dX12_reading_17 (hV.int t486 (kd20 _)) (Rk rfl) rfl (fun hc => ?_) (fun hc => ?_)
  · replace eys1_25 := eys1_25.trans (if_pos hc)
    refine r_iconst Ra dX12_reading_24 ?_
    subst eys1_25
    exact hJ (Rk rfl) (Or.inl rfl) _ rfl rfl rfl
  · replace eys1_25 := eys1_25.trans (if_neg hc)
    refine r_iconst Ra dX12_reading_20 ?_
    refine r_goto Ra 25 dX12_reading_21 rfl ?_
    subst eys1_25
    exact hJ (Rk rfl) (Or.inr rfl) _ rfl rfl rfl
noncomputable def pM_misting (N : Nat) (μ : Mem)  : Option (Mem) := (pM_counts N μ 0).bind fun (r2, m2) => if r2 = 0 then some m2 else (pM_number N m2 0 100).bind fun (r13, m13) => if m13 475 8 = 0 then if 0 ≤ m13 475 29 ∧ m13 475 29 < 2 then (some (mset m13 485 (m13 475 29) r13)).bind fun m33 => some m33 else none else some m13
set_option maxHeartbeats 4000000 in
theorem c_pM_misting {l : Launch} {en : En} {N : Nat} {μ : Mem}  {μe : Mem} (hV : VT μ)  (h : pM_misting N μ = some μe) : CtV l en yX12_misting cX12_misting 2 3 128 [vA en 475] μ μe (VT μe) := by
  refine Tr.of false (fun h => by cases h) (by decide) (Nat.le_of_ble_eq_true rfl) (fun K Ra => ?_)
  unfold pM_misting at h
  refine r_aload_n Ra (i := 0) dX12_misting_0 rfl rfl ?_
  refine r_iconst Ra dX12_misting_1 ?_
  obtain ⟨⟨r2, m2⟩, hr2, h⟩ := bd h
  refine q_callVI Ra (c_pM_counts hV (Or.inl rfl) hr2) mw_X12_counts mi_X12_counts t475 rfl rfl rfl rfl rfl k_X12_366 rfl rfl dX12_misting_2 (fun ok2 => ?_)
  obtain ⟨hV2, ok2⟩ := ok2
  refine r_if_ne Ra 9 dX12_misting_5 (inR_01 ok2) rfl (fun hc => ?_) (fun hc => ?_)
  · replace h := ineg hc h
    refine r_aload_n Ra (i := 0) dX12_misting_9 rfl rfl ?_
    refine r_iconst Ra dX12_misting_10 ?_
    refine r_bipush Ra dX12_misting_11 rfl ?_
    obtain ⟨⟨r13, m13⟩, hr13, h⟩ := bd h
    refine q_callVI Ra (c_pM_number hV2 (Rk rfl) (Rk rfl) hr13) mw_X12_number mi_X12_number t475 rfl rfl rfl rfl rfl k_X12_358 rfl rfl dX12_misting_13 (fun ok13 => ?_)
    obtain ⟨hV13, ok13⟩ := ok13
    refine q_istore_n Ra 1 dX12_misting_16 rfl rfl rfl ?_
    refine r_aload_n Ra (i := 0) dX12_misting_17 rfl rfl ?_
    refine q_getI Ra (x := m13 475 8) f_X12_36 t475 rfl rfl rfl rfl dX12_misting_18 ?_
    refine r_if_ne Ra 34 dX12_misting_21 (hV13.int t475 rfl) rfl (fun hc => ?_) (fun hc => ?_)
    · replace h := ineg hc h
      cases h
      exact r_vret Ra hV13 dX12_misting_34
    · replace h := ipos hc h
      refine r_aload_n Ra (i := 0) dX12_misting_24 rfl rfl ?_
      refine q_getA Ra (b := 485) f_X12_78 t475 rfl rfl rfl (hV13.ref t475 rfl (by decide)) (by decide) dX12_misting_25 ?_
      refine r_aload_n Ra (i := 0) dX12_misting_28 rfl rfl ?_
      refine q_getI Ra (x := m13 475 29) f_X12_100 t475 rfl rfl rfl rfl dX12_misting_29 ?_
      refine r_iload_n Ra (i := 1) dX12_misting_32 rfl rfl ?_
      obtain ⟨gu33, h⟩ := gd h
      obtain ⟨m33, em33, h⟩ := bv h
      have hm33 : VT m33 := eqV em33 (hV13.setI t485 (kd20 _) ok13)
      refine q_iast Ra t485 l485 gu33 em33 dX12_misting_33 ?_
      cases h
      exact r_vret Ra hm33 dX12_misting_34
  · replace h := ipos hc h
    cases h
    exact r_vret Ra hV2 dX12_misting_8
noncomputable def pM_statement (N : Nat) (μ : Mem)  : Option (Mem) := (pM_lex μ).bind fun m1 => if 0 < m1 475 8 then some m1 else (pM_isWord m1 6579575).bind fun r16 => if r16 = 0 then (pM_isWord m1 123581014175598).bind fun r33 => if r33 = 0 then (pM_isWord m1 439721159795).bind fun r50 => if r50 = 0 then (pM_isWord m1 7566702).bind fun r68 => if r68 = 0 then (pM_isWord m1 499850634611).bind fun r86 => if r86 = 0 then (pM_isWord m1 1835627380).bind fun r104 => if r104 = 0 then (pM_blame m1 1 (m1 475 4)).bind fun m123 => some m123 else (pM_misting N m1).bind fun m111 => some m111 else (pM_reading N m1 2).bind fun m94 => some m94 else (pM_reading N m1 1).bind fun m76 => some m76 else (pM_reading N m1 0).bind fun m58 => some m58 else (pM_personing N m1).bind fun m40 => some m40 else (pM_dewing N m1).bind fun m23 => some m23
set_option maxHeartbeats 4000000 in
theorem c_pM_statement {l : Launch} {en : En} {N : Nat} {μ : Mem}  {μe : Mem} (hV : VT μ)  (h : pM_statement N μ = some μe) : CtV l en yX12_statement cX12_statement 1 6 193 [vA en 475] μ μe (VT μe) := by
  refine Tr.of false (fun h => by cases h) (by decide) (Nat.le_of_ble_eq_true rfl) (fun K Ra => ?_)
  unfold pM_statement at h
  refine r_aload_n Ra (i := 0) dX12_statement_0 rfl rfl ?_
  obtain ⟨m1, hr1, h⟩ := bd h
  refine q_callVV Ra (c_pM_lex hV hr1) mw_X12_lex mi_X12_lex t475 rfl rfl rfl rfl rfl k_X12_266 rfl rfl dX12_statement_1 (fun ok1 => ?_)
  refine r_aload_n Ra (i := 0) dX12_statement_4 rfl rfl ?_
  refine q_getI Ra (x := m1 475 8) f_X12_36 t475 rfl rfl rfl rfl dX12_statement_5 ?_
  refine r_if_le Ra 12 dX12_statement_8 (ok1.int t475 rfl) rfl (fun hc => ?_) (fun hc => ?_)
  · replace h := ineg hc h
    refine r_aload_n Ra (i := 0) dX12_statement_12 rfl rfl ?_
    refine r_ldc2 Ra dX12_statement_13 kc_X12_279 ?_
    obtain ⟨r16, hr16, h⟩ := bd h
    refine q_callVI Ra (c_pM_isWord ok1 (Lk rfl) hr16) mw_X12_isWord mi_X12_isWord t475 rfl rfl rfl rfl rfl k_X12_339 rfl rfl dX12_statement_16 (fun ok16 => ?_)
    refine r_if_eq Ra 29 dX12_statement_19 (inR_01 ok16) rfl (fun hc => ?_) (fun hc => ?_)
    · replace h := ipos hc h
      refine r_aload_n Ra (i := 0) dX12_statement_29 rfl rfl ?_
      refine r_ldc2 Ra dX12_statement_30 kc_X12_281 ?_
      obtain ⟨r33, hr33, h⟩ := bd h
      refine q_callVI Ra (c_pM_isWord ok1 (Lk rfl) hr33) mw_X12_isWord mi_X12_isWord t475 rfl rfl rfl rfl rfl k_X12_339 rfl rfl dX12_statement_33 (fun ok33 => ?_)
      refine r_if_eq Ra 46 dX12_statement_36 (inR_01 ok33) rfl (fun hc => ?_) (fun hc => ?_)
      · replace h := ipos hc h
        refine r_aload_n Ra (i := 0) dX12_statement_46 rfl rfl ?_
        refine r_ldc2 Ra dX12_statement_47 kc_X12_291 ?_
        obtain ⟨r50, hr50, h⟩ := bd h
        refine q_callVI Ra (c_pM_isWord ok1 (Lk rfl) hr50) mw_X12_isWord mi_X12_isWord t475 rfl rfl rfl rfl rfl k_X12_339 rfl rfl dX12_statement_50 (fun ok50 => ?_)
        refine r_if_eq Ra 64 dX12_statement_53 (inR_01 ok50) rfl (fun hc => ?_) (fun hc => ?_)
        · replace h := ipos hc h
          refine r_aload_n Ra (i := 0) dX12_statement_64 rfl rfl ?_
          refine r_ldc2 Ra dX12_statement_65 kc_X12_293 ?_
          obtain ⟨r68, hr68, h⟩ := bd h
          refine q_callVI Ra (c_pM_isWord ok1 (Lk rfl) hr68) mw_X12_isWord mi_X12_isWord t475 rfl rfl rfl rfl rfl k_X12_339 rfl rfl dX12_statement_68 (fun ok68 => ?_)
          refine r_if_eq Ra 82 dX12_statement_71 (inR_01 ok68) rfl (fun hc => ?_) (fun hc => ?_)
          · replace h := ipos hc h
            refine r_aload_n Ra (i := 0) dX12_statement_82 rfl rfl ?_
            refine r_ldc2 Ra dX12_statement_83 kc_X12_295 ?_
            obtain ⟨r86, hr86, h⟩ := bd h
            refine q_callVI Ra (c_pM_isWord ok1 (Lk rfl) hr86) mw_X12_isWord mi_X12_isWord t475 rfl rfl rfl rfl rfl k_X12_339 rfl rfl dX12_statement_86 (fun ok86 => ?_)
            refine r_if_eq Ra 100 dX12_statement_89 (inR_01 ok86) rfl (fun hc => ?_) (fun hc => ?_)
            · replace h := ipos hc h
              refine r_aload_n Ra (i := 0) dX12_statement_100 rfl rfl ?_
              refine r_ldc2 Ra dX12_statement_101 kc_X12_297 ?_
              obtain ⟨r104, hr104, h⟩ := bd h
              refine q_callVI Ra (c_pM_isWord ok1 (Lk rfl) hr104) mw_X12_isWord mi_X12_isWord t475 rfl rfl rfl rfl rfl k_X12_339 rfl rfl dX12_statement_104 (fun ok104 => ?_)
              refine r_if_eq Ra 117 dX12_statement_107 (inR_01 ok104) rfl (fun hc => ?_) (fun hc => ?_)
              · replace h := ipos hc h
                refine r_aload_n Ra (i := 0) dX12_statement_117 rfl rfl ?_
                refine r_iconst Ra dX12_statement_118 ?_
                refine r_aload_n Ra (i := 0) dX12_statement_119 rfl rfl ?_
                refine q_getI Ra (x := m1 475 4) f_X12_23 t475 rfl rfl rfl rfl dX12_statement_120 ?_
                obtain ⟨m123, hr123, h⟩ := bd h
                refine q_callVV Ra (c_pM_blame ok1 (Rk rfl) (ok1.int t475 rfl) hr123) mw_X12_blame mi_X12_blame t475 rfl rfl rfl rfl rfl k_X12_255 rfl rfl dX12_statement_123 (fun ok123 => ?_)
                cases h
                exact r_vret Ra ok123 dX12_statement_126
              · replace h := ineg hc h
                refine r_aload_n Ra (i := 0) dX12_statement_110 rfl rfl ?_
                obtain ⟨m111, hr111, h⟩ := bd h
                refine q_callVV Ra (c_pM_misting ok1 hr111) mw_X12_misting mi_X12_misting t475 rfl rfl rfl rfl rfl k_X12_394 rfl rfl dX12_statement_111 (fun ok111 => ?_)
                refine r_goto Ra 126 dX12_statement_114 rfl ?_
                cases h
                exact r_vret Ra ok111 dX12_statement_126
            · replace h := ineg hc h
              refine r_aload_n Ra (i := 0) dX12_statement_92 rfl rfl ?_
              refine r_iconst Ra dX12_statement_93 ?_
              obtain ⟨m94, hr94, h⟩ := bd h
              refine q_callVV Ra (c_pM_reading ok1 (Rk rfl) hr94) mw_X12_reading mi_X12_reading t475 rfl rfl rfl rfl rfl k_X12_391 rfl rfl dX12_statement_94 (fun ok94 => ?_)
              refine r_goto Ra 126 dX12_statement_97 rfl ?_
              cases h
              exact r_vret Ra ok94 dX12_statement_126
          · replace h := ineg hc h
            refine r_aload_n Ra (i := 0) dX12_statement_74 rfl rfl ?_
            refine r_iconst Ra dX12_statement_75 ?_
            obtain ⟨m76, hr76, h⟩ := bd h
            refine q_callVV Ra (c_pM_reading ok1 (Rk rfl) hr76) mw_X12_reading mi_X12_reading t475 rfl rfl rfl rfl rfl k_X12_391 rfl rfl dX12_statement_76 (fun ok76 => ?_)
            refine r_goto Ra 126 dX12_statement_79 rfl ?_
            cases h
            exact r_vret Ra ok76 dX12_statement_126
        · replace h := ineg hc h
          refine r_aload_n Ra (i := 0) dX12_statement_56 rfl rfl ?_
          refine r_iconst Ra dX12_statement_57 ?_
          obtain ⟨m58, hr58, h⟩ := bd h
          refine q_callVV Ra (c_pM_reading ok1 (Rk rfl) hr58) mw_X12_reading mi_X12_reading t475 rfl rfl rfl rfl rfl k_X12_391 rfl rfl dX12_statement_58 (fun ok58 => ?_)
          refine r_goto Ra 126 dX12_statement_61 rfl ?_
          cases h
          exact r_vret Ra ok58 dX12_statement_126
      · replace h := ineg hc h
        refine r_aload_n Ra (i := 0) dX12_statement_39 rfl rfl ?_
        obtain ⟨m40, hr40, h⟩ := bd h
        refine q_callVV Ra (c_pM_personing ok1 hr40) mw_X12_personing mi_X12_personing t475 rfl rfl rfl rfl rfl k_X12_388 rfl rfl dX12_statement_40 (fun ok40 => ?_)
        refine r_goto Ra 126 dX12_statement_43 rfl ?_
        cases h
        exact r_vret Ra ok40 dX12_statement_126
    · replace h := ineg hc h
      refine r_aload_n Ra (i := 0) dX12_statement_22 rfl rfl ?_
      obtain ⟨m23, hr23, h⟩ := bd h
      refine q_callVV Ra (c_pM_dewing ok1 hr23) mw_X12_dewing mi_X12_dewing t475 rfl rfl rfl rfl rfl k_X12_385 rfl rfl dX12_statement_23 (fun ok23 => ?_)
      refine r_goto Ra 126 dX12_statement_26 rfl ?_
      cases h
      exact r_vret Ra ok23 dX12_statement_126
  · replace h := ipos hc h
    cases h
    exact r_vret Ra ok1 dX12_statement_11
noncomputable def pM_finishes_L17b (N : Nat) (μ : Mem) (c1 : Int) (k : Int → Option (Mem)) (self : Int → Option (Mem)) (x2 : Int) : Option (Mem) := if x2 < μ 475 2 then if 0 ≤ x2 ∧ x2 < 1800 then if μ 476 x2 = 32 then (some (w32 (x2 + 1) : Int)).bind fun x2_47 => self x2_47 else if 0 ≤ x2 ∧ x2 < 1800 then if μ 476 x2 = 10 then (some (w32 (x2 + 1) : Int)).bind fun x2_47 => self x2_47 else k x2 else none else none else k x2
noncomputable def pM_finishes_L17 (N : Nat) (μ : Mem) (c1 : Int) (k : Int → Option (Mem)) (n : Nat) : Int → Option (Mem) := lpF (fun _ => none) (pM_finishes_L17b N μ c1 k) n
noncomputable def pM_finishes (N : Nat) (μ : Mem) (x1 : Int) : Option (Mem) := (pM_lex μ).bind fun m1 => if 0 < m1 475 8 then some m1 else (some (m1 475 5 : Int)).bind fun x2_16 => pM_finishes_L17 N m1 x1 (fun z2_53 => (pM_isSign m1 59).bind fun r56 => (if r56 = 0 then some (m1) else if x1 = 80 then if z2_53 < m1 475 2 then (pM_blame m1 6 z2_53).bind fun m80 => some (m80) else some (m1) else some (m1)).bind fun n83 => (pM_must N n83 59).bind fun m86 => some m86) N x2_16
theorem k_pM_finishes_L17 {l : Launch} {en : En} {μe : Mem} {N : Nat} {μ : Mem} (hV : VT μ) {c1 : Int} {k : Int → Option (Mem)} {K : KT} (Ra : Ru false (some (none, none, nCells, μe, 0, 0, (VT μe))) l en cX12_finishes yX12_finishes.cls 3 (rmN 3 126) K) (hi1 : inR c1) (hk : ∀ (z2 : Int), k z2 = some μe → inR z2 → ∀ L9 : Lo, L9 0 = some (vA en 475) → L9 1 = some (vI c1) → L9 2 = some (vI z2) → K ZN 53 L9 [] μ) : ∀ (n : Nat) (x2 : Int) (L : Lo), pM_finishes_L17 N μ c1 k n x2 = some μe → inR x2 → L 0 = some (vA en 475) → L 1 = some (vI c1) → L 2 = some (vI x2) → K ZN 17 L [] μ := by
  intro n
  induction n with
  | zero => intro x2 L h; cases h
  | succ n ih =>
    intro x2 L h hx2 hL0 hL1 hL2
    replace h : pM_finishes_L17b N μ c1 k (pM_finishes_L17 N μ c1 k n) x2 = some μe := h
    unfold pM_finishes_L17b at h
    refine r_iload_n Ra (i := 2) dX12_finishes_17 rfl hL2 ?_
    refine r_aload_n Ra (i := 0) dX12_finishes_18 rfl hL0 ?_
    refine q_getI Ra (x := μ 475 2) f_X12_17 t475 rfl rfl rfl rfl dX12_finishes_19 ?_
    refine r_icmp_ge Ra 53 dX12_finishes_22 hx2 (hV.int t475 rfl) rfl (fun hc => ?_) (fun hc => ?_)
    · replace h := ineg hc h
      exact hk x2 h hx2 _ hL0 hL1 hL2
    · replace h := ipos hc h
      refine r_aload_n Ra (i := 0) dX12_finishes_25 rfl hL0 ?_
      refine q_getA Ra (b := 476) f_X12_7 t475 rfl rfl rfl (hV.ref t475 rfl (by decide)) (by decide) dX12_finishes_26 ?_
      refine r_iload_n Ra (i := 2) dX12_finishes_29 rfl hL2 ?_
      obtain ⟨gu30, h⟩ := gd h
      refine q_iald Ra t476 l476 gu30 dX12_finishes_30 ?_
      refine r_bipush Ra dX12_finishes_31 rfl ?_
      refine r_icmp_eq Ra 47 dX12_finishes_33 (hV.int t476 (kd20 _)) (Rk rfl) rfl (fun hc => ?_) (fun hc => ?_)
      · replace h := ipos hc h
        obtain ⟨x2_47, ex2_47, h⟩ := bv h
        have ix2_47 : inR x2_47 := eqR ex2_47 (inR_32 _)
        refine q_iinc Ra dX12_finishes_47 hL2 ex2_47 ?_
        refine r_goto Ra 17 dX12_finishes_50 rfl ?_
        exact ih x2_47 _ h ix2_47 hL0 hL1 rfl
      · replace h := ineg hc h
        refine r_aload_n Ra (i := 0) dX12_finishes_36 rfl hL0 ?_
        refine q_getA Ra (b := 476) f_X12_7 t475 rfl rfl rfl (hV.ref t475 rfl (by decide)) (by decide) dX12_finishes_37 ?_
        refine r_iload_n Ra (i := 2) dX12_finishes_40 rfl hL2 ?_
        obtain ⟨gu41, h⟩ := gd h
        refine q_iald Ra t476 l476 gu41 dX12_finishes_41 ?_
        refine r_bipush Ra dX12_finishes_42 rfl ?_
        refine r_icmp_ne Ra 53 dX12_finishes_44 (hV.int t476 (kd20 _)) (Rk rfl) rfl (fun hc => ?_) (fun hc => ?_)
        · replace h := ineg hc h
          exact hk x2 h hx2 _ hL0 hL1 hL2
        · replace h := ipos hc h
          obtain ⟨x2_47, ex2_47, h⟩ := bv h
          have ix2_47 : inR x2_47 := eqR ex2_47 (inR_32 _)
          refine q_iinc Ra dX12_finishes_47 hL2 ex2_47 ?_
          refine r_goto Ra 17 dX12_finishes_50 rfl ?_
          exact ih x2_47 _ h ix2_47 hL0 hL1 rfl
set_option maxHeartbeats 4000000 in
theorem c_pM_finishes {l : Launch} {en : En} {N : Nat} {μ : Mem} {x1 : Int} {μe : Mem} (hV : VT μ) (hx1 : inR x1) (h : pM_finishes N μ x1 = some μe) : CtV l en yX12_finishes cX12_finishes 3 3 126 [vA en 475, vI x1] μ μe (VT μe) := by
  refine Tr.of false (fun h => by cases h) (by decide) (Nat.le_of_ble_eq_true rfl) (fun K Ra => ?_)
  unfold pM_finishes at h
  refine r_aload_n Ra (i := 0) dX12_finishes_0 rfl rfl ?_
  obtain ⟨m1, hr1, h⟩ := bd h
  refine q_callVV Ra (c_pM_lex hV hr1) mw_X12_lex mi_X12_lex t475 rfl rfl rfl rfl rfl k_X12_266 rfl rfl dX12_finishes_1 (fun ok1 => ?_)
  refine r_aload_n Ra (i := 0) dX12_finishes_4 rfl rfl ?_
  refine q_getI Ra (x := m1 475 8) f_X12_36 t475 rfl rfl rfl rfl dX12_finishes_5 ?_
  refine r_if_le Ra 12 dX12_finishes_8 (ok1.int t475 rfl) rfl (fun hc => ?_) (fun hc => ?_)
  · replace h := ineg hc h
    refine r_aload_n Ra (i := 0) dX12_finishes_12 rfl rfl ?_
    refine q_getI Ra (x := m1 475 5) f_X12_26 t475 rfl rfl rfl rfl dX12_finishes_13 ?_
    obtain ⟨x2_16, ex2_16, h⟩ := bv h
    have ix2_16 : inR x2_16 := eqR ex2_16 (ok1.int t475 rfl)
    refine q_istore_n Ra 2 dX12_finishes_16 rfl rfl ex2_16 ?_
    refine k_pM_finishes_L17 ok1 Ra hx1 ?_ _ _ _ h ix2_16 rfl rfl rfl
    intro z2_53 h iz2_53 L9 f53_0 f53_1 f53_2
    refine r_aload_n Ra (i := 0) dX12_finishes_53 rfl f53_0 ?_
    refine r_bipush Ra dX12_finishes_54 rfl ?_
    obtain ⟨r56, hr56, h⟩ := bd h
    refine q_callVI Ra (c_pM_isSign ok1 (Rk rfl) hr56) mw_X12_isSign mi_X12_isSign t475 rfl rfl rfl rfl rfl k_X12_269 rfl rfl dX12_finishes_56 (fun ok56 => ?_)
    obtain ⟨n83, hj83, h⟩ := bd h
    have hJ : VT n83 → ∀ L9 : Lo, L9 0 = some (vA en 475) → K ZN 83 L9 [] n83 := by
      intro hn83 L9 f83_0
      refine r_aload_n Ra (i := 0) dX12_finishes_83 rfl f83_0 ?_
      refine r_bipush Ra dX12_finishes_84 rfl ?_
      obtain ⟨m86, hr86, h⟩ := bd h
      refine q_callVV Ra (c_pM_must hn83 (Rk rfl) hr86) mw_X12_must mi_X12_must t475 rfl rfl rfl rfl rfl k_X12_397 rfl rfl dX12_finishes_86 (fun ok86 => ?_)
      cases h
      exact r_vret Ra ok86 dX12_finishes_89
    replace h := hj83
    refine r_if_eq Ra 83 dX12_finishes_59 (inR_01 ok56) rfl (fun hc => ?_) (fun hc => ?_)
    · replace h := ipos hc h
      cases h
      exact hJ ok1 _ f53_0
    · replace h := ineg hc h
      refine r_iload_n Ra (i := 1) dX12_finishes_62 rfl f53_1 ?_
      refine r_bipush Ra dX12_finishes_63 rfl ?_
      refine r_icmp_ne Ra 83 dX12_finishes_65 hx1 (Rk rfl) rfl (fun hc => ?_) (fun hc => ?_)
      · replace h := ineg hc h
        cases h
        exact hJ ok1 _ f53_0
      · replace h := ipos hc h
        refine r_iload_n Ra (i := 2) dX12_finishes_68 rfl f53_2 ?_
        refine r_aload_n Ra (i := 0) dX12_finishes_69 rfl f53_0 ?_
        refine q_getI Ra (x := m1 475 2) f_X12_17 t475 rfl rfl rfl rfl dX12_finishes_70 ?_
        refine r_icmp_ge Ra 83 dX12_finishes_73 iz2_53 (ok1.int t475 rfl) rfl (fun hc => ?_) (fun hc => ?_)
        · replace h := ineg hc h
          cases h
          exact hJ ok1 _ f53_0
        · replace h := ipos hc h
          refine r_aload_n Ra (i := 0) dX12_finishes_76 rfl f53_0 ?_
          refine r_bipush Ra dX12_finishes_77 rfl ?_
          refine r_iload_n Ra (i := 2) dX12_finishes_79 rfl f53_2 ?_
          obtain ⟨m80, hr80, h⟩ := bd h
          refine q_callVV Ra (c_pM_blame ok1 (Rk rfl) iz2_53 hr80) mw_X12_blame mi_X12_blame t475 rfl rfl rfl rfl rfl k_X12_255 rfl rfl dX12_finishes_80 (fun ok80 => ?_)
          cases h
          exact hJ ok80 _ f53_0
  · replace h := ipos hc h
    cases h
    exact r_vret Ra ok1 dX12_finishes_11
noncomputable def pM_begin_L9b (N : Nat)  (k : Mem → Option (Mem)) (self : Int → Mem → Option (Mem)) (x1 : Int) (μ : Mem) : Option (Mem) := if x1 < 64 then if 0 ≤ w32 ((w32 (64 * (μ 475 13))) + x1) ∧ w32 ((w32 (64 * (μ 475 13))) + x1) < 128 then if 0 ≤ x1 ∧ x1 < 1408 then (some (mset μ 499 x1 (μ 479 (w32 ((w32 (64 * (μ 475 13))) + x1))))).bind fun m34 => (some (w32 (x1 + 1) : Int)).bind fun x1_35 => self x1_35 m34 else none else none else k μ
noncomputable def pM_begin_L9 (N : Nat)  (k : Mem → Option (Mem)) (n : Nat) : Int → Mem → Option (Mem) := lpF (fun _ _ => none) (pM_begin_L9b N k) n
noncomputable def pM_begin_L43b (N : Nat)  (k : Mem → Option (Mem)) (self : Int → Mem → Option (Mem)) (x1 : Int) (μ : Mem) : Option (Mem) := if x1 < 6 then if 0 ≤ w32 ((w32 (6 * (μ 475 13))) + x1) ∧ w32 ((w32 (6 * (μ 475 13))) + x1) < 12 then if 0 ≤ x1 ∧ x1 < 132 then (some (mset μ 500 x1 (μ 481 (w32 ((w32 (6 * (μ 475 13))) + x1))))).bind fun m68 => if 0 ≤ w32 ((w32 (6 * (m68 475 13))) + x1) ∧ w32 ((w32 (6 * (m68 475 13))) + x1) < 12 then if 0 ≤ x1 ∧ x1 < 132 then (some (mset m68 501 x1 (m68 482 (w32 ((w32 (6 * (m68 475 13))) + x1))))).bind fun m88 => if 0 ≤ w32 ((w32 (6 * (m88 475 13))) + x1) ∧ w32 ((w32 (6 * (m88 475 13))) + x1) < 12 then if 0 ≤ x1 ∧ x1 < 132 then (some (mset m88 502 x1 (m88 483 (w32 ((w32 (6 * (m88 475 13))) + x1))))).bind fun m108 => if 0 ≤ x1 ∧ x1 < 132 then (some (mset m108 503 x1 0)).bind fun m115 => (some (w32 (x1 + 1) : Int)).bind fun x1_116 => self x1_116 m115 else none else none else none else none else none else none else none else k μ
noncomputable def pM_begin_L43 (N : Nat)  (k : Mem → Option (Mem)) (n : Nat) : Int → Mem → Option (Mem) := lpF (fun _ _ => none) (pM_begin_L43b N k) n
noncomputable def pM_begin (N : Nat) (μ : Mem)  : Option (Mem) := (some (mset μ 498 0 0)).bind fun m6 => pM_begin_L9 N (fun n41 => pM_begin_L43 N (fun n122 => (some (mset n122 504 0 0)).bind fun m128 => (some (mset m128 475 52 0)).bind fun m131 => (some (mset m131 475 68 0)).bind fun m136 => some m136) N 0 n41) N 0 m6
theorem k_pM_begin_L9 {l : Launch} {en : En} {μe : Mem} {N : Nat}  {k : Mem → Option (Mem)} {K : KT} (Ra : Ru false (some (none, none, nCells, μe, 0, 0, (VT μe))) l en cX12_begin yX12_begin.cls 2 (rmN 0 60) K)  (hk : ∀  (μ9 : Mem), k μ9 = some μe → VT μ9 → ∀ L9 : Lo, L9 0 = some (vA en 475) → K ZN 41 L9 [] μ9) : ∀ (n : Nat) (x1 : Int) (μ : Mem) (L : Lo), pM_begin_L9 N k n x1 μ = some μe → inR x1 → VT μ → L 0 = some (vA en 475) → L 1 = some (vI x1) → K ZN 9 L [] μ := by
  intro n
  induction n with
  | zero => intro x1 μ L h; cases h
  | succ n ih =>
    intro x1 μ L h hx1 hV hL0 hL1
    replace h : pM_begin_L9b N k (pM_begin_L9 N k n) x1 μ = some μe := h
    unfold pM_begin_L9b at h
    refine r_iload_n Ra (i := 1) dX12_begin_9 rfl hL1 ?_
    refine r_bipush Ra dX12_begin_10 rfl ?_
    refine r_icmp_ge Ra 41 dX12_begin_12 hx1 (Rk rfl) rfl (fun hc => ?_) (fun hc => ?_)
    · replace h := ineg hc h
      exact hk μ h  hV _ hL0
    · replace h := ipos hc h
      refine r_aload_n Ra (i := 0) dX12_begin_15 rfl hL0 ?_
      refine q_getA Ra (b := 499) f_X12_147 t475 rfl rfl rfl (hV.ref t475 rfl (by decide)) (by decide) dX12_begin_16 ?_
      refine r_iload_n Ra (i := 1) dX12_begin_19 rfl hL1 ?_
      refine r_aload_n Ra (i := 0) dX12_begin_20 rfl hL0 ?_
      refine q_getA Ra (b := 479) f_X12_60 t475 rfl rfl rfl (hV.ref t475 rfl (by decide)) (by decide) dX12_begin_21 ?_
      refine r_bipush Ra dX12_begin_24 rfl ?_
      refine r_aload_n Ra (i := 0) dX12_begin_26 rfl hL0 ?_
      refine q_getI Ra (x := μ 475 13) f_X12_51 t475 rfl rfl rfl rfl dX12_begin_27 ?_
      refine r_imul Ra dX12_begin_30 ?_
      refine r_iload_n Ra (i := 1) dX12_begin_31 rfl hL1 ?_
      refine r_iadd Ra dX12_begin_32 ?_
      obtain ⟨gu33, h⟩ := gd h
      refine q_iald Ra t479 l479 gu33 dX12_begin_33 ?_
      obtain ⟨gu34, h⟩ := gd h
      obtain ⟨m34, em34, h⟩ := bv h
      have hm34 : VT m34 := eqV em34 (hV.setI t499 (kd20 _) (hV.int t479 (kd20 _)))
      refine q_iast Ra t499 l499 gu34 em34 dX12_begin_34 ?_
      obtain ⟨x1_35, ex1_35, h⟩ := bv h
      have ix1_35 : inR x1_35 := eqR ex1_35 (inR_32 _)
      refine q_iinc Ra dX12_begin_35 hL1 ex1_35 ?_
      refine r_goto Ra 9 dX12_begin_38 rfl ?_
      exact ih x1_35 m34 _ h ix1_35 hm34 hL0 rfl
theorem k_pM_begin_L43 {l : Launch} {en : En} {μe : Mem} {N : Nat}  {k : Mem → Option (Mem)} {K : KT} (Ra : Ru false (some (none, none, nCells, μe, 0, 0, (VT μe))) l en cX12_begin yX12_begin.cls 2 (rmN 0 60) K)  (hk : ∀  (μ9 : Mem), k μ9 = some μe → VT μ9 → ∀ L9 : Lo, L9 0 = some (vA en 475) → K ZN 122 L9 [] μ9) : ∀ (n : Nat) (x1 : Int) (μ : Mem) (L : Lo), pM_begin_L43 N k n x1 μ = some μe → inR x1 → VT μ → L 0 = some (vA en 475) → L 1 = some (vI x1) → K ZN 43 L [] μ := by
  intro n
  induction n with
  | zero => intro x1 μ L h; cases h
  | succ n ih =>
    intro x1 μ L h hx1 hV hL0 hL1
    replace h : pM_begin_L43b N k (pM_begin_L43 N k n) x1 μ = some μe := h
    unfold pM_begin_L43b at h
    refine r_iload_n Ra (i := 1) dX12_begin_43 rfl hL1 ?_
    refine r_bipush Ra dX12_begin_44 rfl ?_
    refine r_icmp_ge Ra 122 dX12_begin_46 hx1 (Rk rfl) rfl (fun hc => ?_) (fun hc => ?_)
    · replace h := ineg hc h
      exact hk μ h  hV _ hL0
    · replace h := ipos hc h
      refine r_aload_n Ra (i := 0) dX12_begin_49 rfl hL0 ?_
      refine q_getA Ra (b := 500) f_X12_150 t475 rfl rfl rfl (hV.ref t475 rfl (by decide)) (by decide) dX12_begin_50 ?_
      refine r_iload_n Ra (i := 1) dX12_begin_53 rfl hL1 ?_
      refine r_aload_n Ra (i := 0) dX12_begin_54 rfl hL0 ?_
      refine q_getA Ra (b := 481) f_X12_66 t475 rfl rfl rfl (hV.ref t475 rfl (by decide)) (by decide) dX12_begin_55 ?_
      refine r_bipush Ra dX12_begin_58 rfl ?_
      refine r_aload_n Ra (i := 0) dX12_begin_60 rfl hL0 ?_
      refine q_getI Ra (x := μ 475 13) f_X12_51 t475 rfl rfl rfl rfl dX12_begin_61 ?_
      refine r_imul Ra dX12_begin_64 ?_
      refine r_iload_n Ra (i := 1) dX12_begin_65 rfl hL1 ?_
      refine r_iadd Ra dX12_begin_66 ?_
      obtain ⟨gu67, h⟩ := gd h
      refine q_iald Ra t481 l481 gu67 dX12_begin_67 ?_
      obtain ⟨gu68, h⟩ := gd h
      obtain ⟨m68, em68, h⟩ := bv h
      have hm68 : VT m68 := eqV em68 (hV.setI t500 (kd20 _) (hV.int t481 (kd20 _)))
      refine q_iast Ra t500 l500 gu68 em68 dX12_begin_68 ?_
      refine r_aload_n Ra (i := 0) dX12_begin_69 rfl hL0 ?_
      refine q_getA Ra (b := 501) f_X12_153 t475 rfl rfl rfl (hm68.ref t475 rfl (by decide)) (by decide) dX12_begin_70 ?_
      refine r_iload_n Ra (i := 1) dX12_begin_73 rfl hL1 ?_
      refine r_aload_n Ra (i := 0) dX12_begin_74 rfl hL0 ?_
      refine q_getA Ra (b := 482) f_X12_69 t475 rfl rfl rfl (hm68.ref t475 rfl (by decide)) (by decide) dX12_begin_75 ?_
      refine r_bipush Ra dX12_begin_78 rfl ?_
      refine r_aload_n Ra (i := 0) dX12_begin_80 rfl hL0 ?_
      refine q_getI Ra (x := m68 475 13) f_X12_51 t475 rfl rfl rfl rfl dX12_begin_81 ?_
      refine r_imul Ra dX12_begin_84 ?_
      refine r_iload_n Ra (i := 1) dX12_begin_85 rfl hL1 ?_
      refine r_iadd Ra dX12_begin_86 ?_
      obtain ⟨gu87, h⟩ := gd h
      refine q_iald Ra t482 l482 gu87 dX12_begin_87 ?_
      obtain ⟨gu88, h⟩ := gd h
      obtain ⟨m88, em88, h⟩ := bv h
      have hm88 : VT m88 := eqV em88 (hm68.setI t501 (kd20 _) (hm68.int t482 (kd20 _)))
      refine q_iast Ra t501 l501 gu88 em88 dX12_begin_88 ?_
      refine r_aload_n Ra (i := 0) dX12_begin_89 rfl hL0 ?_
      refine q_getA Ra (b := 502) f_X12_156 t475 rfl rfl rfl (hm88.ref t475 rfl (by decide)) (by decide) dX12_begin_90 ?_
      refine r_iload_n Ra (i := 1) dX12_begin_93 rfl hL1 ?_
      refine r_aload_n Ra (i := 0) dX12_begin_94 rfl hL0 ?_
      refine q_getA Ra (b := 483) f_X12_72 t475 rfl rfl rfl (hm88.ref t475 rfl (by decide)) (by decide) dX12_begin_95 ?_
      refine r_bipush Ra dX12_begin_98 rfl ?_
      refine r_aload_n Ra (i := 0) dX12_begin_100 rfl hL0 ?_
      refine q_getI Ra (x := m88 475 13) f_X12_51 t475 rfl rfl rfl rfl dX12_begin_101 ?_
      refine r_imul Ra dX12_begin_104 ?_
      refine r_iload_n Ra (i := 1) dX12_begin_105 rfl hL1 ?_
      refine r_iadd Ra dX12_begin_106 ?_
      obtain ⟨gu107, h⟩ := gd h
      refine q_iald Ra t483 l483 gu107 dX12_begin_107 ?_
      obtain ⟨gu108, h⟩ := gd h
      obtain ⟨m108, em108, h⟩ := bv h
      have hm108 : VT m108 := eqV em108 (hm88.setI t502 (kd20 _) (hm88.int t483 (kd20 _)))
      refine q_iast Ra t502 l502 gu108 em108 dX12_begin_108 ?_
      refine r_aload_n Ra (i := 0) dX12_begin_109 rfl hL0 ?_
      refine q_getA Ra (b := 503) f_X12_159 t475 rfl rfl rfl (hm108.ref t475 rfl (by decide)) (by decide) dX12_begin_110 ?_
      refine r_iload_n Ra (i := 1) dX12_begin_113 rfl hL1 ?_
      refine r_iconst Ra dX12_begin_114 ?_
      obtain ⟨gu115, h⟩ := gd h
      obtain ⟨m115, em115, h⟩ := bv h
      have hm115 : VT m115 := eqV em115 (hm108.setI t503 (kd20 _) (Rk rfl))
      refine q_iast Ra t503 l503 gu115 em115 dX12_begin_115 ?_
      obtain ⟨x1_116, ex1_116, h⟩ := bv h
      have ix1_116 : inR x1_116 := eqR ex1_116 (inR_32 _)
      refine q_iinc Ra dX12_begin_116 hL1 ex1_116 ?_
      refine r_goto Ra 43 dX12_begin_119 rfl ?_
      exact ih x1_116 m115 _ h ix1_116 hm115 hL0 rfl
set_option maxHeartbeats 4000000 in
theorem c_pM_begin {l : Launch} {en : En} {N : Nat} {μ : Mem}  {μe : Mem} (hV : VT μ)  (h : pM_begin N μ = some μe) : CtV l en yX12_begin cX12_begin 2 0 60 [vA en 475] μ μe (VT μe) := by
  refine Tr.of false (fun h => by cases h) (by decide) (Nat.le_of_ble_eq_true rfl) (fun K Ra => ?_)
  unfold pM_begin at h
  refine r_aload_n Ra (i := 0) dX12_begin_0 rfl rfl ?_
  refine q_getA Ra (b := 498) f_X12_144 t475 rfl rfl rfl (hV.ref t475 rfl (by decide)) (by decide) dX12_begin_1 ?_
  refine r_iconst Ra dX12_begin_4 ?_
  refine r_iconst Ra dX12_begin_5 ?_
  obtain ⟨m6, em6, h⟩ := bv h
  have hm6 : VT m6 := eqV em6 (hV.setI t498 (kd20 _) (Rk rfl))
  refine q_iast Ra t498 l498 (by decide) em6 dX12_begin_6 ?_
  refine r_iconst Ra dX12_begin_7 ?_
  refine q_istore_n Ra 1 dX12_begin_8 rfl rfl rfl ?_
  refine k_pM_begin_L9 Ra ?_ _ _ _ _ h (Rk rfl) hm6 rfl rfl
  intro n41 h hn41 L9 f41_0
  refine r_iconst Ra dX12_begin_41 ?_
  refine q_istore_n Ra 1 dX12_begin_42 rfl rfl rfl ?_
  refine k_pM_begin_L43 Ra ?_ _ _ _ _ h (Rk rfl) hn41 f41_0 rfl
  intro n122 h hn122 L9 f122_0
  refine r_aload_n Ra (i := 0) dX12_begin_122 rfl f122_0 ?_
  refine q_getA Ra (b := 504) f_X12_162 t475 rfl rfl rfl (hn122.ref t475 rfl (by decide)) (by decide) dX12_begin_123 ?_
  refine r_iconst Ra dX12_begin_126 ?_
  refine r_iconst Ra dX12_begin_127 ?_
  obtain ⟨m128, em128, h⟩ := bv h
  have hm128 : VT m128 := eqV em128 (hn122.setI t504 (kd20 _) (Rk rfl))
  refine q_iast Ra t504 l504 (by decide) em128 dX12_begin_128 ?_
  refine r_aload_n Ra (i := 0) dX12_begin_129 rfl f122_0 ?_
  refine r_iconst Ra dX12_begin_130 ?_
  obtain ⟨m131, em131, h⟩ := bv h
  have hm131 : VT m131 := eqV em131 (hm128.setI t475 rfl (Rk rfl))
  refine q_putI Ra f_X12_171 p_X12_52 t475 rfl rfl rfl em131 dX12_begin_131 ?_
  refine r_aload_n Ra (i := 0) dX12_begin_134 rfl f122_0 ?_
  refine r_iconst Ra dX12_begin_135 ?_
  obtain ⟨m136, em136, h⟩ := bv h
  have hm136 : VT m136 := eqV em136 (hm131.setI t475 rfl (Rk rfl))
  refine q_putI Ra f_X12_219 p_X12_68 t475 rfl rfl rfl em136 dX12_begin_136 ?_
  cases h
  exact r_vret Ra hm136 dX12_begin_139
noncomputable def pM_valley_L60b (N : Nat)  (k : Mem → Option (Int × Mem)) (self : Int → Mem → Option (Int × Mem)) (x1 : Int) (μ : Mem) : Option (Int × Mem) := if x1 < 64 then if 0 ≤ w32 ((w32 (64 * (μ 475 29))) + x1) ∧ w32 ((w32 (64 * (μ 475 29))) + x1) < 128 then (some (mset μ 479 (w32 ((w32 (64 * (μ 475 29))) + x1)) 0)).bind fun m80 => (some (w32 (x1 + 1) : Int)).bind fun x1_81 => self x1_81 m80 else none else k μ
noncomputable def pM_valley_L60 (N : Nat)  (k : Mem → Option (Int × Mem)) (n : Nat) : Int → Mem → Option (Int × Mem) := lpF (fun _ _ => none) (pM_valley_L60b N k) n
noncomputable def pM_valley_L94b (N : Nat)  (k : Mem → Option (Int × Mem)) (self : Int → Mem → Option (Int × Mem)) (x1 : Int) (μ : Mem) : Option (Int × Mem) := if x1 < w32 ((w32 (3 * (μ 475 29))) + 3) then if 0 ≤ x1 ∧ x1 < 6 then (some (mset μ 486 x1 (-1))).bind fun m112 => (some (w32 (x1 + 1) : Int)).bind fun x1_113 => self x1_113 m112 else none else k μ
noncomputable def pM_valley_L94 (N : Nat)  (k : Mem → Option (Int × Mem)) (n : Nat) : Int → Mem → Option (Int × Mem) := lpF (fun _ _ => none) (pM_valley_L94b N k) n
noncomputable def pM_valley_L139b (N : Nat)  (k : Int → Mem → Option (Int × Mem)) (self : Int → Mem → Option (Int × Mem)) (x1 : Int) (μ : Mem) : Option (Int × Mem) := if μ 475 8 = 0 then if μ 475 3 = 0 then k x1 μ else (pM_statement N μ).bind fun m154 => (some (w32 (x1 + 1) : Int)).bind fun x1_157 => (pM_finishes N m154 x1_157).bind fun m162 => self x1_157 m162 else k x1 μ
noncomputable def pM_valley_L139 (N : Nat)  (k : Int → Mem → Option (Int × Mem)) (n : Nat) : Int → Mem → Option (Int × Mem) := lpF (fun _ _ => none) (pM_valley_L139b N k) n
noncomputable def pM_valley (N : Nat) (μ : Mem)  : Option (Int × Mem) := (some (mset μ 475 2 (μ 475 1))).bind fun m5 => (some (mset m5 475 1 0)).bind fun m10 => (some (mset m10 475 5 0)).bind fun m15 => (some (mset m15 475 8 0)).bind fun m20 => (some (mset m20 475 9 (-1))).bind fun m25 => (some (mset m25 475 29 (w32 (1 - (m25 475 13))))).bind fun m35 => if 0 ≤ m35 475 29 ∧ m35 475 29 < 2 then (some (mset m35 480 (m35 475 29) 0)).bind fun m47 => if 0 ≤ m47 475 29 ∧ m47 475 29 < 2 then (some (mset m47 485 (m47 475 29) 0)).bind fun m57 => pM_valley_L60 N (fun n87 => (some (w32 (3 * (n87 475 29)) : Int)).bind fun x1_93 => pM_valley_L94 N (fun n119 => (some (mset n119 475 28 0)).bind fun m121 => (pM_ahead N m121).bind fun m127 => (pM_fielding N m127).bind fun m131 => (pM_finishes N m131 1).bind fun m136 => pM_valley_L139 N (fun z1_168 n168 => (some (mset n168 475 10 (n168 475 8))).bind fun m173 => (some (mset m173 475 11 (m173 475 9))).bind fun m181 => if 0 < m181 475 8 then (pM_refuses m181 1).bind fun (r193, m193) => some (r193, m193) else (some (mset m181 475 13 (m181 475 29))).bind fun m202 => (some (mset m202 475 41 1)).bind fun m207 => (pM_begin N m207).bind fun m211 => some (z1_168, m211)) N 1 m136) N x1_93 n87) N 0 m57 else none else none
theorem k_pM_valley_L60 {l : Launch} {en : En} {re : Int} {μe : Mem} {N : Nat}  {k : Mem → Option (Int × Mem)} {K : KT} (Ra : Ru false (some (some .int, some (vI re), nCells, μe, 0, 0, (VT μe ∧ inR re))) l en cX12_valley yX12_valley.cls 2 (rmN 7 213) K)  (hk : ∀  (μ9 : Mem), k μ9 = some (re, μe) → VT μ9 → ∀ L9 : Lo, L9 0 = some (vA en 475) → K ZN 87 L9 [] μ9) : ∀ (n : Nat) (x1 : Int) (μ : Mem) (L : Lo), pM_valley_L60 N k n x1 μ = some (re, μe) → inR x1 → VT μ → L 0 = some (vA en 475) → L 1 = some (vI x1) → K ZN 60 L [] μ := by
  intro n
  induction n with
  | zero => intro x1 μ L h; cases h
  | succ n ih =>
    intro x1 μ L h hx1 hV hL0 hL1
    replace h : pM_valley_L60b N k (pM_valley_L60 N k n) x1 μ = some (re, μe) := h
    unfold pM_valley_L60b at h
    refine r_iload_n Ra (i := 1) dX12_valley_60 rfl hL1 ?_
    refine r_bipush Ra dX12_valley_61 rfl ?_
    refine r_icmp_ge Ra 87 dX12_valley_63 hx1 (Rk rfl) rfl (fun hc => ?_) (fun hc => ?_)
    · replace h := ineg hc h
      exact hk μ h  hV _ hL0
    · replace h := ipos hc h
      refine r_aload_n Ra (i := 0) dX12_valley_66 rfl hL0 ?_
      refine q_getA Ra (b := 479) f_X12_60 t475 rfl rfl rfl (hV.ref t475 rfl (by decide)) (by decide) dX12_valley_67 ?_
      refine r_bipush Ra dX12_valley_70 rfl ?_
      refine r_aload_n Ra (i := 0) dX12_valley_72 rfl hL0 ?_
      refine q_getI Ra (x := μ 475 29) f_X12_100 t475 rfl rfl rfl rfl dX12_valley_73 ?_
      refine r_imul Ra dX12_valley_76 ?_
      refine r_iload_n Ra (i := 1) dX12_valley_77 rfl hL1 ?_
      refine r_iadd Ra dX12_valley_78 ?_
      refine r_iconst Ra dX12_valley_79 ?_
      obtain ⟨gu80, h⟩ := gd h
      obtain ⟨m80, em80, h⟩ := bv h
      have hm80 : VT m80 := eqV em80 (hV.setI t479 (kd20 _) (Rk rfl))
      refine q_iast Ra t479 l479 gu80 em80 dX12_valley_80 ?_
      obtain ⟨x1_81, ex1_81, h⟩ := bv h
      have ix1_81 : inR x1_81 := eqR ex1_81 (inR_32 _)
      refine q_iinc Ra dX12_valley_81 hL1 ex1_81 ?_
      refine r_goto Ra 60 dX12_valley_84 rfl ?_
      exact ih x1_81 m80 _ h ix1_81 hm80 hL0 rfl
theorem k_pM_valley_L94 {l : Launch} {en : En} {re : Int} {μe : Mem} {N : Nat}  {k : Mem → Option (Int × Mem)} {K : KT} (Ra : Ru false (some (some .int, some (vI re), nCells, μe, 0, 0, (VT μe ∧ inR re))) l en cX12_valley yX12_valley.cls 2 (rmN 7 213) K)  (hk : ∀  (μ9 : Mem), k μ9 = some (re, μe) → VT μ9 → ∀ L9 : Lo, L9 0 = some (vA en 475) → K ZN 119 L9 [] μ9) : ∀ (n : Nat) (x1 : Int) (μ : Mem) (L : Lo), pM_valley_L94 N k n x1 μ = some (re, μe) → inR x1 → VT μ → L 0 = some (vA en 475) → L 1 = some (vI x1) → K ZN 94 L [] μ := by
  intro n
  induction n with
  | zero => intro x1 μ L h; cases h
  | succ n ih =>
    intro x1 μ L h hx1 hV hL0 hL1
    replace h : pM_valley_L94b N k (pM_valley_L94 N k n) x1 μ = some (re, μe) := h
    unfold pM_valley_L94b at h
    refine r_iload_n Ra (i := 1) dX12_valley_94 rfl hL1 ?_
    refine r_iconst Ra dX12_valley_95 ?_
    refine r_aload_n Ra (i := 0) dX12_valley_96 rfl hL0 ?_
    refine q_getI Ra (x := μ 475 29) f_X12_100 t475 rfl rfl rfl rfl dX12_valley_97 ?_
    refine r_imul Ra dX12_valley_100 ?_
    refine r_iconst Ra dX12_valley_101 ?_
    refine r_iadd Ra dX12_valley_102 ?_
    refine r_icmp_ge Ra 119 dX12_valley_103 hx1 (inR_32 _) rfl (fun hc => ?_) (fun hc => ?_)
    · replace h := ineg hc h
      exact hk μ h  hV _ hL0
    · replace h := ipos hc h
      refine r_aload_n Ra (i := 0) dX12_valley_106 rfl hL0 ?_
      refine q_getA Ra (b := 486) f_X12_81 t475 rfl rfl rfl (hV.ref t475 rfl (by decide)) (by decide) dX12_valley_107 ?_
      refine r_iload_n Ra (i := 1) dX12_valley_110 rfl hL1 ?_
      refine r_iconst Ra dX12_valley_111 ?_
      obtain ⟨gu112, h⟩ := gd h
      obtain ⟨m112, em112, h⟩ := bv h
      have hm112 : VT m112 := eqV em112 (hV.setI t486 (kd20 _) (Rk rfl))
      refine q_iast Ra t486 l486 gu112 em112 dX12_valley_112 ?_
      obtain ⟨x1_113, ex1_113, h⟩ := bv h
      have ix1_113 : inR x1_113 := eqR ex1_113 (inR_32 _)
      refine q_iinc Ra dX12_valley_113 hL1 ex1_113 ?_
      refine r_goto Ra 94 dX12_valley_116 rfl ?_
      exact ih x1_113 m112 _ h ix1_113 hm112 hL0 rfl
theorem k_pM_valley_L139 {l : Launch} {en : En} {re : Int} {μe : Mem} {N : Nat}  {k : Int → Mem → Option (Int × Mem)} {K : KT} (Ra : Ru false (some (some .int, some (vI re), nCells, μe, 0, 0, (VT μe ∧ inR re))) l en cX12_valley yX12_valley.cls 2 (rmN 7 213) K)  (hk : ∀ (z1 : Int) (μ9 : Mem), k z1 μ9 = some (re, μe) → inR z1 → VT μ9 → ∀ L9 : Lo, L9 0 = some (vA en 475) → L9 1 = some (vI z1) → K ZN 168 L9 [] μ9) : ∀ (n : Nat) (x1 : Int) (μ : Mem) (L : Lo), pM_valley_L139 N k n x1 μ = some (re, μe) → inR x1 → VT μ → L 0 = some (vA en 475) → L 1 = some (vI x1) → K ZN 139 L [] μ := by
  intro n
  induction n with
  | zero => intro x1 μ L h; cases h
  | succ n ih =>
    intro x1 μ L h hx1 hV hL0 hL1
    replace h : pM_valley_L139b N k (pM_valley_L139 N k n) x1 μ = some (re, μe) := h
    unfold pM_valley_L139b at h
    refine r_aload_n Ra (i := 0) dX12_valley_139 rfl hL0 ?_
    refine q_getI Ra (x := μ 475 8) f_X12_36 t475 rfl rfl rfl rfl dX12_valley_140 ?_
    refine r_if_ne Ra 168 dX12_valley_143 (hV.int t475 rfl) rfl (fun hc => ?_) (fun hc => ?_)
    · replace h := ineg hc h
      exact hk x1 μ h hx1 hV _ hL0 hL1
    · replace h := ipos hc h
      refine r_aload_n Ra (i := 0) dX12_valley_146 rfl hL0 ?_
      refine q_getI Ra (x := μ 475 3) f_X12_20 t475 rfl rfl rfl rfl dX12_valley_147 ?_
      refine r_if_eq Ra 168 dX12_valley_150 (hV.int t475 rfl) rfl (fun hc => ?_) (fun hc => ?_)
      · replace h := ipos hc h
        exact hk x1 μ h hx1 hV _ hL0 hL1
      · replace h := ineg hc h
        refine r_aload_n Ra (i := 0) dX12_valley_153 rfl hL0 ?_
        obtain ⟨m154, hr154, h⟩ := bd h
        refine q_callVV Ra (c_pM_statement hV hr154) mw_X12_statement mi_X12_statement t475 rfl rfl rfl rfl rfl k_X12_405 rfl rfl dX12_valley_154 (fun ok154 => ?_)
        obtain ⟨x1_157, ex1_157, h⟩ := bv h
        have ix1_157 : inR x1_157 := eqR ex1_157 (inR_32 _)
        refine q_iinc Ra dX12_valley_157 hL1 ex1_157 ?_
        refine r_aload_n Ra (i := 0) dX12_valley_160 rfl hL0 ?_
        refine r_iload_n Ra (i := 1) dX12_valley_161 rfl rfl ?_
        obtain ⟨m162, hr162, h⟩ := bd h
        refine q_callVV Ra (c_pM_finishes ok154 ix1_157 hr162) mw_X12_finishes mi_X12_finishes t475 rfl rfl rfl rfl rfl k_X12_402 rfl rfl dX12_valley_162 (fun ok162 => ?_)
        refine r_goto Ra 139 dX12_valley_165 rfl ?_
        exact ih x1_157 m162 _ h ix1_157 ok162 hL0 rfl
set_option maxHeartbeats 4000000 in
theorem c_pM_valley {l : Launch} {en : En} {N : Nat} {μ : Mem}  {re : Int} {μe : Mem} (hV : VT μ)  (h : pM_valley N μ = some (re, μe)) : CtI l en yX12_valley cX12_valley 2 7 213 [vA en 475] μ .int re μe (VT μe ∧ inR re) := by
  refine Tr.of false (fun h => by cases h) (by decide) (Nat.le_of_ble_eq_true rfl) (fun K Ra => ?_)
  unfold pM_valley at h
  refine r_aload_n Ra (i := 0) dX12_valley_0 rfl rfl ?_
  refine r_aload_n Ra (i := 0) dX12_valley_1 rfl rfl ?_
  refine q_getI Ra (x := μ 475 1) f_X12_13 t475 rfl rfl rfl rfl dX12_valley_2 ?_
  obtain ⟨m5, em5, h⟩ := bv h
  have hm5 : VT m5 := eqV em5 (hV.setI t475 rfl (hV.int t475 rfl))
  refine q_putI Ra f_X12_17 p_X12_2 t475 rfl rfl rfl em5 dX12_valley_5 ?_
  refine r_aload_n Ra (i := 0) dX12_valley_8 rfl rfl ?_
  refine r_iconst Ra dX12_valley_9 ?_
  obtain ⟨m10, em10, h⟩ := bv h
  have hm10 : VT m10 := eqV em10 (hm5.setI t475 rfl (Rk rfl))
  refine q_putI Ra f_X12_13 p_X12_1 t475 rfl rfl rfl em10 dX12_valley_10 ?_
  refine r_aload_n Ra (i := 0) dX12_valley_13 rfl rfl ?_
  refine r_iconst Ra dX12_valley_14 ?_
  obtain ⟨m15, em15, h⟩ := bv h
  have hm15 : VT m15 := eqV em15 (hm10.setI t475 rfl (Rk rfl))
  refine q_putI Ra f_X12_26 p_X12_5 t475 rfl rfl rfl em15 dX12_valley_15 ?_
  refine r_aload_n Ra (i := 0) dX12_valley_18 rfl rfl ?_
  refine r_iconst Ra dX12_valley_19 ?_
  obtain ⟨m20, em20, h⟩ := bv h
  have hm20 : VT m20 := eqV em20 (hm15.setI t475 rfl (Rk rfl))
  refine q_putI Ra f_X12_36 p_X12_8 t475 rfl rfl rfl em20 dX12_valley_20 ?_
  refine r_aload_n Ra (i := 0) dX12_valley_23 rfl rfl ?_
  refine r_iconst Ra dX12_valley_24 ?_
  obtain ⟨m25, em25, h⟩ := bv h
  have hm25 : VT m25 := eqV em25 (hm20.setI t475 rfl (Rk rfl))
  refine q_putI Ra f_X12_39 p_X12_9 t475 rfl rfl rfl em25 dX12_valley_25 ?_
  refine r_aload_n Ra (i := 0) dX12_valley_28 rfl rfl ?_
  refine r_iconst Ra dX12_valley_29 ?_
  refine r_aload_n Ra (i := 0) dX12_valley_30 rfl rfl ?_
  refine q_getI Ra (x := m25 475 13) f_X12_51 t475 rfl rfl rfl rfl dX12_valley_31 ?_
  refine r_isub Ra dX12_valley_34 ?_
  obtain ⟨m35, em35, h⟩ := bv h
  have hm35 : VT m35 := eqV em35 (hm25.setI t475 rfl (inR_32 _))
  refine q_putI Ra f_X12_100 p_X12_29 t475 rfl rfl rfl em35 dX12_valley_35 ?_
  refine r_aload_n Ra (i := 0) dX12_valley_38 rfl rfl ?_
  refine q_getA Ra (b := 480) f_X12_63 t475 rfl rfl rfl (hm35.ref t475 rfl (by decide)) (by decide) dX12_valley_39 ?_
  refine r_aload_n Ra (i := 0) dX12_valley_42 rfl rfl ?_
  refine q_getI Ra (x := m35 475 29) f_X12_100 t475 rfl rfl rfl rfl dX12_valley_43 ?_
  refine r_iconst Ra dX12_valley_46 ?_
  obtain ⟨gu47, h⟩ := gd h
  obtain ⟨m47, em47, h⟩ := bv h
  have hm47 : VT m47 := eqV em47 (hm35.setI t480 (kd20 _) (Rk rfl))
  refine q_iast Ra t480 l480 gu47 em47 dX12_valley_47 ?_
  refine r_aload_n Ra (i := 0) dX12_valley_48 rfl rfl ?_
  refine q_getA Ra (b := 485) f_X12_78 t475 rfl rfl rfl (hm47.ref t475 rfl (by decide)) (by decide) dX12_valley_49 ?_
  refine r_aload_n Ra (i := 0) dX12_valley_52 rfl rfl ?_
  refine q_getI Ra (x := m47 475 29) f_X12_100 t475 rfl rfl rfl rfl dX12_valley_53 ?_
  refine r_iconst Ra dX12_valley_56 ?_
  obtain ⟨gu57, h⟩ := gd h
  obtain ⟨m57, em57, h⟩ := bv h
  have hm57 : VT m57 := eqV em57 (hm47.setI t485 (kd20 _) (Rk rfl))
  refine q_iast Ra t485 l485 gu57 em57 dX12_valley_57 ?_
  refine r_iconst Ra dX12_valley_58 ?_
  refine q_istore_n Ra 1 dX12_valley_59 rfl rfl rfl ?_
  refine k_pM_valley_L60 Ra ?_ _ _ _ _ h (Rk rfl) hm57 rfl rfl
  intro n87 h hn87 L9 f87_0
  refine r_iconst Ra dX12_valley_87 ?_
  refine r_aload_n Ra (i := 0) dX12_valley_88 rfl f87_0 ?_
  refine q_getI Ra (x := n87 475 29) f_X12_100 t475 rfl rfl rfl rfl dX12_valley_89 ?_
  refine r_imul Ra dX12_valley_92 ?_
  obtain ⟨x1_93, ex1_93, h⟩ := bv h
  have ix1_93 : inR x1_93 := eqR ex1_93 (inR_32 _)
  refine q_istore_n Ra 1 dX12_valley_93 rfl rfl ex1_93 ?_
  refine k_pM_valley_L94 Ra ?_ _ _ _ _ h ix1_93 hn87 f87_0 rfl
  intro n119 h hn119 L9 f119_0
  refine r_aload_n Ra (i := 0) dX12_valley_119 rfl f119_0 ?_
  refine r_iconst Ra dX12_valley_120 ?_
  obtain ⟨m121, em121, h⟩ := bv h
  have hm121 : VT m121 := eqV em121 (hn119.setI t475 rfl (Rk rfl))
  refine q_putI Ra f_X12_97 p_X12_28 t475 rfl rfl rfl em121 dX12_valley_121 ?_
  refine r_iconst Ra dX12_valley_124 ?_
  refine q_istore_n Ra 1 dX12_valley_125 rfl rfl rfl ?_
  refine r_aload_n Ra (i := 0) dX12_valley_126 rfl f119_0 ?_
  obtain ⟨m127, hr127, h⟩ := bd h
  refine q_callVV Ra (c_pM_ahead hm121 hr127) mw_X12_ahead mi_X12_ahead t475 rfl rfl rfl rfl rfl k_X12_272 rfl rfl dX12_valley_127 (fun ok127 => ?_)
  refine r_aload_n Ra (i := 0) dX12_valley_130 rfl f119_0 ?_
  obtain ⟨m131, hr131, h⟩ := bd h
  refine q_callVV Ra (c_pM_fielding ok127 hr131) mw_X12_fielding mi_X12_fielding t475 rfl rfl rfl rfl rfl k_X12_399 rfl rfl dX12_valley_131 (fun ok131 => ?_)
  refine r_aload_n Ra (i := 0) dX12_valley_134 rfl f119_0 ?_
  refine r_iload_n Ra (i := 1) dX12_valley_135 rfl rfl ?_
  obtain ⟨m136, hr136, h⟩ := bd h
  refine q_callVV Ra (c_pM_finishes ok131 (Rk rfl) hr136) mw_X12_finishes mi_X12_finishes t475 rfl rfl rfl rfl rfl k_X12_402 rfl rfl dX12_valley_136 (fun ok136 => ?_)
  refine k_pM_valley_L139 Ra ?_ _ _ _ _ h (Rk rfl) ok136 f119_0 rfl
  intro z1_168 n168 h iz1_168 hn168 L9 f168_0 f168_1
  refine r_aload_n Ra (i := 0) dX12_valley_168 rfl f168_0 ?_
  refine r_aload_n Ra (i := 0) dX12_valley_169 rfl f168_0 ?_
  refine q_getI Ra (x := n168 475 8) f_X12_36 t475 rfl rfl rfl rfl dX12_valley_170 ?_
  obtain ⟨m173, em173, h⟩ := bv h
  have hm173 : VT m173 := eqV em173 (hn168.setI t475 rfl (hn168.int t475 rfl))
  refine q_putI Ra f_X12_42 p_X12_10 t475 rfl rfl rfl em173 dX12_valley_173 ?_
  refine r_aload_n Ra (i := 0) dX12_valley_176 rfl f168_0 ?_
  refine r_aload_n Ra (i := 0) dX12_valley_177 rfl f168_0 ?_
  refine q_getI Ra (x := m173 475 9) f_X12_39 t475 rfl rfl rfl rfl dX12_valley_178 ?_
  obtain ⟨m181, em181, h⟩ := bv h
  have hm181 : VT m181 := eqV em181 (hm173.setI t475 rfl (hm173.int t475 rfl))
  refine q_putI Ra f_X12_45 p_X12_11 t475 rfl rfl rfl em181 dX12_valley_181 ?_
  refine r_aload_n Ra (i := 0) dX12_valley_184 rfl f168_0 ?_
  refine q_getI Ra (x := m181 475 8) f_X12_36 t475 rfl rfl rfl rfl dX12_valley_185 ?_
  refine r_if_le Ra 197 dX12_valley_188 (hm181.int t475 rfl) rfl (fun hc => ?_) (fun hc => ?_)
  · replace h := ineg hc h
    refine r_aload_n Ra (i := 0) dX12_valley_197 rfl f168_0 ?_
    refine r_aload_n Ra (i := 0) dX12_valley_198 rfl f168_0 ?_
    refine q_getI Ra (x := m181 475 29) f_X12_100 t475 rfl rfl rfl rfl dX12_valley_199 ?_
    obtain ⟨m202, em202, h⟩ := bv h
    have hm202 : VT m202 := eqV em202 (hm181.setI t475 rfl (hm181.int t475 rfl))
    refine q_putI Ra f_X12_51 p_X12_13 t475 rfl rfl rfl em202 dX12_valley_202 ?_
    refine r_aload_n Ra (i := 0) dX12_valley_205 rfl f168_0 ?_
    refine r_iconst Ra dX12_valley_206 ?_
    obtain ⟨m207, em207, h⟩ := bv h
    have hm207 : VT m207 := eqV em207 (hm202.setZ t475 rfl (Or.inr rfl))
    refine q_putZ Ra f_X12_138 p_X12_41 t475 rfl rfl rfl em207 (Or.inr rfl) dX12_valley_207 ?_
    refine r_aload_n Ra (i := 0) dX12_valley_210 rfl f168_0 ?_
    obtain ⟨m211, hr211, h⟩ := bd h
    refine q_callVV Ra (c_pM_begin hm207 hr211) mw_X12_begin mi_X12_begin t475 rfl rfl rfl rfl rfl k_X12_408 rfl rfl dX12_valley_211 (fun ok211 => ?_)
    refine r_iload_n Ra (i := 1) dX12_valley_214 rfl f168_1 ?_
    cases h
    exact r_iret Ra ⟨ok211, iz1_168⟩ dX12_valley_215
  · replace h := ipos hc h
    refine r_aload_n Ra (i := 0) dX12_valley_191 rfl f168_0 ?_
    refine r_iconst Ra dX12_valley_192 ?_
    obtain ⟨⟨r193, m193⟩, hr193, h⟩ := bd h
    refine q_callVI Ra (c_pM_refuses hm181 (Rk rfl) hr193) mw_X12_refuses mi_X12_refuses t475 rfl rfl rfl rfl rfl k_X12_247 rfl rfl dX12_valley_193 (fun ok193 => ?_)
    obtain ⟨hV193, ok193⟩ := ok193
    cases h
    exact r_iret Ra ⟨hV193, ok193⟩ dX12_valley_196
noncomputable def pM_fault (μ : Mem) (x1 : Int) : Option (Int) := if x1 = 0 then some (μ 475 10) else if x1 = 1 then some (μ 475 11) else some ((-1))
set_option maxHeartbeats 4000000 in
theorem c_pM_fault {l : Launch} {en : En} {μ : Mem} {x1 : Int} {re : Int} (hV : VT μ) (hx1 : inR x1) (h : pM_fault μ x1 = some re) : CtI l en yX12_fault cX12_fault 2 0 60 [vA en 475, vI x1] μ .int re μ (inR re) := by
  refine Tr.of false (fun h => by cases h) (by decide) (Nat.le_of_ble_eq_true rfl) (fun K Ra => ?_)
  unfold pM_fault at h
  refine r_iload_n Ra (i := 1) dX12_fault_0 rfl rfl ?_
  refine r_if_ne Ra 11 dX12_fault_1 hx1 rfl (fun hc => ?_) (fun hc => ?_)
  · replace h := ineg hc h
    refine r_iload_n Ra (i := 1) dX12_fault_11 rfl rfl ?_
    refine r_iconst Ra dX12_fault_12 ?_
    refine r_icmp_ne Ra 23 dX12_fault_13 hx1 (Rk rfl) rfl (fun hc => ?_) (fun hc => ?_)
    · replace h := ineg hc h
      refine r_iconst Ra dX12_fault_23 ?_
      cases h
      exact r_iret Ra (Rk rfl) dX12_fault_24
    · replace h := ipos hc h
      refine r_aload_n Ra (i := 0) dX12_fault_16 rfl rfl ?_
      refine q_getI Ra (x := μ 475 11) f_X12_45 t475 rfl rfl rfl rfl dX12_fault_17 ?_
      refine r_goto Ra 24 dX12_fault_20 rfl ?_
      cases h
      exact r_iret Ra (hV.int t475 rfl) dX12_fault_24
  · replace h := ipos hc h
    refine r_aload_n Ra (i := 0) dX12_fault_4 rfl rfl ?_
    refine q_getI Ra (x := μ 475 10) f_X12_42 t475 rfl rfl rfl rfl dX12_fault_5 ?_
    refine r_goto Ra 24 dX12_fault_8 rfl ?_
    cases h
    exact r_iret Ra (hV.int t475 rfl) dX12_fault_24
noncomputable def pM_status (μ : Mem) (x1 : Int) : Option (Int) := (pM_is μ x1 0 5).bind fun r3 => if r3 = 0 then some ((-1)) else if 0 ≤ x1 ∧ x1 < 6 then some (μ 497 x1) else none
set_option maxHeartbeats 4000000 in
theorem c_pM_status {l : Launch} {en : En} {μ : Mem} {x1 : Int} {re : Int} (hV : VT μ) (hx1 : inR x1) (h : pM_status μ x1 = some re) : CtI l en yX12_status cX12_status 2 1 82 [vA en 475, vI x1] μ .int re μ (inR re) := by
  refine Tr.of false (fun h => by cases h) (by decide) (Nat.le_of_ble_eq_true rfl) (fun K Ra => ?_)
  unfold pM_status at h
  refine r_iload_n Ra (i := 1) dX12_status_0 rfl rfl ?_
  refine r_iconst Ra dX12_status_1 ?_
  refine r_iconst Ra dX12_status_2 ?_
  obtain ⟨r3, hr3, h⟩ := bd h
  refine q_callSI Ra (c_pM_is hV hx1 (Rk rfl) (Rk rfl) hr3) mw_X12_is ms_X12_is rfl rfl k_X12_323 rfl rfl dX12_status_3 (fun ok3 => ?_)
  refine r_if_eq Ra 18 dX12_status_6 (inR_01 ok3) rfl (fun hc => ?_) (fun hc => ?_)
  · replace h := ipos hc h
    refine r_iconst Ra dX12_status_18 ?_
    cases h
    exact r_iret Ra (Rk rfl) dX12_status_19
  · replace h := ineg hc h
    refine r_aload_n Ra (i := 0) dX12_status_9 rfl rfl ?_
    refine q_getA Ra (b := 497) f_X12_141 t475 rfl rfl rfl (hV.ref t475 rfl (by decide)) (by decide) dX12_status_10 ?_
    refine r_iload_n Ra (i := 1) dX12_status_13 rfl rfl ?_
    obtain ⟨gu14, h⟩ := gd h
    refine q_iald Ra t497 l497 gu14 dX12_status_14 ?_
    refine r_goto Ra 19 dX12_status_15 rfl ?_
    cases h
    exact r_iret Ra (hV.int t497 (kd20 _)) dX12_status_19
noncomputable def pM_copies_L14b (N : Nat) (c1 : Int) (c2 : Int) (k : Mem → Option (Mem)) (self : Int → Mem → Option (Mem)) (x3 : Int) (μ : Mem) : Option (Mem) := if x3 < 64 then if 0 ≤ w32 ((w32 (64 * c2)) + x3) ∧ w32 ((w32 (64 * c2)) + x3) < 1408 then if 0 ≤ w32 ((w32 (64 * c1)) + x3) ∧ w32 ((w32 (64 * c1)) + x3) < 1408 then (some (mset μ 499 (w32 ((w32 (64 * c1)) + x3)) (μ 499 (w32 ((w32 (64 * c2)) + x3))))).bind fun m41 => (some (w32 (x3 + 1) : Int)).bind fun x3_42 => self x3_42 m41 else none else none else k μ
noncomputable def pM_copies_L14 (N : Nat) (c1 : Int) (c2 : Int) (k : Mem → Option (Mem)) (n : Nat) : Int → Mem → Option (Mem) := lpF (fun _ _ => none) (pM_copies_L14b N c1 c2 k) n
noncomputable def pM_copies_L50b (N : Nat) (c1 : Int) (c2 : Int) (k : Mem → Option (Mem)) (self : Int → Mem → Option (Mem)) (x3 : Int) (μ : Mem) : Option (Mem) := if x3 < 6 then if 0 ≤ w32 ((w32 (6 * c2)) + x3) ∧ w32 ((w32 (6 * c2)) + x3) < 132 then if 0 ≤ w32 ((w32 (6 * c1)) + x3) ∧ w32 ((w32 (6 * c1)) + x3) < 132 then (some (mset μ 500 (w32 ((w32 (6 * c1)) + x3)) (μ 500 (w32 ((w32 (6 * c2)) + x3))))).bind fun m77 => if 0 ≤ w32 ((w32 (6 * c2)) + x3) ∧ w32 ((w32 (6 * c2)) + x3) < 132 then if 0 ≤ w32 ((w32 (6 * c1)) + x3) ∧ w32 ((w32 (6 * c1)) + x3) < 132 then (some (mset m77 501 (w32 ((w32 (6 * c1)) + x3)) (m77 501 (w32 ((w32 (6 * c2)) + x3))))).bind fun m99 => if 0 ≤ w32 ((w32 (6 * c2)) + x3) ∧ w32 ((w32 (6 * c2)) + x3) < 132 then if 0 ≤ w32 ((w32 (6 * c1)) + x3) ∧ w32 ((w32 (6 * c1)) + x3) < 132 then (some (mset m99 502 (w32 ((w32 (6 * c1)) + x3)) (m99 502 (w32 ((w32 (6 * c2)) + x3))))).bind fun m121 => if 0 ≤ w32 ((w32 (6 * c2)) + x3) ∧ w32 ((w32 (6 * c2)) + x3) < 132 then if 0 ≤ w32 ((w32 (6 * c1)) + x3) ∧ w32 ((w32 (6 * c1)) + x3) < 132 then (some (mset m121 503 (w32 ((w32 (6 * c1)) + x3)) (m121 503 (w32 ((w32 (6 * c2)) + x3))))).bind fun m143 => (some (w32 (x3 + 1) : Int)).bind fun x3_144 => self x3_144 m143 else none else none else none else none else none else none else none else none else k μ
noncomputable def pM_copies_L50 (N : Nat) (c1 : Int) (c2 : Int) (k : Mem → Option (Mem)) (n : Nat) : Int → Mem → Option (Mem) := lpF (fun _ _ => none) (pM_copies_L50b N c1 c2 k) n
noncomputable def pM_copies_L164b (N : Nat) (c1 : Int) (c2 : Int) (k : Mem → Option (Mem)) (self : Int → Mem → Option (Mem)) (x3 : Int) (μ : Mem) : Option (Mem) := if 0 ≤ c2 ∧ c2 < 22 then if x3 < w32 (3 * (μ 504 c2)) then if 0 ≤ w32 ((w32 (120 * c2)) + x3) ∧ w32 ((w32 (120 * c2)) + x3) < 2640 then if 0 ≤ w32 ((w32 (120 * c1)) + x3) ∧ w32 ((w32 (120 * c1)) + x3) < 2640 then (some (mset μ 505 (w32 ((w32 (120 * c1)) + x3)) (μ 505 (w32 ((w32 (120 * c2)) + x3))))).bind fun m197 => (some (w32 (x3 + 1) : Int)).bind fun x3_198 => self x3_198 m197 else none else none else k μ else none
noncomputable def pM_copies_L164 (N : Nat) (c1 : Int) (c2 : Int) (k : Mem → Option (Mem)) (n : Nat) : Int → Mem → Option (Mem) := lpF (fun _ _ => none) (pM_copies_L164b N c1 c2 k) n
noncomputable def pM_copies (N : Nat) (μ : Mem) (x1 : Int) (x2 : Int) : Option (Mem) := if 0 ≤ x2 ∧ x2 < 22 then if 0 ≤ x1 ∧ x1 < 22 then (some (mset μ 498 x1 (μ 498 x2))).bind fun m11 => pM_copies_L14 N x1 x2 (fun n48 => pM_copies_L50 N x1 x2 (fun n150 => if 0 ≤ x2 ∧ x2 < 22 then if 0 ≤ x1 ∧ x1 < 22 then (some (mset n150 504 x1 (n150 504 x2))).bind fun m161 => pM_copies_L164 N x1 x2 (fun n204 => some n204) N 0 m161 else none else none) N 0 n48) N 0 m11 else none else none
theorem k_pM_copies_L14 {l : Launch} {en : En} {μe : Mem} {N : Nat} {c1 : Int} {c2 : Int} {k : Mem → Option (Mem)} {K : KT} (Ra : Ru false (some (none, none, nCells, μe, 0, 0, (VT μe))) l en cX12_copies yX12_copies.cls 4 (rmN 0 60) K) (hi1 : inR c1) (hi2 : inR c2) (hk : ∀  (μ9 : Mem), k μ9 = some μe → VT μ9 → ∀ L9 : Lo, L9 0 = some (vA en 475) → L9 1 = some (vI c1) → L9 2 = some (vI c2) → K ZN 48 L9 [] μ9) : ∀ (n : Nat) (x3 : Int) (μ : Mem) (L : Lo), pM_copies_L14 N c1 c2 k n x3 μ = some μe → inR x3 → VT μ → L 0 = some (vA en 475) → L 1 = some (vI c1) → L 2 = some (vI c2) → L 3 = some (vI x3) → K ZN 14 L [] μ := by
  intro n
  induction n with
  | zero => intro x3 μ L h; cases h
  | succ n ih =>
    intro x3 μ L h hx3 hV hL0 hL1 hL2 hL3
    replace h : pM_copies_L14b N c1 c2 k (pM_copies_L14 N c1 c2 k n) x3 μ = some μe := h
    unfold pM_copies_L14b at h
    refine r_iload_n Ra (i := 3) dX12_copies_14 rfl hL3 ?_
    refine r_bipush Ra dX12_copies_15 rfl ?_
    refine r_icmp_ge Ra 48 dX12_copies_17 hx3 (Rk rfl) rfl (fun hc => ?_) (fun hc => ?_)
    · replace h := ineg hc h
      exact hk μ h  hV _ hL0 hL1 hL2
    · replace h := ipos hc h
      refine r_aload_n Ra (i := 0) dX12_copies_20 rfl hL0 ?_
      refine q_getA Ra (b := 499) f_X12_147 t475 rfl rfl rfl (hV.ref t475 rfl (by decide)) (by decide) dX12_copies_21 ?_
      refine r_bipush Ra dX12_copies_24 rfl ?_
      refine r_iload_n Ra (i := 1) dX12_copies_26 rfl hL1 ?_
      refine r_imul Ra dX12_copies_27 ?_
      refine r_iload_n Ra (i := 3) dX12_copies_28 rfl hL3 ?_
      refine r_iadd Ra dX12_copies_29 ?_
      refine r_aload_n Ra (i := 0) dX12_copies_30 rfl hL0 ?_
      refine q_getA Ra (b := 499) f_X12_147 t475 rfl rfl rfl (hV.ref t475 rfl (by decide)) (by decide) dX12_copies_31 ?_
      refine r_bipush Ra dX12_copies_34 rfl ?_
      refine r_iload_n Ra (i := 2) dX12_copies_36 rfl hL2 ?_
      refine r_imul Ra dX12_copies_37 ?_
      refine r_iload_n Ra (i := 3) dX12_copies_38 rfl hL3 ?_
      refine r_iadd Ra dX12_copies_39 ?_
      obtain ⟨gu40, h⟩ := gd h
      refine q_iald Ra t499 l499 gu40 dX12_copies_40 ?_
      obtain ⟨gu41, h⟩ := gd h
      obtain ⟨m41, em41, h⟩ := bv h
      have hm41 : VT m41 := eqV em41 (hV.setI t499 (kd20 _) (hV.int t499 (kd20 _)))
      refine q_iast Ra t499 l499 gu41 em41 dX12_copies_41 ?_
      obtain ⟨x3_42, ex3_42, h⟩ := bv h
      have ix3_42 : inR x3_42 := eqR ex3_42 (inR_32 _)
      refine q_iinc Ra dX12_copies_42 hL3 ex3_42 ?_
      refine r_goto Ra 14 dX12_copies_45 rfl ?_
      exact ih x3_42 m41 _ h ix3_42 hm41 hL0 hL1 hL2 rfl
theorem k_pM_copies_L50 {l : Launch} {en : En} {μe : Mem} {N : Nat} {c1 : Int} {c2 : Int} {k : Mem → Option (Mem)} {K : KT} (Ra : Ru false (some (none, none, nCells, μe, 0, 0, (VT μe))) l en cX12_copies yX12_copies.cls 4 (rmN 0 60) K) (hi1 : inR c1) (hi2 : inR c2) (hk : ∀  (μ9 : Mem), k μ9 = some μe → VT μ9 → ∀ L9 : Lo, L9 0 = some (vA en 475) → L9 1 = some (vI c1) → L9 2 = some (vI c2) → K ZN 150 L9 [] μ9) : ∀ (n : Nat) (x3 : Int) (μ : Mem) (L : Lo), pM_copies_L50 N c1 c2 k n x3 μ = some μe → inR x3 → VT μ → L 0 = some (vA en 475) → L 1 = some (vI c1) → L 2 = some (vI c2) → L 3 = some (vI x3) → K ZN 50 L [] μ := by
  intro n
  induction n with
  | zero => intro x3 μ L h; cases h
  | succ n ih =>
    intro x3 μ L h hx3 hV hL0 hL1 hL2 hL3
    replace h : pM_copies_L50b N c1 c2 k (pM_copies_L50 N c1 c2 k n) x3 μ = some μe := h
    unfold pM_copies_L50b at h
    refine r_iload_n Ra (i := 3) dX12_copies_50 rfl hL3 ?_
    refine r_bipush Ra dX12_copies_51 rfl ?_
    refine r_icmp_ge Ra 150 dX12_copies_53 hx3 (Rk rfl) rfl (fun hc => ?_) (fun hc => ?_)
    · replace h := ineg hc h
      exact hk μ h  hV _ hL0 hL1 hL2
    · replace h := ipos hc h
      refine r_aload_n Ra (i := 0) dX12_copies_56 rfl hL0 ?_
      refine q_getA Ra (b := 500) f_X12_150 t475 rfl rfl rfl (hV.ref t475 rfl (by decide)) (by decide) dX12_copies_57 ?_
      refine r_bipush Ra dX12_copies_60 rfl ?_
      refine r_iload_n Ra (i := 1) dX12_copies_62 rfl hL1 ?_
      refine r_imul Ra dX12_copies_63 ?_
      refine r_iload_n Ra (i := 3) dX12_copies_64 rfl hL3 ?_
      refine r_iadd Ra dX12_copies_65 ?_
      refine r_aload_n Ra (i := 0) dX12_copies_66 rfl hL0 ?_
      refine q_getA Ra (b := 500) f_X12_150 t475 rfl rfl rfl (hV.ref t475 rfl (by decide)) (by decide) dX12_copies_67 ?_
      refine r_bipush Ra dX12_copies_70 rfl ?_
      refine r_iload_n Ra (i := 2) dX12_copies_72 rfl hL2 ?_
      refine r_imul Ra dX12_copies_73 ?_
      refine r_iload_n Ra (i := 3) dX12_copies_74 rfl hL3 ?_
      refine r_iadd Ra dX12_copies_75 ?_
      obtain ⟨gu76, h⟩ := gd h
      refine q_iald Ra t500 l500 gu76 dX12_copies_76 ?_
      obtain ⟨gu77, h⟩ := gd h
      obtain ⟨m77, em77, h⟩ := bv h
      have hm77 : VT m77 := eqV em77 (hV.setI t500 (kd20 _) (hV.int t500 (kd20 _)))
      refine q_iast Ra t500 l500 gu77 em77 dX12_copies_77 ?_
      refine r_aload_n Ra (i := 0) dX12_copies_78 rfl hL0 ?_
      refine q_getA Ra (b := 501) f_X12_153 t475 rfl rfl rfl (hm77.ref t475 rfl (by decide)) (by decide) dX12_copies_79 ?_
      refine r_bipush Ra dX12_copies_82 rfl ?_
      refine r_iload_n Ra (i := 1) dX12_copies_84 rfl hL1 ?_
      refine r_imul Ra dX12_copies_85 ?_
      refine r_iload_n Ra (i := 3) dX12_copies_86 rfl hL3 ?_
      refine r_iadd Ra dX12_copies_87 ?_
      refine r_aload_n Ra (i := 0) dX12_copies_88 rfl hL0 ?_
      refine q_getA Ra (b := 501) f_X12_153 t475 rfl rfl rfl (hm77.ref t475 rfl (by decide)) (by decide) dX12_copies_89 ?_
      refine r_bipush Ra dX12_copies_92 rfl ?_
      refine r_iload_n Ra (i := 2) dX12_copies_94 rfl hL2 ?_
      refine r_imul Ra dX12_copies_95 ?_
      refine r_iload_n Ra (i := 3) dX12_copies_96 rfl hL3 ?_
      refine r_iadd Ra dX12_copies_97 ?_
      obtain ⟨gu98, h⟩ := gd h
      refine q_iald Ra t501 l501 gu98 dX12_copies_98 ?_
      obtain ⟨gu99, h⟩ := gd h
      obtain ⟨m99, em99, h⟩ := bv h
      have hm99 : VT m99 := eqV em99 (hm77.setI t501 (kd20 _) (hm77.int t501 (kd20 _)))
      refine q_iast Ra t501 l501 gu99 em99 dX12_copies_99 ?_
      refine r_aload_n Ra (i := 0) dX12_copies_100 rfl hL0 ?_
      refine q_getA Ra (b := 502) f_X12_156 t475 rfl rfl rfl (hm99.ref t475 rfl (by decide)) (by decide) dX12_copies_101 ?_
      refine r_bipush Ra dX12_copies_104 rfl ?_
      refine r_iload_n Ra (i := 1) dX12_copies_106 rfl hL1 ?_
      refine r_imul Ra dX12_copies_107 ?_
      refine r_iload_n Ra (i := 3) dX12_copies_108 rfl hL3 ?_
      refine r_iadd Ra dX12_copies_109 ?_
      refine r_aload_n Ra (i := 0) dX12_copies_110 rfl hL0 ?_
      refine q_getA Ra (b := 502) f_X12_156 t475 rfl rfl rfl (hm99.ref t475 rfl (by decide)) (by decide) dX12_copies_111 ?_
      refine r_bipush Ra dX12_copies_114 rfl ?_
      refine r_iload_n Ra (i := 2) dX12_copies_116 rfl hL2 ?_
      refine r_imul Ra dX12_copies_117 ?_
      refine r_iload_n Ra (i := 3) dX12_copies_118 rfl hL3 ?_
      refine r_iadd Ra dX12_copies_119 ?_
      obtain ⟨gu120, h⟩ := gd h
      refine q_iald Ra t502 l502 gu120 dX12_copies_120 ?_
      obtain ⟨gu121, h⟩ := gd h
      obtain ⟨m121, em121, h⟩ := bv h
      have hm121 : VT m121 := eqV em121 (hm99.setI t502 (kd20 _) (hm99.int t502 (kd20 _)))
      refine q_iast Ra t502 l502 gu121 em121 dX12_copies_121 ?_
      refine r_aload_n Ra (i := 0) dX12_copies_122 rfl hL0 ?_
      refine q_getA Ra (b := 503) f_X12_159 t475 rfl rfl rfl (hm121.ref t475 rfl (by decide)) (by decide) dX12_copies_123 ?_
      refine r_bipush Ra dX12_copies_126 rfl ?_
      refine r_iload_n Ra (i := 1) dX12_copies_128 rfl hL1 ?_
      refine r_imul Ra dX12_copies_129 ?_
      refine r_iload_n Ra (i := 3) dX12_copies_130 rfl hL3 ?_
      refine r_iadd Ra dX12_copies_131 ?_
      refine r_aload_n Ra (i := 0) dX12_copies_132 rfl hL0 ?_
      refine q_getA Ra (b := 503) f_X12_159 t475 rfl rfl rfl (hm121.ref t475 rfl (by decide)) (by decide) dX12_copies_133 ?_
      refine r_bipush Ra dX12_copies_136 rfl ?_
      refine r_iload_n Ra (i := 2) dX12_copies_138 rfl hL2 ?_
      refine r_imul Ra dX12_copies_139 ?_
      refine r_iload_n Ra (i := 3) dX12_copies_140 rfl hL3 ?_
      refine r_iadd Ra dX12_copies_141 ?_
      obtain ⟨gu142, h⟩ := gd h
      refine q_iald Ra t503 l503 gu142 dX12_copies_142 ?_
      obtain ⟨gu143, h⟩ := gd h
      obtain ⟨m143, em143, h⟩ := bv h
      have hm143 : VT m143 := eqV em143 (hm121.setI t503 (kd20 _) (hm121.int t503 (kd20 _)))
      refine q_iast Ra t503 l503 gu143 em143 dX12_copies_143 ?_
      obtain ⟨x3_144, ex3_144, h⟩ := bv h
      have ix3_144 : inR x3_144 := eqR ex3_144 (inR_32 _)
      refine q_iinc Ra dX12_copies_144 hL3 ex3_144 ?_
      refine r_goto Ra 50 dX12_copies_147 rfl ?_
      exact ih x3_144 m143 _ h ix3_144 hm143 hL0 hL1 hL2 rfl
theorem k_pM_copies_L164 {l : Launch} {en : En} {μe : Mem} {N : Nat} {c1 : Int} {c2 : Int} {k : Mem → Option (Mem)} {K : KT} (Ra : Ru false (some (none, none, nCells, μe, 0, 0, (VT μe))) l en cX12_copies yX12_copies.cls 4 (rmN 0 60) K) (hi1 : inR c1) (hi2 : inR c2) (hk : ∀  (μ9 : Mem), k μ9 = some μe → VT μ9 → ∀ L9 : Lo, K ZN 204 L9 [] μ9) : ∀ (n : Nat) (x3 : Int) (μ : Mem) (L : Lo), pM_copies_L164 N c1 c2 k n x3 μ = some μe → inR x3 → VT μ → L 0 = some (vA en 475) → L 1 = some (vI c1) → L 2 = some (vI c2) → L 3 = some (vI x3) → K ZN 164 L [] μ := by
  intro n
  induction n with
  | zero => intro x3 μ L h; cases h
  | succ n ih =>
    intro x3 μ L h hx3 hV hL0 hL1 hL2 hL3
    replace h : pM_copies_L164b N c1 c2 k (pM_copies_L164 N c1 c2 k n) x3 μ = some μe := h
    unfold pM_copies_L164b at h
    refine r_iload_n Ra (i := 3) dX12_copies_164 rfl hL3 ?_
    refine r_iconst Ra dX12_copies_165 ?_
    refine r_aload_n Ra (i := 0) dX12_copies_166 rfl hL0 ?_
    refine q_getA Ra (b := 504) f_X12_162 t475 rfl rfl rfl (hV.ref t475 rfl (by decide)) (by decide) dX12_copies_167 ?_
    refine r_iload_n Ra (i := 2) dX12_copies_170 rfl hL2 ?_
    obtain ⟨gu171, h⟩ := gd h
    refine q_iald Ra t504 l504 gu171 dX12_copies_171 ?_
    refine r_imul Ra dX12_copies_172 ?_
    refine r_icmp_ge Ra 204 dX12_copies_173 hx3 (inR_32 _) rfl (fun hc => ?_) (fun hc => ?_)
    · replace h := ineg hc h
      exact hk μ h  hV _ 
    · replace h := ipos hc h
      refine r_aload_n Ra (i := 0) dX12_copies_176 rfl hL0 ?_
      refine q_getA Ra (b := 505) f_X12_165 t475 rfl rfl rfl (hV.ref t475 rfl (by decide)) (by decide) dX12_copies_177 ?_
      refine r_bipush Ra dX12_copies_180 rfl ?_
      refine r_iload_n Ra (i := 1) dX12_copies_182 rfl hL1 ?_
      refine r_imul Ra dX12_copies_183 ?_
      refine r_iload_n Ra (i := 3) dX12_copies_184 rfl hL3 ?_
      refine r_iadd Ra dX12_copies_185 ?_
      refine r_aload_n Ra (i := 0) dX12_copies_186 rfl hL0 ?_
      refine q_getA Ra (b := 505) f_X12_165 t475 rfl rfl rfl (hV.ref t475 rfl (by decide)) (by decide) dX12_copies_187 ?_
      refine r_bipush Ra dX12_copies_190 rfl ?_
      refine r_iload_n Ra (i := 2) dX12_copies_192 rfl hL2 ?_
      refine r_imul Ra dX12_copies_193 ?_
      refine r_iload_n Ra (i := 3) dX12_copies_194 rfl hL3 ?_
      refine r_iadd Ra dX12_copies_195 ?_
      obtain ⟨gu196, h⟩ := gd h
      refine q_iald Ra t505 l505 gu196 dX12_copies_196 ?_
      obtain ⟨gu197, h⟩ := gd h
      obtain ⟨m197, em197, h⟩ := bv h
      have hm197 : VT m197 := eqV em197 (hV.setI t505 (kd20 _) (hV.int t505 (kd20 _)))
      refine q_iast Ra t505 l505 gu197 em197 dX12_copies_197 ?_
      obtain ⟨x3_198, ex3_198, h⟩ := bv h
      have ix3_198 : inR x3_198 := eqR ex3_198 (inR_32 _)
      refine q_iinc Ra dX12_copies_198 hL3 ex3_198 ?_
      refine r_goto Ra 164 dX12_copies_201 rfl ?_
      exact ih x3_198 m197 _ h ix3_198 hm197 hL0 hL1 hL2 rfl
set_option maxHeartbeats 4000000 in
theorem c_pM_copies {l : Launch} {en : En} {N : Nat} {μ : Mem} {x1 : Int} {x2 : Int} {μe : Mem} (hV : VT μ) (hx1 : inR x1) (hx2 : inR x2) (h : pM_copies N μ x1 x2 = some μe) : CtV l en yX12_copies cX12_copies 4 0 60 [vA en 475, vI x1, vI x2] μ μe (VT μe) := by
  refine Tr.of false (fun h => by cases h) (by decide) (Nat.le_of_ble_eq_true rfl) (fun K Ra => ?_)
  unfold pM_copies at h
  refine r_aload_n Ra (i := 0) dX12_copies_0 rfl rfl ?_
  refine q_getA Ra (b := 498) f_X12_144 t475 rfl rfl rfl (hV.ref t475 rfl (by decide)) (by decide) dX12_copies_1 ?_
  refine r_iload_n Ra (i := 1) dX12_copies_4 rfl rfl ?_
  refine r_aload_n Ra (i := 0) dX12_copies_5 rfl rfl ?_
  refine q_getA Ra (b := 498) f_X12_144 t475 rfl rfl rfl (hV.ref t475 rfl (by decide)) (by decide) dX12_copies_6 ?_
  refine r_iload_n Ra (i := 2) dX12_copies_9 rfl rfl ?_
  obtain ⟨gu10, h⟩ := gd h
  refine q_iald Ra t498 l498 gu10 dX12_copies_10 ?_
  obtain ⟨gu11, h⟩ := gd h
  obtain ⟨m11, em11, h⟩ := bv h
  have hm11 : VT m11 := eqV em11 (hV.setI t498 (kd20 _) (hV.int t498 (kd20 _)))
  refine q_iast Ra t498 l498 gu11 em11 dX12_copies_11 ?_
  refine r_iconst Ra dX12_copies_12 ?_
  refine q_istore_n Ra 3 dX12_copies_13 rfl rfl rfl ?_
  refine k_pM_copies_L14 Ra hx1 hx2 ?_ _ _ _ _ h (Rk rfl) hm11 rfl rfl rfl rfl
  intro n48 h hn48 L9 f48_0 f48_1 f48_2
  refine r_iconst Ra dX12_copies_48 ?_
  refine q_istore_n Ra 3 dX12_copies_49 rfl rfl rfl ?_
  refine k_pM_copies_L50 Ra hx1 hx2 ?_ _ _ _ _ h (Rk rfl) hn48 f48_0 f48_1 f48_2 rfl
  intro n150 h hn150 L9 f150_0 f150_1 f150_2
  refine r_aload_n Ra (i := 0) dX12_copies_150 rfl f150_0 ?_
  refine q_getA Ra (b := 504) f_X12_162 t475 rfl rfl rfl (hn150.ref t475 rfl (by decide)) (by decide) dX12_copies_151 ?_
  refine r_iload_n Ra (i := 1) dX12_copies_154 rfl f150_1 ?_
  refine r_aload_n Ra (i := 0) dX12_copies_155 rfl f150_0 ?_
  refine q_getA Ra (b := 504) f_X12_162 t475 rfl rfl rfl (hn150.ref t475 rfl (by decide)) (by decide) dX12_copies_156 ?_
  refine r_iload_n Ra (i := 2) dX12_copies_159 rfl f150_2 ?_
  obtain ⟨gu160, h⟩ := gd h
  refine q_iald Ra t504 l504 gu160 dX12_copies_160 ?_
  obtain ⟨gu161, h⟩ := gd h
  obtain ⟨m161, em161, h⟩ := bv h
  have hm161 : VT m161 := eqV em161 (hn150.setI t504 (kd20 _) (hn150.int t504 (kd20 _)))
  refine q_iast Ra t504 l504 gu161 em161 dX12_copies_161 ?_
  refine r_iconst Ra dX12_copies_162 ?_
  refine q_istore_n Ra 3 dX12_copies_163 rfl rfl rfl ?_
  refine k_pM_copies_L164 Ra hx1 hx2 ?_ _ _ _ _ h (Rk rfl) hm161 f150_0 f150_1 f150_2 rfl
  intro n204 h hn204 L9 
  cases h
  exact r_vret Ra hn204 dX12_copies_204
noncomputable def pM_slot (μ : Mem) (x1 : Int) : Option (Int) := some (w32 (2 + (r32 (w32 ((μ 475 51) + x1)) 20)))
set_option maxHeartbeats 4000000 in
theorem c_pM_slot {l : Launch} {en : En} {μ : Mem} {x1 : Int} {re : Int} (hV : VT μ) (hx1 : inR x1) (h : pM_slot μ x1 = some re) : CtI l en yX12_slot cX12_slot 2 0 60 [vA en 475, vI x1] μ .int re μ (inR re) := by
  refine Tr.of false (fun h => by cases h) (by decide) (Nat.le_of_ble_eq_true rfl) (fun K Ra => ?_)
  unfold pM_slot at h
  refine r_iconst Ra dX12_slot_0 ?_
  refine r_aload_n Ra (i := 0) dX12_slot_1 rfl rfl ?_
  refine q_getI Ra (x := μ 475 51) f_X12_168 t475 rfl rfl rfl rfl dX12_slot_2 ?_
  refine r_iload_n Ra (i := 1) dX12_slot_5 rfl rfl ?_
  refine r_iadd Ra dX12_slot_6 ?_
  refine r_bipush Ra dX12_slot_7 rfl ?_
  refine r_irem Ra dX12_slot_9 (Rk rfl) (by decide) ?_
  refine r_iadd Ra dX12_slot_10 ?_
  cases h
  exact r_iret Ra (inR_32 _) dX12_slot_11
noncomputable def pM_keeps (N : Nat) (μ : Mem)  : Option (Mem) := (if μ 475 52 = 20 then (some (mset μ 475 51 (r32 (w32 ((μ 475 51) + 1)) 20))).bind fun m19 => (some (mset m19 475 52 (w32 ((m19 475 52) - 1)))).bind fun m29 => some (m29) else some (μ)).bind fun n32 => (pM_slot n32 (n32 475 52)).bind fun r38 => (pM_copies N n32 r38 0).bind fun m42 => (some (mset m42 475 52 (w32 ((m42 475 52) + 1)))).bind fun m52 => some m52
set_option maxHeartbeats 4000000 in
theorem c_pM_keeps {l : Launch} {en : En} {N : Nat} {μ : Mem}  {μe : Mem} (hV : VT μ)  (h : pM_keeps N μ = some μe) : CtV l en yX12_keeps cX12_keeps 1 1 83 [vA en 475] μ μe (VT μe) := by
  refine Tr.of false (fun h => by cases h) (by decide) (Nat.le_of_ble_eq_true rfl) (fun K Ra => ?_)
  unfold pM_keeps at h
  refine r_aload_n Ra (i := 0) dX12_keeps_0 rfl rfl ?_
  refine q_getI Ra (x := μ 475 52) f_X12_171 t475 rfl rfl rfl rfl dX12_keeps_1 ?_
  refine r_bipush Ra dX12_keeps_4 rfl ?_
  obtain ⟨n32, hj32, h⟩ := bd h
  have hJ : VT n32 → ∀ L9 : Lo, L9 0 = some (vA en 475) → K ZN 32 L9 [] n32 := by
    intro hn32 L9 f32_0
    refine r_aload_n Ra (i := 0) dX12_keeps_32 rfl f32_0 ?_
    refine r_aload_n Ra (i := 0) dX12_keeps_33 rfl f32_0 ?_
    refine r_aload_n Ra (i := 0) dX12_keeps_34 rfl f32_0 ?_
    refine q_getI Ra (x := n32 475 52) f_X12_171 t475 rfl rfl rfl rfl dX12_keeps_35 ?_
    obtain ⟨r38, hr38, h⟩ := bd h
    refine q_callVI Ra (c_pM_slot hn32 (hn32.int t475 rfl) hr38) mw_X12_slot mi_X12_slot t475 rfl rfl rfl rfl rfl k_X12_411 rfl rfl dX12_keeps_38 (fun ok38 => ?_)
    refine r_iconst Ra dX12_keeps_41 ?_
    obtain ⟨m42, hr42, h⟩ := bd h
    refine q_callVV Ra (c_pM_copies hn32 ok38 (Rk rfl) hr42) mw_X12_copies mi_X12_copies t475 rfl rfl rfl rfl rfl k_X12_414 rfl rfl dX12_keeps_42 (fun ok42 => ?_)
    refine r_aload_n Ra (i := 0) dX12_keeps_45 rfl f32_0 ?_
    refine r_dupA Ra dX12_keeps_46 ?_
    refine q_getI Ra (x := m42 475 52) f_X12_171 t475 rfl rfl rfl rfl dX12_keeps_47 ?_
    refine r_iconst Ra dX12_keeps_50 ?_
    refine r_iadd Ra dX12_keeps_51 ?_
    obtain ⟨m52, em52, h⟩ := bv h
    have hm52 : VT m52 := eqV em52 (ok42.setI t475 rfl (inR_32 _))
    refine q_putI Ra f_X12_171 p_X12_52 t475 rfl rfl rfl em52 dX12_keeps_52 ?_
    cases h
    exact r_vret Ra hm52 dX12_keeps_55
  replace h := hj32
  refine r_icmp_ne Ra 32 dX12_keeps_6 (hV.int t475 rfl) (Rk rfl) rfl (fun hc => ?_) (fun hc => ?_)
  · replace h := ineg hc h
    cases h
    exact hJ hV _ rfl
  · replace h := ipos hc h
    refine r_aload_n Ra (i := 0) dX12_keeps_9 rfl rfl ?_
    refine r_aload_n Ra (i := 0) dX12_keeps_10 rfl rfl ?_
    refine q_getI Ra (x := μ 475 51) f_X12_168 t475 rfl rfl rfl rfl dX12_keeps_11 ?_
    refine r_iconst Ra dX12_keeps_14 ?_
    refine r_iadd Ra dX12_keeps_15 ?_
    refine r_bipush Ra dX12_keeps_16 rfl ?_
    refine r_irem Ra dX12_keeps_18 (Rk rfl) (by decide) ?_
    obtain ⟨m19, em19, h⟩ := bv h
    have hm19 : VT m19 := eqV em19 (hV.setI t475 rfl (inR_32 _))
    refine q_putI Ra f_X12_168 p_X12_51 t475 rfl rfl rfl em19 dX12_keeps_19 ?_
    refine r_aload_n Ra (i := 0) dX12_keeps_22 rfl rfl ?_
    refine r_dupA Ra dX12_keeps_23 ?_
    refine q_getI Ra (x := m19 475 52) f_X12_171 t475 rfl rfl rfl rfl dX12_keeps_24 ?_
    refine r_iconst Ra dX12_keeps_27 ?_
    refine r_isub Ra dX12_keeps_28 ?_
    obtain ⟨m29, em29, h⟩ := bv h
    have hm29 : VT m29 := eqV em29 (hm19.setI t475 rfl (inR_32 _))
    refine q_putI Ra f_X12_171 p_X12_52 t475 rfl rfl rfl em29 dX12_keeps_29 ?_
    cases h
    exact hJ hm29 _ rfl
noncomputable def pM_undo (N : Nat) (μ : Mem)  : Option (Int × Mem) := if μ 475 52 = 0 then (pM_refuses μ 4).bind fun (r9, m9) => if r9 < 0 then some (0, m9) else some (1, m9) else (some (mset μ 475 52 (w32 ((μ 475 52) - 1)))).bind fun m28 => (pM_slot m28 (m28 475 52)).bind fun r38 => (pM_copies N m28 0 r38).bind fun m41 => some (1, m41)
set_option maxHeartbeats 4000000 in
theorem c_pM_undo {l : Launch} {en : En} {N : Nat} {μ : Mem}  {re : Int} {μe : Mem} (hV : VT μ)  (h : pM_undo N μ = some (re, μe)) : CtI l en yX12_undo cX12_undo 1 1 83 [vA en 475] μ .boolean re μe (VT μe ∧ (re = 0 ∨ re = 1)) := by
  refine Tr.of false (fun h => by cases h) (by decide) (Nat.le_of_ble_eq_true rfl) (fun K Ra => ?_)
  unfold pM_undo at h
  refine r_aload_n Ra (i := 0) dX12_undo_0 rfl rfl ?_
  refine q_getI Ra (x := μ 475 52) f_X12_171 t475 rfl rfl rfl rfl dX12_undo_1 ?_
  refine r_if_ne Ra 21 dX12_undo_4 (hV.int t475 rfl) rfl (fun hc => ?_) (fun hc => ?_)
  · replace h := ineg hc h
    refine r_aload_n Ra (i := 0) dX12_undo_21 rfl rfl ?_
    refine r_dupA Ra dX12_undo_22 ?_
    refine q_getI Ra (x := μ 475 52) f_X12_171 t475 rfl rfl rfl rfl dX12_undo_23 ?_
    refine r_iconst Ra dX12_undo_26 ?_
    refine r_isub Ra dX12_undo_27 ?_
    obtain ⟨m28, em28, h⟩ := bv h
    have hm28 : VT m28 := eqV em28 (hV.setI t475 rfl (inR_32 _))
    refine q_putI Ra f_X12_171 p_X12_52 t475 rfl rfl rfl em28 dX12_undo_28 ?_
    refine r_aload_n Ra (i := 0) dX12_undo_31 rfl rfl ?_
    refine r_iconst Ra dX12_undo_32 ?_
    refine r_aload_n Ra (i := 0) dX12_undo_33 rfl rfl ?_
    refine r_aload_n Ra (i := 0) dX12_undo_34 rfl rfl ?_
    refine q_getI Ra (x := m28 475 52) f_X12_171 t475 rfl rfl rfl rfl dX12_undo_35 ?_
    obtain ⟨r38, hr38, h⟩ := bd h
    refine q_callVI Ra (c_pM_slot hm28 (hm28.int t475 rfl) hr38) mw_X12_slot mi_X12_slot t475 rfl rfl rfl rfl rfl k_X12_411 rfl rfl dX12_undo_38 (fun ok38 => ?_)
    obtain ⟨m41, hr41, h⟩ := bd h
    refine q_callVV Ra (c_pM_copies hm28 (Rk rfl) ok38 hr41) mw_X12_copies mi_X12_copies t475 rfl rfl rfl rfl rfl k_X12_414 rfl rfl dX12_undo_41 (fun ok41 => ?_)
    refine r_iconst Ra dX12_undo_44 ?_
    cases h
    exact r_zret Ra (Or.inr rfl) ⟨ok41, (Or.inr rfl)⟩ dX12_undo_45
  · replace h := ipos hc h
    refine r_aload_n Ra (i := 0) dX12_undo_7 rfl rfl ?_
    refine r_iconst Ra dX12_undo_8 ?_
    obtain ⟨⟨r9, m9⟩, hr9, h⟩ := bd h
    refine q_callVI Ra (c_pM_refuses hV (Rk rfl) hr9) mw_X12_refuses mi_X12_refuses t475 rfl rfl rfl rfl rfl k_X12_247 rfl rfl dX12_undo_9 (fun ok9 => ?_)
    obtain ⟨hV9, ok9⟩ := ok9
    refine r_if_lt Ra 19 dX12_undo_12 ok9 rfl (fun hc => ?_) (fun hc => ?_)
    · replace h := ipos hc h
      refine r_iconst Ra dX12_undo_19 ?_
      cases h
      exact r_zret Ra (Or.inl rfl) ⟨hV9, (Or.inl rfl)⟩ dX12_undo_20
    · replace h := ineg hc h
      refine r_iconst Ra dX12_undo_15 ?_
      refine r_goto Ra 20 dX12_undo_16 rfl ?_
      cases h
      exact r_zret Ra (Or.inr rfl) ⟨hV9, (Or.inr rfl)⟩ dX12_undo_20
noncomputable def pM_within (μ : Mem) (x0 : Int) : Option (Int) := if 1000000 < x0 then some (1000000) else if x0 < (-1000000) then some ((-1000000)) else some (x0)
set_option maxHeartbeats 4000000 in
theorem c_pM_within {l : Launch} {en : En} {μ : Mem} {x0 : Int} {re : Int} (hV : VT μ) (hx0 : inL x0) (h : pM_within μ x0 = some re) : CtJ l en yX12_within cX12_within 2 0 60 [vJ x0] μ re μ (inL re) := by
  refine Tr.of false (fun h => by cases h) (by decide) (Nat.le_of_ble_eq_true rfl) (fun K Ra => ?_)
  unfold pM_within at h
  refine r_lload_n Ra (i := 0) dX12_within_0 rfl rfl rfl ?_
  refine r_ldc2 Ra dX12_within_1 kc_X12_417 ?_
  refine r_lcmp Ra dX12_within_4 ?_
  refine q_lif_le Ra 14 dX12_within_5 hx0 (Lk rfl) rfl (fun hc => ?_) (fun hc => ?_)
  · replace h := ineg hc h
    refine r_lload_n Ra (i := 0) dX12_within_14 rfl rfl rfl ?_
    refine r_ldc2 Ra dX12_within_15 kc_X12_419 ?_
    refine r_lcmp Ra dX12_within_18 ?_
    refine q_lif_ge Ra 28 dX12_within_19 hx0 (Lk rfl) rfl (fun hc => ?_) (fun hc => ?_)
    · replace h := ineg hc h
      refine r_lload_n Ra (i := 0) dX12_within_28 rfl rfl rfl ?_
      cases h
      exact r_lret Ra hx0 dX12_within_29
    · replace h := ipos hc h
      refine r_ldc2 Ra dX12_within_22 kc_X12_419 ?_
      refine r_goto Ra 29 dX12_within_25 rfl ?_
      cases h
      exact r_lret Ra (Lk rfl) dX12_within_29
  · replace h := ipos hc h
    refine r_ldc2 Ra dX12_within_8 kc_X12_417 ?_
    refine r_goto Ra 29 dX12_within_11 rfl ?_
    cases h
    exact r_lret Ra (Lk rfl) dX12_within_29
noncomputable def pM_floor (μ : Mem) (x0 : Int) (x2 : Int) : Option (Int) := if x2 = 0 then some (0) else if x2 ≠ 0 then (some (d64 x0 x2 : Int)).bind fun x4_11 => if x2 ≠ 0 then if r64 x0 x2 = 0 then some (x4_11) else (some (if x0 < 0 then 1 else 0 : Int)).bind fun ys0_32 => (some (if x2 < 0 then 1 else 0 : Int)).bind fun ys1_43 => if ys0_32 = ys1_43 then some (x4_11) else some (w64 (x4_11 - 1)) else none else none
set_option maxHeartbeats 4000000 in
theorem c_pM_floor {l : Launch} {en : En} {μ : Mem} {x0 : Int} {x2 : Int} {re : Int} (hV : VT μ) (hx0 : inL x0) (hx2 : inL x2) (h : pM_floor μ x0 x2 = some re) : CtJ l en yX12_floor cX12_floor 6 0 60 [vJ x0, vJ x2] μ re μ (inL re) := by
  refine Tr.of false (fun h => by cases h) (by decide) (Nat.le_of_ble_eq_true rfl) (fun K Ra => ?_)
  unfold pM_floor at h
  refine r_lload_n Ra (i := 2) dX12_floor_0 rfl rfl rfl ?_
  refine r_lconst (v := 0) Ra dX12_floor_1 rfl ?_
  refine r_lcmp Ra dX12_floor_2 ?_
  refine q_lif_ne Ra 8 dX12_floor_3 hx2 (Lk rfl) rfl (fun hc => ?_) (fun hc => ?_)
  · replace h := ineg hc h
    refine r_lload_n Ra (i := 0) dX12_floor_8 rfl rfl rfl ?_
    refine r_lload_n Ra (i := 2) dX12_floor_9 rfl rfl rfl ?_
    obtain ⟨gu10, h⟩ := gd h
    refine r_ldiv Ra dX12_floor_10 hx2 gu10 ?_
    obtain ⟨x4_11, ex4_11, h⟩ := bv h
    have ix4_11 : inL x4_11 := eqL ex4_11 (inL_64 _)
    refine q_lstore Ra dX12_floor_11 rfl ex4_11 ?_
    refine r_lload_n Ra (i := 0) dX12_floor_13 rfl rfl rfl ?_
    refine r_lload_n Ra (i := 2) dX12_floor_14 rfl rfl rfl ?_
    obtain ⟨gu15, h⟩ := gd h
    refine r_lrem Ra dX12_floor_15 hx2 gu15 ?_
    refine r_lconst (v := 0) Ra dX12_floor_16 rfl ?_
    refine r_lcmp Ra dX12_floor_17 ?_
    refine q_lif_eq Ra 53 dX12_floor_18 (inL_64 _) (Lk rfl) rfl (fun hc => ?_) (fun hc => ?_)
    · replace h := ipos hc h
      refine r_lload Ra dX12_floor_53 rfl rfl ?_
      cases h
      exact r_lret Ra ix4_11 dX12_floor_55
    · replace h := ineg hc h
      refine r_lload_n Ra (i := 0) dX12_floor_21 rfl rfl rfl ?_
      refine r_lconst (v := 0) Ra dX12_floor_22 rfl ?_
      refine r_lcmp Ra dX12_floor_23 ?_
      obtain ⟨ys0_32, eys0_32, h⟩ := bv h
      have hJ : inR ys0_32 → (ys0_32 = 0 ∨ ys0_32 = 1) → ∀ L9 : Lo, L9 2 = some (vJ x2) → L9 3 = some mark → L9 4 = some (vJ x4_11) → L9 5 = some mark → K ZN 32 L9 [vI ys0_32] μ := by
        intro iys0_32 bys0_32 L9 f32_2 qf32_2 f32_4 qf32_4
        refine r_lload_n Ra (i := 2) dX12_floor_32 rfl f32_2 qf32_2 ?_
        refine r_lconst (v := 0) Ra dX12_floor_33 rfl ?_
        refine r_lcmp Ra dX12_floor_34 ?_
        obtain ⟨ys1_43, eys1_43, h⟩ := bv h
        have hJ : inR ys1_43 → (ys1_43 = 0 ∨ ys1_43 = 1) → ∀ L9 : Lo, L9 4 = some (vJ x4_11) → L9 5 = some mark → K ZN 43 L9 [vI ys1_43, vI ys0_32] μ := by
          intro iys1_43 bys1_43 L9 f43_4 qf43_4
          refine r_icmp_eq Ra 53 dX12_floor_43 iys0_32 iys1_43 rfl (fun hc => ?_) (fun hc => ?_)
          · replace h := ipos hc h
            refine r_lload Ra dX12_floor_53 f43_4 qf43_4 ?_
            cases h
            exact r_lret Ra ix4_11 dX12_floor_55
          · replace h := ineg hc h
            refine r_lload Ra dX12_floor_46 f43_4 qf43_4 ?_
            refine r_lconst (v := 1) Ra dX12_floor_48 rfl ?_
            refine r_lsub Ra dX12_floor_49 ?_
            refine r_goto Ra 55 dX12_floor_50 rfl ?_
            cases h
            exact r_lret Ra (inL_64 _) dX12_floor_55
        refine q_lif_ge Ra 42 dX12_floor_35 hx2 (Lk rfl) rfl (fun hc => ?_) (fun hc => ?_)
        · replace eys1_43 := eys1_43.trans (if_neg hc)
          refine r_iconst Ra dX12_floor_42 ?_
          subst eys1_43
          exact hJ (Rk rfl) (Or.inl rfl) _ f32_4 qf32_4
        · replace eys1_43 := eys1_43.trans (if_pos hc)
          refine r_iconst Ra dX12_floor_38 ?_
          refine r_goto Ra 43 dX12_floor_39 rfl ?_
          subst eys1_43
          exact hJ (Rk rfl) (Or.inr rfl) _ f32_4 qf32_4
      refine q_lif_ge Ra 31 dX12_floor_24 hx0 (Lk rfl) rfl (fun hc => ?_) (fun hc => ?_)
      · replace eys0_32 := eys0_32.trans (if_neg hc)
        refine r_iconst Ra dX12_floor_31 ?_
        subst eys0_32
        exact hJ (Rk rfl) (Or.inl rfl) _ rfl rfl rfl rfl
      · replace eys0_32 := eys0_32.trans (if_pos hc)
        refine r_iconst Ra dX12_floor_27 ?_
        refine r_goto Ra 32 dX12_floor_28 rfl ?_
        subst eys0_32
        exact hJ (Rk rfl) (Or.inr rfl) _ rfl rfl rfl rfl
  · replace h := ipos hc h
    refine r_lconst (v := 0) Ra dX12_floor_6 rfl ?_
    cases h
    exact r_lret Ra (Lk rfl) dX12_floor_7
noncomputable def pM_two (μ : Mem) (x0 : Int) (x1 : Int) (x3 : Int) : Option (Int) := if x0 = 31 then (pM_within μ (w64 (x1 + x3))).bind fun r63 => some (r63) else if x0 = 32 then (pM_within μ (w64 (x1 - x3))).bind fun r70 => some (r70) else if x0 = 33 then (pM_within μ (w64 (x1 * x3))).bind fun r77 => some (r77) else if x0 = 34 then (pM_floor μ x1 x3).bind fun r83 => (pM_within μ r83).bind fun r86 => some (r86) else if x0 = 35 then if x3 = 0 then some (0) else (pM_floor μ x1 x3).bind fun r104 => (pM_within μ (w64 (x1 - (w64 (x3 * r104))))).bind fun r109 => some (r109) else if x0 = 36 then if x1 < x3 then some (x1) else some (x3) else if x0 = 37 then if x3 < x1 then some (x1) else some (x3) else if x0 = 38 then if x1 < x3 then some (1) else some (0) else if x0 = 39 then if x3 < x1 then some (1) else some (0) else if x0 = 40 then if x1 = x3 then some (1) else some (0) else if x0 = 41 then some (a64 x1 x3) else some (o64 x1 x3)
set_option maxHeartbeats 4000000 in
theorem c_pM_two {l : Launch} {en : En} {μ : Mem} {x0 : Int} {x1 : Int} {x3 : Int} {re : Int} (hV : VT μ) (hx0 : inR x0) (hx1 : inL x1) (hx3 : inL x3) (h : pM_two μ x0 x1 x3 = some re) : CtJ l en yX12_two cX12_two 5 1 85 [vI x0, vJ x1, vJ x3] μ re μ (inL re) := by
  refine Tr.of false (fun h => by cases h) (by decide) (Nat.le_of_ble_eq_true rfl) (fun K Ra => ?_)
  unfold pM_two at h
  refine r_iload_n Ra (i := 0) dX12_two_0 rfl rfl ?_
  by_cases hc : x0 = 31
  · replace h := ipos hc h
    refine q_tableC Ra 60 dX12_two_1 hx0 hc rfl rfl rfl ?_
    refine r_lload_n Ra (i := 1) dX12_two_60 rfl rfl rfl ?_
    refine r_lload_n Ra (i := 3) dX12_two_61 rfl rfl rfl ?_
    refine r_ladd Ra dX12_two_62 ?_
    obtain ⟨r63, hr63, h⟩ := bd h
    refine q_callSJ Ra (c_pM_within hV (inL_64 _) hr63) mw_X12_within ms_X12_within rfl rfl k_X12_421 rfl rfl dX12_two_63 (fun ok63 => ?_)
    cases h
    exact r_lret Ra ok63 dX12_two_66
  · have hs1_0 := hc
    replace h := ineg hc h
    by_cases hc : x0 = 32
    · replace h := ipos hc h
      refine q_tableC Ra 67 dX12_two_1 hx0 hc rfl rfl rfl ?_
      refine r_lload_n Ra (i := 1) dX12_two_67 rfl rfl rfl ?_
      refine r_lload_n Ra (i := 3) dX12_two_68 rfl rfl rfl ?_
      refine r_lsub Ra dX12_two_69 ?_
      obtain ⟨r70, hr70, h⟩ := bd h
      refine q_callSJ Ra (c_pM_within hV (inL_64 _) hr70) mw_X12_within ms_X12_within rfl rfl k_X12_421 rfl rfl dX12_two_70 (fun ok70 => ?_)
      cases h
      exact r_lret Ra ok70 dX12_two_73
    · have hs1_1 := hc
      replace h := ineg hc h
      by_cases hc : x0 = 33
      · replace h := ipos hc h
        refine q_tableC Ra 74 dX12_two_1 hx0 hc rfl rfl rfl ?_
        refine r_lload_n Ra (i := 1) dX12_two_74 rfl rfl rfl ?_
        refine r_lload_n Ra (i := 3) dX12_two_75 rfl rfl rfl ?_
        refine r_lmul Ra dX12_two_76 ?_
        obtain ⟨r77, hr77, h⟩ := bd h
        refine q_callSJ Ra (c_pM_within hV (inL_64 _) hr77) mw_X12_within ms_X12_within rfl rfl k_X12_421 rfl rfl dX12_two_77 (fun ok77 => ?_)
        cases h
        exact r_lret Ra ok77 dX12_two_80
      · have hs1_2 := hc
        replace h := ineg hc h
        by_cases hc : x0 = 34
        · replace h := ipos hc h
          refine q_tableC Ra 81 dX12_two_1 hx0 hc rfl rfl rfl ?_
          refine r_lload_n Ra (i := 1) dX12_two_81 rfl rfl rfl ?_
          refine r_lload_n Ra (i := 3) dX12_two_82 rfl rfl rfl ?_
          obtain ⟨r83, hr83, h⟩ := bd h
          refine q_callSJ Ra (c_pM_floor hV hx1 hx3 hr83) mw_X12_floor ms_X12_floor rfl rfl k_X12_425 rfl rfl dX12_two_83 (fun ok83 => ?_)
          obtain ⟨r86, hr86, h⟩ := bd h
          refine q_callSJ Ra (c_pM_within hV ok83 hr86) mw_X12_within ms_X12_within rfl rfl k_X12_421 rfl rfl dX12_two_86 (fun ok86 => ?_)
          cases h
          exact r_lret Ra ok86 dX12_two_89
        · have hs1_3 := hc
          replace h := ineg hc h
          by_cases hc : x0 = 35
          · replace h := ipos hc h
            refine q_tableC Ra 90 dX12_two_1 hx0 hc rfl rfl rfl ?_
            refine r_lload_n Ra (i := 3) dX12_two_90 rfl rfl rfl ?_
            refine r_lconst (v := 0) Ra dX12_two_91 rfl ?_
            refine r_lcmp Ra dX12_two_92 ?_
            refine q_lif_ne Ra 100 dX12_two_93 hx3 (Lk rfl) rfl (fun hc => ?_) (fun hc => ?_)
            · replace h := ineg hc h
              refine r_lload_n Ra (i := 1) dX12_two_100 rfl rfl rfl ?_
              refine r_lload_n Ra (i := 3) dX12_two_101 rfl rfl rfl ?_
              refine r_lload_n Ra (i := 1) dX12_two_102 rfl rfl rfl ?_
              refine r_lload_n Ra (i := 3) dX12_two_103 rfl rfl rfl ?_
              obtain ⟨r104, hr104, h⟩ := bd h
              refine q_callSJ Ra (c_pM_floor hV hx1 hx3 hr104) mw_X12_floor ms_X12_floor rfl rfl k_X12_425 rfl rfl dX12_two_104 (fun ok104 => ?_)
              refine r_lmul Ra dX12_two_107 ?_
              refine r_lsub Ra dX12_two_108 ?_
              obtain ⟨r109, hr109, h⟩ := bd h
              refine q_callSJ Ra (c_pM_within hV (inL_64 _) hr109) mw_X12_within ms_X12_within rfl rfl k_X12_421 rfl rfl dX12_two_109 (fun ok109 => ?_)
              cases h
              exact r_lret Ra ok109 dX12_two_112
            · replace h := ipos hc h
              refine r_lconst (v := 0) Ra dX12_two_96 rfl ?_
              refine r_goto Ra 112 dX12_two_97 rfl ?_
              cases h
              exact r_lret Ra (Lk rfl) dX12_two_112
          · have hs1_4 := hc
            replace h := ineg hc h
            by_cases hc : x0 = 36
            · replace h := ipos hc h
              refine q_tableC Ra 113 dX12_two_1 hx0 hc rfl rfl rfl ?_
              refine r_lload_n Ra (i := 1) dX12_two_113 rfl rfl rfl ?_
              refine r_lload_n Ra (i := 3) dX12_two_114 rfl rfl rfl ?_
              refine r_lcmp Ra dX12_two_115 ?_
              refine q_lif_ge Ra 123 dX12_two_116 hx1 hx3 rfl (fun hc => ?_) (fun hc => ?_)
              · replace h := ineg hc h
                refine r_lload_n Ra (i := 3) dX12_two_123 rfl rfl rfl ?_
                cases h
                exact r_lret Ra hx3 dX12_two_124
              · replace h := ipos hc h
                refine r_lload_n Ra (i := 1) dX12_two_119 rfl rfl rfl ?_
                refine r_goto Ra 124 dX12_two_120 rfl ?_
                cases h
                exact r_lret Ra hx1 dX12_two_124
            · have hs1_5 := hc
              replace h := ineg hc h
              by_cases hc : x0 = 37
              · replace h := ipos hc h
                refine q_tableC Ra 125 dX12_two_1 hx0 hc rfl rfl rfl ?_
                refine r_lload_n Ra (i := 1) dX12_two_125 rfl rfl rfl ?_
                refine r_lload_n Ra (i := 3) dX12_two_126 rfl rfl rfl ?_
                refine r_lcmp Ra dX12_two_127 ?_
                refine q_lif_le Ra 135 dX12_two_128 hx1 hx3 rfl (fun hc => ?_) (fun hc => ?_)
                · replace h := ineg hc h
                  refine r_lload_n Ra (i := 3) dX12_two_135 rfl rfl rfl ?_
                  cases h
                  exact r_lret Ra hx3 dX12_two_136
                · replace h := ipos hc h
                  refine r_lload_n Ra (i := 1) dX12_two_131 rfl rfl rfl ?_
                  refine r_goto Ra 136 dX12_two_132 rfl ?_
                  cases h
                  exact r_lret Ra hx1 dX12_two_136
              · have hs1_6 := hc
                replace h := ineg hc h
                by_cases hc : x0 = 38
                · replace h := ipos hc h
                  refine q_tableC Ra 137 dX12_two_1 hx0 hc rfl rfl rfl ?_
                  refine r_lload_n Ra (i := 1) dX12_two_137 rfl rfl rfl ?_
                  refine r_lload_n Ra (i := 3) dX12_two_138 rfl rfl rfl ?_
                  refine r_lcmp Ra dX12_two_139 ?_
                  refine q_lif_ge Ra 147 dX12_two_140 hx1 hx3 rfl (fun hc => ?_) (fun hc => ?_)
                  · replace h := ineg hc h
                    refine r_lconst (v := 0) Ra dX12_two_147 rfl ?_
                    cases h
                    exact r_lret Ra (Lk rfl) dX12_two_148
                  · replace h := ipos hc h
                    refine r_lconst (v := 1) Ra dX12_two_143 rfl ?_
                    refine r_goto Ra 148 dX12_two_144 rfl ?_
                    cases h
                    exact r_lret Ra (Lk rfl) dX12_two_148
                · have hs1_7 := hc
                  replace h := ineg hc h
                  by_cases hc : x0 = 39
                  · replace h := ipos hc h
                    refine q_tableC Ra 149 dX12_two_1 hx0 hc rfl rfl rfl ?_
                    refine r_lload_n Ra (i := 1) dX12_two_149 rfl rfl rfl ?_
                    refine r_lload_n Ra (i := 3) dX12_two_150 rfl rfl rfl ?_
                    refine r_lcmp Ra dX12_two_151 ?_
                    refine q_lif_le Ra 159 dX12_two_152 hx1 hx3 rfl (fun hc => ?_) (fun hc => ?_)
                    · replace h := ineg hc h
                      refine r_lconst (v := 0) Ra dX12_two_159 rfl ?_
                      cases h
                      exact r_lret Ra (Lk rfl) dX12_two_160
                    · replace h := ipos hc h
                      refine r_lconst (v := 1) Ra dX12_two_155 rfl ?_
                      refine r_goto Ra 160 dX12_two_156 rfl ?_
                      cases h
                      exact r_lret Ra (Lk rfl) dX12_two_160
                  · have hs1_8 := hc
                    replace h := ineg hc h
                    by_cases hc : x0 = 40
                    · replace h := ipos hc h
                      refine q_tableC Ra 161 dX12_two_1 hx0 hc rfl rfl rfl ?_
                      refine r_lload_n Ra (i := 1) dX12_two_161 rfl rfl rfl ?_
                      refine r_lload_n Ra (i := 3) dX12_two_162 rfl rfl rfl ?_
                      refine r_lcmp Ra dX12_two_163 ?_
                      refine q_lif_ne Ra 171 dX12_two_164 hx1 hx3 rfl (fun hc => ?_) (fun hc => ?_)
                      · replace h := ineg hc h
                        refine r_lconst (v := 0) Ra dX12_two_171 rfl ?_
                        cases h
                        exact r_lret Ra (Lk rfl) dX12_two_172
                      · replace h := ipos hc h
                        refine r_lconst (v := 1) Ra dX12_two_167 rfl ?_
                        refine r_goto Ra 172 dX12_two_168 rfl ?_
                        cases h
                        exact r_lret Ra (Lk rfl) dX12_two_172
                    · have hs1_9 := hc
                      replace h := ineg hc h
                      by_cases hc : x0 = 41
                      · replace h := ipos hc h
                        refine q_tableC Ra 173 dX12_two_1 hx0 hc rfl rfl rfl ?_
                        refine r_lload_n Ra (i := 1) dX12_two_173 rfl rfl rfl ?_
                        refine r_lload_n Ra (i := 3) dX12_two_174 rfl rfl rfl ?_
                        refine r_land Ra dX12_two_175 ?_
                        cases h
                        exact r_lret Ra (inL_64 _) dX12_two_176
                      · have hs1_10 := hc
                        replace h := ineg hc h
                        refine q_tableD Ra 177 dX12_two_1 hx0 [31, 32, 33, 34, 35, 36, 37, 38, 39, 40, 41] (List.forall_mem_cons.mpr ⟨hs1_0, (List.forall_mem_cons.mpr ⟨hs1_1, (List.forall_mem_cons.mpr ⟨hs1_2, (List.forall_mem_cons.mpr ⟨hs1_3, (List.forall_mem_cons.mpr ⟨hs1_4, (List.forall_mem_cons.mpr ⟨hs1_5, (List.forall_mem_cons.mpr ⟨hs1_6, (List.forall_mem_cons.mpr ⟨hs1_7, (List.forall_mem_cons.mpr ⟨hs1_8, (List.forall_mem_cons.mpr ⟨hs1_9, (List.forall_mem_cons.mpr ⟨hs1_10, (fun _ h9 => absurd h9 List.not_mem_nil)⟩)⟩)⟩)⟩)⟩)⟩)⟩)⟩)⟩)⟩)⟩) rfl rfl ?_
                        refine r_lload_n Ra (i := 1) dX12_two_177 rfl rfl rfl ?_
                        refine r_lload_n Ra (i := 3) dX12_two_178 rfl rfl rfl ?_
                        refine r_lor Ra dX12_two_179 ?_
                        cases h
                        exact r_lret Ra (inL_64 _) dX12_two_180
noncomputable def pM_reckons_L25b (N : Nat) (c1 : Int) (k : Mem → Option (Int × Mem)) (self : Int → Int → Mem → Option (Int × Mem)) (x2 : Int) (x3 : Int) (μ : Mem) : Option (Int × Mem) := if 0 ≤ w32 ((w32 (3 * (μ 475 13))) + c1) ∧ w32 ((w32 (3 * (μ 475 13))) + c1) < 6 then if x3 < w32 ((w32 (1600 * (μ 475 13))) + (μ 487 (w32 ((w32 (3 * (μ 475 13))) + c1)))) then if 0 ≤ x3 ∧ x3 < 3200 then (some (μ 488 x3 : Int)).bind fun x4_57 => if 30 < x4_57 then if x4_57 = 43 then if 0 ≤ w32 (x2 - 1) ∧ w32 (x2 - 1) < 500 then if 0 ≤ w32 (x2 - 1) ∧ w32 (x2 - 1) < 500 then (some (mset μ 506 (w32 (x2 - 1)) (w64 (1 - (μ 506 (w32 (x2 - 1))))))).bind fun m136 => (some (w32 (x3 + 1) : Int)).bind fun x3_221 => self x2 x3_221 m136 else none else none else if x4_57 = 44 then (some (w32 (x2 + (-2)) : Int)).bind fun x2_147 => if 0 ≤ w32 (x2_147 - 1) ∧ w32 (x2_147 - 1) < 500 then if μ 506 (w32 (x2_147 - 1)) = 1 then if 0 ≤ x2_147 ∧ x2_147 < 500 then if 0 ≤ w32 (x2_147 - 1) ∧ w32 (x2_147 - 1) < 500 then (some (mset μ 506 (w32 (x2_147 - 1)) (μ 506 x2_147))).bind fun m187 => (some (w32 (x3 + 1) : Int)).bind fun x3_221 => self x2_147 x3_221 m187 else none else none else if 0 ≤ w32 (x2_147 + 1) ∧ w32 (x2_147 + 1) < 500 then if 0 ≤ w32 (x2_147 - 1) ∧ w32 (x2_147 - 1) < 500 then (some (mset μ 506 (w32 (x2_147 - 1)) (μ 506 (w32 (x2_147 + 1))))).bind fun m187 => (some (w32 (x3 + 1) : Int)).bind fun x3_221 => self x2_147 x3_221 m187 else none else none else none else (some (w32 (x2 + (-1)) : Int)).bind fun x2_191 => if 0 ≤ w32 (x2_191 - 1) ∧ w32 (x2_191 - 1) < 500 then if 0 ≤ x2_191 ∧ x2_191 < 500 then (pM_two μ x4_57 (μ 506 (w32 (x2_191 - 1))) (μ 506 x2_191)).bind fun r217 => if 0 ≤ w32 (x2_191 - 1) ∧ w32 (x2_191 - 1) < 500 then (some (mset μ 506 (w32 (x2_191 - 1)) r217)).bind fun m220 => (some (w32 (x3 + 1) : Int)).bind fun x3_221 => self x2_191 x3_221 m220 else none else none else none else if x4_57 = 0 then if 0 ≤ x3 ∧ x3 < 3200 then if 0 ≤ x2 ∧ x2 < 500 then (some (mset μ 506 x2 (μ 489 x3))).bind fun m105 => (some (w32 (x2 + 1) : Int)).bind fun x2_106 => (some (w32 (x3 + 1) : Int)).bind fun x3_221 => self x2_106 x3_221 m105 else none else none else if x4_57 = 30 then if 0 ≤ x2 ∧ x2 < 500 then (some (mset μ 506 x2 1)).bind fun m105 => (some (w32 (x2 + 1) : Int)).bind fun x2_106 => (some (w32 (x3 + 1) : Int)).bind fun x3_221 => self x2_106 x3_221 m105 else none else if 0 ≤ x4_57 ∧ x4_57 < 10 then if 0 ≤ x2 ∧ x2 < 500 then (some (mset μ 506 x2 (μ 507 x4_57))).bind fun m105 => (some (w32 (x2 + 1) : Int)).bind fun x2_106 => (some (w32 (x3 + 1) : Int)).bind fun x3_221 => self x2_106 x3_221 m105 else none else none else none else k μ else none
noncomputable def pM_reckons_L25 (N : Nat) (c1 : Int) (k : Mem → Option (Int × Mem)) (n : Nat) : Int → Int → Mem → Option (Int × Mem) := lpF (fun _ _ _ => none) (pM_reckons_L25b N c1 k) n
noncomputable def pM_reckons (N : Nat) (μ : Mem) (x1 : Int) : Option (Int × Mem) := if 0 ≤ w32 ((w32 (3 * (μ 475 13))) + x1) ∧ w32 ((w32 (3 * (μ 475 13))) + x1) < 6 then (some (w32 ((w32 (1600 * (μ 475 13))) + (μ 486 (w32 ((w32 (3 * (μ 475 13))) + x1)))) : Int)).bind fun x3_24 => pM_reckons_L25 N x1 (fun n227 => some (n227 506 0, n227)) N 0 x3_24 μ else none
theorem k_pM_reckons_L25 {l : Launch} {en : En} {re : Int} {μe : Mem} {N : Nat} {c1 : Int} {k : Mem → Option (Int × Mem)} {K : KT} (Ra : Ru false (some (some .long, some (vJ re), nCells, μe, 0, 0, (VT μe ∧ inL re))) l en cX12_reckons yX12_reckons.cls 5 (rmN 2 109) K) (hi1 : inR c1) (hk : ∀  (μ9 : Mem), k μ9 = some (re, μe) → VT μ9 → ∀ L9 : Lo, L9 0 = some (vA en 475) → K ZN 227 L9 [] μ9) : ∀ (n : Nat) (x2 : Int) (x3 : Int) (μ : Mem) (L : Lo), pM_reckons_L25 N c1 k n x2 x3 μ = some (re, μe) → inR x2 → inR x3 → VT μ → L 0 = some (vA en 475) → L 1 = some (vI c1) → L 2 = some (vI x2) → L 3 = some (vI x3) → K ZN 25 L [] μ := by
  intro n
  induction n with
  | zero => intro x2 x3 μ L h; cases h
  | succ n ih =>
    intro x2 x3 μ L h hx2 hx3 hV hL0 hL1 hL2 hL3
    replace h : pM_reckons_L25b N c1 k (pM_reckons_L25 N c1 k n) x2 x3 μ = some (re, μe) := h
    unfold pM_reckons_L25b at h
    refine r_iload_n Ra (i := 3) dX12_reckons_25 rfl hL3 ?_
    refine r_sipush Ra dX12_reckons_26 rfl ?_
    refine r_aload_n Ra (i := 0) dX12_reckons_29 rfl hL0 ?_
    refine q_getI Ra (x := μ 475 13) f_X12_51 t475 rfl rfl rfl rfl dX12_reckons_30 ?_
    refine r_imul Ra dX12_reckons_33 ?_
    refine r_aload_n Ra (i := 0) dX12_reckons_34 rfl hL0 ?_
    refine q_getA Ra (b := 487) f_X12_84 t475 rfl rfl rfl (hV.ref t475 rfl (by decide)) (by decide) dX12_reckons_35 ?_
    refine r_iconst Ra dX12_reckons_38 ?_
    refine r_aload_n Ra (i := 0) dX12_reckons_39 rfl hL0 ?_
    refine q_getI Ra (x := μ 475 13) f_X12_51 t475 rfl rfl rfl rfl dX12_reckons_40 ?_
    refine r_imul Ra dX12_reckons_43 ?_
    refine r_iload_n Ra (i := 1) dX12_reckons_44 rfl hL1 ?_
    refine r_iadd Ra dX12_reckons_45 ?_
    obtain ⟨gu46, h⟩ := gd h
    refine q_iald Ra t487 l487 gu46 dX12_reckons_46 ?_
    refine r_iadd Ra dX12_reckons_47 ?_
    refine r_icmp_ge Ra 227 dX12_reckons_48 hx3 (inR_32 _) rfl (fun hc => ?_) (fun hc => ?_)
    · replace h := ineg hc h
      exact hk μ h  hV _ hL0
    · replace h := ipos hc h
      refine r_aload_n Ra (i := 0) dX12_reckons_51 rfl hL0 ?_
      refine q_getA Ra (b := 488) f_X12_87 t475 rfl rfl rfl (hV.ref t475 rfl (by decide)) (by decide) dX12_reckons_52 ?_
      refine r_iload_n Ra (i := 3) dX12_reckons_55 rfl hL3 ?_
      obtain ⟨gu56, h⟩ := gd h
      refine q_iald Ra t488 l488 gu56 dX12_reckons_56 ?_
      obtain ⟨x4_57, ex4_57, h⟩ := bv h
      have ix4_57 : inR x4_57 := eqR ex4_57 (hV.int t488 (kd20 _))
      refine q_istore Ra dX12_reckons_57 rfl ex4_57 ?_
      refine r_iload Ra dX12_reckons_59 rfl ?_
      refine r_bipush Ra dX12_reckons_61 rfl ?_
      refine r_icmp_gt Ra 112 dX12_reckons_63 ix4_57 (Rk rfl) rfl (fun hc => ?_) (fun hc => ?_)
      · replace h := ipos hc h
        refine r_iload Ra dX12_reckons_112 rfl ?_
        refine r_bipush Ra dX12_reckons_114 rfl ?_
        refine r_icmp_ne Ra 140 dX12_reckons_116 ix4_57 (Rk rfl) rfl (fun hc => ?_) (fun hc => ?_)
        · replace h := ineg hc h
          refine r_iload Ra dX12_reckons_140 rfl ?_
          refine r_bipush Ra dX12_reckons_142 rfl ?_
          refine r_icmp_ne Ra 191 dX12_reckons_144 ix4_57 (Rk rfl) rfl (fun hc => ?_) (fun hc => ?_)
          · replace h := ineg hc h
            obtain ⟨x2_191, ex2_191, h⟩ := bv h
            have ix2_191 : inR x2_191 := eqR ex2_191 (inR_32 _)
            refine q_iinc Ra dX12_reckons_191 hL2 ex2_191 ?_
            refine r_aload_n Ra (i := 0) dX12_reckons_194 rfl hL0 ?_
            refine q_getA Ra (b := 506) f_X12_177 t475 rfl rfl rfl (hV.ref t475 rfl (by decide)) (by decide) dX12_reckons_195 ?_
            refine r_iload_n Ra (i := 2) dX12_reckons_198 rfl rfl ?_
            refine r_iconst Ra dX12_reckons_199 ?_
            refine r_isub Ra dX12_reckons_200 ?_
            refine r_iload Ra dX12_reckons_201 rfl ?_
            refine r_aload_n Ra (i := 0) dX12_reckons_203 rfl hL0 ?_
            refine q_getA Ra (b := 506) f_X12_177 t475 rfl rfl rfl (hV.ref t475 rfl (by decide)) (by decide) dX12_reckons_204 ?_
            refine r_iload_n Ra (i := 2) dX12_reckons_207 rfl rfl ?_
            refine r_iconst Ra dX12_reckons_208 ?_
            refine r_isub Ra dX12_reckons_209 ?_
            obtain ⟨gu210, h⟩ := gd h
            refine q_lald Ra t506 l506 gu210 dX12_reckons_210 ?_
            refine r_aload_n Ra (i := 0) dX12_reckons_211 rfl hL0 ?_
            refine q_getA Ra (b := 506) f_X12_177 t475 rfl rfl rfl (hV.ref t475 rfl (by decide)) (by decide) dX12_reckons_212 ?_
            refine r_iload_n Ra (i := 2) dX12_reckons_215 rfl rfl ?_
            obtain ⟨gu216, h⟩ := gd h
            refine q_lald Ra t506 l506 gu216 dX12_reckons_216 ?_
            obtain ⟨r217, hr217, h⟩ := bd h
            refine q_callSJ Ra (c_pM_two hV ix4_57 (hV.long t506 (kd22 _)) (hV.long t506 (kd22 _)) hr217) mw_X12_two ms_X12_two rfl rfl k_X12_429 rfl rfl dX12_reckons_217 (fun ok217 => ?_)
            obtain ⟨gu220, h⟩ := gd h
            obtain ⟨m220, em220, h⟩ := bv h
            have hm220 : VT m220 := eqV em220 (hV.setJ t506 (kd22 _) ok217)
            refine q_last Ra t506 l506 gu220 em220 dX12_reckons_220 ?_
            obtain ⟨x3_221, ex3_221, h⟩ := bv h
            have ix3_221 : inR x3_221 := eqR ex3_221 (inR_32 _)
            refine q_iinc Ra dX12_reckons_221 hL3 ex3_221 ?_
            refine r_goto Ra 25 dX12_reckons_224 rfl ?_
            exact ih x2_191 x3_221 m220 _ h ix2_191 ix3_221 hm220 hL0 hL1 rfl rfl
          · replace h := ipos hc h
            obtain ⟨x2_147, ex2_147, h⟩ := bv h
            have ix2_147 : inR x2_147 := eqR ex2_147 (inR_32 _)
            refine q_iinc Ra dX12_reckons_147 hL2 ex2_147 ?_
            refine r_aload_n Ra (i := 0) dX12_reckons_150 rfl hL0 ?_
            refine q_getA Ra (b := 506) f_X12_177 t475 rfl rfl rfl (hV.ref t475 rfl (by decide)) (by decide) dX12_reckons_151 ?_
            refine r_iload_n Ra (i := 2) dX12_reckons_154 rfl rfl ?_
            refine r_iconst Ra dX12_reckons_155 ?_
            refine r_isub Ra dX12_reckons_156 ?_
            refine r_aload_n Ra (i := 0) dX12_reckons_157 rfl hL0 ?_
            refine q_getA Ra (b := 506) f_X12_177 t475 rfl rfl rfl (hV.ref t475 rfl (by decide)) (by decide) dX12_reckons_158 ?_
            refine r_iload_n Ra (i := 2) dX12_reckons_161 rfl rfl ?_
            refine r_iconst Ra dX12_reckons_162 ?_
            refine r_isub Ra dX12_reckons_163 ?_
            obtain ⟨gu164, h⟩ := gd h
            refine q_lald Ra t506 l506 gu164 dX12_reckons_164 ?_
            refine r_lconst (v := 1) Ra dX12_reckons_165 rfl ?_
            refine r_lcmp Ra dX12_reckons_166 ?_
            refine q_lif_ne Ra 179 dX12_reckons_167 (hV.long t506 (kd22 _)) (Lk rfl) rfl (fun hc => ?_) (fun hc => ?_)
            · replace h := ineg hc h
              refine r_aload_n Ra (i := 0) dX12_reckons_179 rfl hL0 ?_
              refine q_getA Ra (b := 506) f_X12_177 t475 rfl rfl rfl (hV.ref t475 rfl (by decide)) (by decide) dX12_reckons_180 ?_
              refine r_iload_n Ra (i := 2) dX12_reckons_183 rfl rfl ?_
              refine r_iconst Ra dX12_reckons_184 ?_
              refine r_iadd Ra dX12_reckons_185 ?_
              obtain ⟨gu186, h⟩ := gd h
              refine q_lald Ra t506 l506 gu186 dX12_reckons_186 ?_
              obtain ⟨gu187, h⟩ := gd h
              obtain ⟨m187, em187, h⟩ := bv h
              have hm187 : VT m187 := eqV em187 (hV.setJ t506 (kd22 _) (hV.long t506 (kd22 _)))
              refine q_last Ra t506 l506 gu187 em187 dX12_reckons_187 ?_
              refine r_goto Ra 221 dX12_reckons_188 rfl ?_
              obtain ⟨x3_221, ex3_221, h⟩ := bv h
              have ix3_221 : inR x3_221 := eqR ex3_221 (inR_32 _)
              refine q_iinc Ra dX12_reckons_221 hL3 ex3_221 ?_
              refine r_goto Ra 25 dX12_reckons_224 rfl ?_
              exact ih x2_147 x3_221 m187 _ h ix2_147 ix3_221 hm187 hL0 hL1 rfl rfl
            · replace h := ipos hc h
              refine r_aload_n Ra (i := 0) dX12_reckons_170 rfl hL0 ?_
              refine q_getA Ra (b := 506) f_X12_177 t475 rfl rfl rfl (hV.ref t475 rfl (by decide)) (by decide) dX12_reckons_171 ?_
              refine r_iload_n Ra (i := 2) dX12_reckons_174 rfl rfl ?_
              obtain ⟨gu175, h⟩ := gd h
              refine q_lald Ra t506 l506 gu175 dX12_reckons_175 ?_
              refine r_goto Ra 187 dX12_reckons_176 rfl ?_
              obtain ⟨gu187, h⟩ := gd h
              obtain ⟨m187, em187, h⟩ := bv h
              have hm187 : VT m187 := eqV em187 (hV.setJ t506 (kd22 _) (hV.long t506 (kd22 _)))
              refine q_last Ra t506 l506 gu187 em187 dX12_reckons_187 ?_
              refine r_goto Ra 221 dX12_reckons_188 rfl ?_
              obtain ⟨x3_221, ex3_221, h⟩ := bv h
              have ix3_221 : inR x3_221 := eqR ex3_221 (inR_32 _)
              refine q_iinc Ra dX12_reckons_221 hL3 ex3_221 ?_
              refine r_goto Ra 25 dX12_reckons_224 rfl ?_
              exact ih x2_147 x3_221 m187 _ h ix2_147 ix3_221 hm187 hL0 hL1 rfl rfl
        · replace h := ipos hc h
          refine r_aload_n Ra (i := 0) dX12_reckons_119 rfl hL0 ?_
          refine q_getA Ra (b := 506) f_X12_177 t475 rfl rfl rfl (hV.ref t475 rfl (by decide)) (by decide) dX12_reckons_120 ?_
          refine r_iload_n Ra (i := 2) dX12_reckons_123 rfl hL2 ?_
          refine r_iconst Ra dX12_reckons_124 ?_
          refine r_isub Ra dX12_reckons_125 ?_
          refine r_lconst (v := 1) Ra dX12_reckons_126 rfl ?_
          refine r_aload_n Ra (i := 0) dX12_reckons_127 rfl hL0 ?_
          refine q_getA Ra (b := 506) f_X12_177 t475 rfl rfl rfl (hV.ref t475 rfl (by decide)) (by decide) dX12_reckons_128 ?_
          refine r_iload_n Ra (i := 2) dX12_reckons_131 rfl hL2 ?_
          refine r_iconst Ra dX12_reckons_132 ?_
          refine r_isub Ra dX12_reckons_133 ?_
          obtain ⟨gu134, h⟩ := gd h
          refine q_lald Ra t506 l506 gu134 dX12_reckons_134 ?_
          refine r_lsub Ra dX12_reckons_135 ?_
          obtain ⟨gu136, h⟩ := gd h
          obtain ⟨m136, em136, h⟩ := bv h
          have hm136 : VT m136 := eqV em136 (hV.setJ t506 (kd22 _) (inL_64 _))
          refine q_last Ra t506 l506 gu136 em136 dX12_reckons_136 ?_
          refine r_goto Ra 221 dX12_reckons_137 rfl ?_
          obtain ⟨x3_221, ex3_221, h⟩ := bv h
          have ix3_221 : inR x3_221 := eqR ex3_221 (inR_32 _)
          refine q_iinc Ra dX12_reckons_221 hL3 ex3_221 ?_
          refine r_goto Ra 25 dX12_reckons_224 rfl ?_
          exact ih x2 x3_221 m136 _ h hx2 ix3_221 hm136 hL0 hL1 hL2 rfl
      · replace h := ineg hc h
        refine r_aload_n Ra (i := 0) dX12_reckons_66 rfl hL0 ?_
        refine q_getA Ra (b := 506) f_X12_177 t475 rfl rfl rfl (hV.ref t475 rfl (by decide)) (by decide) dX12_reckons_67 ?_
        refine r_iload_n Ra (i := 2) dX12_reckons_70 rfl hL2 ?_
        refine r_iload Ra dX12_reckons_71 rfl ?_
        refine r_if_ne Ra 86 dX12_reckons_73 ix4_57 rfl (fun hc => ?_) (fun hc => ?_)
        · replace h := ineg hc h
          refine r_iload Ra dX12_reckons_86 rfl ?_
          refine r_bipush Ra dX12_reckons_88 rfl ?_
          refine r_icmp_ne Ra 97 dX12_reckons_90 ix4_57 (Rk rfl) rfl (fun hc => ?_) (fun hc => ?_)
          · replace h := ineg hc h
            refine r_aload_n Ra (i := 0) dX12_reckons_97 rfl hL0 ?_
            refine q_getA Ra (b := 507) f_X12_180 t475 rfl rfl rfl (hV.ref t475 rfl (by decide)) (by decide) dX12_reckons_98 ?_
            refine r_iload Ra dX12_reckons_101 rfl ?_
            obtain ⟨gu103, h⟩ := gd h
            refine q_iald Ra t507 l507 gu103 dX12_reckons_103 ?_
            refine r_i2l Ra dX12_reckons_104 (hV.int t507 (kd20 _)) ?_
            obtain ⟨gu105, h⟩ := gd h
            obtain ⟨m105, em105, h⟩ := bv h
            have hm105 : VT m105 := eqV em105 (hV.setJ t506 (kd22 _) (inL_of (hV.int t507 (kd20 _))))
            refine q_last Ra t506 l506 gu105 em105 dX12_reckons_105 ?_
            obtain ⟨x2_106, ex2_106, h⟩ := bv h
            have ix2_106 : inR x2_106 := eqR ex2_106 (inR_32 _)
            refine q_iinc Ra dX12_reckons_106 hL2 ex2_106 ?_
            refine r_goto Ra 221 dX12_reckons_109 rfl ?_
            obtain ⟨x3_221, ex3_221, h⟩ := bv h
            have ix3_221 : inR x3_221 := eqR ex3_221 (inR_32 _)
            refine q_iinc Ra dX12_reckons_221 hL3 ex3_221 ?_
            refine r_goto Ra 25 dX12_reckons_224 rfl ?_
            exact ih x2_106 x3_221 m105 _ h ix2_106 ix3_221 hm105 hL0 hL1 rfl rfl
          · replace h := ipos hc h
            refine r_lconst (v := 1) Ra dX12_reckons_93 rfl ?_
            refine r_goto Ra 105 dX12_reckons_94 rfl ?_
            obtain ⟨gu105, h⟩ := gd h
            obtain ⟨m105, em105, h⟩ := bv h
            have hm105 : VT m105 := eqV em105 (hV.setJ t506 (kd22 _) (Lk rfl))
            refine q_last Ra t506 l506 gu105 em105 dX12_reckons_105 ?_
            obtain ⟨x2_106, ex2_106, h⟩ := bv h
            have ix2_106 : inR x2_106 := eqR ex2_106 (inR_32 _)
            refine q_iinc Ra dX12_reckons_106 hL2 ex2_106 ?_
            refine r_goto Ra 221 dX12_reckons_109 rfl ?_
            obtain ⟨x3_221, ex3_221, h⟩ := bv h
            have ix3_221 : inR x3_221 := eqR ex3_221 (inR_32 _)
            refine q_iinc Ra dX12_reckons_221 hL3 ex3_221 ?_
            refine r_goto Ra 25 dX12_reckons_224 rfl ?_
            exact ih x2_106 x3_221 m105 _ h ix2_106 ix3_221 hm105 hL0 hL1 rfl rfl
        · replace h := ipos hc h
          refine r_aload_n Ra (i := 0) dX12_reckons_76 rfl hL0 ?_
          refine q_getA Ra (b := 489) f_X12_90 t475 rfl rfl rfl (hV.ref t475 rfl (by decide)) (by decide) dX12_reckons_77 ?_
          refine r_iload_n Ra (i := 3) dX12_reckons_80 rfl hL3 ?_
          obtain ⟨gu81, h⟩ := gd h
          refine q_iald Ra t489 l489 gu81 dX12_reckons_81 ?_
          refine r_i2l Ra dX12_reckons_82 (hV.int t489 (kd20 _)) ?_
          refine r_goto Ra 105 dX12_reckons_83 rfl ?_
          obtain ⟨gu105, h⟩ := gd h
          obtain ⟨m105, em105, h⟩ := bv h
          have hm105 : VT m105 := eqV em105 (hV.setJ t506 (kd22 _) (inL_of (hV.int t489 (kd20 _))))
          refine q_last Ra t506 l506 gu105 em105 dX12_reckons_105 ?_
          obtain ⟨x2_106, ex2_106, h⟩ := bv h
          have ix2_106 : inR x2_106 := eqR ex2_106 (inR_32 _)
          refine q_iinc Ra dX12_reckons_106 hL2 ex2_106 ?_
          refine r_goto Ra 221 dX12_reckons_109 rfl ?_
          obtain ⟨x3_221, ex3_221, h⟩ := bv h
          have ix3_221 : inR x3_221 := eqR ex3_221 (inR_32 _)
          refine q_iinc Ra dX12_reckons_221 hL3 ex3_221 ?_
          refine r_goto Ra 25 dX12_reckons_224 rfl ?_
          exact ih x2_106 x3_221 m105 _ h ix2_106 ix3_221 hm105 hL0 hL1 rfl rfl
set_option maxHeartbeats 4000000 in
theorem c_pM_reckons {l : Launch} {en : En} {N : Nat} {μ : Mem} {x1 : Int} {re : Int} {μe : Mem} (hV : VT μ) (hx1 : inR x1) (h : pM_reckons N μ x1 = some (re, μe)) : CtJ l en yX12_reckons cX12_reckons 5 2 109 [vA en 475, vI x1] μ re μe (VT μe ∧ inL re) := by
  refine Tr.of false (fun h => by cases h) (by decide) (Nat.le_of_ble_eq_true rfl) (fun K Ra => ?_)
  unfold pM_reckons at h
  refine r_iconst Ra dX12_reckons_0 ?_
  refine q_istore_n Ra 2 dX12_reckons_1 rfl rfl rfl ?_
  refine r_sipush Ra dX12_reckons_2 rfl ?_
  refine r_aload_n Ra (i := 0) dX12_reckons_5 rfl rfl ?_
  refine q_getI Ra (x := μ 475 13) f_X12_51 t475 rfl rfl rfl rfl dX12_reckons_6 ?_
  refine r_imul Ra dX12_reckons_9 ?_
  refine r_aload_n Ra (i := 0) dX12_reckons_10 rfl rfl ?_
  refine q_getA Ra (b := 486) f_X12_81 t475 rfl rfl rfl (hV.ref t475 rfl (by decide)) (by decide) dX12_reckons_11 ?_
  refine r_iconst Ra dX12_reckons_14 ?_
  refine r_aload_n Ra (i := 0) dX12_reckons_15 rfl rfl ?_
  refine q_getI Ra (x := μ 475 13) f_X12_51 t475 rfl rfl rfl rfl dX12_reckons_16 ?_
  refine r_imul Ra dX12_reckons_19 ?_
  refine r_iload_n Ra (i := 1) dX12_reckons_20 rfl rfl ?_
  refine r_iadd Ra dX12_reckons_21 ?_
  obtain ⟨gu22, h⟩ := gd h
  refine q_iald Ra t486 l486 gu22 dX12_reckons_22 ?_
  refine r_iadd Ra dX12_reckons_23 ?_
  obtain ⟨x3_24, ex3_24, h⟩ := bv h
  have ix3_24 : inR x3_24 := eqR ex3_24 (inR_32 _)
  refine q_istore_n Ra 3 dX12_reckons_24 rfl rfl ex3_24 ?_
  refine k_pM_reckons_L25 Ra hx1 ?_ _ _ _ _ _ h (Rk rfl) ix3_24 hV rfl rfl rfl rfl
  intro n227 h hn227 L9 f227_0
  refine r_aload_n Ra (i := 0) dX12_reckons_227 rfl f227_0 ?_
  refine q_getA Ra (b := 506) f_X12_177 t475 rfl rfl rfl (hn227.ref t475 rfl (by decide)) (by decide) dX12_reckons_228 ?_
  refine r_iconst Ra dX12_reckons_231 ?_
  refine q_lald Ra t506 l506 (by decide) dX12_reckons_232 ?_
  cases h
  exact r_lret Ra ⟨hn227, (hn227.long t506 (kd22 _))⟩ dX12_reckons_233
noncomputable def pM_tells0 (N : Nat) (μ : Mem) (x1 : Int) (x2 : Int) (x3 : Int) (x4 : Int) (x5 : Int) : Option (Int × Mem) := if 0 ≤ w32 ((w32 (3 * (μ 475 13))) + x1) ∧ w32 ((w32 (3 * (μ 475 13))) + x1) < 6 then if μ 486 (w32 ((w32 (3 * (μ 475 13))) + x1)) = (-1) then some (x5, μ) else (some (mset μ 507 1 (r32 x2 8))).bind fun m29 => (some (mset m29 507 2 (d32 x2 8))).bind fun m39 => (some (mset m39 507 3 x3)).bind fun m46 => (some (mset m46 507 4 x4)).bind fun m54 => (pM_reckons N m54 x1).bind fun (r57, m57) => if r57 < 0 then some (0, m57) else some (w32 r57, m57) else none
set_option maxHeartbeats 4000000 in
theorem c_pM_tells0 {l : Launch} {en : En} {N : Nat} {μ : Mem} {x1 : Int} {x2 : Int} {x3 : Int} {x4 : Int} {x5 : Int} {re : Int} {μe : Mem} (hV : VT μ) (hx1 : inR x1) (hx2 : inR x2) (hx3 : inR x3) (hx4 : inR x4) (hx5 : inR x5) (h : pM_tells0 N μ x1 x2 x3 x4 x5 = some (re, μe)) : CtI l en yX12_tells0 cX12_tells0 8 3 133 [vA en 475, vI x1, vI x2, vI x3, vI x4, vI x5] μ .int re μe (VT μe ∧ inR re) := by
  refine Tr.of false (fun h => by cases h) (by decide) (Nat.le_of_ble_eq_true rfl) (fun K Ra => ?_)
  unfold pM_tells0 at h
  refine r_aload_n Ra (i := 0) dX12_tells0_0 rfl rfl ?_
  refine q_getA Ra (b := 486) f_X12_81 t475 rfl rfl rfl (hV.ref t475 rfl (by decide)) (by decide) dX12_tells0_1 ?_
  refine r_iconst Ra dX12_tells0_4 ?_
  refine r_aload_n Ra (i := 0) dX12_tells0_5 rfl rfl ?_
  refine q_getI Ra (x := μ 475 13) f_X12_51 t475 rfl rfl rfl rfl dX12_tells0_6 ?_
  refine r_imul Ra dX12_tells0_9 ?_
  refine r_iload_n Ra (i := 1) dX12_tells0_10 rfl rfl ?_
  refine r_iadd Ra dX12_tells0_11 ?_
  obtain ⟨gu12, h⟩ := gd h
  refine q_iald Ra t486 l486 gu12 dX12_tells0_12 ?_
  refine r_iconst Ra dX12_tells0_13 ?_
  refine r_icmp_ne Ra 20 dX12_tells0_14 (hV.int t486 (kd20 _)) (Rk rfl) rfl (fun hc => ?_) (fun hc => ?_)
  · replace h := ineg hc h
    refine r_aload_n Ra (i := 0) dX12_tells0_20 rfl rfl ?_
    refine q_getA Ra (b := 507) f_X12_180 t475 rfl rfl rfl (hV.ref t475 rfl (by decide)) (by decide) dX12_tells0_21 ?_
    refine r_iconst Ra dX12_tells0_24 ?_
    refine r_iload_n Ra (i := 2) dX12_tells0_25 rfl rfl ?_
    refine r_bipush Ra dX12_tells0_26 rfl ?_
    refine r_irem Ra dX12_tells0_28 (Rk rfl) (by decide) ?_
    obtain ⟨m29, em29, h⟩ := bv h
    have hm29 : VT m29 := eqV em29 (hV.setI t507 (kd20 _) (inR_32 _))
    refine q_iast Ra t507 l507 (by decide) em29 dX12_tells0_29 ?_
    refine r_aload_n Ra (i := 0) dX12_tells0_30 rfl rfl ?_
    refine q_getA Ra (b := 507) f_X12_180 t475 rfl rfl rfl (hm29.ref t475 rfl (by decide)) (by decide) dX12_tells0_31 ?_
    refine r_iconst Ra dX12_tells0_34 ?_
    refine r_iload_n Ra (i := 2) dX12_tells0_35 rfl rfl ?_
    refine r_bipush Ra dX12_tells0_36 rfl ?_
    refine r_idiv Ra dX12_tells0_38 (Rk rfl) (by decide) ?_
    obtain ⟨m39, em39, h⟩ := bv h
    have hm39 : VT m39 := eqV em39 (hm29.setI t507 (kd20 _) (inR_32 _))
    refine q_iast Ra t507 l507 (by decide) em39 dX12_tells0_39 ?_
    refine r_aload_n Ra (i := 0) dX12_tells0_40 rfl rfl ?_
    refine q_getA Ra (b := 507) f_X12_180 t475 rfl rfl rfl (hm39.ref t475 rfl (by decide)) (by decide) dX12_tells0_41 ?_
    refine r_iconst Ra dX12_tells0_44 ?_
    refine r_iload_n Ra (i := 3) dX12_tells0_45 rfl rfl ?_
    obtain ⟨m46, em46, h⟩ := bv h
    have hm46 : VT m46 := eqV em46 (hm39.setI t507 (kd20 _) hx3)
    refine q_iast Ra t507 l507 (by decide) em46 dX12_tells0_46 ?_
    refine r_aload_n Ra (i := 0) dX12_tells0_47 rfl rfl ?_
    refine q_getA Ra (b := 507) f_X12_180 t475 rfl rfl rfl (hm46.ref t475 rfl (by decide)) (by decide) dX12_tells0_48 ?_
    refine r_iconst Ra dX12_tells0_51 ?_
    refine r_iload Ra dX12_tells0_52 rfl ?_
    obtain ⟨m54, em54, h⟩ := bv h
    have hm54 : VT m54 := eqV em54 (hm46.setI t507 (kd20 _) hx4)
    refine q_iast Ra t507 l507 (by decide) em54 dX12_tells0_54 ?_
    refine r_aload_n Ra (i := 0) dX12_tells0_55 rfl rfl ?_
    refine r_iload_n Ra (i := 1) dX12_tells0_56 rfl rfl ?_
    obtain ⟨⟨r57, m57⟩, hr57, h⟩ := bd h
    refine q_callVJ Ra (c_pM_reckons hm54 hx1 hr57) mw_X12_reckons mi_X12_reckons t475 rfl rfl rfl rfl rfl k_X12_433 rfl rfl dX12_tells0_57 (fun ok57 => ?_)
    obtain ⟨hV57, ok57⟩ := ok57
    refine q_lstore Ra dX12_tells0_60 rfl rfl ?_
    refine r_lload Ra dX12_tells0_62 rfl rfl ?_
    refine r_lconst (v := 0) Ra dX12_tells0_64 rfl ?_
    refine r_lcmp Ra dX12_tells0_65 ?_
    refine q_lif_ge Ra 73 dX12_tells0_66 ok57 (Lk rfl) rfl (fun hc => ?_) (fun hc => ?_)
    · replace h := ineg hc h
      refine r_lload Ra dX12_tells0_73 rfl rfl ?_
      refine r_l2i Ra dX12_tells0_75 ?_
      cases h
      exact r_iret Ra ⟨hV57, (inR_32 _)⟩ dX12_tells0_76
    · replace h := ipos hc h
      refine r_iconst Ra dX12_tells0_69 ?_
      refine r_goto Ra 76 dX12_tells0_70 rfl ?_
      cases h
      exact r_iret Ra ⟨hV57, (Rk rfl)⟩ dX12_tells0_76
  · replace h := ipos hc h
    refine r_iload Ra dX12_tells0_17 rfl ?_
    cases h
    exact r_iret Ra ⟨hV, hx5⟩ dX12_tells0_19
noncomputable def pM_isCell (μ : Mem) (x1 : Int) (x2 : Int) : Option (Int) := if μ 475 41 = 0 then some (0) else if 0 ≤ μ 475 13 ∧ μ 475 13 < 2 then (pM_is μ x1 0 (w32 ((μ 477 (μ 475 13)) - 1))).bind fun r20 => if r20 = 0 then some (0) else if 0 ≤ μ 475 13 ∧ μ 475 13 < 2 then (pM_is μ x2 0 (w32 ((μ 478 (μ 475 13)) - 1))).bind fun r39 => if r39 = 0 then some (0) else some (1) else none else none
set_option maxHeartbeats 4000000 in
theorem c_pM_isCell {l : Launch} {en : En} {μ : Mem} {x1 : Int} {x2 : Int} {re : Int} (hV : VT μ) (hx1 : inR x1) (hx2 : inR x2) (h : pM_isCell μ x1 x2 = some re) : CtI l en yX12_isCell cX12_isCell 3 1 82 [vA en 475, vI x1, vI x2] μ .boolean re μ ((re = 0 ∨ re = 1)) := by
  refine Tr.of false (fun h => by cases h) (by decide) (Nat.le_of_ble_eq_true rfl) (fun K Ra => ?_)
  unfold pM_isCell at h
  refine r_aload_n Ra (i := 0) dX12_isCell_0 rfl rfl ?_
  refine q_getZ Ra (x := μ 475 41) f_X12_138 t475 rfl rfl rfl rfl dX12_isCell_1 ?_
  refine r_if_eq Ra 49 dX12_isCell_4 (inR_01 (hV.bool t475 rfl)) rfl (fun hc => ?_) (fun hc => ?_)
  · replace h := ipos hc h
    refine r_iconst Ra dX12_isCell_49 ?_
    cases h
    exact r_zret Ra (Or.inl rfl) (Or.inl rfl) dX12_isCell_50
  · replace h := ineg hc h
    refine r_iload_n Ra (i := 1) dX12_isCell_7 rfl rfl ?_
    refine r_iconst Ra dX12_isCell_8 ?_
    refine r_aload_n Ra (i := 0) dX12_isCell_9 rfl rfl ?_
    refine q_getA Ra (b := 477) f_X12_54 t475 rfl rfl rfl (hV.ref t475 rfl (by decide)) (by decide) dX12_isCell_10 ?_
    refine r_aload_n Ra (i := 0) dX12_isCell_13 rfl rfl ?_
    refine q_getI Ra (x := μ 475 13) f_X12_51 t475 rfl rfl rfl rfl dX12_isCell_14 ?_
    obtain ⟨gu17, h⟩ := gd h
    refine q_iald Ra t477 l477 gu17 dX12_isCell_17 ?_
    refine r_iconst Ra dX12_isCell_18 ?_
    refine r_isub Ra dX12_isCell_19 ?_
    obtain ⟨r20, hr20, h⟩ := bd h
    refine q_callSI Ra (c_pM_is hV hx1 (Rk rfl) (inR_32 _) hr20) mw_X12_is ms_X12_is rfl rfl k_X12_323 rfl rfl dX12_isCell_20 (fun ok20 => ?_)
    refine r_if_eq Ra 49 dX12_isCell_23 (inR_01 ok20) rfl (fun hc => ?_) (fun hc => ?_)
    · replace h := ipos hc h
      refine r_iconst Ra dX12_isCell_49 ?_
      cases h
      exact r_zret Ra (Or.inl rfl) (Or.inl rfl) dX12_isCell_50
    · replace h := ineg hc h
      refine r_iload_n Ra (i := 2) dX12_isCell_26 rfl rfl ?_
      refine r_iconst Ra dX12_isCell_27 ?_
      refine r_aload_n Ra (i := 0) dX12_isCell_28 rfl rfl ?_
      refine q_getA Ra (b := 478) f_X12_57 t475 rfl rfl rfl (hV.ref t475 rfl (by decide)) (by decide) dX12_isCell_29 ?_
      refine r_aload_n Ra (i := 0) dX12_isCell_32 rfl rfl ?_
      refine q_getI Ra (x := μ 475 13) f_X12_51 t475 rfl rfl rfl rfl dX12_isCell_33 ?_
      obtain ⟨gu36, h⟩ := gd h
      refine q_iald Ra t478 l478 gu36 dX12_isCell_36 ?_
      refine r_iconst Ra dX12_isCell_37 ?_
      refine r_isub Ra dX12_isCell_38 ?_
      obtain ⟨r39, hr39, h⟩ := bd h
      refine q_callSI Ra (c_pM_is hV hx2 (Rk rfl) (inR_32 _) hr39) mw_X12_is ms_X12_is rfl rfl k_X12_323 rfl rfl dX12_isCell_39 (fun ok39 => ?_)
      refine r_if_eq Ra 49 dX12_isCell_42 (inR_01 ok39) rfl (fun hc => ?_) (fun hc => ?_)
      · replace h := ipos hc h
        refine r_iconst Ra dX12_isCell_49 ?_
        cases h
        exact r_zret Ra (Or.inl rfl) (Or.inl rfl) dX12_isCell_50
      · replace h := ineg hc h
        refine r_iconst Ra dX12_isCell_45 ?_
        refine r_goto Ra 50 dX12_isCell_46 rfl ?_
        cases h
        exact r_zret Ra (Or.inr rfl) (Or.inr rfl) dX12_isCell_50
noncomputable def pM_least (μ : Mem) (x0 : Int) (x1 : Int) : Option (Int) := if x0 < x1 then some (x0) else some (x1)
set_option maxHeartbeats 4000000 in
theorem c_pM_least {l : Launch} {en : En} {μ : Mem} {x0 : Int} {x1 : Int} {re : Int} (hV : VT μ) (hx0 : inR x0) (hx1 : inR x1) (h : pM_least μ x0 x1 = some re) : CtI l en yX12_least cX12_least 2 0 60 [vI x0, vI x1] μ .int re μ (inR re) := by
  refine Tr.of false (fun h => by cases h) (by decide) (Nat.le_of_ble_eq_true rfl) (fun K Ra => ?_)
  unfold pM_least at h
  refine r_iload_n Ra (i := 0) dX12_least_0 rfl rfl ?_
  refine r_iload_n Ra (i := 1) dX12_least_1 rfl rfl ?_
  refine r_icmp_ge Ra 9 dX12_least_2 hx0 hx1 rfl (fun hc => ?_) (fun hc => ?_)
  · replace h := ineg hc h
    refine r_iload_n Ra (i := 1) dX12_least_9 rfl rfl ?_
    cases h
    exact r_iret Ra hx1 dX12_least_10
  · replace h := ipos hc h
    refine r_iload_n Ra (i := 0) dX12_least_5 rfl rfl ?_
    refine r_goto Ra 10 dX12_least_6 rfl ?_
    cases h
    exact r_iret Ra hx0 dX12_least_10
noncomputable def pM_stepTo (μ : Mem) (x1 : Int) (x2 : Int) : Option (Int) := (some (if x2 = 1 then (-1) else if x2 = 2 then 1 else 0 : Int)).bind fun ys1_23 => (some (w32 ((r32 x1 8) + ys1_23) : Int)).bind fun x3_24 => (some (if x2 = 3 then (-1) else if x2 = 4 then 1 else 0 : Int)).bind fun ys1_48 => (some (w32 ((d32 x1 8) + ys1_48) : Int)).bind fun x4_49 => (pM_isCell μ x3_24 x4_49).bind fun r55 => if r55 = 0 then some ((-1)) else some (w32 ((w32 (8 * x4_49)) + x3_24))
set_option maxHeartbeats 4000000 in
theorem c_pM_stepTo {l : Launch} {en : En} {μ : Mem} {x1 : Int} {x2 : Int} {re : Int} (hV : VT μ) (hx1 : inR x1) (hx2 : inR x2) (h : pM_stepTo μ x1 x2 = some re) : CtI l en yX12_stepTo cX12_stepTo 5 2 104 [vA en 475, vI x1, vI x2] μ .int re μ (inR re) := by
  refine Tr.of false (fun h => by cases h) (by decide) (Nat.le_of_ble_eq_true rfl) (fun K Ra => ?_)
  unfold pM_stepTo at h
  refine r_iload_n Ra (i := 1) dX12_stepTo_0 rfl rfl ?_
  refine r_bipush Ra dX12_stepTo_1 rfl ?_
  refine r_irem Ra dX12_stepTo_3 (Rk rfl) (by decide) ?_
  refine r_iload_n Ra (i := 2) dX12_stepTo_4 rfl rfl ?_
  refine r_iconst Ra dX12_stepTo_5 ?_
  obtain ⟨ys1_23, eys1_23, h⟩ := bv h
  have hJ : inR ys1_23 → ∀ L9 : Lo, L9 0 = some (vA en 475) → L9 1 = some (vI x1) → L9 2 = some (vI x2) → K ZN 23 L9 [vI ys1_23, vI (r32 x1 8)] μ := by
    intro iys1_23 L9 f23_0 f23_1 f23_2
    refine r_iadd Ra dX12_stepTo_23 ?_
    obtain ⟨x3_24, ex3_24, h⟩ := bv h
    have ix3_24 : inR x3_24 := eqR ex3_24 (inR_32 _)
    refine q_istore_n Ra 3 dX12_stepTo_24 rfl rfl ex3_24 ?_
    refine r_iload_n Ra (i := 1) dX12_stepTo_25 rfl f23_1 ?_
    refine r_bipush Ra dX12_stepTo_26 rfl ?_
    refine r_idiv Ra dX12_stepTo_28 (Rk rfl) (by decide) ?_
    refine r_iload_n Ra (i := 2) dX12_stepTo_29 rfl f23_2 ?_
    refine r_iconst Ra dX12_stepTo_30 ?_
    obtain ⟨ys1_48, eys1_48, h⟩ := bv h
    have hJ : inR ys1_48 → ∀ L9 : Lo, L9 0 = some (vA en 475) → L9 3 = some (vI x3_24) → K ZN 48 L9 [vI ys1_48, vI (d32 x1 8)] μ := by
      intro iys1_48 L9 f48_0 f48_3
      refine r_iadd Ra dX12_stepTo_48 ?_
      obtain ⟨x4_49, ex4_49, h⟩ := bv h
      have ix4_49 : inR x4_49 := eqR ex4_49 (inR_32 _)
      refine q_istore Ra dX12_stepTo_49 rfl ex4_49 ?_
      refine r_aload_n Ra (i := 0) dX12_stepTo_51 rfl f48_0 ?_
      refine r_iload_n Ra (i := 3) dX12_stepTo_52 rfl f48_3 ?_
      refine r_iload Ra dX12_stepTo_53 rfl ?_
      obtain ⟨r55, hr55, h⟩ := bd h
      refine q_callVI Ra (c_pM_isCell hV ix3_24 ix4_49 hr55) mw_X12_isCell mi_X12_isCell t475 rfl rfl rfl rfl rfl k_X12_437 rfl rfl dX12_stepTo_55 (fun ok55 => ?_)
      refine r_if_eq Ra 71 dX12_stepTo_58 (inR_01 ok55) rfl (fun hc => ?_) (fun hc => ?_)
      · replace h := ipos hc h
        refine r_iconst Ra dX12_stepTo_71 ?_
        cases h
        exact r_iret Ra (Rk rfl) dX12_stepTo_72
      · replace h := ineg hc h
        refine r_bipush Ra dX12_stepTo_61 rfl ?_
        refine r_iload Ra dX12_stepTo_63 rfl ?_
        refine r_imul Ra dX12_stepTo_65 ?_
        refine r_iload_n Ra (i := 3) dX12_stepTo_66 rfl f48_3 ?_
        refine r_iadd Ra dX12_stepTo_67 ?_
        refine r_goto Ra 72 dX12_stepTo_68 rfl ?_
        cases h
        exact r_iret Ra (inR_32 _) dX12_stepTo_72
    refine r_icmp_ne Ra 38 dX12_stepTo_31 hx2 (Rk rfl) rfl (fun hc => ?_) (fun hc => ?_)
    · replace eys1_48 := eys1_48.trans (if_neg hc)
      refine r_iload_n Ra (i := 2) dX12_stepTo_38 rfl f23_2 ?_
      refine r_iconst Ra dX12_stepTo_39 ?_
      refine r_icmp_ne Ra 47 dX12_stepTo_40 hx2 (Rk rfl) rfl (fun hc => ?_) (fun hc => ?_)
      · replace eys1_48 := eys1_48.trans (if_neg hc)
        refine r_iconst Ra dX12_stepTo_47 ?_
        subst eys1_48
        exact hJ (Rk rfl) _ f23_0 rfl
      · replace eys1_48 := eys1_48.trans (if_pos hc)
        refine r_iconst Ra dX12_stepTo_43 ?_
        refine r_goto Ra 48 dX12_stepTo_44 rfl ?_
        subst eys1_48
        exact hJ (Rk rfl) _ f23_0 rfl
    · replace eys1_48 := eys1_48.trans (if_pos hc)
      refine r_iconst Ra dX12_stepTo_34 ?_
      refine r_goto Ra 48 dX12_stepTo_35 rfl ?_
      subst eys1_48
      exact hJ (Rk rfl) _ f23_0 rfl
  refine r_icmp_ne Ra 13 dX12_stepTo_6 hx2 (Rk rfl) rfl (fun hc => ?_) (fun hc => ?_)
  · replace eys1_23 := eys1_23.trans (if_neg hc)
    refine r_iload_n Ra (i := 2) dX12_stepTo_13 rfl rfl ?_
    refine r_iconst Ra dX12_stepTo_14 ?_
    refine r_icmp_ne Ra 22 dX12_stepTo_15 hx2 (Rk rfl) rfl (fun hc => ?_) (fun hc => ?_)
    · replace eys1_23 := eys1_23.trans (if_neg hc)
      refine r_iconst Ra dX12_stepTo_22 ?_
      subst eys1_23
      exact hJ (Rk rfl) _ rfl rfl rfl
    · replace eys1_23 := eys1_23.trans (if_pos hc)
      refine r_iconst Ra dX12_stepTo_18 ?_
      refine r_goto Ra 23 dX12_stepTo_19 rfl ?_
      subst eys1_23
      exact hJ (Rk rfl) _ rfl rfl rfl
  · replace eys1_23 := eys1_23.trans (if_pos hc)
    refine r_iconst Ra dX12_stepTo_9 ?_
    refine r_goto Ra 23 dX12_stepTo_10 rfl ?_
    subst eys1_23
    exact hJ (Rk rfl) _ rfl rfl rfl
noncomputable def pM_wettest_L4b (N : Nat) (μ : Mem) (c1 : Int) (k : Int → Option (Int)) (self : Int → Int → Option (Int)) (x2 : Int) (x3 : Int) : Option (Int) := if x3 < 5 then (pM_stepTo μ c1 x3).bind fun r12 => if r12 = (-1) then (some (w32 (x3 + 1) : Int)).bind fun x3_42 => self x2 x3_42 else if 0 ≤ r12 ∧ r12 < 64 then if 0 ≤ x2 ∧ x2 < 64 then if μ 508 x2 < μ 508 r12 then (some (w32 (x3 + 1) : Int)).bind fun x3_42 => self r12 x3_42 else (some (w32 (x3 + 1) : Int)).bind fun x3_42 => self x2 x3_42 else none else none else k x2
noncomputable def pM_wettest_L4 (N : Nat) (μ : Mem) (c1 : Int) (k : Int → Option (Int)) (n : Nat) : Int → Int → Option (Int) := lpF (fun _ _ => none) (pM_wettest_L4b N μ c1 k) n
noncomputable def pM_wettest (N : Nat) (μ : Mem) (x1 : Int) : Option (Int) := pM_wettest_L4 N μ x1 (fun z2_48 => some (z2_48)) N x1 1
theorem k_pM_wettest_L4 {l : Launch} {en : En} {re : Int} {N : Nat} {μ : Mem} (hV : VT μ) {c1 : Int} {k : Int → Option (Int)} {K : KT} (Ra : Ru false (some (some .int, some (vI re), nCells, μ, 0, 0, (inR re))) l en cX12_wettest yX12_wettest.cls 5 (rmN 3 128) K) (hi1 : inR c1) (hk : ∀ (z2 : Int), k z2 = some re → inR z2 → ∀ L9 : Lo, L9 2 = some (vI z2) → K ZN 48 L9 [] μ) : ∀ (n : Nat) (x2 : Int) (x3 : Int) (L : Lo), pM_wettest_L4 N μ c1 k n x2 x3 = some re → inR x2 → inR x3 → L 0 = some (vA en 475) → L 1 = some (vI c1) → L 2 = some (vI x2) → L 3 = some (vI x3) → K ZN 4 L [] μ := by
  intro n
  induction n with
  | zero => intro x2 x3 L h; cases h
  | succ n ih =>
    intro x2 x3 L h hx2 hx3 hL0 hL1 hL2 hL3
    replace h : pM_wettest_L4b N μ c1 k (pM_wettest_L4 N μ c1 k n) x2 x3 = some re := h
    unfold pM_wettest_L4b at h
    refine r_iload_n Ra (i := 3) dX12_wettest_4 rfl hL3 ?_
    refine r_iconst Ra dX12_wettest_5 ?_
    refine r_icmp_ge Ra 48 dX12_wettest_6 hx3 (Rk rfl) rfl (fun hc => ?_) (fun hc => ?_)
    · replace h := ineg hc h
      exact hk x2 h hx2 _ hL2
    · replace h := ipos hc h
      refine r_aload_n Ra (i := 0) dX12_wettest_9 rfl hL0 ?_
      refine r_iload_n Ra (i := 1) dX12_wettest_10 rfl hL1 ?_
      refine r_iload_n Ra (i := 3) dX12_wettest_11 rfl hL3 ?_
      obtain ⟨r12, hr12, h⟩ := bd h
      refine q_callVI Ra (c_pM_stepTo hV hi1 hx3 hr12) mw_X12_stepTo mi_X12_stepTo t475 rfl rfl rfl rfl rfl k_X12_441 rfl rfl dX12_wettest_12 (fun ok12 => ?_)
      refine q_istore Ra dX12_wettest_15 rfl rfl ?_
      refine r_iload Ra dX12_wettest_17 rfl ?_
      refine r_iconst Ra dX12_wettest_19 ?_
      refine r_icmp_eq Ra 42 dX12_wettest_20 ok12 (Rk rfl) rfl (fun hc => ?_) (fun hc => ?_)
      · replace h := ipos hc h
        obtain ⟨x3_42, ex3_42, h⟩ := bv h
        have ix3_42 : inR x3_42 := eqR ex3_42 (inR_32 _)
        refine q_iinc Ra dX12_wettest_42 hL3 ex3_42 ?_
        refine r_goto Ra 4 dX12_wettest_45 rfl ?_
        exact ih x2 x3_42 _ h hx2 ix3_42 hL0 hL1 hL2 rfl
      · replace h := ineg hc h
        refine r_aload_n Ra (i := 0) dX12_wettest_23 rfl hL0 ?_
        refine q_getA Ra (b := 508) f_X12_183 t475 rfl rfl rfl (hV.ref t475 rfl (by decide)) (by decide) dX12_wettest_24 ?_
        refine r_iload Ra dX12_wettest_27 rfl ?_
        obtain ⟨gu29, h⟩ := gd h
        refine q_iald Ra t508 l508 gu29 dX12_wettest_29 ?_
        refine r_aload_n Ra (i := 0) dX12_wettest_30 rfl hL0 ?_
        refine q_getA Ra (b := 508) f_X12_183 t475 rfl rfl rfl (hV.ref t475 rfl (by decide)) (by decide) dX12_wettest_31 ?_
        refine r_iload_n Ra (i := 2) dX12_wettest_34 rfl hL2 ?_
        obtain ⟨gu35, h⟩ := gd h
        refine q_iald Ra t508 l508 gu35 dX12_wettest_35 ?_
        refine r_icmp_le Ra 42 dX12_wettest_36 (hV.int t508 (kd20 _)) (hV.int t508 (kd20 _)) rfl (fun hc => ?_) (fun hc => ?_)
        · replace h := ineg hc h
          obtain ⟨x3_42, ex3_42, h⟩ := bv h
          have ix3_42 : inR x3_42 := eqR ex3_42 (inR_32 _)
          refine q_iinc Ra dX12_wettest_42 hL3 ex3_42 ?_
          refine r_goto Ra 4 dX12_wettest_45 rfl ?_
          exact ih x2 x3_42 _ h hx2 ix3_42 hL0 hL1 hL2 rfl
        · replace h := ipos hc h
          refine r_iload Ra dX12_wettest_39 rfl ?_
          refine q_istore_n Ra 2 dX12_wettest_41 rfl rfl rfl ?_
          obtain ⟨x3_42, ex3_42, h⟩ := bv h
          have ix3_42 : inR x3_42 := eqR ex3_42 (inR_32 _)
          refine q_iinc Ra dX12_wettest_42 hL3 ex3_42 ?_
          refine r_goto Ra 4 dX12_wettest_45 rfl ?_
          exact ih r12 x3_42 _ h ok12 ix3_42 hL0 hL1 rfl rfl
set_option maxHeartbeats 4000000 in
theorem c_pM_wettest {l : Launch} {en : En} {N : Nat} {μ : Mem} {x1 : Int} {re : Int} (hV : VT μ) (hx1 : inR x1) (h : pM_wettest N μ x1 = some re) : CtI l en yX12_wettest cX12_wettest 5 3 128 [vA en 475, vI x1] μ .int re μ (inR re) := by
  refine Tr.of false (fun h => by cases h) (by decide) (Nat.le_of_ble_eq_true rfl) (fun K Ra => ?_)
  unfold pM_wettest at h
  refine r_iload_n Ra (i := 1) dX12_wettest_0 rfl rfl ?_
  refine q_istore_n Ra 2 dX12_wettest_1 rfl rfl rfl ?_
  refine r_iconst Ra dX12_wettest_2 ?_
  refine q_istore_n Ra 3 dX12_wettest_3 rfl rfl rfl ?_
  refine k_pM_wettest_L4 hV Ra hx1 ?_ _ _ _ _ h hx1 (Rk rfl) rfl rfl rfl rfl
  intro z2_48 h iz2_48 L9 f48_2
  refine r_iload_n Ra (i := 2) dX12_wettest_48 rfl f48_2 ?_
  cases h
  exact r_iret Ra iz2_48 dX12_wettest_49
noncomputable def pM_works (N : Nat) (μ : Mem) (x1 : Int) (x2 : Int) (x3 : Int) : Option (Int × Mem) := (if x2 = μ 475 62 then (pM_is μ x3 (μ 475 63) (w32 ((w32 ((μ 475 63) + (μ 475 64))) - 1))).bind fun r24 => if r24 = 0 then if 0 ≤ x2 ∧ x2 < 6 then (pM_wettest N μ (μ 509 x2)).bind fun r61 => some (r61) else none else if 0 ≤ x2 ∧ x2 < 6 then if 0 ≤ w32 (x3 - (μ 475 63)) ∧ w32 (x3 - (μ 475 63)) < 5 then (pM_stepTo μ (μ 509 x2) (μ 514 (w32 (x3 - (μ 475 63))))).bind fun r48 => some (r48) else none else none else if 0 ≤ x2 ∧ x2 < 6 then (pM_wettest N μ (μ 509 x2)).bind fun r61 => some (r61) else none).bind fun ys0_64 => if ys0_64 = (-1) then some (0, μ) else if 0 ≤ x2 ∧ x2 < 6 then (some (mset μ 509 x2 ys0_64)).bind fun m81 => (some (mset m81 507 5 x3)).bind fun m88 => if 0 ≤ x2 ∧ x2 < 6 then (some (mset m88 507 6 (m88 510 x2))).bind fun m101 => if 0 ≤ w32 ((w32 (6 * x1)) + x2) ∧ w32 ((w32 (6 * x1)) + x2) < 132 then (some (mset m101 507 7 (m101 502 (w32 ((w32 (6 * x1)) + x2))))).bind fun m119 => if 0 ≤ ys0_64 ∧ ys0_64 < 64 then if 0 ≤ x1 ∧ x1 < 22 then (pM_tells0 N m119 2 ys0_64 (m119 508 ys0_64) (m119 498 x1) 9).bind fun (r139, m139) => if 0 ≤ ys0_64 ∧ ys0_64 < 64 then if 0 ≤ w32 ((w32 (6 * x1)) + x2) ∧ w32 ((w32 (6 * x1)) + x2) < 132 then if 0 ≤ x2 ∧ x2 < 6 then (pM_least m139 (m139 508 ys0_64) (w32 ((m139 502 (w32 ((w32 (6 * x1)) + x2))) - (m139 510 x2)))).bind fun r171 => (pM_least m139 r139 r171).bind fun r174 => if 0 ≤ ys0_64 ∧ ys0_64 < 64 then if 0 ≤ ys0_64 ∧ ys0_64 < 64 then (some (mset m139 508 ys0_64 (w32 ((m139 508 ys0_64) - r174)))).bind fun m190 => if 0 ≤ x2 ∧ x2 < 6 then if 0 ≤ x2 ∧ x2 < 6 then (some (mset m190 510 x2 (w32 ((m190 510 x2) + r174)))).bind fun m201 => some (1, m201) else none else none else none else none else none else none else none else none else none else none else none else none
set_option maxHeartbeats 4000000 in
theorem c_pM_works {l : Launch} {en : En} {N : Nat} {μ : Mem} {x1 : Int} {x2 : Int} {x3 : Int} {re : Int} {μe : Mem} (hV : VT μ) (hx1 : inR x1) (hx2 : inR x2) (hx3 : inR x3) (h : pM_works N μ x1 x2 x3 = some (re, μe)) : CtI l en yX12_works cX12_works 6 4 160 [vA en 475, vI x1, vI x2, vI x3] μ .boolean re μe (VT μe ∧ (re = 0 ∨ re = 1)) := by
  refine Tr.of false (fun h => by cases h) (by decide) (Nat.le_of_ble_eq_true rfl) (fun K Ra => ?_)
  unfold pM_works at h
  refine r_iload_n Ra (i := 2) dX12_works_0 rfl rfl ?_
  refine r_aload_n Ra (i := 0) dX12_works_1 rfl rfl ?_
  refine q_getI Ra (x := μ 475 62) f_X12_201 t475 rfl rfl rfl rfl dX12_works_2 ?_
  obtain ⟨ys0_64, hj64, h⟩ := bd h
  have hJ : inR ys0_64 → ∀ L9 : Lo, L9 0 = some (vA en 475) → L9 1 = some (vI x1) → L9 2 = some (vI x2) → L9 3 = some (vI x3) → K ZN 64 L9 [vI ys0_64] μ := by
    intro iys0_64 L9 f64_0 f64_1 f64_2 f64_3
    refine q_istore Ra dX12_works_64 rfl rfl ?_
    refine r_iload Ra dX12_works_66 rfl ?_
    refine r_iconst Ra dX12_works_68 ?_
    refine r_icmp_ne Ra 74 dX12_works_69 iys0_64 (Rk rfl) rfl (fun hc => ?_) (fun hc => ?_)
    · replace h := ineg hc h
      refine r_aload_n Ra (i := 0) dX12_works_74 rfl f64_0 ?_
      refine q_getA Ra (b := 509) f_X12_186 t475 rfl rfl rfl (hV.ref t475 rfl (by decide)) (by decide) dX12_works_75 ?_
      refine r_iload_n Ra (i := 2) dX12_works_78 rfl f64_2 ?_
      refine r_iload Ra dX12_works_79 rfl ?_
      obtain ⟨gu81, h⟩ := gd h
      obtain ⟨m81, em81, h⟩ := bv h
      have hm81 : VT m81 := eqV em81 (hV.setI t509 (kd20 _) iys0_64)
      refine q_iast Ra t509 l509 gu81 em81 dX12_works_81 ?_
      refine r_aload_n Ra (i := 0) dX12_works_82 rfl f64_0 ?_
      refine q_getA Ra (b := 507) f_X12_180 t475 rfl rfl rfl (hm81.ref t475 rfl (by decide)) (by decide) dX12_works_83 ?_
      refine r_iconst Ra dX12_works_86 ?_
      refine r_iload_n Ra (i := 3) dX12_works_87 rfl f64_3 ?_
      obtain ⟨m88, em88, h⟩ := bv h
      have hm88 : VT m88 := eqV em88 (hm81.setI t507 (kd20 _) hx3)
      refine q_iast Ra t507 l507 (by decide) em88 dX12_works_88 ?_
      refine r_aload_n Ra (i := 0) dX12_works_89 rfl f64_0 ?_
      refine q_getA Ra (b := 507) f_X12_180 t475 rfl rfl rfl (hm88.ref t475 rfl (by decide)) (by decide) dX12_works_90 ?_
      refine r_bipush Ra dX12_works_93 rfl ?_
      refine r_aload_n Ra (i := 0) dX12_works_95 rfl f64_0 ?_
      refine q_getA Ra (b := 510) f_X12_189 t475 rfl rfl rfl (hm88.ref t475 rfl (by decide)) (by decide) dX12_works_96 ?_
      refine r_iload_n Ra (i := 2) dX12_works_99 rfl f64_2 ?_
      obtain ⟨gu100, h⟩ := gd h
      refine q_iald Ra t510 l510 gu100 dX12_works_100 ?_
      obtain ⟨m101, em101, h⟩ := bv h
      have hm101 : VT m101 := eqV em101 (hm88.setI t507 (kd20 _) (hm88.int t510 (kd20 _)))
      refine q_iast Ra t507 l507 (by decide) em101 dX12_works_101 ?_
      refine r_aload_n Ra (i := 0) dX12_works_102 rfl f64_0 ?_
      refine q_getA Ra (b := 507) f_X12_180 t475 rfl rfl rfl (hm101.ref t475 rfl (by decide)) (by decide) dX12_works_103 ?_
      refine r_bipush Ra dX12_works_106 rfl ?_
      refine r_aload_n Ra (i := 0) dX12_works_108 rfl f64_0 ?_
      refine q_getA Ra (b := 502) f_X12_156 t475 rfl rfl rfl (hm101.ref t475 rfl (by decide)) (by decide) dX12_works_109 ?_
      refine r_bipush Ra dX12_works_112 rfl ?_
      refine r_iload_n Ra (i := 1) dX12_works_114 rfl f64_1 ?_
      refine r_imul Ra dX12_works_115 ?_
      refine r_iload_n Ra (i := 2) dX12_works_116 rfl f64_2 ?_
      refine r_iadd Ra dX12_works_117 ?_
      obtain ⟨gu118, h⟩ := gd h
      refine q_iald Ra t502 l502 gu118 dX12_works_118 ?_
      obtain ⟨m119, em119, h⟩ := bv h
      have hm119 : VT m119 := eqV em119 (hm101.setI t507 (kd20 _) (hm101.int t502 (kd20 _)))
      refine q_iast Ra t507 l507 (by decide) em119 dX12_works_119 ?_
      refine r_aload_n Ra (i := 0) dX12_works_120 rfl f64_0 ?_
      refine r_iconst Ra dX12_works_121 ?_
      refine r_iload Ra dX12_works_122 rfl ?_
      refine r_aload_n Ra (i := 0) dX12_works_124 rfl f64_0 ?_
      refine q_getA Ra (b := 508) f_X12_183 t475 rfl rfl rfl (hm119.ref t475 rfl (by decide)) (by decide) dX12_works_125 ?_
      refine r_iload Ra dX12_works_128 rfl ?_
      obtain ⟨gu130, h⟩ := gd h
      refine q_iald Ra t508 l508 gu130 dX12_works_130 ?_
      refine r_aload_n Ra (i := 0) dX12_works_131 rfl f64_0 ?_
      refine q_getA Ra (b := 498) f_X12_144 t475 rfl rfl rfl (hm119.ref t475 rfl (by decide)) (by decide) dX12_works_132 ?_
      refine r_iload_n Ra (i := 1) dX12_works_135 rfl f64_1 ?_
      obtain ⟨gu136, h⟩ := gd h
      refine q_iald Ra t498 l498 gu136 dX12_works_136 ?_
      refine r_bipush Ra dX12_works_137 rfl ?_
      obtain ⟨⟨r139, m139⟩, hr139, h⟩ := bd h
      refine q_callVI Ra (c_pM_tells0 hm119 (Rk rfl) iys0_64 (hm119.int t508 (kd20 _)) (hm119.int t498 (kd20 _)) (Rk rfl) hr139) mw_X12_tells0 mi_X12_tells0 t475 rfl rfl rfl rfl rfl k_X12_447 rfl rfl dX12_works_139 (fun ok139 => ?_)
      obtain ⟨hV139, ok139⟩ := ok139
      refine q_istore Ra dX12_works_142 rfl rfl ?_
      refine r_iload Ra dX12_works_144 rfl ?_
      refine r_aload_n Ra (i := 0) dX12_works_146 rfl f64_0 ?_
      refine q_getA Ra (b := 508) f_X12_183 t475 rfl rfl rfl (hV139.ref t475 rfl (by decide)) (by decide) dX12_works_147 ?_
      refine r_iload Ra dX12_works_150 rfl ?_
      obtain ⟨gu152, h⟩ := gd h
      refine q_iald Ra t508 l508 gu152 dX12_works_152 ?_
      refine r_aload_n Ra (i := 0) dX12_works_153 rfl f64_0 ?_
      refine q_getA Ra (b := 502) f_X12_156 t475 rfl rfl rfl (hV139.ref t475 rfl (by decide)) (by decide) dX12_works_154 ?_
      refine r_bipush Ra dX12_works_157 rfl ?_
      refine r_iload_n Ra (i := 1) dX12_works_159 rfl f64_1 ?_
      refine r_imul Ra dX12_works_160 ?_
      refine r_iload_n Ra (i := 2) dX12_works_161 rfl f64_2 ?_
      refine r_iadd Ra dX12_works_162 ?_
      obtain ⟨gu163, h⟩ := gd h
      refine q_iald Ra t502 l502 gu163 dX12_works_163 ?_
      refine r_aload_n Ra (i := 0) dX12_works_164 rfl f64_0 ?_
      refine q_getA Ra (b := 510) f_X12_189 t475 rfl rfl rfl (hV139.ref t475 rfl (by decide)) (by decide) dX12_works_165 ?_
      refine r_iload_n Ra (i := 2) dX12_works_168 rfl f64_2 ?_
      obtain ⟨gu169, h⟩ := gd h
      refine q_iald Ra t510 l510 gu169 dX12_works_169 ?_
      refine r_isub Ra dX12_works_170 ?_
      obtain ⟨r171, hr171, h⟩ := bd h
      refine q_callSI Ra (c_pM_least hV139 (hV139.int t508 (kd20 _)) (inR_32 _) hr171) mw_X12_least ms_X12_least rfl rfl k_X12_451 rfl rfl dX12_works_171 (fun ok171 => ?_)
      obtain ⟨r174, hr174, h⟩ := bd h
      refine q_callSI Ra (c_pM_least hV139 ok139 ok171 hr174) mw_X12_least ms_X12_least rfl rfl k_X12_451 rfl rfl dX12_works_174 (fun ok174 => ?_)
      refine q_istore Ra dX12_works_177 rfl rfl ?_
      refine r_aload_n Ra (i := 0) dX12_works_179 rfl f64_0 ?_
      refine q_getA Ra (b := 508) f_X12_183 t475 rfl rfl rfl (hV139.ref t475 rfl (by decide)) (by decide) dX12_works_180 ?_
      refine r_iload Ra dX12_works_183 rfl ?_
      refine r_dup2 Ra dX12_works_185 ?_
      obtain ⟨gu186, h⟩ := gd h
      refine q_iald Ra t508 l508 gu186 dX12_works_186 ?_
      refine r_iload Ra dX12_works_187 rfl ?_
      refine r_isub Ra dX12_works_189 ?_
      obtain ⟨gu190, h⟩ := gd h
      obtain ⟨m190, em190, h⟩ := bv h
      have hm190 : VT m190 := eqV em190 (hV139.setI t508 (kd20 _) (inR_32 _))
      refine q_iast Ra t508 l508 gu190 em190 dX12_works_190 ?_
      refine r_aload_n Ra (i := 0) dX12_works_191 rfl f64_0 ?_
      refine q_getA Ra (b := 510) f_X12_189 t475 rfl rfl rfl (hm190.ref t475 rfl (by decide)) (by decide) dX12_works_192 ?_
      refine r_iload_n Ra (i := 2) dX12_works_195 rfl f64_2 ?_
      refine r_dup2 Ra dX12_works_196 ?_
      obtain ⟨gu197, h⟩ := gd h
      refine q_iald Ra t510 l510 gu197 dX12_works_197 ?_
      refine r_iload Ra dX12_works_198 rfl ?_
      refine r_iadd Ra dX12_works_200 ?_
      obtain ⟨gu201, h⟩ := gd h
      obtain ⟨m201, em201, h⟩ := bv h
      have hm201 : VT m201 := eqV em201 (hm190.setI t510 (kd20 _) (inR_32 _))
      refine q_iast Ra t510 l510 gu201 em201 dX12_works_201 ?_
      refine r_iconst Ra dX12_works_202 ?_
      cases h
      exact r_zret Ra (Or.inr rfl) ⟨hm201, (Or.inr rfl)⟩ dX12_works_203
    · replace h := ipos hc h
      refine r_iconst Ra dX12_works_72 ?_
      cases h
      exact r_zret Ra (Or.inl rfl) ⟨hV, (Or.inl rfl)⟩ dX12_works_73
  replace h := hj64
  refine r_icmp_ne Ra 54 dX12_works_5 hx2 (hV.int t475 rfl) rfl (fun hc => ?_) (fun hc => ?_)
  · replace h := ineg hc h
    refine r_aload_n Ra (i := 0) dX12_works_54 rfl rfl ?_
    refine r_aload_n Ra (i := 0) dX12_works_55 rfl rfl ?_
    refine q_getA Ra (b := 509) f_X12_186 t475 rfl rfl rfl (hV.ref t475 rfl (by decide)) (by decide) dX12_works_56 ?_
    refine r_iload_n Ra (i := 2) dX12_works_59 rfl rfl ?_
    obtain ⟨gu60, h⟩ := gd h
    refine q_iald Ra t509 l509 gu60 dX12_works_60 ?_
    obtain ⟨r61, hr61, h⟩ := bd h
    refine q_callVI Ra (c_pM_wettest hV (hV.int t509 (kd20 _)) hr61) mw_X12_wettest mi_X12_wettest t475 rfl rfl rfl rfl rfl k_X12_444 rfl rfl dX12_works_61 (fun ok61 => ?_)
    cases h
    exact hJ ok61 _ rfl rfl rfl rfl
  · replace h := ipos hc h
    refine r_iload_n Ra (i := 3) dX12_works_8 rfl rfl ?_
    refine r_aload_n Ra (i := 0) dX12_works_9 rfl rfl ?_
    refine q_getI Ra (x := μ 475 63) f_X12_204 t475 rfl rfl rfl rfl dX12_works_10 ?_
    refine r_aload_n Ra (i := 0) dX12_works_13 rfl rfl ?_
    refine q_getI Ra (x := μ 475 63) f_X12_204 t475 rfl rfl rfl rfl dX12_works_14 ?_
    refine r_aload_n Ra (i := 0) dX12_works_17 rfl rfl ?_
    refine q_getI Ra (x := μ 475 64) f_X12_207 t475 rfl rfl rfl rfl dX12_works_18 ?_
    refine r_iadd Ra dX12_works_21 ?_
    refine r_iconst Ra dX12_works_22 ?_
    refine r_isub Ra dX12_works_23 ?_
    obtain ⟨r24, hr24, h⟩ := bd h
    refine q_callSI Ra (c_pM_is hV hx3 (hV.int t475 rfl) (inR_32 _) hr24) mw_X12_is ms_X12_is rfl rfl k_X12_323 rfl rfl dX12_works_24 (fun ok24 => ?_)
    refine r_if_eq Ra 54 dX12_works_27 (inR_01 ok24) rfl (fun hc => ?_) (fun hc => ?_)
    · replace h := ipos hc h
      refine r_aload_n Ra (i := 0) dX12_works_54 rfl rfl ?_
      refine r_aload_n Ra (i := 0) dX12_works_55 rfl rfl ?_
      refine q_getA Ra (b := 509) f_X12_186 t475 rfl rfl rfl (hV.ref t475 rfl (by decide)) (by decide) dX12_works_56 ?_
      refine r_iload_n Ra (i := 2) dX12_works_59 rfl rfl ?_
      obtain ⟨gu60, h⟩ := gd h
      refine q_iald Ra t509 l509 gu60 dX12_works_60 ?_
      obtain ⟨r61, hr61, h⟩ := bd h
      refine q_callVI Ra (c_pM_wettest hV (hV.int t509 (kd20 _)) hr61) mw_X12_wettest mi_X12_wettest t475 rfl rfl rfl rfl rfl k_X12_444 rfl rfl dX12_works_61 (fun ok61 => ?_)
      cases h
      exact hJ ok61 _ rfl rfl rfl rfl
    · replace h := ineg hc h
      refine r_aload_n Ra (i := 0) dX12_works_30 rfl rfl ?_
      refine r_aload_n Ra (i := 0) dX12_works_31 rfl rfl ?_
      refine q_getA Ra (b := 509) f_X12_186 t475 rfl rfl rfl (hV.ref t475 rfl (by decide)) (by decide) dX12_works_32 ?_
      refine r_iload_n Ra (i := 2) dX12_works_35 rfl rfl ?_
      obtain ⟨gu36, h⟩ := gd h
      refine q_iald Ra t509 l509 gu36 dX12_works_36 ?_
      refine r_aload_n Ra (i := 0) dX12_works_37 rfl rfl ?_
      refine q_getA Ra (b := 514) f_X12_210 t475 rfl rfl rfl (hV.ref t475 rfl (by decide)) (by decide) dX12_works_38 ?_
      refine r_iload_n Ra (i := 3) dX12_works_41 rfl rfl ?_
      refine r_aload_n Ra (i := 0) dX12_works_42 rfl rfl ?_
      refine q_getI Ra (x := μ 475 63) f_X12_204 t475 rfl rfl rfl rfl dX12_works_43 ?_
      refine r_isub Ra dX12_works_46 ?_
      obtain ⟨gu47, h⟩ := gd h
      refine q_iald Ra t514 l514 gu47 dX12_works_47 ?_
      obtain ⟨r48, hr48, h⟩ := bd h
      refine q_callVI Ra (c_pM_stepTo hV (hV.int t509 (kd20 _)) (hV.int t514 (kd20 _)) hr48) mw_X12_stepTo mi_X12_stepTo t475 rfl rfl rfl rfl rfl k_X12_441 rfl rfl dX12_works_48 (fun ok48 => ?_)
      refine r_goto Ra 64 dX12_works_51 rfl ?_
      cases h
      exact hJ ok48 _ rfl rfl rfl rfl
noncomputable def pM_shines_L9b (N : Nat) (c1 : Int) (k : Mem → Option (Mem)) (self : Int → Mem → Option (Mem)) (x3 : Int) (μ : Mem) : Option (Mem) := if x3 < 64 then (pM_isCell μ (r32 x3 8) (d32 x3 8)).bind fun r24 => if r24 = 0 then (some (w32 (x3 + 1) : Int)).bind fun x3_67 => self x3_67 μ else if 0 ≤ x3 ∧ x3 < 64 then if 0 ≤ x3 ∧ x3 < 64 then if 0 ≤ x3 ∧ x3 < 64 then if 0 ≤ c1 ∧ c1 < 22 then (pM_tells0 N μ 1 x3 (μ 508 x3) (μ 498 c1) 1).bind fun (r59, m59) => (pM_least m59 (μ 508 x3) r59).bind fun r62 => if 0 ≤ x3 ∧ x3 < 64 then (some (mset m59 508 x3 (w32 ((μ 508 x3) - r62)))).bind fun m66 => (some (w32 (x3 + 1) : Int)).bind fun x3_67 => self x3_67 m66 else none else none else none else none else none else k μ
noncomputable def pM_shines_L9 (N : Nat) (c1 : Int) (k : Mem → Option (Mem)) (n : Nat) : Int → Mem → Option (Mem) := lpF (fun _ _ => none) (pM_shines_L9b N c1 k) n
noncomputable def pM_shines (N : Nat) (μ : Mem) (x1 : Int) (x2 : Int) : Option (Mem) := (some (mset μ 507 5 x2)).bind fun m6 => pM_shines_L9 N x1 (fun n73 => some n73) N 0 m6
theorem k_pM_shines_L9 {l : Launch} {en : En} {μe : Mem} {N : Nat} {c1 : Int} {k : Mem → Option (Mem)} {K : KT} (Ra : Ru false (some (none, none, nCells, μe, 0, 0, (VT μe))) l en cX12_shines yX12_shines.cls 4 (rmN 4 160) K) (hi1 : inR c1) (hk : ∀  (μ9 : Mem), k μ9 = some μe → VT μ9 → ∀ L9 : Lo, K ZN 73 L9 [] μ9) : ∀ (n : Nat) (x3 : Int) (μ : Mem) (L : Lo), pM_shines_L9 N c1 k n x3 μ = some μe → inR x3 → VT μ → L 0 = some (vA en 475) → L 1 = some (vI c1) → L 3 = some (vI x3) → K ZN 9 L [] μ := by
  intro n
  induction n with
  | zero => intro x3 μ L h; cases h
  | succ n ih =>
    intro x3 μ L h hx3 hV hL0 hL1 hL3
    replace h : pM_shines_L9b N c1 k (pM_shines_L9 N c1 k n) x3 μ = some μe := h
    unfold pM_shines_L9b at h
    refine r_iload_n Ra (i := 3) dX12_shines_9 rfl hL3 ?_
    refine r_bipush Ra dX12_shines_10 rfl ?_
    refine r_icmp_ge Ra 73 dX12_shines_12 hx3 (Rk rfl) rfl (fun hc => ?_) (fun hc => ?_)
    · replace h := ineg hc h
      exact hk μ h  hV _ 
    · replace h := ipos hc h
      refine r_aload_n Ra (i := 0) dX12_shines_15 rfl hL0 ?_
      refine r_iload_n Ra (i := 3) dX12_shines_16 rfl hL3 ?_
      refine r_bipush Ra dX12_shines_17 rfl ?_
      refine r_irem Ra dX12_shines_19 (Rk rfl) (by decide) ?_
      refine r_iload_n Ra (i := 3) dX12_shines_20 rfl hL3 ?_
      refine r_bipush Ra dX12_shines_21 rfl ?_
      refine r_idiv Ra dX12_shines_23 (Rk rfl) (by decide) ?_
      obtain ⟨r24, hr24, h⟩ := bd h
      refine q_callVI Ra (c_pM_isCell hV (inR_32 _) (inR_32 _) hr24) mw_X12_isCell mi_X12_isCell t475 rfl rfl rfl rfl rfl k_X12_437 rfl rfl dX12_shines_24 (fun ok24 => ?_)
      refine r_if_eq Ra 67 dX12_shines_27 (inR_01 ok24) rfl (fun hc => ?_) (fun hc => ?_)
      · replace h := ipos hc h
        obtain ⟨x3_67, ex3_67, h⟩ := bv h
        have ix3_67 : inR x3_67 := eqR ex3_67 (inR_32 _)
        refine q_iinc Ra dX12_shines_67 hL3 ex3_67 ?_
        refine r_goto Ra 9 dX12_shines_70 rfl ?_
        exact ih x3_67 μ _ h ix3_67 hV hL0 hL1 rfl
      · replace h := ineg hc h
        refine r_aload_n Ra (i := 0) dX12_shines_30 rfl hL0 ?_
        refine q_getA Ra (b := 508) f_X12_183 t475 rfl rfl rfl (hV.ref t475 rfl (by decide)) (by decide) dX12_shines_31 ?_
        refine r_iload_n Ra (i := 3) dX12_shines_34 rfl hL3 ?_
        refine r_dup2 Ra dX12_shines_35 ?_
        obtain ⟨gu36, h⟩ := gd h
        refine q_iald Ra t508 l508 gu36 dX12_shines_36 ?_
        refine r_aload_n Ra (i := 0) dX12_shines_37 rfl hL0 ?_
        refine q_getA Ra (b := 508) f_X12_183 t475 rfl rfl rfl (hV.ref t475 rfl (by decide)) (by decide) dX12_shines_38 ?_
        refine r_iload_n Ra (i := 3) dX12_shines_41 rfl hL3 ?_
        obtain ⟨gu42, h⟩ := gd h
        refine q_iald Ra t508 l508 gu42 dX12_shines_42 ?_
        refine r_aload_n Ra (i := 0) dX12_shines_43 rfl hL0 ?_
        refine r_iconst Ra dX12_shines_44 ?_
        refine r_iload_n Ra (i := 3) dX12_shines_45 rfl hL3 ?_
        refine r_aload_n Ra (i := 0) dX12_shines_46 rfl hL0 ?_
        refine q_getA Ra (b := 508) f_X12_183 t475 rfl rfl rfl (hV.ref t475 rfl (by decide)) (by decide) dX12_shines_47 ?_
        refine r_iload_n Ra (i := 3) dX12_shines_50 rfl hL3 ?_
        obtain ⟨gu51, h⟩ := gd h
        refine q_iald Ra t508 l508 gu51 dX12_shines_51 ?_
        refine r_aload_n Ra (i := 0) dX12_shines_52 rfl hL0 ?_
        refine q_getA Ra (b := 498) f_X12_144 t475 rfl rfl rfl (hV.ref t475 rfl (by decide)) (by decide) dX12_shines_53 ?_
        refine r_iload_n Ra (i := 1) dX12_shines_56 rfl hL1 ?_
        obtain ⟨gu57, h⟩ := gd h
        refine q_iald Ra t498 l498 gu57 dX12_shines_57 ?_
        refine r_iconst Ra dX12_shines_58 ?_
        obtain ⟨⟨r59, m59⟩, hr59, h⟩ := bd h
        refine q_callVI Ra (c_pM_tells0 hV (Rk rfl) hx3 (hV.int t508 (kd20 _)) (hV.int t498 (kd20 _)) (Rk rfl) hr59) mw_X12_tells0 mi_X12_tells0 t475 rfl rfl rfl rfl rfl k_X12_447 rfl rfl dX12_shines_59 (fun ok59 => ?_)
        obtain ⟨hV59, ok59⟩ := ok59
        obtain ⟨r62, hr62, h⟩ := bd h
        refine q_callSI Ra (c_pM_least hV59 (hV.int t508 (kd20 _)) ok59 hr62) mw_X12_least ms_X12_least rfl rfl k_X12_451 rfl rfl dX12_shines_62 (fun ok62 => ?_)
        refine r_isub Ra dX12_shines_65 ?_
        obtain ⟨gu66, h⟩ := gd h
        obtain ⟨m66, em66, h⟩ := bv h
        have hm66 : VT m66 := eqV em66 (hV59.setI t508 (kd20 _) (inR_32 _))
        refine q_iast Ra t508 l508 gu66 em66 dX12_shines_66 ?_
        obtain ⟨x3_67, ex3_67, h⟩ := bv h
        have ix3_67 : inR x3_67 := eqR ex3_67 (inR_32 _)
        refine q_iinc Ra dX12_shines_67 hL3 ex3_67 ?_
        refine r_goto Ra 9 dX12_shines_70 rfl ?_
        exact ih x3_67 m66 _ h ix3_67 hm66 hL0 hL1 rfl
set_option maxHeartbeats 4000000 in
theorem c_pM_shines {l : Launch} {en : En} {N : Nat} {μ : Mem} {x1 : Int} {x2 : Int} {μe : Mem} (hV : VT μ) (hx1 : inR x1) (hx2 : inR x2) (h : pM_shines N μ x1 x2 = some μe) : CtV l en yX12_shines cX12_shines 4 4 160 [vA en 475, vI x1, vI x2] μ μe (VT μe) := by
  refine Tr.of false (fun h => by cases h) (by decide) (Nat.le_of_ble_eq_true rfl) (fun K Ra => ?_)
  unfold pM_shines at h
  refine r_aload_n Ra (i := 0) dX12_shines_0 rfl rfl ?_
  refine q_getA Ra (b := 507) f_X12_180 t475 rfl rfl rfl (hV.ref t475 rfl (by decide)) (by decide) dX12_shines_1 ?_
  refine r_iconst Ra dX12_shines_4 ?_
  refine r_iload_n Ra (i := 2) dX12_shines_5 rfl rfl ?_
  obtain ⟨m6, em6, h⟩ := bv h
  have hm6 : VT m6 := eqV em6 (hV.setI t507 (kd20 _) hx2)
  refine q_iast Ra t507 l507 (by decide) em6 dX12_shines_6 ?_
  refine r_iconst Ra dX12_shines_7 ?_
  refine q_istore_n Ra 3 dX12_shines_8 rfl rfl rfl ?_
  refine k_pM_shines_L9 Ra hx1 ?_ _ _ _ _ h (Rk rfl) hm6 rfl rfl rfl
  intro n73 h hn73 L9 
  cases h
  exact r_vret Ra hn73 dX12_shines_73
noncomputable def pM_runs_L3b (N : Nat) (c1 : Int) (c2 : Int) (c3 : Int) (k : Mem → Option (Int × Mem)) (self : Int → Mem → Option (Int × Mem)) (x4 : Int) (μ : Mem) : Option (Int × Mem) := if x4 < 64 then if 0 ≤ w32 ((w32 (64 * c1)) + x4) ∧ w32 ((w32 (64 * c1)) + x4) < 1408 then if 0 ≤ x4 ∧ x4 < 64 then (some (mset μ 508 x4 (μ 499 (w32 ((w32 (64 * c1)) + x4))))).bind fun m28 => (pM_isCell m28 (r32 x4 8) (d32 x4 8)).bind fun r40 => (if r40 = 0 then some (m28) else if 0 ≤ x4 ∧ x4 < 64 then if 0 ≤ x4 ∧ x4 < 64 then if 0 ≤ c1 ∧ c1 < 22 then (pM_tells0 N m28 0 x4 (m28 508 x4) (m28 498 c1) 5).bind fun (r82, m82) => (pM_least m82 99 r82).bind fun r85 => (pM_least m82 99 (w32 ((m28 508 x4) + (w32 (c2 * r85))))).bind fun r90 => if 0 ≤ x4 ∧ x4 < 64 then (some (mset m82 508 x4 r90)).bind fun m93 => some (m93) else none else none else none else none).bind fun n94 => if 0 ≤ x4 ∧ x4 < 64 then if 0 ≤ x4 ∧ x4 < 640 then (some (mset n94 511 x4 (n94 508 x4))).bind fun m107 => (some (w32 (x4 + 1) : Int)).bind fun x4_108 => self x4_108 m107 else none else none else none else none else k μ
noncomputable def pM_runs_L3 (N : Nat) (c1 : Int) (c2 : Int) (c3 : Int) (k : Mem → Option (Int × Mem)) (n : Nat) : Int → Mem → Option (Int × Mem) := lpF (fun _ _ => none) (pM_runs_L3b N c1 c2 c3 k) n
noncomputable def pM_runs_L117b (N : Nat) (c1 : Int) (c3 : Int) (k : Mem → Option (Int × Mem)) (self : Int → Mem → Option (Int × Mem)) (x4 : Int) (μ : Mem) : Option (Int × Mem) := if 0 ≤ μ 475 13 ∧ μ 475 13 < 2 then if x4 < μ 480 (μ 475 13) then if 0 ≤ w32 ((w32 (6 * c1)) + x4) ∧ w32 ((w32 (6 * c1)) + x4) < 132 then if 0 ≤ x4 ∧ x4 < 6 then (some (mset μ 509 x4 (μ 500 (w32 ((w32 (6 * c1)) + x4))))).bind fun m149 => if 0 ≤ x4 ∧ x4 < 6 then (some (mset m149 510 x4 0)).bind fun m157 => (some (w32 (x4 + 1) : Int)).bind fun x4_158 => self x4_158 m157 else none else none else none else k μ else none
noncomputable def pM_runs_L117 (N : Nat) (c1 : Int) (c3 : Int) (k : Mem → Option (Int × Mem)) (n : Nat) : Int → Mem → Option (Int × Mem) := lpF (fun _ _ => none) (pM_runs_L117b N c1 c3 k) n
noncomputable def pM_runs_L177b (N : Nat) (c1 : Int) (c3 : Int) (c4 : Int) (k : Mem → Option (Int × Mem)) (self : Int → Mem → Option (Int × Mem)) (x5 : Int) (μ : Mem) : Option (Int × Mem) := if 0 ≤ μ 475 13 ∧ μ 475 13 < 2 then if x5 < μ 480 (μ 475 13) then if 0 ≤ w32 ((w32 (6 * c1)) + x5) ∧ w32 ((w32 (6 * c1)) + x5) < 132 then if c4 < μ 501 (w32 ((w32 (6 * c1)) + x5)) then (some (w32 (x5 + 1) : Int)).bind fun x5_232 => self x5_232 μ else if a32 (shr32 c3 x5) 1 = 1 then (pM_works N μ c1 x5 c4).bind fun (r224, m224) => if r224 = 0 then some (0, m224) else (some (w32 (x5 + 1) : Int)).bind fun x5_232 => self x5_232 m224 else (some (w32 (x5 + 1) : Int)).bind fun x5_232 => self x5_232 μ else none else k μ else none
noncomputable def pM_runs_L177 (N : Nat) (c1 : Int) (c3 : Int) (c4 : Int) (k : Mem → Option (Int × Mem)) (n : Nat) : Int → Mem → Option (Int × Mem) := lpF (fun _ _ => none) (pM_runs_L177b N c1 c3 c4 k) n
noncomputable def pM_runs_L248b (N : Nat) (c1 : Int) (c3 : Int) (c4 : Int) (k : Mem → Option (Int × Mem)) (self : Int → Mem → Option (Int × Mem)) (x5 : Int) (μ : Mem) : Option (Int × Mem) := if x5 < 64 then if 0 ≤ x5 ∧ x5 < 64 then if 0 ≤ w32 ((w32 (64 * (w32 (c4 + 1)))) + x5) ∧ w32 ((w32 (64 * (w32 (c4 + 1)))) + x5) < 640 then (some (mset μ 511 (w32 ((w32 (64 * (w32 (c4 + 1)))) + x5)) (μ 508 x5))).bind fun m276 => (some (w32 (x5 + 1) : Int)).bind fun x5_277 => self x5_277 m276 else none else none else k μ
noncomputable def pM_runs_L248 (N : Nat) (c1 : Int) (c3 : Int) (c4 : Int) (k : Mem → Option (Int × Mem)) (n : Nat) : Int → Mem → Option (Int × Mem) := lpF (fun _ _ => none) (pM_runs_L248b N c1 c3 c4 k) n
noncomputable def pM_runs_L286b (N : Nat) (c1 : Int) (c3 : Int) (c4 : Int) (k : Mem → Option (Int × Mem)) (self : Int → Mem → Option (Int × Mem)) (x5 : Int) (μ : Mem) : Option (Int × Mem) := if 0 ≤ μ 475 13 ∧ μ 475 13 < 2 then if x5 < μ 480 (μ 475 13) then if 0 ≤ x5 ∧ x5 < 6 then if 0 ≤ w32 ((w32 (6 * c4)) + x5) ∧ w32 ((w32 (6 * c4)) + x5) < 54 then (some (mset μ 512 (w32 ((w32 (6 * c4)) + x5)) (μ 509 x5))).bind fun m319 => if 0 ≤ x5 ∧ x5 < 6 then if 0 ≤ w32 ((w32 (6 * c4)) + x5) ∧ w32 ((w32 (6 * c4)) + x5) < 54 then (some (mset m319 513 (w32 ((w32 (6 * c4)) + x5)) (m319 510 x5))).bind fun m339 => (some (w32 (x5 + 1) : Int)).bind fun x5_340 => self x5_340 m339 else none else none else none else none else k μ else none
noncomputable def pM_runs_L286 (N : Nat) (c1 : Int) (c3 : Int) (c4 : Int) (k : Mem → Option (Int × Mem)) (n : Nat) : Int → Mem → Option (Int × Mem) := lpF (fun _ _ => none) (pM_runs_L286b N c1 c3 c4 k) n
noncomputable def pM_runs_L167b (N : Nat) (c1 : Int) (c3 : Int) (k : Mem → Option (Int × Mem)) (self : Int → Mem → Option (Int × Mem)) (x4 : Int) (μ : Mem) : Option (Int × Mem) := if x4 < 9 then pM_runs_L177 N c1 c3 x4 (fun n238 => (pM_shines N n238 c1 x4).bind fun m242 => pM_runs_L248 N c1 c3 x4 (fun n283 => pM_runs_L286 N c1 c3 x4 (fun n346 => (some (w32 (x4 + 1) : Int)).bind fun x4_346 => self x4_346 n346) N 0 n283) N 0 m242) N 0 μ else k μ
noncomputable def pM_runs_L167 (N : Nat) (c1 : Int) (c3 : Int) (k : Mem → Option (Int × Mem)) (n : Nat) : Int → Mem → Option (Int × Mem) := lpF (fun _ _ => none) (pM_runs_L167b N c1 c3 k) n
noncomputable def pM_runs (N : Nat) (μ : Mem) (x1 : Int) (x2 : Int) (x3 : Int) : Option (Int × Mem) := pM_runs_L3 N x1 x2 x3 (fun n114 => pM_runs_L117 N x1 x3 (fun n164 => pM_runs_L167 N x1 x3 (fun n352 => some (1, n352)) N 0 n164) N 0 n114) N 0 μ
theorem k_pM_runs_L3 {l : Launch} {en : En} {re : Int} {μe : Mem} {N : Nat} {c1 : Int} {c2 : Int} {c3 : Int} {k : Mem → Option (Int × Mem)} {K : KT} (Ra : Ru false (some (some .boolean, some (vI re), nCells, μe, 0, 0, (VT μe ∧ (re = 0 ∨ re = 1)))) l en cX12_runs yX12_runs.cls 6 (rmN 5 185) K) (hi1 : inR c1) (hi2 : inR c2) (hi3 : inR c3) (hk : ∀  (μ9 : Mem), k μ9 = some (re, μe) → VT μ9 → ∀ L9 : Lo, L9 0 = some (vA en 475) → L9 1 = some (vI c1) → L9 3 = some (vI c3) → K ZN 114 L9 [] μ9) : ∀ (n : Nat) (x4 : Int) (μ : Mem) (L : Lo), pM_runs_L3 N c1 c2 c3 k n x4 μ = some (re, μe) → inR x4 → VT μ → L 0 = some (vA en 475) → L 1 = some (vI c1) → L 2 = some (vI c2) → L 3 = some (vI c3) → L 4 = some (vI x4) → K ZN 3 L [] μ := by
  intro n
  induction n with
  | zero => intro x4 μ L h; cases h
  | succ n ih =>
    intro x4 μ L h hx4 hV hL0 hL1 hL2 hL3 hL4
    replace h : pM_runs_L3b N c1 c2 c3 k (pM_runs_L3 N c1 c2 c3 k n) x4 μ = some (re, μe) := h
    unfold pM_runs_L3b at h
    refine r_iload Ra dX12_runs_3 hL4 ?_
    refine r_bipush Ra dX12_runs_5 rfl ?_
    refine r_icmp_ge Ra 114 dX12_runs_7 hx4 (Rk rfl) rfl (fun hc => ?_) (fun hc => ?_)
    · replace h := ineg hc h
      exact hk μ h  hV _ hL0 hL1 hL3
    · replace h := ipos hc h
      refine r_aload_n Ra (i := 0) dX12_runs_10 rfl hL0 ?_
      refine q_getA Ra (b := 508) f_X12_183 t475 rfl rfl rfl (hV.ref t475 rfl (by decide)) (by decide) dX12_runs_11 ?_
      refine r_iload Ra dX12_runs_14 hL4 ?_
      refine r_aload_n Ra (i := 0) dX12_runs_16 rfl hL0 ?_
      refine q_getA Ra (b := 499) f_X12_147 t475 rfl rfl rfl (hV.ref t475 rfl (by decide)) (by decide) dX12_runs_17 ?_
      refine r_bipush Ra dX12_runs_20 rfl ?_
      refine r_iload_n Ra (i := 1) dX12_runs_22 rfl hL1 ?_
      refine r_imul Ra dX12_runs_23 ?_
      refine r_iload Ra dX12_runs_24 hL4 ?_
      refine r_iadd Ra dX12_runs_26 ?_
      obtain ⟨gu27, h⟩ := gd h
      refine q_iald Ra t499 l499 gu27 dX12_runs_27 ?_
      obtain ⟨gu28, h⟩ := gd h
      obtain ⟨m28, em28, h⟩ := bv h
      have hm28 : VT m28 := eqV em28 (hV.setI t508 (kd20 _) (hV.int t499 (kd20 _)))
      refine q_iast Ra t508 l508 gu28 em28 dX12_runs_28 ?_
      refine r_aload_n Ra (i := 0) dX12_runs_29 rfl hL0 ?_
      refine r_iload Ra dX12_runs_30 hL4 ?_
      refine r_bipush Ra dX12_runs_32 rfl ?_
      refine r_irem Ra dX12_runs_34 (Rk rfl) (by decide) ?_
      refine r_iload Ra dX12_runs_35 hL4 ?_
      refine r_bipush Ra dX12_runs_37 rfl ?_
      refine r_idiv Ra dX12_runs_39 (Rk rfl) (by decide) ?_
      obtain ⟨r40, hr40, h⟩ := bd h
      refine q_callVI Ra (c_pM_isCell hm28 (inR_32 _) (inR_32 _) hr40) mw_X12_isCell mi_X12_isCell t475 rfl rfl rfl rfl rfl k_X12_437 rfl rfl dX12_runs_40 (fun ok40 => ?_)
      obtain ⟨n94, hj94, h⟩ := bd h
      have hJ : VT n94 → ∀ L9 : Lo, L9 0 = some (vA en 475) → L9 1 = some (vI c1) → L9 2 = some (vI c2) → L9 3 = some (vI c3) → L9 4 = some (vI x4) → K ZN 94 L9 [] n94 := by
        intro hn94 L9 f94_0 f94_1 f94_2 f94_3 f94_4
        refine r_aload_n Ra (i := 0) dX12_runs_94 rfl f94_0 ?_
        refine q_getA Ra (b := 511) f_X12_192 t475 rfl rfl rfl (hn94.ref t475 rfl (by decide)) (by decide) dX12_runs_95 ?_
        refine r_iload Ra dX12_runs_98 f94_4 ?_
        refine r_aload_n Ra (i := 0) dX12_runs_100 rfl f94_0 ?_
        refine q_getA Ra (b := 508) f_X12_183 t475 rfl rfl rfl (hn94.ref t475 rfl (by decide)) (by decide) dX12_runs_101 ?_
        refine r_iload Ra dX12_runs_104 f94_4 ?_
        obtain ⟨gu106, h⟩ := gd h
        refine q_iald Ra t508 l508 gu106 dX12_runs_106 ?_
        obtain ⟨gu107, h⟩ := gd h
        obtain ⟨m107, em107, h⟩ := bv h
        have hm107 : VT m107 := eqV em107 (hn94.setI t511 (kd20 _) (hn94.int t508 (kd20 _)))
        refine q_iast Ra t511 l511 gu107 em107 dX12_runs_107 ?_
        obtain ⟨x4_108, ex4_108, h⟩ := bv h
        have ix4_108 : inR x4_108 := eqR ex4_108 (inR_32 _)
        refine q_iinc Ra dX12_runs_108 f94_4 ex4_108 ?_
        refine r_goto Ra 3 dX12_runs_111 rfl ?_
        exact ih x4_108 m107 _ h ix4_108 hm107 f94_0 f94_1 f94_2 f94_3 rfl
      replace h := hj94
      refine r_if_eq Ra 94 dX12_runs_43 (inR_01 ok40) rfl (fun hc => ?_) (fun hc => ?_)
      · replace h := ipos hc h
        cases h
        exact hJ hm28 _ hL0 hL1 hL2 hL3 hL4
      · replace h := ineg hc h
        refine r_aload_n Ra (i := 0) dX12_runs_46 rfl hL0 ?_
        refine q_getA Ra (b := 508) f_X12_183 t475 rfl rfl rfl (hm28.ref t475 rfl (by decide)) (by decide) dX12_runs_47 ?_
        refine r_iload Ra dX12_runs_50 hL4 ?_
        refine r_bipush Ra dX12_runs_52 rfl ?_
        refine r_aload_n Ra (i := 0) dX12_runs_54 rfl hL0 ?_
        refine q_getA Ra (b := 508) f_X12_183 t475 rfl rfl rfl (hm28.ref t475 rfl (by decide)) (by decide) dX12_runs_55 ?_
        refine r_iload Ra dX12_runs_58 hL4 ?_
        obtain ⟨gu60, h⟩ := gd h
        refine q_iald Ra t508 l508 gu60 dX12_runs_60 ?_
        refine r_iload_n Ra (i := 2) dX12_runs_61 rfl hL2 ?_
        refine r_bipush Ra dX12_runs_62 rfl ?_
        refine r_aload_n Ra (i := 0) dX12_runs_64 rfl hL0 ?_
        refine r_iconst Ra dX12_runs_65 ?_
        refine r_iload Ra dX12_runs_66 hL4 ?_
        refine r_aload_n Ra (i := 0) dX12_runs_68 rfl hL0 ?_
        refine q_getA Ra (b := 508) f_X12_183 t475 rfl rfl rfl (hm28.ref t475 rfl (by decide)) (by decide) dX12_runs_69 ?_
        refine r_iload Ra dX12_runs_72 hL4 ?_
        obtain ⟨gu74, h⟩ := gd h
        refine q_iald Ra t508 l508 gu74 dX12_runs_74 ?_
        refine r_aload_n Ra (i := 0) dX12_runs_75 rfl hL0 ?_
        refine q_getA Ra (b := 498) f_X12_144 t475 rfl rfl rfl (hm28.ref t475 rfl (by decide)) (by decide) dX12_runs_76 ?_
        refine r_iload_n Ra (i := 1) dX12_runs_79 rfl hL1 ?_
        obtain ⟨gu80, h⟩ := gd h
        refine q_iald Ra t498 l498 gu80 dX12_runs_80 ?_
        refine r_iconst Ra dX12_runs_81 ?_
        obtain ⟨⟨r82, m82⟩, hr82, h⟩ := bd h
        refine q_callVI Ra (c_pM_tells0 hm28 (Rk rfl) hx4 (hm28.int t508 (kd20 _)) (hm28.int t498 (kd20 _)) (Rk rfl) hr82) mw_X12_tells0 mi_X12_tells0 t475 rfl rfl rfl rfl rfl k_X12_447 rfl rfl dX12_runs_82 (fun ok82 => ?_)
        obtain ⟨hV82, ok82⟩ := ok82
        obtain ⟨r85, hr85, h⟩ := bd h
        refine q_callSI Ra (c_pM_least hV82 (Rk rfl) ok82 hr85) mw_X12_least ms_X12_least rfl rfl k_X12_451 rfl rfl dX12_runs_85 (fun ok85 => ?_)
        refine r_imul Ra dX12_runs_88 ?_
        refine r_iadd Ra dX12_runs_89 ?_
        obtain ⟨r90, hr90, h⟩ := bd h
        refine q_callSI Ra (c_pM_least hV82 (Rk rfl) (inR_32 _) hr90) mw_X12_least ms_X12_least rfl rfl k_X12_451 rfl rfl dX12_runs_90 (fun ok90 => ?_)
        obtain ⟨gu93, h⟩ := gd h
        obtain ⟨m93, em93, h⟩ := bv h
        have hm93 : VT m93 := eqV em93 (hV82.setI t508 (kd20 _) ok90)
        refine q_iast Ra t508 l508 gu93 em93 dX12_runs_93 ?_
        cases h
        exact hJ hm93 _ hL0 hL1 hL2 hL3 hL4
theorem k_pM_runs_L117 {l : Launch} {en : En} {re : Int} {μe : Mem} {N : Nat} {c1 : Int} {c3 : Int} {k : Mem → Option (Int × Mem)} {K : KT} (Ra : Ru false (some (some .boolean, some (vI re), nCells, μe, 0, 0, (VT μe ∧ (re = 0 ∨ re = 1)))) l en cX12_runs yX12_runs.cls 6 (rmN 5 185) K) (hi1 : inR c1) (hi3 : inR c3) (hk : ∀  (μ9 : Mem), k μ9 = some (re, μe) → VT μ9 → ∀ L9 : Lo, L9 0 = some (vA en 475) → L9 1 = some (vI c1) → L9 3 = some (vI c3) → K ZN 164 L9 [] μ9) : ∀ (n : Nat) (x4 : Int) (μ : Mem) (L : Lo), pM_runs_L117 N c1 c3 k n x4 μ = some (re, μe) → inR x4 → VT μ → L 0 = some (vA en 475) → L 1 = some (vI c1) → L 3 = some (vI c3) → L 4 = some (vI x4) → K ZN 117 L [] μ := by
  intro n
  induction n with
  | zero => intro x4 μ L h; cases h
  | succ n ih =>
    intro x4 μ L h hx4 hV hL0 hL1 hL3 hL4
    replace h : pM_runs_L117b N c1 c3 k (pM_runs_L117 N c1 c3 k n) x4 μ = some (re, μe) := h
    unfold pM_runs_L117b at h
    refine r_iload Ra dX12_runs_117 hL4 ?_
    refine r_aload_n Ra (i := 0) dX12_runs_119 rfl hL0 ?_
    refine q_getA Ra (b := 480) f_X12_63 t475 rfl rfl rfl (hV.ref t475 rfl (by decide)) (by decide) dX12_runs_120 ?_
    refine r_aload_n Ra (i := 0) dX12_runs_123 rfl hL0 ?_
    refine q_getI Ra (x := μ 475 13) f_X12_51 t475 rfl rfl rfl rfl dX12_runs_124 ?_
    obtain ⟨gu127, h⟩ := gd h
    refine q_iald Ra t480 l480 gu127 dX12_runs_127 ?_
    refine r_icmp_ge Ra 164 dX12_runs_128 hx4 (hV.int t480 (kd20 _)) rfl (fun hc => ?_) (fun hc => ?_)
    · replace h := ineg hc h
      exact hk μ h  hV _ hL0 hL1 hL3
    · replace h := ipos hc h
      refine r_aload_n Ra (i := 0) dX12_runs_131 rfl hL0 ?_
      refine q_getA Ra (b := 509) f_X12_186 t475 rfl rfl rfl (hV.ref t475 rfl (by decide)) (by decide) dX12_runs_132 ?_
      refine r_iload Ra dX12_runs_135 hL4 ?_
      refine r_aload_n Ra (i := 0) dX12_runs_137 rfl hL0 ?_
      refine q_getA Ra (b := 500) f_X12_150 t475 rfl rfl rfl (hV.ref t475 rfl (by decide)) (by decide) dX12_runs_138 ?_
      refine r_bipush Ra dX12_runs_141 rfl ?_
      refine r_iload_n Ra (i := 1) dX12_runs_143 rfl hL1 ?_
      refine r_imul Ra dX12_runs_144 ?_
      refine r_iload Ra dX12_runs_145 hL4 ?_
      refine r_iadd Ra dX12_runs_147 ?_
      obtain ⟨gu148, h⟩ := gd h
      refine q_iald Ra t500 l500 gu148 dX12_runs_148 ?_
      obtain ⟨gu149, h⟩ := gd h
      obtain ⟨m149, em149, h⟩ := bv h
      have hm149 : VT m149 := eqV em149 (hV.setI t509 (kd20 _) (hV.int t500 (kd20 _)))
      refine q_iast Ra t509 l509 gu149 em149 dX12_runs_149 ?_
      refine r_aload_n Ra (i := 0) dX12_runs_150 rfl hL0 ?_
      refine q_getA Ra (b := 510) f_X12_189 t475 rfl rfl rfl (hm149.ref t475 rfl (by decide)) (by decide) dX12_runs_151 ?_
      refine r_iload Ra dX12_runs_154 hL4 ?_
      refine r_iconst Ra dX12_runs_156 ?_
      obtain ⟨gu157, h⟩ := gd h
      obtain ⟨m157, em157, h⟩ := bv h
      have hm157 : VT m157 := eqV em157 (hm149.setI t510 (kd20 _) (Rk rfl))
      refine q_iast Ra t510 l510 gu157 em157 dX12_runs_157 ?_
      obtain ⟨x4_158, ex4_158, h⟩ := bv h
      have ix4_158 : inR x4_158 := eqR ex4_158 (inR_32 _)
      refine q_iinc Ra dX12_runs_158 hL4 ex4_158 ?_
      refine r_goto Ra 117 dX12_runs_161 rfl ?_
      exact ih x4_158 m157 _ h ix4_158 hm157 hL0 hL1 hL3 rfl
theorem k_pM_runs_L177 {l : Launch} {en : En} {re : Int} {μe : Mem} {N : Nat} {c1 : Int} {c3 : Int} {c4 : Int} {k : Mem → Option (Int × Mem)} {K : KT} (Ra : Ru false (some (some .boolean, some (vI re), nCells, μe, 0, 0, (VT μe ∧ (re = 0 ∨ re = 1)))) l en cX12_runs yX12_runs.cls 6 (rmN 5 185) K) (hi1 : inR c1) (hi3 : inR c3) (hi4 : inR c4) (hk : ∀  (μ9 : Mem), k μ9 = some (re, μe) → VT μ9 → ∀ L9 : Lo, L9 0 = some (vA en 475) → L9 1 = some (vI c1) → L9 3 = some (vI c3) → L9 4 = some (vI c4) → K ZN 238 L9 [] μ9) : ∀ (n : Nat) (x5 : Int) (μ : Mem) (L : Lo), pM_runs_L177 N c1 c3 c4 k n x5 μ = some (re, μe) → inR x5 → VT μ → L 0 = some (vA en 475) → L 1 = some (vI c1) → L 3 = some (vI c3) → L 4 = some (vI c4) → L 5 = some (vI x5) → K ZN 177 L [] μ := by
  intro n
  induction n with
  | zero => intro x5 μ L h; cases h
  | succ n ih =>
    intro x5 μ L h hx5 hV hL0 hL1 hL3 hL4 hL5
    replace h : pM_runs_L177b N c1 c3 c4 k (pM_runs_L177 N c1 c3 c4 k n) x5 μ = some (re, μe) := h
    unfold pM_runs_L177b at h
    refine r_iload Ra dX12_runs_177 hL5 ?_
    refine r_aload_n Ra (i := 0) dX12_runs_179 rfl hL0 ?_
    refine q_getA Ra (b := 480) f_X12_63 t475 rfl rfl rfl (hV.ref t475 rfl (by decide)) (by decide) dX12_runs_180 ?_
    refine r_aload_n Ra (i := 0) dX12_runs_183 rfl hL0 ?_
    refine q_getI Ra (x := μ 475 13) f_X12_51 t475 rfl rfl rfl rfl dX12_runs_184 ?_
    obtain ⟨gu187, h⟩ := gd h
    refine q_iald Ra t480 l480 gu187 dX12_runs_187 ?_
    refine r_icmp_ge Ra 238 dX12_runs_188 hx5 (hV.int t480 (kd20 _)) rfl (fun hc => ?_) (fun hc => ?_)
    · replace h := ineg hc h
      exact hk μ h  hV _ hL0 hL1 hL3 hL4
    · replace h := ipos hc h
      refine r_aload_n Ra (i := 0) dX12_runs_191 rfl hL0 ?_
      refine q_getA Ra (b := 501) f_X12_153 t475 rfl rfl rfl (hV.ref t475 rfl (by decide)) (by decide) dX12_runs_192 ?_
      refine r_bipush Ra dX12_runs_195 rfl ?_
      refine r_iload_n Ra (i := 1) dX12_runs_197 rfl hL1 ?_
      refine r_imul Ra dX12_runs_198 ?_
      refine r_iload Ra dX12_runs_199 hL5 ?_
      refine r_iadd Ra dX12_runs_201 ?_
      obtain ⟨gu202, h⟩ := gd h
      refine q_iald Ra t501 l501 gu202 dX12_runs_202 ?_
      refine r_iload Ra dX12_runs_203 hL4 ?_
      refine r_icmp_gt Ra 232 dX12_runs_205 (hV.int t501 (kd20 _)) hi4 rfl (fun hc => ?_) (fun hc => ?_)
      · replace h := ipos hc h
        obtain ⟨x5_232, ex5_232, h⟩ := bv h
        have ix5_232 : inR x5_232 := eqR ex5_232 (inR_32 _)
        refine q_iinc Ra dX12_runs_232 hL5 ex5_232 ?_
        refine r_goto Ra 177 dX12_runs_235 rfl ?_
        exact ih x5_232 μ _ h ix5_232 hV hL0 hL1 hL3 hL4 rfl
      · replace h := ineg hc h
        refine r_iload_n Ra (i := 3) dX12_runs_208 rfl hL3 ?_
        refine r_iload Ra dX12_runs_209 hL5 ?_
        refine r_ishr Ra dX12_runs_211 ?_
        refine r_iconst Ra dX12_runs_212 ?_
        refine r_iand Ra dX12_runs_213 ?_
        refine r_iconst Ra dX12_runs_214 ?_
        refine r_icmp_ne Ra 232 dX12_runs_215 (inR_32 _) (Rk rfl) rfl (fun hc => ?_) (fun hc => ?_)
        · replace h := ineg hc h
          obtain ⟨x5_232, ex5_232, h⟩ := bv h
          have ix5_232 : inR x5_232 := eqR ex5_232 (inR_32 _)
          refine q_iinc Ra dX12_runs_232 hL5 ex5_232 ?_
          refine r_goto Ra 177 dX12_runs_235 rfl ?_
          exact ih x5_232 μ _ h ix5_232 hV hL0 hL1 hL3 hL4 rfl
        · replace h := ipos hc h
          refine r_aload_n Ra (i := 0) dX12_runs_218 rfl hL0 ?_
          refine r_iload_n Ra (i := 1) dX12_runs_219 rfl hL1 ?_
          refine r_iload Ra dX12_runs_220 hL5 ?_
          refine r_iload Ra dX12_runs_222 hL4 ?_
          obtain ⟨⟨r224, m224⟩, hr224, h⟩ := bd h
          refine q_callVI Ra (c_pM_works hV hi1 hx5 hi4 hr224) mw_X12_works mi_X12_works t475 rfl rfl rfl rfl rfl k_X12_454 rfl rfl dX12_runs_224 (fun ok224 => ?_)
          obtain ⟨hV224, ok224⟩ := ok224
          refine r_if_ne Ra 232 dX12_runs_227 (inR_01 ok224) rfl (fun hc => ?_) (fun hc => ?_)
          · replace h := ineg hc h
            obtain ⟨x5_232, ex5_232, h⟩ := bv h
            have ix5_232 : inR x5_232 := eqR ex5_232 (inR_32 _)
            refine q_iinc Ra dX12_runs_232 hL5 ex5_232 ?_
            refine r_goto Ra 177 dX12_runs_235 rfl ?_
            exact ih x5_232 m224 _ h ix5_232 hV224 hL0 hL1 hL3 hL4 rfl
          · replace h := ipos hc h
            refine r_iconst Ra dX12_runs_230 ?_
            cases h
            exact r_zret Ra (Or.inl rfl) ⟨hV224, (Or.inl rfl)⟩ dX12_runs_231
theorem k_pM_runs_L248 {l : Launch} {en : En} {re : Int} {μe : Mem} {N : Nat} {c1 : Int} {c3 : Int} {c4 : Int} {k : Mem → Option (Int × Mem)} {K : KT} (Ra : Ru false (some (some .boolean, some (vI re), nCells, μe, 0, 0, (VT μe ∧ (re = 0 ∨ re = 1)))) l en cX12_runs yX12_runs.cls 6 (rmN 5 185) K) (hi1 : inR c1) (hi3 : inR c3) (hi4 : inR c4) (hk : ∀  (μ9 : Mem), k μ9 = some (re, μe) → VT μ9 → ∀ L9 : Lo, L9 0 = some (vA en 475) → L9 1 = some (vI c1) → L9 3 = some (vI c3) → L9 4 = some (vI c4) → K ZN 283 L9 [] μ9) : ∀ (n : Nat) (x5 : Int) (μ : Mem) (L : Lo), pM_runs_L248 N c1 c3 c4 k n x5 μ = some (re, μe) → inR x5 → VT μ → L 0 = some (vA en 475) → L 1 = some (vI c1) → L 3 = some (vI c3) → L 4 = some (vI c4) → L 5 = some (vI x5) → K ZN 248 L [] μ := by
  intro n
  induction n with
  | zero => intro x5 μ L h; cases h
  | succ n ih =>
    intro x5 μ L h hx5 hV hL0 hL1 hL3 hL4 hL5
    replace h : pM_runs_L248b N c1 c3 c4 k (pM_runs_L248 N c1 c3 c4 k n) x5 μ = some (re, μe) := h
    unfold pM_runs_L248b at h
    refine r_iload Ra dX12_runs_248 hL5 ?_
    refine r_bipush Ra dX12_runs_250 rfl ?_
    refine r_icmp_ge Ra 283 dX12_runs_252 hx5 (Rk rfl) rfl (fun hc => ?_) (fun hc => ?_)
    · replace h := ineg hc h
      exact hk μ h  hV _ hL0 hL1 hL3 hL4
    · replace h := ipos hc h
      refine r_aload_n Ra (i := 0) dX12_runs_255 rfl hL0 ?_
      refine q_getA Ra (b := 511) f_X12_192 t475 rfl rfl rfl (hV.ref t475 rfl (by decide)) (by decide) dX12_runs_256 ?_
      refine r_bipush Ra dX12_runs_259 rfl ?_
      refine r_iload Ra dX12_runs_261 hL4 ?_
      refine r_iconst Ra dX12_runs_263 ?_
      refine r_iadd Ra dX12_runs_264 ?_
      refine r_imul Ra dX12_runs_265 ?_
      refine r_iload Ra dX12_runs_266 hL5 ?_
      refine r_iadd Ra dX12_runs_268 ?_
      refine r_aload_n Ra (i := 0) dX12_runs_269 rfl hL0 ?_
      refine q_getA Ra (b := 508) f_X12_183 t475 rfl rfl rfl (hV.ref t475 rfl (by decide)) (by decide) dX12_runs_270 ?_
      refine r_iload Ra dX12_runs_273 hL5 ?_
      obtain ⟨gu275, h⟩ := gd h
      refine q_iald Ra t508 l508 gu275 dX12_runs_275 ?_
      obtain ⟨gu276, h⟩ := gd h
      obtain ⟨m276, em276, h⟩ := bv h
      have hm276 : VT m276 := eqV em276 (hV.setI t511 (kd20 _) (hV.int t508 (kd20 _)))
      refine q_iast Ra t511 l511 gu276 em276 dX12_runs_276 ?_
      obtain ⟨x5_277, ex5_277, h⟩ := bv h
      have ix5_277 : inR x5_277 := eqR ex5_277 (inR_32 _)
      refine q_iinc Ra dX12_runs_277 hL5 ex5_277 ?_
      refine r_goto Ra 248 dX12_runs_280 rfl ?_
      exact ih x5_277 m276 _ h ix5_277 hm276 hL0 hL1 hL3 hL4 rfl
theorem k_pM_runs_L286 {l : Launch} {en : En} {re : Int} {μe : Mem} {N : Nat} {c1 : Int} {c3 : Int} {c4 : Int} {k : Mem → Option (Int × Mem)} {K : KT} (Ra : Ru false (some (some .boolean, some (vI re), nCells, μe, 0, 0, (VT μe ∧ (re = 0 ∨ re = 1)))) l en cX12_runs yX12_runs.cls 6 (rmN 5 185) K) (hi1 : inR c1) (hi3 : inR c3) (hi4 : inR c4) (hk : ∀  (μ9 : Mem), k μ9 = some (re, μe) → VT μ9 → ∀ L9 : Lo, L9 0 = some (vA en 475) → L9 1 = some (vI c1) → L9 3 = some (vI c3) → L9 4 = some (vI c4) → K ZN 346 L9 [] μ9) : ∀ (n : Nat) (x5 : Int) (μ : Mem) (L : Lo), pM_runs_L286 N c1 c3 c4 k n x5 μ = some (re, μe) → inR x5 → VT μ → L 0 = some (vA en 475) → L 1 = some (vI c1) → L 3 = some (vI c3) → L 4 = some (vI c4) → L 5 = some (vI x5) → K ZN 286 L [] μ := by
  intro n
  induction n with
  | zero => intro x5 μ L h; cases h
  | succ n ih =>
    intro x5 μ L h hx5 hV hL0 hL1 hL3 hL4 hL5
    replace h : pM_runs_L286b N c1 c3 c4 k (pM_runs_L286 N c1 c3 c4 k n) x5 μ = some (re, μe) := h
    unfold pM_runs_L286b at h
    refine r_iload Ra dX12_runs_286 hL5 ?_
    refine r_aload_n Ra (i := 0) dX12_runs_288 rfl hL0 ?_
    refine q_getA Ra (b := 480) f_X12_63 t475 rfl rfl rfl (hV.ref t475 rfl (by decide)) (by decide) dX12_runs_289 ?_
    refine r_aload_n Ra (i := 0) dX12_runs_292 rfl hL0 ?_
    refine q_getI Ra (x := μ 475 13) f_X12_51 t475 rfl rfl rfl rfl dX12_runs_293 ?_
    obtain ⟨gu296, h⟩ := gd h
    refine q_iald Ra t480 l480 gu296 dX12_runs_296 ?_
    refine r_icmp_ge Ra 346 dX12_runs_297 hx5 (hV.int t480 (kd20 _)) rfl (fun hc => ?_) (fun hc => ?_)
    · replace h := ineg hc h
      exact hk μ h  hV _ hL0 hL1 hL3 hL4
    · replace h := ipos hc h
      refine r_aload_n Ra (i := 0) dX12_runs_300 rfl hL0 ?_
      refine q_getA Ra (b := 512) f_X12_195 t475 rfl rfl rfl (hV.ref t475 rfl (by decide)) (by decide) dX12_runs_301 ?_
      refine r_bipush Ra dX12_runs_304 rfl ?_
      refine r_iload Ra dX12_runs_306 hL4 ?_
      refine r_imul Ra dX12_runs_308 ?_
      refine r_iload Ra dX12_runs_309 hL5 ?_
      refine r_iadd Ra dX12_runs_311 ?_
      refine r_aload_n Ra (i := 0) dX12_runs_312 rfl hL0 ?_
      refine q_getA Ra (b := 509) f_X12_186 t475 rfl rfl rfl (hV.ref t475 rfl (by decide)) (by decide) dX12_runs_313 ?_
      refine r_iload Ra dX12_runs_316 hL5 ?_
      obtain ⟨gu318, h⟩ := gd h
      refine q_iald Ra t509 l509 gu318 dX12_runs_318 ?_
      obtain ⟨gu319, h⟩ := gd h
      obtain ⟨m319, em319, h⟩ := bv h
      have hm319 : VT m319 := eqV em319 (hV.setI t512 (kd20 _) (hV.int t509 (kd20 _)))
      refine q_iast Ra t512 l512 gu319 em319 dX12_runs_319 ?_
      refine r_aload_n Ra (i := 0) dX12_runs_320 rfl hL0 ?_
      refine q_getA Ra (b := 513) f_X12_198 t475 rfl rfl rfl (hm319.ref t475 rfl (by decide)) (by decide) dX12_runs_321 ?_
      refine r_bipush Ra dX12_runs_324 rfl ?_
      refine r_iload Ra dX12_runs_326 hL4 ?_
      refine r_imul Ra dX12_runs_328 ?_
      refine r_iload Ra dX12_runs_329 hL5 ?_
      refine r_iadd Ra dX12_runs_331 ?_
      refine r_aload_n Ra (i := 0) dX12_runs_332 rfl hL0 ?_
      refine q_getA Ra (b := 510) f_X12_189 t475 rfl rfl rfl (hm319.ref t475 rfl (by decide)) (by decide) dX12_runs_333 ?_
      refine r_iload Ra dX12_runs_336 hL5 ?_
      obtain ⟨gu338, h⟩ := gd h
      refine q_iald Ra t510 l510 gu338 dX12_runs_338 ?_
      obtain ⟨gu339, h⟩ := gd h
      obtain ⟨m339, em339, h⟩ := bv h
      have hm339 : VT m339 := eqV em339 (hm319.setI t513 (kd20 _) (hm319.int t510 (kd20 _)))
      refine q_iast Ra t513 l513 gu339 em339 dX12_runs_339 ?_
      obtain ⟨x5_340, ex5_340, h⟩ := bv h
      have ix5_340 : inR x5_340 := eqR ex5_340 (inR_32 _)
      refine q_iinc Ra dX12_runs_340 hL5 ex5_340 ?_
      refine r_goto Ra 286 dX12_runs_343 rfl ?_
      exact ih x5_340 m339 _ h ix5_340 hm339 hL0 hL1 hL3 hL4 rfl
theorem k_pM_runs_L167 {l : Launch} {en : En} {re : Int} {μe : Mem} {N : Nat} {c1 : Int} {c3 : Int} {k : Mem → Option (Int × Mem)} {K : KT} (Ra : Ru false (some (some .boolean, some (vI re), nCells, μe, 0, 0, (VT μe ∧ (re = 0 ∨ re = 1)))) l en cX12_runs yX12_runs.cls 6 (rmN 5 185) K) (hi1 : inR c1) (hi3 : inR c3) (hk : ∀  (μ9 : Mem), k μ9 = some (re, μe) → VT μ9 → ∀ L9 : Lo, K ZN 352 L9 [] μ9) : ∀ (n : Nat) (x4 : Int) (μ : Mem) (L : Lo), pM_runs_L167 N c1 c3 k n x4 μ = some (re, μe) → inR x4 → VT μ → L 0 = some (vA en 475) → L 1 = some (vI c1) → L 3 = some (vI c3) → L 4 = some (vI x4) → K ZN 167 L [] μ := by
  intro n
  induction n with
  | zero => intro x4 μ L h; cases h
  | succ n ih =>
    intro x4 μ L h hx4 hV hL0 hL1 hL3 hL4
    replace h : pM_runs_L167b N c1 c3 k (pM_runs_L167 N c1 c3 k n) x4 μ = some (re, μe) := h
    unfold pM_runs_L167b at h
    refine r_iload Ra dX12_runs_167 hL4 ?_
    refine r_bipush Ra dX12_runs_169 rfl ?_
    refine r_icmp_ge Ra 352 dX12_runs_171 hx4 (Rk rfl) rfl (fun hc => ?_) (fun hc => ?_)
    · replace h := ineg hc h
      exact hk μ h  hV _ 
    · replace h := ipos hc h
      refine r_iconst Ra dX12_runs_174 ?_
      refine q_istore Ra dX12_runs_175 rfl rfl ?_
      refine k_pM_runs_L177 Ra hi1 hi3 hx4 ?_ _ _ _ _ h (Rk rfl) hV hL0 hL1 hL3 hL4 rfl
      intro n238 h hn238 L9 f238_0 f238_1 f238_3 f238_4
      refine r_aload_n Ra (i := 0) dX12_runs_238 rfl f238_0 ?_
      refine r_iload_n Ra (i := 1) dX12_runs_239 rfl f238_1 ?_
      refine r_iload Ra dX12_runs_240 f238_4 ?_
      obtain ⟨m242, hr242, h⟩ := bd h
      refine q_callVV Ra (c_pM_shines hn238 hi1 hx4 hr242) mw_X12_shines mi_X12_shines t475 rfl rfl rfl rfl rfl k_X12_457 rfl rfl dX12_runs_242 (fun ok242 => ?_)
      refine r_iconst Ra dX12_runs_245 ?_
      refine q_istore Ra dX12_runs_246 rfl rfl ?_
      refine k_pM_runs_L248 Ra hi1 hi3 hx4 ?_ _ _ _ _ h (Rk rfl) ok242 f238_0 f238_1 f238_3 f238_4 rfl
      intro n283 h hn283 L9 f283_0 f283_1 f283_3 f283_4
      refine r_iconst Ra dX12_runs_283 ?_
      refine q_istore Ra dX12_runs_284 rfl rfl ?_
      refine k_pM_runs_L286 Ra hi1 hi3 hx4 ?_ _ _ _ _ h (Rk rfl) hn283 f283_0 f283_1 f283_3 f283_4 rfl
      intro n346 h hn346 L9 f346_0 f346_1 f346_3 f346_4
      obtain ⟨x4_346, ex4_346, h⟩ := bv h
      have ix4_346 : inR x4_346 := eqR ex4_346 (inR_32 _)
      refine q_iinc Ra dX12_runs_346 f346_4 ex4_346 ?_
      refine r_goto Ra 167 dX12_runs_349 rfl ?_
      exact ih x4_346 n346 _ h ix4_346 hn346 f346_0 f346_1 f346_3 rfl
set_option maxHeartbeats 4000000 in
theorem c_pM_runs {l : Launch} {en : En} {N : Nat} {μ : Mem} {x1 : Int} {x2 : Int} {x3 : Int} {re : Int} {μe : Mem} (hV : VT μ) (hx1 : inR x1) (hx2 : inR x2) (hx3 : inR x3) (h : pM_runs N μ x1 x2 x3 = some (re, μe)) : CtI l en yX12_runs cX12_runs 6 5 185 [vA en 475, vI x1, vI x2, vI x3] μ .boolean re μe (VT μe ∧ (re = 0 ∨ re = 1)) := by
  refine Tr.of false (fun h => by cases h) (by decide) (Nat.le_of_ble_eq_true rfl) (fun K Ra => ?_)
  unfold pM_runs at h
  refine r_iconst Ra dX12_runs_0 ?_
  refine q_istore Ra dX12_runs_1 rfl rfl ?_
  refine k_pM_runs_L3 Ra hx1 hx2 hx3 ?_ _ _ _ _ h (Rk rfl) hV rfl rfl rfl rfl rfl
  intro n114 h hn114 L9 f114_0 f114_1 f114_3
  refine r_iconst Ra dX12_runs_114 ?_
  refine q_istore Ra dX12_runs_115 rfl rfl ?_
  refine k_pM_runs_L117 Ra hx1 hx3 ?_ _ _ _ _ h (Rk rfl) hn114 f114_0 f114_1 f114_3 rfl
  intro n164 h hn164 L9 f164_0 f164_1 f164_3
  refine r_iconst Ra dX12_runs_164 ?_
  refine q_istore Ra dX12_runs_165 rfl rfl ?_
  refine k_pM_runs_L167 Ra hx1 hx3 ?_ _ _ _ _ h (Rk rfl) hn164 f164_0 f164_1 f164_3 rfl
  intro n352 h hn352 L9 
  refine r_iconst Ra dX12_runs_352 ?_
  cases h
  exact r_zret Ra (Or.inr rfl) ⟨hn352, (Or.inr rfl)⟩ dX12_runs_353
noncomputable def pM_all (μ : Mem)  : Option (Int) := if 0 ≤ μ 475 13 ∧ μ 475 13 < 2 then some (w32 ((shl32 1 (μ 480 (μ 475 13))) - 1)) else none
set_option maxHeartbeats 4000000 in
theorem c_pM_all {l : Launch} {en : En} {μ : Mem}  {re : Int} (hV : VT μ)  (h : pM_all μ = some re) : CtI l en yX12_all cX12_all 1 0 60 [vA en 475] μ .int re μ (inR re) := by
  refine Tr.of false (fun h => by cases h) (by decide) (Nat.le_of_ble_eq_true rfl) (fun K Ra => ?_)
  unfold pM_all at h
  refine r_iconst Ra dX12_all_0 ?_
  refine r_aload_n Ra (i := 0) dX12_all_1 rfl rfl ?_
  refine q_getA Ra (b := 480) f_X12_63 t475 rfl rfl rfl (hV.ref t475 rfl (by decide)) (by decide) dX12_all_2 ?_
  refine r_aload_n Ra (i := 0) dX12_all_5 rfl rfl ?_
  refine q_getI Ra (x := μ 475 13) f_X12_51 t475 rfl rfl rfl rfl dX12_all_6 ?_
  obtain ⟨gu9, h⟩ := gd h
  refine q_iald Ra t480 l480 gu9 dX12_all_9 ?_
  refine r_ishl Ra dX12_all_10 ?_
  refine r_iconst Ra dX12_all_11 ?_
  refine r_isub Ra dX12_all_12 ?_
  cases h
  exact r_iret Ra (inR_32 _) dX12_all_13
noncomputable def pM_wrung_L4b (N : Nat) (μ : Mem)  (k : Int → Option (Int)) (self : Int → Int → Option (Int)) (x1 : Int) (x2 : Int) : Option (Int) := if 0 ≤ μ 475 13 ∧ μ 475 13 < 2 then if x2 < μ 480 (μ 475 13) then if 0 ≤ x2 ∧ x2 < 6 then (some (w32 (x1 + (μ 510 x2)) : Int)).bind fun x1_25 => (some (w32 (x2 + 1) : Int)).bind fun x2_26 => self x1_25 x2_26 else none else k x1 else none
noncomputable def pM_wrung_L4 (N : Nat) (μ : Mem)  (k : Int → Option (Int)) (n : Nat) : Int → Int → Option (Int) := lpF (fun _ _ => none) (pM_wrung_L4b N μ k) n
noncomputable def pM_wrung (N : Nat) (μ : Mem)  : Option (Int) := pM_wrung_L4 N μ (fun z1_32 => some (z1_32)) N 0 0
theorem k_pM_wrung_L4 {l : Launch} {en : En} {re : Int} {N : Nat} {μ : Mem} (hV : VT μ)  {k : Int → Option (Int)} {K : KT} (Ra : Ru false (some (some .int, some (vI re), nCells, μ, 0, 0, (inR re))) l en cX12_wrung yX12_wrung.cls 3 (rmN 0 60) K)  (hk : ∀ (z1 : Int), k z1 = some re → inR z1 → ∀ L9 : Lo, L9 1 = some (vI z1) → K ZN 32 L9 [] μ) : ∀ (n : Nat) (x1 : Int) (x2 : Int) (L : Lo), pM_wrung_L4 N μ k n x1 x2 = some re → inR x1 → inR x2 → L 0 = some (vA en 475) → L 1 = some (vI x1) → L 2 = some (vI x2) → K ZN 4 L [] μ := by
  intro n
  induction n with
  | zero => intro x1 x2 L h; cases h
  | succ n ih =>
    intro x1 x2 L h hx1 hx2 hL0 hL1 hL2
    replace h : pM_wrung_L4b N μ k (pM_wrung_L4 N μ k n) x1 x2 = some re := h
    unfold pM_wrung_L4b at h
    refine r_iload_n Ra (i := 2) dX12_wrung_4 rfl hL2 ?_
    refine r_aload_n Ra (i := 0) dX12_wrung_5 rfl hL0 ?_
    refine q_getA Ra (b := 480) f_X12_63 t475 rfl rfl rfl (hV.ref t475 rfl (by decide)) (by decide) dX12_wrung_6 ?_
    refine r_aload_n Ra (i := 0) dX12_wrung_9 rfl hL0 ?_
    refine q_getI Ra (x := μ 475 13) f_X12_51 t475 rfl rfl rfl rfl dX12_wrung_10 ?_
    obtain ⟨gu13, h⟩ := gd h
    refine q_iald Ra t480 l480 gu13 dX12_wrung_13 ?_
    refine r_icmp_ge Ra 32 dX12_wrung_14 hx2 (hV.int t480 (kd20 _)) rfl (fun hc => ?_) (fun hc => ?_)
    · replace h := ineg hc h
      exact hk x1 h hx1 _ hL1
    · replace h := ipos hc h
      refine r_iload_n Ra (i := 1) dX12_wrung_17 rfl hL1 ?_
      refine r_aload_n Ra (i := 0) dX12_wrung_18 rfl hL0 ?_
      refine q_getA Ra (b := 510) f_X12_189 t475 rfl rfl rfl (hV.ref t475 rfl (by decide)) (by decide) dX12_wrung_19 ?_
      refine r_iload_n Ra (i := 2) dX12_wrung_22 rfl hL2 ?_
      obtain ⟨gu23, h⟩ := gd h
      refine q_iald Ra t510 l510 gu23 dX12_wrung_23 ?_
      refine r_iadd Ra dX12_wrung_24 ?_
      obtain ⟨x1_25, ex1_25, h⟩ := bv h
      have ix1_25 : inR x1_25 := eqR ex1_25 (inR_32 _)
      refine q_istore_n Ra 1 dX12_wrung_25 rfl rfl ex1_25 ?_
      obtain ⟨x2_26, ex2_26, h⟩ := bv h
      have ix2_26 : inR x2_26 := eqR ex2_26 (inR_32 _)
      refine q_iinc Ra dX12_wrung_26 hL2 ex2_26 ?_
      refine r_goto Ra 4 dX12_wrung_29 rfl ?_
      exact ih x1_25 x2_26 _ h ix1_25 ix2_26 hL0 rfl rfl
set_option maxHeartbeats 4000000 in
theorem c_pM_wrung {l : Launch} {en : En} {N : Nat} {μ : Mem}  {re : Int} (hV : VT μ)  (h : pM_wrung N μ = some re) : CtI l en yX12_wrung cX12_wrung 3 0 60 [vA en 475] μ .int re μ (inR re) := by
  refine Tr.of false (fun h => by cases h) (by decide) (Nat.le_of_ble_eq_true rfl) (fun K Ra => ?_)
  unfold pM_wrung at h
  refine r_iconst Ra dX12_wrung_0 ?_
  refine q_istore_n Ra 1 dX12_wrung_1 rfl rfl rfl ?_
  refine r_iconst Ra dX12_wrung_2 ?_
  refine q_istore_n Ra 2 dX12_wrung_3 rfl rfl rfl ?_
  refine k_pM_wrung_L4 hV Ra ?_ _ _ _ _ h (Rk rfl) (Rk rfl) rfl rfl rfl
  intro z1_32 h iz1_32 L9 f32_1
  refine r_iload_n Ra (i := 1) dX12_wrung_32 rfl f32_1 ?_
  cases h
  exact r_iret Ra iz1_32 dX12_wrung_33
noncomputable def pM_passes_L21b (N : Nat) (c1 : Int) (c3 : Int) (k : Mem → Option (Int × Mem)) (self : Int → Mem → Option (Int × Mem)) (x4 : Int) (μ : Mem) : Option (Int × Mem) := if x4 < 64 then if 0 ≤ x4 ∧ x4 < 64 then if 0 ≤ w32 ((w32 (64 * c1)) + x4) ∧ w32 ((w32 (64 * c1)) + x4) < 1408 then (some (mset μ 499 (w32 ((w32 (64 * c1)) + x4)) (μ 508 x4))).bind fun m46 => (some (w32 (x4 + 1) : Int)).bind fun x4_47 => self x4_47 m46 else none else none else k μ
noncomputable def pM_passes_L21 (N : Nat) (c1 : Int) (c3 : Int) (k : Mem → Option (Int × Mem)) (n : Nat) : Int → Mem → Option (Int × Mem) := lpF (fun _ _ => none) (pM_passes_L21b N c1 c3 k) n
noncomputable def pM_passes_L56b (N : Nat) (c1 : Int) (k : Int → Mem → Option (Int × Mem)) (self : Int → Int → Mem → Option (Int × Mem)) (x3 : Int) (x4 : Int) (μ : Mem) : Option (Int × Mem) := if 0 ≤ μ 475 13 ∧ μ 475 13 < 2 then if x4 < μ 480 (μ 475 13) then if 0 ≤ x4 ∧ x4 < 6 then if 0 ≤ w32 ((w32 (6 * c1)) + x4) ∧ w32 ((w32 (6 * c1)) + x4) < 132 then if 0 ≤ w32 ((w32 (6 * (μ 475 13))) + x4) ∧ w32 ((w32 (6 * (μ 475 13))) + x4) < 12 then (some (w32 ((w32 ((μ 510 x4) + (μ 503 (w32 ((w32 (6 * c1)) + x4))))) - (μ 484 (w32 ((w32 (6 * (μ 475 13))) + x4)))) : Int)).bind fun x5_106 => (some (if x5_106 < 0 then shl32 1 x4 else 0 : Int)).bind fun ys2_126 => (some (mset μ 475 66 (o32 (μ 475 66) ys2_126))).bind fun m127 => (some (if x5_106 < 0 then 1 else 0 : Int)).bind fun ys1_141 => (some (w32 (x3 + ys1_141) : Int)).bind fun x3_142 => if x5_106 < 0 then if 0 ≤ w32 ((w32 (6 * c1)) + x4) ∧ w32 ((w32 (6 * c1)) + x4) < 132 then (some (mset m127 503 (w32 ((w32 (6 * c1)) + x4)) 0)).bind fun m171 => (some (w32 (x4 + 1) : Int)).bind fun x4_172 => self x3_142 x4_172 m171 else none else (pM_least m127 999 x5_106).bind fun r168 => if 0 ≤ w32 ((w32 (6 * c1)) + x4) ∧ w32 ((w32 (6 * c1)) + x4) < 132 then (some (mset m127 503 (w32 ((w32 (6 * c1)) + x4)) r168)).bind fun m171 => (some (w32 (x4 + 1) : Int)).bind fun x4_172 => self x3_142 x4_172 m171 else none else none else none else none else k x3 μ else none
noncomputable def pM_passes_L56 (N : Nat) (c1 : Int) (k : Int → Mem → Option (Int × Mem)) (n : Nat) : Int → Int → Mem → Option (Int × Mem) := lpF (fun _ _ _ => none) (pM_passes_L56b N c1 k) n
noncomputable def pM_passes_L195b (N : Nat) (c1 : Int) (c3 : Int) (k : Mem → Option (Int × Mem)) (self : Int → Mem → Option (Int × Mem)) (x4 : Int) (μ : Mem) : Option (Int × Mem) := if x4 < w32 ((w32 ((w32 (120 * c1)) + 120)) - 3) then if 0 ≤ w32 (x4 + 3) ∧ w32 (x4 + 3) < 2640 then if 0 ≤ x4 ∧ x4 < 2640 then (some (mset μ 505 x4 (μ 505 (w32 (x4 + 3))))).bind fun m224 => (some (w32 (x4 + 1) : Int)).bind fun x4_225 => self x4_225 m224 else none else none else k μ
noncomputable def pM_passes_L195 (N : Nat) (c1 : Int) (c3 : Int) (k : Mem → Option (Int × Mem)) (n : Nat) : Int → Mem → Option (Int × Mem) := lpF (fun _ _ => none) (pM_passes_L195b N c1 c3 k) n
noncomputable def pM_passes (N : Nat) (μ : Mem) (x1 : Int) (x2 : Int) : Option (Int × Mem) := (pM_all μ).bind fun r4 => (pM_runs N μ x1 x2 r4).bind fun (r7, m7) => (some (mset m7 475 66 0)).bind fun m15 => pM_passes_L21 N x1 0 (fun n53 => pM_passes_L56 N x1 (fun z3_178 n178 => if 0 ≤ x1 ∧ x1 < 22 then jn (α := Mem → Option (Int × Mem)) (fun (n241 : Mem) => if 0 ≤ x1 ∧ x1 < 22 then (some (w32 (3 * (w32 ((w32 (40 * x1)) + (n241 504 x1)))) : Int)).bind fun x4_254 => if 0 ≤ x1 ∧ x1 < 22 then if 0 ≤ x4_254 ∧ x4_254 < 2640 then (some (mset n241 505 x4_254 (n241 498 x1))).bind fun m268 => (pM_wrung N m268).bind fun r278 => if 0 ≤ w32 (x4_254 + 1) ∧ w32 (x4_254 + 1) < 2640 then (some (mset m268 505 (w32 (x4_254 + 1)) r278)).bind fun m281 => if 0 ≤ w32 (x4_254 + 2) ∧ w32 (x4_254 + 2) < 2640 then (some (mset m281 505 (w32 (x4_254 + 2)) z3_178)).bind fun m291 => if 0 ≤ x1 ∧ x1 < 22 then if 0 ≤ x1 ∧ x1 < 22 then (some (mset m291 504 x1 (w32 ((m291 504 x1) + 1)))).bind fun m301 => if 0 ≤ x1 ∧ x1 < 22 then if 0 ≤ x1 ∧ x1 < 22 then (some (mset m301 498 x1 (w32 ((m301 498 x1) + 1)))).bind fun m311 => if 0 ≤ w32 (x4_254 + 1) ∧ w32 (x4_254 + 1) < 2640 then some (m311 505 (w32 (x4_254 + 1)), m311) else none else none else none else none else none else none else none else none else none else none) (fun (j241 : Mem → Option (Int × Mem)) => if n178 504 x1 = 40 then (some (w32 (120 * x1) : Int)).bind fun x4_193 => pM_passes_L195 N x1 z3_178 (fun n231 => if 0 ≤ x1 ∧ x1 < 22 then if 0 ≤ x1 ∧ x1 < 22 then (some (mset n231 504 x1 (w32 ((n231 504 x1) - 1)))).bind fun m240 => j241 m240 else none else none) N x4_193 n178 else j241 n178) else none) N 0 0 n53) N 0 m15
theorem k_pM_passes_L21 {l : Launch} {en : En} {re : Int} {μe : Mem} {N : Nat} {c1 : Int} {c3 : Int} {k : Mem → Option (Int × Mem)} {K : KT} (Ra : Ru false (some (some .int, some (vI re), nCells, μe, 0, 0, (VT μe ∧ inR re))) l en cX12_passes yX12_passes.cls 6 (rmN 6 210) K) (hi1 : inR c1) (hi3 : inR c3) (hb3 : c3 = 0 ∨ c3 = 1) (hk : ∀  (μ9 : Mem), k μ9 = some (re, μe) → VT μ9 → ∀ L9 : Lo, L9 0 = some (vA en 475) → L9 1 = some (vI c1) → L9 3 = some (vI c3) → K ZN 53 L9 [] μ9) : ∀ (n : Nat) (x4 : Int) (μ : Mem) (L : Lo), pM_passes_L21 N c1 c3 k n x4 μ = some (re, μe) → inR x4 → VT μ → L 0 = some (vA en 475) → L 1 = some (vI c1) → L 3 = some (vI c3) → L 4 = some (vI x4) → K ZN 21 L [] μ := by
  intro n
  induction n with
  | zero => intro x4 μ L h; cases h
  | succ n ih =>
    intro x4 μ L h hx4 hV hL0 hL1 hL3 hL4
    replace h : pM_passes_L21b N c1 c3 k (pM_passes_L21 N c1 c3 k n) x4 μ = some (re, μe) := h
    unfold pM_passes_L21b at h
    refine r_iload Ra dX12_passes_21 hL4 ?_
    refine r_bipush Ra dX12_passes_23 rfl ?_
    refine r_icmp_ge Ra 53 dX12_passes_25 hx4 (Rk rfl) rfl (fun hc => ?_) (fun hc => ?_)
    · replace h := ineg hc h
      exact hk μ h  hV _ hL0 hL1 hL3
    · replace h := ipos hc h
      refine r_aload_n Ra (i := 0) dX12_passes_28 rfl hL0 ?_
      refine q_getA Ra (b := 499) f_X12_147 t475 rfl rfl rfl (hV.ref t475 rfl (by decide)) (by decide) dX12_passes_29 ?_
      refine r_bipush Ra dX12_passes_32 rfl ?_
      refine r_iload_n Ra (i := 1) dX12_passes_34 rfl hL1 ?_
      refine r_imul Ra dX12_passes_35 ?_
      refine r_iload Ra dX12_passes_36 hL4 ?_
      refine r_iadd Ra dX12_passes_38 ?_
      refine r_aload_n Ra (i := 0) dX12_passes_39 rfl hL0 ?_
      refine q_getA Ra (b := 508) f_X12_183 t475 rfl rfl rfl (hV.ref t475 rfl (by decide)) (by decide) dX12_passes_40 ?_
      refine r_iload Ra dX12_passes_43 hL4 ?_
      obtain ⟨gu45, h⟩ := gd h
      refine q_iald Ra t508 l508 gu45 dX12_passes_45 ?_
      obtain ⟨gu46, h⟩ := gd h
      obtain ⟨m46, em46, h⟩ := bv h
      have hm46 : VT m46 := eqV em46 (hV.setI t499 (kd20 _) (hV.int t508 (kd20 _)))
      refine q_iast Ra t499 l499 gu46 em46 dX12_passes_46 ?_
      obtain ⟨x4_47, ex4_47, h⟩ := bv h
      have ix4_47 : inR x4_47 := eqR ex4_47 (inR_32 _)
      refine q_iinc Ra dX12_passes_47 hL4 ex4_47 ?_
      refine r_goto Ra 21 dX12_passes_50 rfl ?_
      exact ih x4_47 m46 _ h ix4_47 hm46 hL0 hL1 hL3 rfl
theorem k_pM_passes_L56 {l : Launch} {en : En} {re : Int} {μe : Mem} {N : Nat} {c1 : Int} {k : Int → Mem → Option (Int × Mem)} {K : KT} (Ra : Ru false (some (some .int, some (vI re), nCells, μe, 0, 0, (VT μe ∧ inR re))) l en cX12_passes yX12_passes.cls 6 (rmN 6 210) K) (hi1 : inR c1) (hk : ∀ (z3 : Int) (μ9 : Mem), k z3 μ9 = some (re, μe) → inR z3 → VT μ9 → ∀ L9 : Lo, L9 0 = some (vA en 475) → L9 1 = some (vI c1) → L9 3 = some (vI z3) → K ZN 178 L9 [] μ9) : ∀ (n : Nat) (x3 : Int) (x4 : Int) (μ : Mem) (L : Lo), pM_passes_L56 N c1 k n x3 x4 μ = some (re, μe) → inR x3 → inR x4 → VT μ → L 0 = some (vA en 475) → L 1 = some (vI c1) → L 3 = some (vI x3) → L 4 = some (vI x4) → K ZN 56 L [] μ := by
  intro n
  induction n with
  | zero => intro x3 x4 μ L h; cases h
  | succ n ih =>
    intro x3 x4 μ L h hx3 hx4 hV hL0 hL1 hL3 hL4
    replace h : pM_passes_L56b N c1 k (pM_passes_L56 N c1 k n) x3 x4 μ = some (re, μe) := h
    unfold pM_passes_L56b at h
    refine r_iload Ra dX12_passes_56 hL4 ?_
    refine r_aload_n Ra (i := 0) dX12_passes_58 rfl hL0 ?_
    refine q_getA Ra (b := 480) f_X12_63 t475 rfl rfl rfl (hV.ref t475 rfl (by decide)) (by decide) dX12_passes_59 ?_
    refine r_aload_n Ra (i := 0) dX12_passes_62 rfl hL0 ?_
    refine q_getI Ra (x := μ 475 13) f_X12_51 t475 rfl rfl rfl rfl dX12_passes_63 ?_
    obtain ⟨gu66, h⟩ := gd h
    refine q_iald Ra t480 l480 gu66 dX12_passes_66 ?_
    refine r_icmp_ge Ra 178 dX12_passes_67 hx4 (hV.int t480 (kd20 _)) rfl (fun hc => ?_) (fun hc => ?_)
    · replace h := ineg hc h
      exact hk x3 μ h hx3 hV _ hL0 hL1 hL3
    · replace h := ipos hc h
      refine r_aload_n Ra (i := 0) dX12_passes_70 rfl hL0 ?_
      refine q_getA Ra (b := 510) f_X12_189 t475 rfl rfl rfl (hV.ref t475 rfl (by decide)) (by decide) dX12_passes_71 ?_
      refine r_iload Ra dX12_passes_74 hL4 ?_
      obtain ⟨gu76, h⟩ := gd h
      refine q_iald Ra t510 l510 gu76 dX12_passes_76 ?_
      refine r_aload_n Ra (i := 0) dX12_passes_77 rfl hL0 ?_
      refine q_getA Ra (b := 503) f_X12_159 t475 rfl rfl rfl (hV.ref t475 rfl (by decide)) (by decide) dX12_passes_78 ?_
      refine r_bipush Ra dX12_passes_81 rfl ?_
      refine r_iload_n Ra (i := 1) dX12_passes_83 rfl hL1 ?_
      refine r_imul Ra dX12_passes_84 ?_
      refine r_iload Ra dX12_passes_85 hL4 ?_
      refine r_iadd Ra dX12_passes_87 ?_
      obtain ⟨gu88, h⟩ := gd h
      refine q_iald Ra t503 l503 gu88 dX12_passes_88 ?_
      refine r_iadd Ra dX12_passes_89 ?_
      refine r_aload_n Ra (i := 0) dX12_passes_90 rfl hL0 ?_
      refine q_getA Ra (b := 484) f_X12_75 t475 rfl rfl rfl (hV.ref t475 rfl (by decide)) (by decide) dX12_passes_91 ?_
      refine r_bipush Ra dX12_passes_94 rfl ?_
      refine r_aload_n Ra (i := 0) dX12_passes_96 rfl hL0 ?_
      refine q_getI Ra (x := μ 475 13) f_X12_51 t475 rfl rfl rfl rfl dX12_passes_97 ?_
      refine r_imul Ra dX12_passes_100 ?_
      refine r_iload Ra dX12_passes_101 hL4 ?_
      refine r_iadd Ra dX12_passes_103 ?_
      obtain ⟨gu104, h⟩ := gd h
      refine q_iald Ra t484 l484 gu104 dX12_passes_104 ?_
      refine r_isub Ra dX12_passes_105 ?_
      obtain ⟨x5_106, ex5_106, h⟩ := bv h
      have ix5_106 : inR x5_106 := eqR ex5_106 (inR_32 _)
      refine q_istore Ra dX12_passes_106 rfl ex5_106 ?_
      refine r_aload_n Ra (i := 0) dX12_passes_108 rfl hL0 ?_
      refine r_dupA Ra dX12_passes_109 ?_
      refine q_getI Ra (x := μ 475 66) f_X12_213 t475 rfl rfl rfl rfl dX12_passes_110 ?_
      refine r_iload Ra dX12_passes_113 rfl ?_
      obtain ⟨ys2_126, eys2_126, h⟩ := bv h
      have hJ : inR ys2_126 → ∀ L9 : Lo, L9 0 = some (vA en 475) → L9 1 = some (vI c1) → L9 3 = some (vI x3) → L9 4 = some (vI x4) → L9 5 = some (vI x5_106) → K ZN 126 L9 [vI ys2_126, vI (μ 475 66), vA en 475] μ := by
        intro iys2_126 L9 f126_0 f126_1 f126_3 f126_4 f126_5
        refine r_ior Ra dX12_passes_126 ?_
        obtain ⟨m127, em127, h⟩ := bv h
        have hm127 : VT m127 := eqV em127 (hV.setI t475 rfl (inR_32 _))
        refine q_putI Ra f_X12_213 p_X12_66 t475 rfl rfl rfl em127 dX12_passes_127 ?_
        refine r_iload_n Ra (i := 3) dX12_passes_130 rfl f126_3 ?_
        refine r_iload Ra dX12_passes_131 f126_5 ?_
        obtain ⟨ys1_141, eys1_141, h⟩ := bv h
        have hJ : inR ys1_141 → (ys1_141 = 0 ∨ ys1_141 = 1) → ∀ L9 : Lo, L9 0 = some (vA en 475) → L9 1 = some (vI c1) → L9 4 = some (vI x4) → L9 5 = some (vI x5_106) → K ZN 141 L9 [vI ys1_141, vI x3] m127 := by
          intro iys1_141 bys1_141 L9 f141_0 f141_1 f141_4 f141_5
          refine r_iadd Ra dX12_passes_141 ?_
          obtain ⟨x3_142, ex3_142, h⟩ := bv h
          have ix3_142 : inR x3_142 := eqR ex3_142 (inR_32 _)
          refine q_istore_n Ra 3 dX12_passes_142 rfl rfl ex3_142 ?_
          refine r_aload_n Ra (i := 0) dX12_passes_143 rfl f141_0 ?_
          refine q_getA Ra (b := 503) f_X12_159 t475 rfl rfl rfl (hm127.ref t475 rfl (by decide)) (by decide) dX12_passes_144 ?_
          refine r_bipush Ra dX12_passes_147 rfl ?_
          refine r_iload_n Ra (i := 1) dX12_passes_149 rfl f141_1 ?_
          refine r_imul Ra dX12_passes_150 ?_
          refine r_iload Ra dX12_passes_151 f141_4 ?_
          refine r_iadd Ra dX12_passes_153 ?_
          refine r_iload Ra dX12_passes_154 f141_5 ?_
          refine r_if_ge Ra 163 dX12_passes_156 ix5_106 rfl (fun hc => ?_) (fun hc => ?_)
          · replace h := ineg hc h
            refine r_sipush Ra dX12_passes_163 rfl ?_
            refine r_iload Ra dX12_passes_166 f141_5 ?_
            obtain ⟨r168, hr168, h⟩ := bd h
            refine q_callSI Ra (c_pM_least hm127 (Rk rfl) ix5_106 hr168) mw_X12_least ms_X12_least rfl rfl k_X12_451 rfl rfl dX12_passes_168 (fun ok168 => ?_)
            obtain ⟨gu171, h⟩ := gd h
            obtain ⟨m171, em171, h⟩ := bv h
            have hm171 : VT m171 := eqV em171 (hm127.setI t503 (kd20 _) ok168)
            refine q_iast Ra t503 l503 gu171 em171 dX12_passes_171 ?_
            obtain ⟨x4_172, ex4_172, h⟩ := bv h
            have ix4_172 : inR x4_172 := eqR ex4_172 (inR_32 _)
            refine q_iinc Ra dX12_passes_172 f141_4 ex4_172 ?_
            refine r_goto Ra 56 dX12_passes_175 rfl ?_
            exact ih x3_142 x4_172 m171 _ h ix3_142 ix4_172 hm171 f141_0 f141_1 rfl rfl
          · replace h := ipos hc h
            refine r_iconst Ra dX12_passes_159 ?_
            refine r_goto Ra 171 dX12_passes_160 rfl ?_
            obtain ⟨gu171, h⟩ := gd h
            obtain ⟨m171, em171, h⟩ := bv h
            have hm171 : VT m171 := eqV em171 (hm127.setI t503 (kd20 _) (Rk rfl))
            refine q_iast Ra t503 l503 gu171 em171 dX12_passes_171 ?_
            obtain ⟨x4_172, ex4_172, h⟩ := bv h
            have ix4_172 : inR x4_172 := eqR ex4_172 (inR_32 _)
            refine q_iinc Ra dX12_passes_172 f141_4 ex4_172 ?_
            refine r_goto Ra 56 dX12_passes_175 rfl ?_
            exact ih x3_142 x4_172 m171 _ h ix3_142 ix4_172 hm171 f141_0 f141_1 rfl rfl
        refine r_if_ge Ra 140 dX12_passes_133 ix5_106 rfl (fun hc => ?_) (fun hc => ?_)
        · replace eys1_141 := eys1_141.trans (if_neg hc)
          refine r_iconst Ra dX12_passes_140 ?_
          subst eys1_141
          exact hJ (Rk rfl) (Or.inl rfl) _ f126_0 f126_1 f126_4 f126_5
        · replace eys1_141 := eys1_141.trans (if_pos hc)
          refine r_iconst Ra dX12_passes_136 ?_
          refine r_goto Ra 141 dX12_passes_137 rfl ?_
          subst eys1_141
          exact hJ (Rk rfl) (Or.inr rfl) _ f126_0 f126_1 f126_4 f126_5
      refine r_if_ge Ra 125 dX12_passes_115 ix5_106 rfl (fun hc => ?_) (fun hc => ?_)
      · replace eys2_126 := eys2_126.trans (if_neg hc)
        refine r_iconst Ra dX12_passes_125 ?_
        subst eys2_126
        exact hJ (Rk rfl) _ hL0 hL1 hL3 hL4 rfl
      · replace eys2_126 := eys2_126.trans (if_pos hc)
        refine r_iconst Ra dX12_passes_118 ?_
        refine r_iload Ra dX12_passes_119 hL4 ?_
        refine r_ishl Ra dX12_passes_121 ?_
        refine r_goto Ra 126 dX12_passes_122 rfl ?_
        subst eys2_126
        exact hJ (inR_32 _) _ hL0 hL1 hL3 hL4 rfl
theorem k_pM_passes_L195 {l : Launch} {en : En} {re : Int} {μe : Mem} {N : Nat} {c1 : Int} {c3 : Int} {k : Mem → Option (Int × Mem)} {K : KT} (Ra : Ru false (some (some .int, some (vI re), nCells, μe, 0, 0, (VT μe ∧ inR re))) l en cX12_passes yX12_passes.cls 6 (rmN 6 210) K) (hi1 : inR c1) (hi3 : inR c3) (hk : ∀  (μ9 : Mem), k μ9 = some (re, μe) → VT μ9 → ∀ L9 : Lo, L9 0 = some (vA en 475) → L9 1 = some (vI c1) → L9 3 = some (vI c3) → K ZN 231 L9 [] μ9) : ∀ (n : Nat) (x4 : Int) (μ : Mem) (L : Lo), pM_passes_L195 N c1 c3 k n x4 μ = some (re, μe) → inR x4 → VT μ → L 0 = some (vA en 475) → L 1 = some (vI c1) → L 3 = some (vI c3) → L 4 = some (vI x4) → K ZN 195 L [] μ := by
  intro n
  induction n with
  | zero => intro x4 μ L h; cases h
  | succ n ih =>
    intro x4 μ L h hx4 hV hL0 hL1 hL3 hL4
    replace h : pM_passes_L195b N c1 c3 k (pM_passes_L195 N c1 c3 k n) x4 μ = some (re, μe) := h
    unfold pM_passes_L195b at h
    refine r_iload Ra dX12_passes_195 hL4 ?_
    refine r_bipush Ra dX12_passes_197 rfl ?_
    refine r_iload_n Ra (i := 1) dX12_passes_199 rfl hL1 ?_
    refine r_imul Ra dX12_passes_200 ?_
    refine r_bipush Ra dX12_passes_201 rfl ?_
    refine r_iadd Ra dX12_passes_203 ?_
    refine r_iconst Ra dX12_passes_204 ?_
    refine r_isub Ra dX12_passes_205 ?_
    refine r_icmp_ge Ra 231 dX12_passes_206 hx4 (inR_32 _) rfl (fun hc => ?_) (fun hc => ?_)
    · replace h := ineg hc h
      exact hk μ h  hV _ hL0 hL1 hL3
    · replace h := ipos hc h
      refine r_aload_n Ra (i := 0) dX12_passes_209 rfl hL0 ?_
      refine q_getA Ra (b := 505) f_X12_165 t475 rfl rfl rfl (hV.ref t475 rfl (by decide)) (by decide) dX12_passes_210 ?_
      refine r_iload Ra dX12_passes_213 hL4 ?_
      refine r_aload_n Ra (i := 0) dX12_passes_215 rfl hL0 ?_
      refine q_getA Ra (b := 505) f_X12_165 t475 rfl rfl rfl (hV.ref t475 rfl (by decide)) (by decide) dX12_passes_216 ?_
      refine r_iload Ra dX12_passes_219 hL4 ?_
      refine r_iconst Ra dX12_passes_221 ?_
      refine r_iadd Ra dX12_passes_222 ?_
      obtain ⟨gu223, h⟩ := gd h
      refine q_iald Ra t505 l505 gu223 dX12_passes_223 ?_
      obtain ⟨gu224, h⟩ := gd h
      obtain ⟨m224, em224, h⟩ := bv h
      have hm224 : VT m224 := eqV em224 (hV.setI t505 (kd20 _) (hV.int t505 (kd20 _)))
      refine q_iast Ra t505 l505 gu224 em224 dX12_passes_224 ?_
      obtain ⟨x4_225, ex4_225, h⟩ := bv h
      have ix4_225 : inR x4_225 := eqR ex4_225 (inR_32 _)
      refine q_iinc Ra dX12_passes_225 hL4 ex4_225 ?_
      refine r_goto Ra 195 dX12_passes_228 rfl ?_
      exact ih x4_225 m224 _ h ix4_225 hm224 hL0 hL1 hL3 rfl
set_option maxHeartbeats 4000000 in
theorem c_pM_passes {l : Launch} {en : En} {N : Nat} {μ : Mem} {x1 : Int} {x2 : Int} {re : Int} {μe : Mem} (hV : VT μ) (hx1 : inR x1) (hx2 : inR x2) (h : pM_passes N μ x1 x2 = some (re, μe)) : CtI l en yX12_passes cX12_passes 6 6 210 [vA en 475, vI x1, vI x2] μ .int re μe (VT μe ∧ inR re) := by
  refine Tr.of false (fun h => by cases h) (by decide) (Nat.le_of_ble_eq_true rfl) (fun K Ra => ?_)
  unfold pM_passes at h
  refine r_aload_n Ra (i := 0) dX12_passes_0 rfl rfl ?_
  refine r_iload_n Ra (i := 1) dX12_passes_1 rfl rfl ?_
  refine r_iload_n Ra (i := 2) dX12_passes_2 rfl rfl ?_
  refine r_aload_n Ra (i := 0) dX12_passes_3 rfl rfl ?_
  obtain ⟨r4, hr4, h⟩ := bd h
  refine q_callVI Ra (c_pM_all hV hr4) mw_X12_all mi_X12_all t475 rfl rfl rfl rfl rfl k_X12_460 rfl rfl dX12_passes_4 (fun ok4 => ?_)
  obtain ⟨⟨r7, m7⟩, hr7, h⟩ := bd h
  refine q_callVI Ra (c_pM_runs hV hx1 hx2 ok4 hr7) mw_X12_runs mi_X12_runs t475 rfl rfl rfl rfl rfl k_X12_463 rfl rfl dX12_passes_7 (fun ok7 => ?_)
  obtain ⟨hV7, ok7⟩ := ok7
  refine r_popI Ra dX12_passes_10 ?_
  refine r_iconst Ra dX12_passes_11 ?_
  refine q_istore_n Ra 3 dX12_passes_12 rfl rfl rfl ?_
  refine r_aload_n Ra (i := 0) dX12_passes_13 rfl rfl ?_
  refine r_iconst Ra dX12_passes_14 ?_
  obtain ⟨m15, em15, h⟩ := bv h
  have hm15 : VT m15 := eqV em15 (hV7.setI t475 rfl (Rk rfl))
  refine q_putI Ra f_X12_213 p_X12_66 t475 rfl rfl rfl em15 dX12_passes_15 ?_
  refine r_iconst Ra dX12_passes_18 ?_
  refine q_istore Ra dX12_passes_19 rfl rfl ?_
  refine k_pM_passes_L21 Ra hx1 (Rk rfl) (Or.inl rfl) ?_ _ _ _ _ h (Rk rfl) hm15 rfl rfl rfl rfl
  intro n53 h hn53 L9 f53_0 f53_1 f53_3
  refine r_iconst Ra dX12_passes_53 ?_
  refine q_istore Ra dX12_passes_54 rfl rfl ?_
  refine k_pM_passes_L56 Ra hx1 ?_ _ _ _ _ _ h (Rk rfl) (Rk rfl) hn53 f53_0 f53_1 f53_3 rfl
  intro z3_178 n178 h iz3_178 hn178 L9 f178_0 f178_1 f178_3
  refine r_aload_n Ra (i := 0) dX12_passes_178 rfl f178_0 ?_
  refine q_getA Ra (b := 504) f_X12_162 t475 rfl rfl rfl (hn178.ref t475 rfl (by decide)) (by decide) dX12_passes_179 ?_
  refine r_iload_n Ra (i := 1) dX12_passes_182 rfl f178_1 ?_
  obtain ⟨gu183, h⟩ := gd h
  refine q_iald Ra t504 l504 gu183 dX12_passes_183 ?_
  refine r_bipush Ra dX12_passes_184 rfl ?_
  obtain ⟨j241, ej241, h⟩ := jn_elim h
  have hJ241 : ∀ (n241 : Mem), j241 n241 = some (re, μe) → VT n241 → ∀ L9 : Lo, L9 0 = some (vA en 475) → L9 1 = some (vI x1) → L9 3 = some (vI z3_178) → K ZN 241 L9 [] n241 := by
    intro n241 h hn241 L9 f241_0 f241_1 f241_3
    rw [ej241] at h
    refine r_iconst Ra dX12_passes_241 ?_
    refine r_bipush Ra dX12_passes_242 rfl ?_
    refine r_iload_n Ra (i := 1) dX12_passes_244 rfl f241_1 ?_
    refine r_imul Ra dX12_passes_245 ?_
    refine r_aload_n Ra (i := 0) dX12_passes_246 rfl f241_0 ?_
    refine q_getA Ra (b := 504) f_X12_162 t475 rfl rfl rfl (hn241.ref t475 rfl (by decide)) (by decide) dX12_passes_247 ?_
    refine r_iload_n Ra (i := 1) dX12_passes_250 rfl f241_1 ?_
    obtain ⟨gu251, h⟩ := gd h
    refine q_iald Ra t504 l504 gu251 dX12_passes_251 ?_
    refine r_iadd Ra dX12_passes_252 ?_
    refine r_imul Ra dX12_passes_253 ?_
    obtain ⟨x4_254, ex4_254, h⟩ := bv h
    have ix4_254 : inR x4_254 := eqR ex4_254 (inR_32 _)
    refine q_istore Ra dX12_passes_254 rfl ex4_254 ?_
    refine r_aload_n Ra (i := 0) dX12_passes_256 rfl f241_0 ?_
    refine q_getA Ra (b := 505) f_X12_165 t475 rfl rfl rfl (hn241.ref t475 rfl (by decide)) (by decide) dX12_passes_257 ?_
    refine r_iload Ra dX12_passes_260 rfl ?_
    refine r_aload_n Ra (i := 0) dX12_passes_262 rfl f241_0 ?_
    refine q_getA Ra (b := 498) f_X12_144 t475 rfl rfl rfl (hn241.ref t475 rfl (by decide)) (by decide) dX12_passes_263 ?_
    refine r_iload_n Ra (i := 1) dX12_passes_266 rfl f241_1 ?_
    obtain ⟨gu267, h⟩ := gd h
    refine q_iald Ra t498 l498 gu267 dX12_passes_267 ?_
    obtain ⟨gu268, h⟩ := gd h
    obtain ⟨m268, em268, h⟩ := bv h
    have hm268 : VT m268 := eqV em268 (hn241.setI t505 (kd20 _) (hn241.int t498 (kd20 _)))
    refine q_iast Ra t505 l505 gu268 em268 dX12_passes_268 ?_
    refine r_aload_n Ra (i := 0) dX12_passes_269 rfl f241_0 ?_
    refine q_getA Ra (b := 505) f_X12_165 t475 rfl rfl rfl (hm268.ref t475 rfl (by decide)) (by decide) dX12_passes_270 ?_
    refine r_iload Ra dX12_passes_273 rfl ?_
    refine r_iconst Ra dX12_passes_275 ?_
    refine r_iadd Ra dX12_passes_276 ?_
    refine r_aload_n Ra (i := 0) dX12_passes_277 rfl f241_0 ?_
    obtain ⟨r278, hr278, h⟩ := bd h
    refine q_callVI Ra (c_pM_wrung hm268 hr278) mw_X12_wrung mi_X12_wrung t475 rfl rfl rfl rfl rfl k_X12_466 rfl rfl dX12_passes_278 (fun ok278 => ?_)
    obtain ⟨gu281, h⟩ := gd h
    obtain ⟨m281, em281, h⟩ := bv h
    have hm281 : VT m281 := eqV em281 (hm268.setI t505 (kd20 _) ok278)
    refine q_iast Ra t505 l505 gu281 em281 dX12_passes_281 ?_
    refine r_aload_n Ra (i := 0) dX12_passes_282 rfl f241_0 ?_
    refine q_getA Ra (b := 505) f_X12_165 t475 rfl rfl rfl (hm281.ref t475 rfl (by decide)) (by decide) dX12_passes_283 ?_
    refine r_iload Ra dX12_passes_286 rfl ?_
    refine r_iconst Ra dX12_passes_288 ?_
    refine r_iadd Ra dX12_passes_289 ?_
    refine r_iload_n Ra (i := 3) dX12_passes_290 rfl f241_3 ?_
    obtain ⟨gu291, h⟩ := gd h
    obtain ⟨m291, em291, h⟩ := bv h
    have hm291 : VT m291 := eqV em291 (hm281.setI t505 (kd20 _) iz3_178)
    refine q_iast Ra t505 l505 gu291 em291 dX12_passes_291 ?_
    refine r_aload_n Ra (i := 0) dX12_passes_292 rfl f241_0 ?_
    refine q_getA Ra (b := 504) f_X12_162 t475 rfl rfl rfl (hm291.ref t475 rfl (by decide)) (by decide) dX12_passes_293 ?_
    refine r_iload_n Ra (i := 1) dX12_passes_296 rfl f241_1 ?_
    refine r_dup2 Ra dX12_passes_297 ?_
    obtain ⟨gu298, h⟩ := gd h
    refine q_iald Ra t504 l504 gu298 dX12_passes_298 ?_
    refine r_iconst Ra dX12_passes_299 ?_
    refine r_iadd Ra dX12_passes_300 ?_
    obtain ⟨gu301, h⟩ := gd h
    obtain ⟨m301, em301, h⟩ := bv h
    have hm301 : VT m301 := eqV em301 (hm291.setI t504 (kd20 _) (inR_32 _))
    refine q_iast Ra t504 l504 gu301 em301 dX12_passes_301 ?_
    refine r_aload_n Ra (i := 0) dX12_passes_302 rfl f241_0 ?_
    refine q_getA Ra (b := 498) f_X12_144 t475 rfl rfl rfl (hm301.ref t475 rfl (by decide)) (by decide) dX12_passes_303 ?_
    refine r_iload_n Ra (i := 1) dX12_passes_306 rfl f241_1 ?_
    refine r_dup2 Ra dX12_passes_307 ?_
    obtain ⟨gu308, h⟩ := gd h
    refine q_iald Ra t498 l498 gu308 dX12_passes_308 ?_
    refine r_iconst Ra dX12_passes_309 ?_
    refine r_iadd Ra dX12_passes_310 ?_
    obtain ⟨gu311, h⟩ := gd h
    obtain ⟨m311, em311, h⟩ := bv h
    have hm311 : VT m311 := eqV em311 (hm301.setI t498 (kd20 _) (inR_32 _))
    refine q_iast Ra t498 l498 gu311 em311 dX12_passes_311 ?_
    refine r_aload_n Ra (i := 0) dX12_passes_312 rfl f241_0 ?_
    refine q_getA Ra (b := 505) f_X12_165 t475 rfl rfl rfl (hm311.ref t475 rfl (by decide)) (by decide) dX12_passes_313 ?_
    refine r_iload Ra dX12_passes_316 rfl ?_
    refine r_iconst Ra dX12_passes_318 ?_
    refine r_iadd Ra dX12_passes_319 ?_
    obtain ⟨gu320, h⟩ := gd h
    refine q_iald Ra t505 l505 gu320 dX12_passes_320 ?_
    cases h
    exact r_iret Ra ⟨hm311, (hm311.int t505 (kd20 _))⟩ dX12_passes_321
  refine r_icmp_ne Ra 241 dX12_passes_186 (hn178.int t504 (kd20 _)) (Rk rfl) rfl (fun hc => ?_) (fun hc => ?_)
  · replace h := ineg hc h
    exact hJ241 n178 h hn178 _ f178_0 f178_1 f178_3
  · replace h := ipos hc h
    refine r_bipush Ra dX12_passes_189 rfl ?_
    refine r_iload_n Ra (i := 1) dX12_passes_191 rfl f178_1 ?_
    refine r_imul Ra dX12_passes_192 ?_
    obtain ⟨x4_193, ex4_193, h⟩ := bv h
    have ix4_193 : inR x4_193 := eqR ex4_193 (inR_32 _)
    refine q_istore Ra dX12_passes_193 rfl ex4_193 ?_
    refine k_pM_passes_L195 Ra hx1 iz3_178 ?_ _ _ _ _ h ix4_193 hn178 f178_0 f178_1 f178_3 rfl
    intro n231 h hn231 L9 f231_0 f231_1 f231_3
    refine r_aload_n Ra (i := 0) dX12_passes_231 rfl f231_0 ?_
    refine q_getA Ra (b := 504) f_X12_162 t475 rfl rfl rfl (hn231.ref t475 rfl (by decide)) (by decide) dX12_passes_232 ?_
    refine r_iload_n Ra (i := 1) dX12_passes_235 rfl f231_1 ?_
    refine r_dup2 Ra dX12_passes_236 ?_
    obtain ⟨gu237, h⟩ := gd h
    refine q_iald Ra t504 l504 gu237 dX12_passes_237 ?_
    refine r_iconst Ra dX12_passes_238 ?_
    refine r_isub Ra dX12_passes_239 ?_
    obtain ⟨gu240, h⟩ := gd h
    obtain ⟨m240, em240, h⟩ := bv h
    have hm240 : VT m240 := eqV em240 (hn231.setI t504 (kd20 _) (inR_32 _))
    refine q_iast Ra t504 l504 gu240 em240 dX12_passes_240 ?_
    exact hJ241 m240 h hm240 _ f231_0 f231_1 f231_3
noncomputable def pM_isPerson (μ : Mem) (x1 : Int) : Option (Int) := if x1 < 0 then some (0) else if 0 ≤ μ 475 13 ∧ μ 475 13 < 2 then if x1 < μ 480 (μ 475 13) then some (1) else some (0) else none
set_option maxHeartbeats 4000000 in
theorem c_pM_isPerson {l : Launch} {en : En} {μ : Mem} {x1 : Int} {re : Int} (hV : VT μ) (hx1 : inR x1) (h : pM_isPerson μ x1 = some re) : CtI l en yX12_isPerson cX12_isPerson 2 0 60 [vA en 475, vI x1] μ .boolean re μ ((re = 0 ∨ re = 1)) := by
  refine Tr.of false (fun h => by cases h) (by decide) (Nat.le_of_ble_eq_true rfl) (fun K Ra => ?_)
  unfold pM_isPerson at h
  refine r_iload_n Ra (i := 1) dX12_isPerson_0 rfl rfl ?_
  refine r_if_lt Ra 21 dX12_isPerson_1 hx1 rfl (fun hc => ?_) (fun hc => ?_)
  · replace h := ipos hc h
    refine r_iconst Ra dX12_isPerson_21 ?_
    cases h
    exact r_zret Ra (Or.inl rfl) (Or.inl rfl) dX12_isPerson_22
  · replace h := ineg hc h
    refine r_iload_n Ra (i := 1) dX12_isPerson_4 rfl rfl ?_
    refine r_aload_n Ra (i := 0) dX12_isPerson_5 rfl rfl ?_
    refine q_getA Ra (b := 480) f_X12_63 t475 rfl rfl rfl (hV.ref t475 rfl (by decide)) (by decide) dX12_isPerson_6 ?_
    refine r_aload_n Ra (i := 0) dX12_isPerson_9 rfl rfl ?_
    refine q_getI Ra (x := μ 475 13) f_X12_51 t475 rfl rfl rfl rfl dX12_isPerson_10 ?_
    obtain ⟨gu13, h⟩ := gd h
    refine q_iald Ra t480 l480 gu13 dX12_isPerson_13 ?_
    refine r_icmp_ge Ra 21 dX12_isPerson_14 hx1 (hV.int t480 (kd20 _)) rfl (fun hc => ?_) (fun hc => ?_)
    · replace h := ineg hc h
      refine r_iconst Ra dX12_isPerson_21 ?_
      cases h
      exact r_zret Ra (Or.inl rfl) (Or.inl rfl) dX12_isPerson_22
    · replace h := ipos hc h
      refine r_iconst Ra dX12_isPerson_17 ?_
      refine r_goto Ra 22 dX12_isPerson_18 rfl ?_
      cases h
      exact r_zret Ra (Or.inr rfl) (Or.inr rfl) dX12_isPerson_22
noncomputable def pM_has_L95b (N : Nat) (μ : Mem)  (k : Int → Option (Int)) (self : Int → Int → Option (Int)) (x2 : Int) (x3 : Int) : Option (Int) := if x3 < 64 then if 0 ≤ x3 ∧ x3 < 1408 then (some (w32 (x2 + (μ 499 x3)) : Int)).bind fun x2_109 => (some (w32 (x3 + 1) : Int)).bind fun x3_110 => self x2_109 x3_110 else none else k x2
noncomputable def pM_has_L95 (N : Nat) (μ : Mem)  (k : Int → Option (Int)) (n : Nat) : Int → Int → Option (Int) := lpF (fun _ _ => none) (pM_has_L95b N μ k) n
noncomputable def pM_has_L120b (N : Nat) (μ : Mem)  (k : Int → Option (Int)) (self : Int → Int → Option (Int)) (x2 : Int) (x3 : Int) : Option (Int) := if 0 ≤ μ 475 13 ∧ μ 475 13 < 2 then if x3 < μ 480 (μ 475 13) then if 0 ≤ x3 ∧ x3 < 132 then (some (w32 (x2 + (μ 503 x3)) : Int)).bind fun x2_141 => (some (w32 (x3 + 1) : Int)).bind fun x3_142 => self x2_141 x3_142 else none else k x2 else none
noncomputable def pM_has_L120 (N : Nat) (μ : Mem)  (k : Int → Option (Int)) (n : Nat) : Int → Int → Option (Int) := lpF (fun _ _ => none) (pM_has_L120b N μ k) n
noncomputable def pM_has (N : Nat) (μ : Mem) (x1 : Int) : Option (Int) := if x1 = 0 then if 0 ≤ μ 475 13 ∧ μ 475 13 < 2 then some (μ 477 (μ 475 13)) else none else if x1 = 1 then if 0 ≤ μ 475 13 ∧ μ 475 13 < 2 then some (μ 478 (μ 475 13)) else none else if x1 = 2 then if 0 ≤ μ 475 13 ∧ μ 475 13 < 2 then some (μ 480 (μ 475 13)) else none else if x1 = 3 then some (μ 498 0) else if x1 = 4 then pM_has_L95 N μ (fun z2_116 => some (z2_116)) N 0 0 else if x1 = 5 then pM_has_L120 N μ (fun z2_148 => some (z2_148)) N 0 0 else if x1 = 6 then some (μ 504 0) else if x1 = 7 then some (μ 475 68) else if x1 = 8 then some (μ 475 52) else if x1 = 9 then some (w32 (μ 475 53)) else some ((-1))
theorem k_pM_has_L95 {l : Launch} {en : En} {re : Int} {N : Nat} {μ : Mem} (hV : VT μ)  {k : Int → Option (Int)} {K : KT} (Ra : Ru false (some (some .int, some (vI re), nCells, μ, 0, 0, (inR re))) l en cX12_has yX12_has.cls 4 (rmN 0 60) K)  (hk : ∀ (z2 : Int), k z2 = some re → inR z2 → ∀ L9 : Lo, L9 2 = some (vI z2) → K ZN 116 L9 [] μ) : ∀ (n : Nat) (x2 : Int) (x3 : Int) (L : Lo), pM_has_L95 N μ k n x2 x3 = some re → inR x2 → inR x3 → L 0 = some (vA en 475) → L 2 = some (vI x2) → L 3 = some (vI x3) → K ZN 95 L [] μ := by
  intro n
  induction n with
  | zero => intro x2 x3 L h; cases h
  | succ n ih =>
    intro x2 x3 L h hx2 hx3 hL0 hL2 hL3
    replace h : pM_has_L95b N μ k (pM_has_L95 N μ k n) x2 x3 = some re := h
    unfold pM_has_L95b at h
    refine r_iload_n Ra (i := 3) dX12_has_95 rfl hL3 ?_
    refine r_bipush Ra dX12_has_96 rfl ?_
    refine r_icmp_ge Ra 116 dX12_has_98 hx3 (Rk rfl) rfl (fun hc => ?_) (fun hc => ?_)
    · replace h := ineg hc h
      exact hk x2 h hx2 _ hL2
    · replace h := ipos hc h
      refine r_iload_n Ra (i := 2) dX12_has_101 rfl hL2 ?_
      refine r_aload_n Ra (i := 0) dX12_has_102 rfl hL0 ?_
      refine q_getA Ra (b := 499) f_X12_147 t475 rfl rfl rfl (hV.ref t475 rfl (by decide)) (by decide) dX12_has_103 ?_
      refine r_iload_n Ra (i := 3) dX12_has_106 rfl hL3 ?_
      obtain ⟨gu107, h⟩ := gd h
      refine q_iald Ra t499 l499 gu107 dX12_has_107 ?_
      refine r_iadd Ra dX12_has_108 ?_
      obtain ⟨x2_109, ex2_109, h⟩ := bv h
      have ix2_109 : inR x2_109 := eqR ex2_109 (inR_32 _)
      refine q_istore_n Ra 2 dX12_has_109 rfl rfl ex2_109 ?_
      obtain ⟨x3_110, ex3_110, h⟩ := bv h
      have ix3_110 : inR x3_110 := eqR ex3_110 (inR_32 _)
      refine q_iinc Ra dX12_has_110 hL3 ex3_110 ?_
      refine r_goto Ra 95 dX12_has_113 rfl ?_
      exact ih x2_109 x3_110 _ h ix2_109 ix3_110 hL0 rfl rfl
theorem k_pM_has_L120 {l : Launch} {en : En} {re : Int} {N : Nat} {μ : Mem} (hV : VT μ)  {k : Int → Option (Int)} {K : KT} (Ra : Ru false (some (some .int, some (vI re), nCells, μ, 0, 0, (inR re))) l en cX12_has yX12_has.cls 4 (rmN 0 60) K)  (hk : ∀ (z2 : Int), k z2 = some re → inR z2 → ∀ L9 : Lo, L9 2 = some (vI z2) → K ZN 148 L9 [] μ) : ∀ (n : Nat) (x2 : Int) (x3 : Int) (L : Lo), pM_has_L120 N μ k n x2 x3 = some re → inR x2 → inR x3 → L 0 = some (vA en 475) → L 2 = some (vI x2) → L 3 = some (vI x3) → K ZN 120 L [] μ := by
  intro n
  induction n with
  | zero => intro x2 x3 L h; cases h
  | succ n ih =>
    intro x2 x3 L h hx2 hx3 hL0 hL2 hL3
    replace h : pM_has_L120b N μ k (pM_has_L120 N μ k n) x2 x3 = some re := h
    unfold pM_has_L120b at h
    refine r_iload_n Ra (i := 3) dX12_has_120 rfl hL3 ?_
    refine r_aload_n Ra (i := 0) dX12_has_121 rfl hL0 ?_
    refine q_getA Ra (b := 480) f_X12_63 t475 rfl rfl rfl (hV.ref t475 rfl (by decide)) (by decide) dX12_has_122 ?_
    refine r_aload_n Ra (i := 0) dX12_has_125 rfl hL0 ?_
    refine q_getI Ra (x := μ 475 13) f_X12_51 t475 rfl rfl rfl rfl dX12_has_126 ?_
    obtain ⟨gu129, h⟩ := gd h
    refine q_iald Ra t480 l480 gu129 dX12_has_129 ?_
    refine r_icmp_ge Ra 148 dX12_has_130 hx3 (hV.int t480 (kd20 _)) rfl (fun hc => ?_) (fun hc => ?_)
    · replace h := ineg hc h
      exact hk x2 h hx2 _ hL2
    · replace h := ipos hc h
      refine r_iload_n Ra (i := 2) dX12_has_133 rfl hL2 ?_
      refine r_aload_n Ra (i := 0) dX12_has_134 rfl hL0 ?_
      refine q_getA Ra (b := 503) f_X12_159 t475 rfl rfl rfl (hV.ref t475 rfl (by decide)) (by decide) dX12_has_135 ?_
      refine r_iload_n Ra (i := 3) dX12_has_138 rfl hL3 ?_
      obtain ⟨gu139, h⟩ := gd h
      refine q_iald Ra t503 l503 gu139 dX12_has_139 ?_
      refine r_iadd Ra dX12_has_140 ?_
      obtain ⟨x2_141, ex2_141, h⟩ := bv h
      have ix2_141 : inR x2_141 := eqR ex2_141 (inR_32 _)
      refine q_istore_n Ra 2 dX12_has_141 rfl rfl ex2_141 ?_
      obtain ⟨x3_142, ex3_142, h⟩ := bv h
      have ix3_142 : inR x3_142 := eqR ex3_142 (inR_32 _)
      refine q_iinc Ra dX12_has_142 hL3 ex3_142 ?_
      refine r_goto Ra 120 dX12_has_145 rfl ?_
      exact ih x2_141 x3_142 _ h ix2_141 ix3_142 hL0 rfl rfl
set_option maxHeartbeats 4000000 in
theorem c_pM_has {l : Launch} {en : En} {N : Nat} {μ : Mem} {x1 : Int} {re : Int} (hV : VT μ) (hx1 : inR x1) (h : pM_has N μ x1 = some re) : CtI l en yX12_has cX12_has 4 0 60 [vA en 475, vI x1] μ .int re μ (inR re) := by
  refine Tr.of false (fun h => by cases h) (by decide) (Nat.le_of_ble_eq_true rfl) (fun K Ra => ?_)
  unfold pM_has at h
  refine r_iconst Ra dX12_has_0 ?_
  refine q_istore_n Ra 2 dX12_has_1 rfl rfl rfl ?_
  refine r_iload_n Ra (i := 1) dX12_has_2 rfl rfl ?_
  by_cases hc : x1 = 0
  · replace h := ipos hc h
    refine q_tableC Ra 56 dX12_has_3 hx1 hc rfl rfl rfl ?_
    refine r_aload_n Ra (i := 0) dX12_has_56 rfl rfl ?_
    refine q_getA Ra (b := 477) f_X12_54 t475 rfl rfl rfl (hV.ref t475 rfl (by decide)) (by decide) dX12_has_57 ?_
    refine r_aload_n Ra (i := 0) dX12_has_60 rfl rfl ?_
    refine q_getI Ra (x := μ 475 13) f_X12_51 t475 rfl rfl rfl rfl dX12_has_61 ?_
    obtain ⟨gu64, h⟩ := gd h
    refine q_iald Ra t477 l477 gu64 dX12_has_64 ?_
    cases h
    exact r_iret Ra (hV.int t477 (kd20 _)) dX12_has_65
  · have hs3_0 := hc
    replace h := ineg hc h
    by_cases hc : x1 = 1
    · replace h := ipos hc h
      refine q_tableC Ra 66 dX12_has_3 hx1 hc rfl rfl rfl ?_
      refine r_aload_n Ra (i := 0) dX12_has_66 rfl rfl ?_
      refine q_getA Ra (b := 478) f_X12_57 t475 rfl rfl rfl (hV.ref t475 rfl (by decide)) (by decide) dX12_has_67 ?_
      refine r_aload_n Ra (i := 0) dX12_has_70 rfl rfl ?_
      refine q_getI Ra (x := μ 475 13) f_X12_51 t475 rfl rfl rfl rfl dX12_has_71 ?_
      obtain ⟨gu74, h⟩ := gd h
      refine q_iald Ra t478 l478 gu74 dX12_has_74 ?_
      cases h
      exact r_iret Ra (hV.int t478 (kd20 _)) dX12_has_75
    · have hs3_1 := hc
      replace h := ineg hc h
      by_cases hc : x1 = 2
      · replace h := ipos hc h
        refine q_tableC Ra 76 dX12_has_3 hx1 hc rfl rfl rfl ?_
        refine r_aload_n Ra (i := 0) dX12_has_76 rfl rfl ?_
        refine q_getA Ra (b := 480) f_X12_63 t475 rfl rfl rfl (hV.ref t475 rfl (by decide)) (by decide) dX12_has_77 ?_
        refine r_aload_n Ra (i := 0) dX12_has_80 rfl rfl ?_
        refine q_getI Ra (x := μ 475 13) f_X12_51 t475 rfl rfl rfl rfl dX12_has_81 ?_
        obtain ⟨gu84, h⟩ := gd h
        refine q_iald Ra t480 l480 gu84 dX12_has_84 ?_
        cases h
        exact r_iret Ra (hV.int t480 (kd20 _)) dX12_has_85
      · have hs3_2 := hc
        replace h := ineg hc h
        by_cases hc : x1 = 3
        · replace h := ipos hc h
          refine q_tableC Ra 86 dX12_has_3 hx1 hc rfl rfl rfl ?_
          refine r_aload_n Ra (i := 0) dX12_has_86 rfl rfl ?_
          refine q_getA Ra (b := 498) f_X12_144 t475 rfl rfl rfl (hV.ref t475 rfl (by decide)) (by decide) dX12_has_87 ?_
          refine r_iconst Ra dX12_has_90 ?_
          refine q_iald Ra t498 l498 (by decide) dX12_has_91 ?_
          cases h
          exact r_iret Ra (hV.int t498 (kd20 _)) dX12_has_92
        · have hs3_3 := hc
          replace h := ineg hc h
          by_cases hc : x1 = 4
          · replace h := ipos hc h
            refine q_tableC Ra 93 dX12_has_3 hx1 hc rfl rfl rfl ?_
            refine r_iconst Ra dX12_has_93 ?_
            refine q_istore_n Ra 3 dX12_has_94 rfl rfl rfl ?_
            refine k_pM_has_L95 hV Ra ?_ _ _ _ _ h (Rk rfl) (Rk rfl) rfl rfl rfl
            intro z2_116 h iz2_116 L9 f116_2
            refine r_iload_n Ra (i := 2) dX12_has_116 rfl f116_2 ?_
            cases h
            exact r_iret Ra iz2_116 dX12_has_117
          · have hs3_4 := hc
            replace h := ineg hc h
            by_cases hc : x1 = 5
            · replace h := ipos hc h
              refine q_tableC Ra 118 dX12_has_3 hx1 hc rfl rfl rfl ?_
              refine r_iconst Ra dX12_has_118 ?_
              refine q_istore_n Ra 3 dX12_has_119 rfl rfl rfl ?_
              refine k_pM_has_L120 hV Ra ?_ _ _ _ _ h (Rk rfl) (Rk rfl) rfl rfl rfl
              intro z2_148 h iz2_148 L9 f148_2
              refine r_iload_n Ra (i := 2) dX12_has_148 rfl f148_2 ?_
              cases h
              exact r_iret Ra iz2_148 dX12_has_149
            · have hs3_5 := hc
              replace h := ineg hc h
              by_cases hc : x1 = 6
              · replace h := ipos hc h
                refine q_tableC Ra 150 dX12_has_3 hx1 hc rfl rfl rfl ?_
                refine r_aload_n Ra (i := 0) dX12_has_150 rfl rfl ?_
                refine q_getA Ra (b := 504) f_X12_162 t475 rfl rfl rfl (hV.ref t475 rfl (by decide)) (by decide) dX12_has_151 ?_
                refine r_iconst Ra dX12_has_154 ?_
                refine q_iald Ra t504 l504 (by decide) dX12_has_155 ?_
                cases h
                exact r_iret Ra (hV.int t504 (kd20 _)) dX12_has_156
              · have hs3_6 := hc
                replace h := ineg hc h
                by_cases hc : x1 = 7
                · replace h := ipos hc h
                  refine q_tableC Ra 157 dX12_has_3 hx1 hc rfl rfl rfl ?_
                  refine r_aload_n Ra (i := 0) dX12_has_157 rfl rfl ?_
                  refine q_getI Ra (x := μ 475 68) f_X12_219 t475 rfl rfl rfl rfl dX12_has_158 ?_
                  cases h
                  exact r_iret Ra (hV.int t475 rfl) dX12_has_161
                · have hs3_7 := hc
                  replace h := ineg hc h
                  by_cases hc : x1 = 8
                  · replace h := ipos hc h
                    refine q_tableC Ra 162 dX12_has_3 hx1 hc rfl rfl rfl ?_
                    refine r_aload_n Ra (i := 0) dX12_has_162 rfl rfl ?_
                    refine q_getI Ra (x := μ 475 52) f_X12_171 t475 rfl rfl rfl rfl dX12_has_163 ?_
                    cases h
                    exact r_iret Ra (hV.int t475 rfl) dX12_has_166
                  · have hs3_8 := hc
                    replace h := ineg hc h
                    by_cases hc : x1 = 9
                    · replace h := ipos hc h
                      refine q_tableC Ra 167 dX12_has_3 hx1 hc rfl rfl rfl ?_
                      refine r_aload_n Ra (i := 0) dX12_has_167 rfl rfl ?_
                      refine q_getJ Ra (x := μ 475 53) f_X12_174 t475 rfl rfl rfl rfl dX12_has_168 ?_
                      refine r_l2i Ra dX12_has_171 ?_
                      cases h
                      exact r_iret Ra (inR_32 _) dX12_has_172
                    · have hs3_9 := hc
                      replace h := ineg hc h
                      refine q_tableD Ra 173 dX12_has_3 hx1 [0, 1, 2, 3, 4, 5, 6, 7, 8, 9] (List.forall_mem_cons.mpr ⟨hs3_0, (List.forall_mem_cons.mpr ⟨hs3_1, (List.forall_mem_cons.mpr ⟨hs3_2, (List.forall_mem_cons.mpr ⟨hs3_3, (List.forall_mem_cons.mpr ⟨hs3_4, (List.forall_mem_cons.mpr ⟨hs3_5, (List.forall_mem_cons.mpr ⟨hs3_6, (List.forall_mem_cons.mpr ⟨hs3_7, (List.forall_mem_cons.mpr ⟨hs3_8, (List.forall_mem_cons.mpr ⟨hs3_9, (fun _ h9 => absurd h9 List.not_mem_nil)⟩)⟩)⟩)⟩)⟩)⟩)⟩)⟩)⟩)⟩) rfl rfl ?_
                      refine r_iconst Ra dX12_has_173 ?_
                      cases h
                      exact r_iret Ra (Rk rfl) dX12_has_174
noncomputable def pM_letter_L40b (N : Nat) (μ : Mem) (c2 : Int) (c3 : Int) (k : Int → Option (Int)) (self : Int → Int → Option (Int)) (x5 : Int) (x6 : Int) : Option (Int) := if 0 < x6 then (some (w32 (x5 + 1) : Int)).bind fun x5_47 => (some (shr64 x6 8 : Int)).bind fun x6_55 => self x5_47 x6_55 else k x5
noncomputable def pM_letter_L40 (N : Nat) (μ : Mem) (c2 : Int) (c3 : Int) (k : Int → Option (Int)) (n : Nat) : Int → Int → Option (Int) := lpF (fun _ _ => none) (pM_letter_L40b N μ c2 c3 k) n
noncomputable def pM_letter (N : Nat) (μ : Mem) (x1 : Int) (x2 : Int) : Option (Int) := (pM_isPerson μ x1).bind fun r2 => if r2 = 0 then some ((-1)) else (pM_is μ x2 0 5).bind fun r11 => if r11 = 0 then some ((-1)) else if 0 ≤ w32 ((w32 (6 * (μ 475 13))) + x1) ∧ w32 ((w32 (6 * (μ 475 13))) + x1) < 12 then (some (μ 490 (w32 ((w32 (6 * (μ 475 13))) + x1)) : Int)).bind fun x3_33 => pM_letter_L40 N μ x2 x3_33 (fun z5_60 => if x2 < z5_60 then some (w32 ((w32 ((w32 (a64 (shr64 x3_33 (w32 (8 * (w32 ((w32 (z5_60 - 1)) - x2))))) 255)) - 97)) + 1)) else some (0)) N 0 x3_33 else none
theorem k_pM_letter_L40 {l : Launch} {en : En} {re : Int} {N : Nat} {μ : Mem} (hV : VT μ) {c2 : Int} {c3 : Int} {k : Int → Option (Int)} {K : KT} (Ra : Ru false (some (some .int, some (vI re), nCells, μ, 0, 0, (inR re))) l en cX12_letter yX12_letter.cls 8 (rmN 1 82) K) (hi2 : inR c2) (hi3 : inL c3) (hk : ∀ (z5 : Int), k z5 = some re → inR z5 → ∀ L9 : Lo, L9 2 = some (vI c2) → L9 3 = some (vJ c3) → L9 4 = some mark → L9 5 = some (vI z5) → K ZN 60 L9 [] μ) : ∀ (n : Nat) (x5 : Int) (x6 : Int) (L : Lo), pM_letter_L40 N μ c2 c3 k n x5 x6 = some re → inR x5 → inL x6 → L 2 = some (vI c2) → L 3 = some (vJ c3) → L 4 = some mark → L 5 = some (vI x5) → L 6 = some (vJ x6) → L 7 = some mark → K ZN 40 L [] μ := by
  intro n
  induction n with
  | zero => intro x5 x6 L h; cases h
  | succ n ih =>
    intro x5 x6 L h hx5 hx6 hL2 hL3 qhL3 hL5 hL6 qhL6
    replace h : pM_letter_L40b N μ c2 c3 k (pM_letter_L40 N μ c2 c3 k n) x5 x6 = some re := h
    unfold pM_letter_L40b at h
    refine r_lload Ra dX12_letter_40 hL6 qhL6 ?_
    refine r_lconst (v := 0) Ra dX12_letter_42 rfl ?_
    refine r_lcmp Ra dX12_letter_43 ?_
    refine q_lif_le Ra 60 dX12_letter_44 hx6 (Lk rfl) rfl (fun hc => ?_) (fun hc => ?_)
    · replace h := ineg hc h
      exact hk x5 h hx5 _ hL2 hL3 qhL3 hL5
    · replace h := ipos hc h
      obtain ⟨x5_47, ex5_47, h⟩ := bv h
      have ix5_47 : inR x5_47 := eqR ex5_47 (inR_32 _)
      refine q_iinc Ra dX12_letter_47 hL5 ex5_47 ?_
      refine r_lload Ra dX12_letter_50 hL6 qhL6 ?_
      refine r_bipush Ra dX12_letter_52 rfl ?_
      refine r_lshr Ra dX12_letter_54 ?_
      obtain ⟨x6_55, ex6_55, h⟩ := bv h
      have ix6_55 : inL x6_55 := eqL ex6_55 (inL_64 _)
      refine q_lstore Ra dX12_letter_55 rfl ex6_55 ?_
      refine r_goto Ra 40 dX12_letter_57 rfl ?_
      exact ih x5_47 x6_55 _ h ix5_47 ix6_55 hL2 hL3 qhL3 rfl rfl rfl
set_option maxHeartbeats 4000000 in
theorem c_pM_letter {l : Launch} {en : En} {N : Nat} {μ : Mem} {x1 : Int} {x2 : Int} {re : Int} (hV : VT μ) (hx1 : inR x1) (hx2 : inR x2) (h : pM_letter N μ x1 x2 = some re) : CtI l en yX12_letter cX12_letter 8 1 82 [vA en 475, vI x1, vI x2] μ .int re μ (inR re) := by
  refine Tr.of false (fun h => by cases h) (by decide) (Nat.le_of_ble_eq_true rfl) (fun K Ra => ?_)
  unfold pM_letter at h
  refine r_aload_n Ra (i := 0) dX12_letter_0 rfl rfl ?_
  refine r_iload_n Ra (i := 1) dX12_letter_1 rfl rfl ?_
  obtain ⟨r2, hr2, h⟩ := bd h
  refine q_callVI Ra (c_pM_isPerson hV hx1 hr2) mw_X12_isPerson mi_X12_isPerson t475 rfl rfl rfl rfl rfl k_X12_469 rfl rfl dX12_letter_2 (fun ok2 => ?_)
  refine r_if_eq Ra 17 dX12_letter_5 (inR_01 ok2) rfl (fun hc => ?_) (fun hc => ?_)
  · replace h := ipos hc h
    refine r_iconst Ra dX12_letter_17 ?_
    cases h
    exact r_iret Ra (Rk rfl) dX12_letter_18
  · replace h := ineg hc h
    refine r_iload_n Ra (i := 2) dX12_letter_8 rfl rfl ?_
    refine r_iconst Ra dX12_letter_9 ?_
    refine r_iconst Ra dX12_letter_10 ?_
    obtain ⟨r11, hr11, h⟩ := bd h
    refine q_callSI Ra (c_pM_is hV hx2 (Rk rfl) (Rk rfl) hr11) mw_X12_is ms_X12_is rfl rfl k_X12_323 rfl rfl dX12_letter_11 (fun ok11 => ?_)
    refine r_if_ne Ra 19 dX12_letter_14 (inR_01 ok11) rfl (fun hc => ?_) (fun hc => ?_)
    · replace h := ineg hc h
      refine r_aload_n Ra (i := 0) dX12_letter_19 rfl rfl ?_
      refine q_getA Ra (b := 490) f_X12_93 t475 rfl rfl rfl (hV.ref t475 rfl (by decide)) (by decide) dX12_letter_20 ?_
      refine r_bipush Ra dX12_letter_23 rfl ?_
      refine r_aload_n Ra (i := 0) dX12_letter_25 rfl rfl ?_
      refine q_getI Ra (x := μ 475 13) f_X12_51 t475 rfl rfl rfl rfl dX12_letter_26 ?_
      refine r_imul Ra dX12_letter_29 ?_
      refine r_iload_n Ra (i := 1) dX12_letter_30 rfl rfl ?_
      refine r_iadd Ra dX12_letter_31 ?_
      obtain ⟨gu32, h⟩ := gd h
      refine q_lald Ra t490 l490 gu32 dX12_letter_32 ?_
      obtain ⟨x3_33, ex3_33, h⟩ := bv h
      have ix3_33 : inL x3_33 := eqL ex3_33 (hV.long t490 (kd22 _))
      refine q_lstore_n Ra 3 dX12_letter_33 rfl rfl ex3_33 ?_
      refine r_iconst Ra dX12_letter_34 ?_
      refine q_istore Ra dX12_letter_35 rfl rfl ?_
      refine r_lload_n Ra (i := 3) dX12_letter_37 rfl rfl rfl ?_
      refine q_lstore Ra dX12_letter_38 rfl rfl ?_
      refine k_pM_letter_L40 hV Ra hx2 ix3_33 ?_ _ _ _ _ h (Rk rfl) ix3_33 rfl rfl rfl rfl rfl rfl
      intro z5_60 h iz5_60 L9 f60_2 f60_3 qf60_3 f60_5
      refine r_iload_n Ra (i := 2) dX12_letter_60 rfl f60_2 ?_
      refine r_iload Ra dX12_letter_61 f60_5 ?_
      refine r_icmp_lt Ra 70 dX12_letter_63 hx2 iz5_60 rfl (fun hc => ?_) (fun hc => ?_)
      · replace h := ipos hc h
        refine r_lload_n Ra (i := 3) dX12_letter_70 rfl f60_3 qf60_3 ?_
        refine r_bipush Ra dX12_letter_71 rfl ?_
        refine r_iload Ra dX12_letter_73 f60_5 ?_
        refine r_iconst Ra dX12_letter_75 ?_
        refine r_isub Ra dX12_letter_76 ?_
        refine r_iload_n Ra (i := 2) dX12_letter_77 rfl f60_2 ?_
        refine r_isub Ra dX12_letter_78 ?_
        refine r_imul Ra dX12_letter_79 ?_
        refine r_lshr Ra dX12_letter_80 ?_
        refine r_ldc2 Ra dX12_letter_81 kc_X12_472 ?_
        refine r_land Ra dX12_letter_84 ?_
        refine r_l2i Ra dX12_letter_85 ?_
        refine r_bipush Ra dX12_letter_86 rfl ?_
        refine r_isub Ra dX12_letter_88 ?_
        refine r_iconst Ra dX12_letter_89 ?_
        refine r_iadd Ra dX12_letter_90 ?_
        cases h
        exact r_iret Ra (inR_32 _) dX12_letter_91
      · replace h := ineg hc h
        refine r_iconst Ra dX12_letter_66 ?_
        refine r_goto Ra 91 dX12_letter_67 rfl ?_
        cases h
        exact r_iret Ra (Rk rfl) dX12_letter_91
    · replace h := ipos hc h
      refine r_iconst Ra dX12_letter_17 ?_
      cases h
      exact r_iret Ra (Rk rfl) dX12_letter_18
noncomputable def pM_cell (μ : Mem) (x1 : Int) (x2 : Int) : Option (Int) := (pM_isCell μ x1 x2).bind fun r3 => if r3 = 0 then some ((-1)) else if 0 ≤ w32 ((w32 (8 * x2)) + x1) ∧ w32 ((w32 (8 * x2)) + x1) < 1408 then some (μ 499 (w32 ((w32 (8 * x2)) + x1))) else none
set_option maxHeartbeats 4000000 in
theorem c_pM_cell {l : Launch} {en : En} {μ : Mem} {x1 : Int} {x2 : Int} {re : Int} (hV : VT μ) (hx1 : inR x1) (hx2 : inR x2) (h : pM_cell μ x1 x2 = some re) : CtI l en yX12_cell cX12_cell 3 2 104 [vA en 475, vI x1, vI x2] μ .int re μ (inR re) := by
  refine Tr.of false (fun h => by cases h) (by decide) (Nat.le_of_ble_eq_true rfl) (fun K Ra => ?_)
  unfold pM_cell at h
  refine r_aload_n Ra (i := 0) dX12_cell_0 rfl rfl ?_
  refine r_iload_n Ra (i := 1) dX12_cell_1 rfl rfl ?_
  refine r_iload_n Ra (i := 2) dX12_cell_2 rfl rfl ?_
  obtain ⟨r3, hr3, h⟩ := bd h
  refine q_callVI Ra (c_pM_isCell hV hx1 hx2 hr3) mw_X12_isCell mi_X12_isCell t475 rfl rfl rfl rfl rfl k_X12_437 rfl rfl dX12_cell_3 (fun ok3 => ?_)
  refine r_if_eq Ra 23 dX12_cell_6 (inR_01 ok3) rfl (fun hc => ?_) (fun hc => ?_)
  · replace h := ipos hc h
    refine r_iconst Ra dX12_cell_23 ?_
    cases h
    exact r_iret Ra (Rk rfl) dX12_cell_24
  · replace h := ineg hc h
    refine r_aload_n Ra (i := 0) dX12_cell_9 rfl rfl ?_
    refine q_getA Ra (b := 499) f_X12_147 t475 rfl rfl rfl (hV.ref t475 rfl (by decide)) (by decide) dX12_cell_10 ?_
    refine r_bipush Ra dX12_cell_13 rfl ?_
    refine r_iload_n Ra (i := 2) dX12_cell_15 rfl rfl ?_
    refine r_imul Ra dX12_cell_16 ?_
    refine r_iload_n Ra (i := 1) dX12_cell_17 rfl rfl ?_
    refine r_iadd Ra dX12_cell_18 ?_
    obtain ⟨gu19, h⟩ := gd h
    refine q_iald Ra t499 l499 gu19 dX12_cell_19 ?_
    refine r_goto Ra 24 dX12_cell_20 rfl ?_
    cases h
    exact r_iret Ra (hV.int t499 (kd20 _)) dX12_cell_24
noncomputable def pM_person (μ : Mem) (x1 : Int) (x2 : Int) : Option (Int) := (pM_isPerson μ x1).bind fun r2 => if r2 = 0 then some ((-1)) else if x2 = 0 then if 0 ≤ x1 ∧ x1 < 132 then some (r32 (μ 500 x1) 8) else none else if x2 = 1 then if 0 ≤ x1 ∧ x1 < 132 then some (d32 (μ 500 x1) 8) else none else if x2 = 2 then if 0 ≤ x1 ∧ x1 < 132 then some (μ 501 x1) else none else if x2 = 3 then if 0 ≤ x1 ∧ x1 < 132 then some (μ 502 x1) else none else if x2 = 4 then if 0 ≤ w32 ((w32 (6 * (μ 475 13))) + x1) ∧ w32 ((w32 (6 * (μ 475 13))) + x1) < 12 then some (μ 484 (w32 ((w32 (6 * (μ 475 13))) + x1))) else none else if x2 = 5 then if 0 ≤ x1 ∧ x1 < 132 then some (μ 503 x1) else none else some ((-1))
set_option maxHeartbeats 4000000 in
theorem c_pM_person {l : Launch} {en : En} {μ : Mem} {x1 : Int} {x2 : Int} {re : Int} (hV : VT μ) (hx1 : inR x1) (hx2 : inR x2) (h : pM_person μ x1 x2 = some re) : CtI l en yX12_person cX12_person 3 1 81 [vA en 475, vI x1, vI x2] μ .int re μ (inR re) := by
  refine Tr.of false (fun h => by cases h) (by decide) (Nat.le_of_ble_eq_true rfl) (fun K Ra => ?_)
  unfold pM_person at h
  refine r_aload_n Ra (i := 0) dX12_person_0 rfl rfl ?_
  refine r_iload_n Ra (i := 1) dX12_person_1 rfl rfl ?_
  obtain ⟨r2, hr2, h⟩ := bd h
  refine q_callVI Ra (c_pM_isPerson hV hx1 hr2) mw_X12_isPerson mi_X12_isPerson t475 rfl rfl rfl rfl rfl k_X12_469 rfl rfl dX12_person_2 (fun ok2 => ?_)
  refine r_if_ne Ra 10 dX12_person_5 (inR_01 ok2) rfl (fun hc => ?_) (fun hc => ?_)
  · replace h := ineg hc h
    refine r_iload_n Ra (i := 2) dX12_person_10 rfl rfl ?_
    by_cases hc : x2 = 0
    · replace h := ipos hc h
      refine q_tableC Ra 48 dX12_person_11 hx2 hc rfl rfl rfl ?_
      refine r_aload_n Ra (i := 0) dX12_person_48 rfl rfl ?_
      refine q_getA Ra (b := 500) f_X12_150 t475 rfl rfl rfl (hV.ref t475 rfl (by decide)) (by decide) dX12_person_49 ?_
      refine r_iload_n Ra (i := 1) dX12_person_52 rfl rfl ?_
      obtain ⟨gu53, h⟩ := gd h
      refine q_iald Ra t500 l500 gu53 dX12_person_53 ?_
      refine r_bipush Ra dX12_person_54 rfl ?_
      refine r_irem Ra dX12_person_56 (Rk rfl) (by decide) ?_
      cases h
      exact r_iret Ra (inR_32 _) dX12_person_57
    · have hs11_0 := hc
      replace h := ineg hc h
      by_cases hc : x2 = 1
      · replace h := ipos hc h
        refine q_tableC Ra 58 dX12_person_11 hx2 hc rfl rfl rfl ?_
        refine r_aload_n Ra (i := 0) dX12_person_58 rfl rfl ?_
        refine q_getA Ra (b := 500) f_X12_150 t475 rfl rfl rfl (hV.ref t475 rfl (by decide)) (by decide) dX12_person_59 ?_
        refine r_iload_n Ra (i := 1) dX12_person_62 rfl rfl ?_
        obtain ⟨gu63, h⟩ := gd h
        refine q_iald Ra t500 l500 gu63 dX12_person_63 ?_
        refine r_bipush Ra dX12_person_64 rfl ?_
        refine r_idiv Ra dX12_person_66 (Rk rfl) (by decide) ?_
        cases h
        exact r_iret Ra (inR_32 _) dX12_person_67
      · have hs11_1 := hc
        replace h := ineg hc h
        by_cases hc : x2 = 2
        · replace h := ipos hc h
          refine q_tableC Ra 68 dX12_person_11 hx2 hc rfl rfl rfl ?_
          refine r_aload_n Ra (i := 0) dX12_person_68 rfl rfl ?_
          refine q_getA Ra (b := 501) f_X12_153 t475 rfl rfl rfl (hV.ref t475 rfl (by decide)) (by decide) dX12_person_69 ?_
          refine r_iload_n Ra (i := 1) dX12_person_72 rfl rfl ?_
          obtain ⟨gu73, h⟩ := gd h
          refine q_iald Ra t501 l501 gu73 dX12_person_73 ?_
          cases h
          exact r_iret Ra (hV.int t501 (kd20 _)) dX12_person_74
        · have hs11_2 := hc
          replace h := ineg hc h
          by_cases hc : x2 = 3
          · replace h := ipos hc h
            refine q_tableC Ra 75 dX12_person_11 hx2 hc rfl rfl rfl ?_
            refine r_aload_n Ra (i := 0) dX12_person_75 rfl rfl ?_
            refine q_getA Ra (b := 502) f_X12_156 t475 rfl rfl rfl (hV.ref t475 rfl (by decide)) (by decide) dX12_person_76 ?_
            refine r_iload_n Ra (i := 1) dX12_person_79 rfl rfl ?_
            obtain ⟨gu80, h⟩ := gd h
            refine q_iald Ra t502 l502 gu80 dX12_person_80 ?_
            cases h
            exact r_iret Ra (hV.int t502 (kd20 _)) dX12_person_81
          · have hs11_3 := hc
            replace h := ineg hc h
            by_cases hc : x2 = 4
            · replace h := ipos hc h
              refine q_tableC Ra 82 dX12_person_11 hx2 hc rfl rfl rfl ?_
              refine r_aload_n Ra (i := 0) dX12_person_82 rfl rfl ?_
              refine q_getA Ra (b := 484) f_X12_75 t475 rfl rfl rfl (hV.ref t475 rfl (by decide)) (by decide) dX12_person_83 ?_
              refine r_bipush Ra dX12_person_86 rfl ?_
              refine r_aload_n Ra (i := 0) dX12_person_88 rfl rfl ?_
              refine q_getI Ra (x := μ 475 13) f_X12_51 t475 rfl rfl rfl rfl dX12_person_89 ?_
              refine r_imul Ra dX12_person_92 ?_
              refine r_iload_n Ra (i := 1) dX12_person_93 rfl rfl ?_
              refine r_iadd Ra dX12_person_94 ?_
              obtain ⟨gu95, h⟩ := gd h
              refine q_iald Ra t484 l484 gu95 dX12_person_95 ?_
              cases h
              exact r_iret Ra (hV.int t484 (kd20 _)) dX12_person_96
            · have hs11_4 := hc
              replace h := ineg hc h
              by_cases hc : x2 = 5
              · replace h := ipos hc h
                refine q_tableC Ra 97 dX12_person_11 hx2 hc rfl rfl rfl ?_
                refine r_aload_n Ra (i := 0) dX12_person_97 rfl rfl ?_
                refine q_getA Ra (b := 503) f_X12_159 t475 rfl rfl rfl (hV.ref t475 rfl (by decide)) (by decide) dX12_person_98 ?_
                refine r_iload_n Ra (i := 1) dX12_person_101 rfl rfl ?_
                obtain ⟨gu102, h⟩ := gd h
                refine q_iald Ra t503 l503 gu102 dX12_person_102 ?_
                cases h
                exact r_iret Ra (hV.int t503 (kd20 _)) dX12_person_103
              · have hs11_5 := hc
                replace h := ineg hc h
                refine q_tableD Ra 104 dX12_person_11 hx2 [0, 1, 2, 3, 4, 5] (List.forall_mem_cons.mpr ⟨hs11_0, (List.forall_mem_cons.mpr ⟨hs11_1, (List.forall_mem_cons.mpr ⟨hs11_2, (List.forall_mem_cons.mpr ⟨hs11_3, (List.forall_mem_cons.mpr ⟨hs11_4, (List.forall_mem_cons.mpr ⟨hs11_5, (fun _ h9 => absurd h9 List.not_mem_nil)⟩)⟩)⟩)⟩)⟩)⟩) rfl rfl ?_
                refine r_iconst Ra dX12_person_104 ?_
                cases h
                exact r_iret Ra (Rk rfl) dX12_person_105
  · replace h := ipos hc h
    refine r_iconst Ra dX12_person_8 ?_
    cases h
    exact r_iret Ra (Rk rfl) dX12_person_9
noncomputable def pM_today (N : Nat) (μ : Mem) (x1 : Int) (x2 : Int) (x3 : Int) : Option (Int × Mem) := (pM_isPerson μ x1).bind fun r2 => if r2 = 0 then some ((-1), μ) else (pM_is μ x2 0 8).bind fun r12 => if r12 = 0 then some ((-1), μ) else (pM_is μ x3 0 2).bind fun r21 => if r21 = 0 then some ((-1), μ) else (pM_all μ).bind fun r33 => (pM_runs N μ 0 1 r33).bind fun (r36, m36) => if 0 ≤ w32 ((w32 (6 * x2)) + x1) ∧ w32 ((w32 (6 * x2)) + x1) < 54 then (some (m36 512 (w32 ((w32 (6 * x2)) + x1)) : Int)).bind fun x4_51 => if x3 = 0 then some (r32 x4_51 8, m36) else if x3 = 1 then some (d32 x4_51 8, m36) else if 0 ≤ w32 ((w32 (6 * x2)) + x1) ∧ w32 ((w32 (6 * x2)) + x1) < 54 then some (m36 513 (w32 ((w32 (6 * x2)) + x1)), m36) else none else none
set_option maxHeartbeats 4000000 in
theorem c_pM_today {l : Launch} {en : En} {N : Nat} {μ : Mem} {x1 : Int} {x2 : Int} {x3 : Int} {re : Int} {μe : Mem} (hV : VT μ) (hx1 : inR x1) (hx2 : inR x2) (hx3 : inR x3) (h : pM_today N μ x1 x2 x3 = some (re, μe)) : CtI l en yX12_today cX12_today 5 6 210 [vA en 475, vI x1, vI x2, vI x3] μ .int re μe (VT μe ∧ inR re) := by
  refine Tr.of false (fun h => by cases h) (by decide) (Nat.le_of_ble_eq_true rfl) (fun K Ra => ?_)
  unfold pM_today at h
  refine r_aload_n Ra (i := 0) dX12_today_0 rfl rfl ?_
  refine r_iload_n Ra (i := 1) dX12_today_1 rfl rfl ?_
  obtain ⟨r2, hr2, h⟩ := bd h
  refine q_callVI Ra (c_pM_isPerson hV hx1 hr2) mw_X12_isPerson mi_X12_isPerson t475 rfl rfl rfl rfl rfl k_X12_469 rfl rfl dX12_today_2 (fun ok2 => ?_)
  refine r_if_eq Ra 27 dX12_today_5 (inR_01 ok2) rfl (fun hc => ?_) (fun hc => ?_)
  · replace h := ipos hc h
    refine r_iconst Ra dX12_today_27 ?_
    cases h
    exact r_iret Ra ⟨hV, (Rk rfl)⟩ dX12_today_28
  · replace h := ineg hc h
    refine r_iload_n Ra (i := 2) dX12_today_8 rfl rfl ?_
    refine r_iconst Ra dX12_today_9 ?_
    refine r_bipush Ra dX12_today_10 rfl ?_
    obtain ⟨r12, hr12, h⟩ := bd h
    refine q_callSI Ra (c_pM_is hV hx2 (Rk rfl) (Rk rfl) hr12) mw_X12_is ms_X12_is rfl rfl k_X12_323 rfl rfl dX12_today_12 (fun ok12 => ?_)
    refine r_if_eq Ra 27 dX12_today_15 (inR_01 ok12) rfl (fun hc => ?_) (fun hc => ?_)
    · replace h := ipos hc h
      refine r_iconst Ra dX12_today_27 ?_
      cases h
      exact r_iret Ra ⟨hV, (Rk rfl)⟩ dX12_today_28
    · replace h := ineg hc h
      refine r_iload_n Ra (i := 3) dX12_today_18 rfl rfl ?_
      refine r_iconst Ra dX12_today_19 ?_
      refine r_iconst Ra dX12_today_20 ?_
      obtain ⟨r21, hr21, h⟩ := bd h
      refine q_callSI Ra (c_pM_is hV hx3 (Rk rfl) (Rk rfl) hr21) mw_X12_is ms_X12_is rfl rfl k_X12_323 rfl rfl dX12_today_21 (fun ok21 => ?_)
      refine r_if_ne Ra 29 dX12_today_24 (inR_01 ok21) rfl (fun hc => ?_) (fun hc => ?_)
      · replace h := ineg hc h
        refine r_aload_n Ra (i := 0) dX12_today_29 rfl rfl ?_
        refine r_iconst Ra dX12_today_30 ?_
        refine r_iconst Ra dX12_today_31 ?_
        refine r_aload_n Ra (i := 0) dX12_today_32 rfl rfl ?_
        obtain ⟨r33, hr33, h⟩ := bd h
        refine q_callVI Ra (c_pM_all hV hr33) mw_X12_all mi_X12_all t475 rfl rfl rfl rfl rfl k_X12_460 rfl rfl dX12_today_33 (fun ok33 => ?_)
        obtain ⟨⟨r36, m36⟩, hr36, h⟩ := bd h
        refine q_callVI Ra (c_pM_runs hV (Rk rfl) (Rk rfl) ok33 hr36) mw_X12_runs mi_X12_runs t475 rfl rfl rfl rfl rfl k_X12_463 rfl rfl dX12_today_36 (fun ok36 => ?_)
        obtain ⟨hV36, ok36⟩ := ok36
        refine r_popI Ra dX12_today_39 ?_
        refine r_aload_n Ra (i := 0) dX12_today_40 rfl rfl ?_
        refine q_getA Ra (b := 512) f_X12_195 t475 rfl rfl rfl (hV36.ref t475 rfl (by decide)) (by decide) dX12_today_41 ?_
        refine r_bipush Ra dX12_today_44 rfl ?_
        refine r_iload_n Ra (i := 2) dX12_today_46 rfl rfl ?_
        refine r_imul Ra dX12_today_47 ?_
        refine r_iload_n Ra (i := 1) dX12_today_48 rfl rfl ?_
        refine r_iadd Ra dX12_today_49 ?_
        obtain ⟨gu50, h⟩ := gd h
        refine q_iald Ra t512 l512 gu50 dX12_today_50 ?_
        obtain ⟨x4_51, ex4_51, h⟩ := bv h
        have ix4_51 : inR x4_51 := eqR ex4_51 (hV36.int t512 (kd20 _))
        refine q_istore Ra dX12_today_51 rfl ex4_51 ?_
        refine r_iload_n Ra (i := 3) dX12_today_53 rfl rfl ?_
        refine r_if_ne Ra 65 dX12_today_54 hx3 rfl (fun hc => ?_) (fun hc => ?_)
        · replace h := ineg hc h
          refine r_iload_n Ra (i := 3) dX12_today_65 rfl rfl ?_
          refine r_iconst Ra dX12_today_66 ?_
          refine r_icmp_ne Ra 78 dX12_today_67 hx3 (Rk rfl) rfl (fun hc => ?_) (fun hc => ?_)
          · replace h := ineg hc h
            refine r_aload_n Ra (i := 0) dX12_today_78 rfl rfl ?_
            refine q_getA Ra (b := 513) f_X12_198 t475 rfl rfl rfl (hV36.ref t475 rfl (by decide)) (by decide) dX12_today_79 ?_
            refine r_bipush Ra dX12_today_82 rfl ?_
            refine r_iload_n Ra (i := 2) dX12_today_84 rfl rfl ?_
            refine r_imul Ra dX12_today_85 ?_
            refine r_iload_n Ra (i := 1) dX12_today_86 rfl rfl ?_
            refine r_iadd Ra dX12_today_87 ?_
            obtain ⟨gu88, h⟩ := gd h
            refine q_iald Ra t513 l513 gu88 dX12_today_88 ?_
            cases h
            exact r_iret Ra ⟨hV36, (hV36.int t513 (kd20 _))⟩ dX12_today_89
          · replace h := ipos hc h
            refine r_iload Ra dX12_today_70 rfl ?_
            refine r_bipush Ra dX12_today_72 rfl ?_
            refine r_idiv Ra dX12_today_74 (Rk rfl) (by decide) ?_
            refine r_goto Ra 89 dX12_today_75 rfl ?_
            cases h
            exact r_iret Ra ⟨hV36, (inR_32 _)⟩ dX12_today_89
        · replace h := ipos hc h
          refine r_iload Ra dX12_today_57 rfl ?_
          refine r_bipush Ra dX12_today_59 rfl ?_
          refine r_irem Ra dX12_today_61 (Rk rfl) (by decide) ?_
          refine r_goto Ra 89 dX12_today_62 rfl ?_
          cases h
          exact r_iret Ra ⟨hV36, (inR_32 _)⟩ dX12_today_89
      · replace h := ipos hc h
        refine r_iconst Ra dX12_today_27 ?_
        cases h
        exact r_iret Ra ⟨hV, (Rk rfl)⟩ dX12_today_28
noncomputable def pM_dew (N : Nat) (μ : Mem) (x1 : Int) (x2 : Int) (x3 : Int) : Option (Int × Mem) := (pM_isCell μ x1 x2).bind fun r3 => if r3 = 0 then some ((-1), μ) else (pM_is μ x3 (-1) 8).bind fun r13 => if r13 = 0 then some ((-1), μ) else (pM_all μ).bind fun r25 => (pM_runs N μ 0 1 r25).bind fun (r28, m28) => if 0 ≤ w32 ((w32 ((w32 (64 * (w32 (x3 + 1)))) + (w32 (8 * x2)))) + x1) ∧ w32 ((w32 ((w32 (64 * (w32 (x3 + 1)))) + (w32 (8 * x2)))) + x1) < 640 then some (m28 511 (w32 ((w32 ((w32 (64 * (w32 (x3 + 1)))) + (w32 (8 * x2)))) + x1)), m28) else none
set_option maxHeartbeats 4000000 in
theorem c_pM_dew {l : Launch} {en : En} {N : Nat} {μ : Mem} {x1 : Int} {x2 : Int} {x3 : Int} {re : Int} {μe : Mem} (hV : VT μ) (hx1 : inR x1) (hx2 : inR x2) (hx3 : inR x3) (h : pM_dew N μ x1 x2 x3 = some (re, μe)) : CtI l en yX12_dew cX12_dew 4 6 210 [vA en 475, vI x1, vI x2, vI x3] μ .int re μe (VT μe ∧ inR re) := by
  refine Tr.of false (fun h => by cases h) (by decide) (Nat.le_of_ble_eq_true rfl) (fun K Ra => ?_)
  unfold pM_dew at h
  refine r_aload_n Ra (i := 0) dX12_dew_0 rfl rfl ?_
  refine r_iload_n Ra (i := 1) dX12_dew_1 rfl rfl ?_
  refine r_iload_n Ra (i := 2) dX12_dew_2 rfl rfl ?_
  obtain ⟨r3, hr3, h⟩ := bd h
  refine q_callVI Ra (c_pM_isCell hV hx1 hx2 hr3) mw_X12_isCell mi_X12_isCell t475 rfl rfl rfl rfl rfl k_X12_437 rfl rfl dX12_dew_3 (fun ok3 => ?_)
  refine r_if_eq Ra 19 dX12_dew_6 (inR_01 ok3) rfl (fun hc => ?_) (fun hc => ?_)
  · replace h := ipos hc h
    refine r_iconst Ra dX12_dew_19 ?_
    cases h
    exact r_iret Ra ⟨hV, (Rk rfl)⟩ dX12_dew_20
  · replace h := ineg hc h
    refine r_iload_n Ra (i := 3) dX12_dew_9 rfl rfl ?_
    refine r_iconst Ra dX12_dew_10 ?_
    refine r_bipush Ra dX12_dew_11 rfl ?_
    obtain ⟨r13, hr13, h⟩ := bd h
    refine q_callSI Ra (c_pM_is hV hx3 (Rk rfl) (Rk rfl) hr13) mw_X12_is ms_X12_is rfl rfl k_X12_323 rfl rfl dX12_dew_13 (fun ok13 => ?_)
    refine r_if_ne Ra 21 dX12_dew_16 (inR_01 ok13) rfl (fun hc => ?_) (fun hc => ?_)
    · replace h := ineg hc h
      refine r_aload_n Ra (i := 0) dX12_dew_21 rfl rfl ?_
      refine r_iconst Ra dX12_dew_22 ?_
      refine r_iconst Ra dX12_dew_23 ?_
      refine r_aload_n Ra (i := 0) dX12_dew_24 rfl rfl ?_
      obtain ⟨r25, hr25, h⟩ := bd h
      refine q_callVI Ra (c_pM_all hV hr25) mw_X12_all mi_X12_all t475 rfl rfl rfl rfl rfl k_X12_460 rfl rfl dX12_dew_25 (fun ok25 => ?_)
      obtain ⟨⟨r28, m28⟩, hr28, h⟩ := bd h
      refine q_callVI Ra (c_pM_runs hV (Rk rfl) (Rk rfl) ok25 hr28) mw_X12_runs mi_X12_runs t475 rfl rfl rfl rfl rfl k_X12_463 rfl rfl dX12_dew_28 (fun ok28 => ?_)
      obtain ⟨hV28, ok28⟩ := ok28
      refine r_popI Ra dX12_dew_31 ?_
      refine r_aload_n Ra (i := 0) dX12_dew_32 rfl rfl ?_
      refine q_getA Ra (b := 511) f_X12_192 t475 rfl rfl rfl (hV28.ref t475 rfl (by decide)) (by decide) dX12_dew_33 ?_
      refine r_bipush Ra dX12_dew_36 rfl ?_
      refine r_iload_n Ra (i := 3) dX12_dew_38 rfl rfl ?_
      refine r_iconst Ra dX12_dew_39 ?_
      refine r_iadd Ra dX12_dew_40 ?_
      refine r_imul Ra dX12_dew_41 ?_
      refine r_bipush Ra dX12_dew_42 rfl ?_
      refine r_iload_n Ra (i := 2) dX12_dew_44 rfl rfl ?_
      refine r_imul Ra dX12_dew_45 ?_
      refine r_iadd Ra dX12_dew_46 ?_
      refine r_iload_n Ra (i := 1) dX12_dew_47 rfl rfl ?_
      refine r_iadd Ra dX12_dew_48 ?_
      obtain ⟨gu49, h⟩ := gd h
      refine q_iald Ra t511 l511 gu49 dX12_dew_49 ?_
      cases h
      exact r_iret Ra ⟨hV28, (hV28.int t511 (kd20 _))⟩ dX12_dew_50
    · replace h := ipos hc h
      refine r_iconst Ra dX12_dew_19 ?_
      cases h
      exact r_iret Ra ⟨hV, (Rk rfl)⟩ dX12_dew_20
noncomputable def pM_up_L27b (N : Nat) (c1 : Int) (c2 : Int) (k : Int → Int → Mem → Option (Int × Mem)) (self : Int → Int → Int → Mem → Option (Int × Mem)) (x3 : Int) (x4 : Int) (x5 : Int) (μ : Mem) : Option (Int × Mem) := if x5 < 9 then (pM_copies N μ 1 0).bind fun m37 => if 0 ≤ w32 (6 + c1) ∧ w32 (6 + c1) < 132 then (some (mset m37 501 (w32 (6 + c1)) x5)).bind fun m50 => (pM_all m50).bind fun r55 => (pM_runs N m50 1 1 r55).bind fun (r58, m58) => if 0 ≤ c1 ∧ c1 < 6 then if x4 < m58 510 c1 then if 0 ≤ c1 ∧ c1 < 6 then (some (m58 510 c1 : Int)).bind fun x4_82 => (some (w32 (x5 + 1) : Int)).bind fun x5_87 => self x5 x4_82 x5_87 m58 else none else (some (w32 (x5 + 1) : Int)).bind fun x5_87 => self x3 x4 x5_87 m58 else none else none else k x3 x4 μ
noncomputable def pM_up_L27 (N : Nat) (c1 : Int) (c2 : Int) (k : Int → Int → Mem → Option (Int × Mem)) (n : Nat) : Int → Int → Int → Mem → Option (Int × Mem) := lpF (fun _ _ _ _ => none) (pM_up_L27b N c1 c2 k) n
noncomputable def pM_up (N : Nat) (μ : Mem) (x1 : Int) (x2 : Int) : Option (Int × Mem) := (pM_isPerson μ x1).bind fun r2 => if r2 = 0 then some ((-1), μ) else (pM_is μ x2 0 1).bind fun r11 => if r11 = 0 then some ((-1), μ) else pM_up_L27 N x1 x2 (fun z3_93 z4_93 n93 => if x2 = 0 then some (z3_93, n93) else some (z4_93, n93)) N (-1) (-1) 0 μ
theorem k_pM_up_L27 {l : Launch} {en : En} {re : Int} {μe : Mem} {N : Nat} {c1 : Int} {c2 : Int} {k : Int → Int → Mem → Option (Int × Mem)} {K : KT} (Ra : Ru false (some (some .int, some (vI re), nCells, μe, 0, 0, (VT μe ∧ inR re))) l en cX12_up yX12_up.cls 6 (rmN 6 210) K) (hi1 : inR c1) (hi2 : inR c2) (hk : ∀ (z3 : Int) (z4 : Int) (μ9 : Mem), k z3 z4 μ9 = some (re, μe) → inR z3 → inR z4 → VT μ9 → ∀ L9 : Lo, L9 2 = some (vI c2) → L9 3 = some (vI z3) → L9 4 = some (vI z4) → K ZN 93 L9 [] μ9) : ∀ (n : Nat) (x3 : Int) (x4 : Int) (x5 : Int) (μ : Mem) (L : Lo), pM_up_L27 N c1 c2 k n x3 x4 x5 μ = some (re, μe) → inR x3 → inR x4 → inR x5 → VT μ → L 0 = some (vA en 475) → L 1 = some (vI c1) → L 2 = some (vI c2) → L 3 = some (vI x3) → L 4 = some (vI x4) → L 5 = some (vI x5) → K ZN 27 L [] μ := by
  intro n
  induction n with
  | zero => intro x3 x4 x5 μ L h; cases h
  | succ n ih =>
    intro x3 x4 x5 μ L h hx3 hx4 hx5 hV hL0 hL1 hL2 hL3 hL4 hL5
    replace h : pM_up_L27b N c1 c2 k (pM_up_L27 N c1 c2 k n) x3 x4 x5 μ = some (re, μe) := h
    unfold pM_up_L27b at h
    refine r_iload Ra dX12_up_27 hL5 ?_
    refine r_bipush Ra dX12_up_29 rfl ?_
    refine r_icmp_ge Ra 93 dX12_up_31 hx5 (Rk rfl) rfl (fun hc => ?_) (fun hc => ?_)
    · replace h := ineg hc h
      exact hk x3 x4 μ h hx3 hx4 hV _ hL2 hL3 hL4
    · replace h := ipos hc h
      refine r_aload_n Ra (i := 0) dX12_up_34 rfl hL0 ?_
      refine r_iconst Ra dX12_up_35 ?_
      refine r_iconst Ra dX12_up_36 ?_
      obtain ⟨m37, hr37, h⟩ := bd h
      refine q_callVV Ra (c_pM_copies hV (Rk rfl) (Rk rfl) hr37) mw_X12_copies mi_X12_copies t475 rfl rfl rfl rfl rfl k_X12_414 rfl rfl dX12_up_37 (fun ok37 => ?_)
      refine r_aload_n Ra (i := 0) dX12_up_40 rfl hL0 ?_
      refine q_getA Ra (b := 501) f_X12_153 t475 rfl rfl rfl (ok37.ref t475 rfl (by decide)) (by decide) dX12_up_41 ?_
      refine r_bipush Ra dX12_up_44 rfl ?_
      refine r_iload_n Ra (i := 1) dX12_up_46 rfl hL1 ?_
      refine r_iadd Ra dX12_up_47 ?_
      refine r_iload Ra dX12_up_48 hL5 ?_
      obtain ⟨gu50, h⟩ := gd h
      obtain ⟨m50, em50, h⟩ := bv h
      have hm50 : VT m50 := eqV em50 (ok37.setI t501 (kd20 _) hx5)
      refine q_iast Ra t501 l501 gu50 em50 dX12_up_50 ?_
      refine r_aload_n Ra (i := 0) dX12_up_51 rfl hL0 ?_
      refine r_iconst Ra dX12_up_52 ?_
      refine r_iconst Ra dX12_up_53 ?_
      refine r_aload_n Ra (i := 0) dX12_up_54 rfl hL0 ?_
      obtain ⟨r55, hr55, h⟩ := bd h
      refine q_callVI Ra (c_pM_all hm50 hr55) mw_X12_all mi_X12_all t475 rfl rfl rfl rfl rfl k_X12_460 rfl rfl dX12_up_55 (fun ok55 => ?_)
      obtain ⟨⟨r58, m58⟩, hr58, h⟩ := bd h
      refine q_callVI Ra (c_pM_runs hm50 (Rk rfl) (Rk rfl) ok55 hr58) mw_X12_runs mi_X12_runs t475 rfl rfl rfl rfl rfl k_X12_463 rfl rfl dX12_up_58 (fun ok58 => ?_)
      obtain ⟨hV58, ok58⟩ := ok58
      refine r_popI Ra dX12_up_61 ?_
      refine r_aload_n Ra (i := 0) dX12_up_62 rfl hL0 ?_
      refine q_getA Ra (b := 510) f_X12_189 t475 rfl rfl rfl (hV58.ref t475 rfl (by decide)) (by decide) dX12_up_63 ?_
      refine r_iload_n Ra (i := 1) dX12_up_66 rfl hL1 ?_
      obtain ⟨gu67, h⟩ := gd h
      refine q_iald Ra t510 l510 gu67 dX12_up_67 ?_
      refine r_iload Ra dX12_up_68 hL4 ?_
      refine r_icmp_gt Ra 76 dX12_up_70 (hV58.int t510 (kd20 _)) hx4 rfl (fun hc => ?_) (fun hc => ?_)
      · replace h := ipos hc h
        refine r_aload_n Ra (i := 0) dX12_up_76 rfl hL0 ?_
        refine q_getA Ra (b := 510) f_X12_189 t475 rfl rfl rfl (hV58.ref t475 rfl (by decide)) (by decide) dX12_up_77 ?_
        refine r_iload_n Ra (i := 1) dX12_up_80 rfl hL1 ?_
        obtain ⟨gu81, h⟩ := gd h
        refine q_iald Ra t510 l510 gu81 dX12_up_81 ?_
        obtain ⟨x4_82, ex4_82, h⟩ := bv h
        have ix4_82 : inR x4_82 := eqR ex4_82 (hV58.int t510 (kd20 _))
        refine q_istore Ra dX12_up_82 rfl ex4_82 ?_
        refine r_iload Ra dX12_up_84 hL5 ?_
        refine q_istore_n Ra 3 dX12_up_86 rfl rfl rfl ?_
        obtain ⟨x5_87, ex5_87, h⟩ := bv h
        have ix5_87 : inR x5_87 := eqR ex5_87 (inR_32 _)
        refine q_iinc Ra dX12_up_87 hL5 ex5_87 ?_
        refine r_goto Ra 27 dX12_up_90 rfl ?_
        exact ih x5 x4_82 x5_87 m58 _ h hx5 ix4_82 ix5_87 hV58 hL0 hL1 hL2 rfl rfl rfl
      · replace h := ineg hc h
        refine r_goto Ra 87 dX12_up_73 rfl ?_
        obtain ⟨x5_87, ex5_87, h⟩ := bv h
        have ix5_87 : inR x5_87 := eqR ex5_87 (inR_32 _)
        refine q_iinc Ra dX12_up_87 hL5 ex5_87 ?_
        refine r_goto Ra 27 dX12_up_90 rfl ?_
        exact ih x3 x4 x5_87 m58 _ h hx3 hx4 ix5_87 hV58 hL0 hL1 hL2 hL3 hL4 rfl
set_option maxHeartbeats 4000000 in
theorem c_pM_up {l : Launch} {en : En} {N : Nat} {μ : Mem} {x1 : Int} {x2 : Int} {re : Int} {μe : Mem} (hV : VT μ) (hx1 : inR x1) (hx2 : inR x2) (h : pM_up N μ x1 x2 = some (re, μe)) : CtI l en yX12_up cX12_up 6 6 210 [vA en 475, vI x1, vI x2] μ .int re μe (VT μe ∧ inR re) := by
  refine Tr.of false (fun h => by cases h) (by decide) (Nat.le_of_ble_eq_true rfl) (fun K Ra => ?_)
  unfold pM_up at h
  refine r_aload_n Ra (i := 0) dX12_up_0 rfl rfl ?_
  refine r_iload_n Ra (i := 1) dX12_up_1 rfl rfl ?_
  obtain ⟨r2, hr2, h⟩ := bd h
  refine q_callVI Ra (c_pM_isPerson hV hx1 hr2) mw_X12_isPerson mi_X12_isPerson t475 rfl rfl rfl rfl rfl k_X12_469 rfl rfl dX12_up_2 (fun ok2 => ?_)
  refine r_if_eq Ra 17 dX12_up_5 (inR_01 ok2) rfl (fun hc => ?_) (fun hc => ?_)
  · replace h := ipos hc h
    refine r_iconst Ra dX12_up_17 ?_
    cases h
    exact r_iret Ra ⟨hV, (Rk rfl)⟩ dX12_up_18
  · replace h := ineg hc h
    refine r_iload_n Ra (i := 2) dX12_up_8 rfl rfl ?_
    refine r_iconst Ra dX12_up_9 ?_
    refine r_iconst Ra dX12_up_10 ?_
    obtain ⟨r11, hr11, h⟩ := bd h
    refine q_callSI Ra (c_pM_is hV hx2 (Rk rfl) (Rk rfl) hr11) mw_X12_is ms_X12_is rfl rfl k_X12_323 rfl rfl dX12_up_11 (fun ok11 => ?_)
    refine r_if_ne Ra 19 dX12_up_14 (inR_01 ok11) rfl (fun hc => ?_) (fun hc => ?_)
    · replace h := ineg hc h
      refine r_iconst Ra dX12_up_19 ?_
      refine q_istore_n Ra 3 dX12_up_20 rfl rfl rfl ?_
      refine r_iconst Ra dX12_up_21 ?_
      refine q_istore Ra dX12_up_22 rfl rfl ?_
      refine r_iconst Ra dX12_up_24 ?_
      refine q_istore Ra dX12_up_25 rfl rfl ?_
      refine k_pM_up_L27 Ra hx1 hx2 ?_ _ _ _ _ _ _ h (Rk rfl) (Rk rfl) (Rk rfl) hV rfl rfl rfl rfl rfl rfl
      intro z3_93 z4_93 n93 h iz3_93 iz4_93 hn93 L9 f93_2 f93_3 f93_4
      refine r_iload_n Ra (i := 2) dX12_up_93 rfl f93_2 ?_
      refine r_if_ne Ra 101 dX12_up_94 hx2 rfl (fun hc => ?_) (fun hc => ?_)
      · replace h := ineg hc h
        refine r_iload Ra dX12_up_101 f93_4 ?_
        cases h
        exact r_iret Ra ⟨hn93, iz4_93⟩ dX12_up_103
      · replace h := ipos hc h
        refine r_iload_n Ra (i := 3) dX12_up_97 rfl f93_3 ?_
        refine r_goto Ra 103 dX12_up_98 rfl ?_
        cases h
        exact r_iret Ra ⟨hn93, iz3_93⟩ dX12_up_103
    · replace h := ipos hc h
      refine r_iconst Ra dX12_up_17 ?_
      cases h
      exact r_iret Ra ⟨hV, (Rk rfl)⟩ dX12_up_18
noncomputable def pM_home_L27b (N : Nat) (c1 : Int) (c2 : Int) (k : Int → Int → Mem → Option (Int × Mem)) (self : Int → Int → Int → Mem → Option (Int × Mem)) (x3 : Int) (x4 : Int) (x5 : Int) (μ : Mem) : Option (Int × Mem) := if x5 < 64 then (pM_isCell μ (r32 x5 8) (d32 x5 8)).bind fun r45 => if r45 = 0 then (some (w32 (x5 + 1) : Int)).bind fun x5_107 => self x3 x4 x5_107 μ else (pM_copies N μ 1 0).bind fun m57 => if 0 ≤ w32 (6 + c1) ∧ w32 (6 + c1) < 132 then (some (mset m57 500 (w32 (6 + c1)) x5)).bind fun m70 => (pM_all m70).bind fun r75 => (pM_runs N m70 1 1 r75).bind fun (r78, m78) => if 0 ≤ c1 ∧ c1 < 6 then if x4 < m78 510 c1 then if 0 ≤ c1 ∧ c1 < 6 then (some (m78 510 c1 : Int)).bind fun x4_102 => (some (w32 (x5 + 1) : Int)).bind fun x5_107 => self x5 x4_102 x5_107 m78 else none else (some (w32 (x5 + 1) : Int)).bind fun x5_107 => self x3 x4 x5_107 m78 else none else none else k x3 x4 μ
noncomputable def pM_home_L27 (N : Nat) (c1 : Int) (c2 : Int) (k : Int → Int → Mem → Option (Int × Mem)) (n : Nat) : Int → Int → Int → Mem → Option (Int × Mem) := lpF (fun _ _ _ _ => none) (pM_home_L27b N c1 c2 k) n
noncomputable def pM_home (N : Nat) (μ : Mem) (x1 : Int) (x2 : Int) : Option (Int × Mem) := (pM_isPerson μ x1).bind fun r2 => if r2 = 0 then some ((-1), μ) else (pM_is μ x2 0 2).bind fun r11 => if r11 = 0 then some ((-1), μ) else pM_home_L27 N x1 x2 (fun z3_113 z4_113 n113 => if x2 = 0 then some (r32 z3_113 8, n113) else if x2 = 1 then some (d32 z3_113 8, n113) else some (z4_113, n113)) N (-1) (-1) 0 μ
theorem k_pM_home_L27 {l : Launch} {en : En} {re : Int} {μe : Mem} {N : Nat} {c1 : Int} {c2 : Int} {k : Int → Int → Mem → Option (Int × Mem)} {K : KT} (Ra : Ru false (some (some .int, some (vI re), nCells, μe, 0, 0, (VT μe ∧ inR re))) l en cX12_home yX12_home.cls 6 (rmN 6 210) K) (hi1 : inR c1) (hi2 : inR c2) (hk : ∀ (z3 : Int) (z4 : Int) (μ9 : Mem), k z3 z4 μ9 = some (re, μe) → inR z3 → inR z4 → VT μ9 → ∀ L9 : Lo, L9 2 = some (vI c2) → L9 3 = some (vI z3) → L9 4 = some (vI z4) → K ZN 113 L9 [] μ9) : ∀ (n : Nat) (x3 : Int) (x4 : Int) (x5 : Int) (μ : Mem) (L : Lo), pM_home_L27 N c1 c2 k n x3 x4 x5 μ = some (re, μe) → inR x3 → inR x4 → inR x5 → VT μ → L 0 = some (vA en 475) → L 1 = some (vI c1) → L 2 = some (vI c2) → L 3 = some (vI x3) → L 4 = some (vI x4) → L 5 = some (vI x5) → K ZN 27 L [] μ := by
  intro n
  induction n with
  | zero => intro x3 x4 x5 μ L h; cases h
  | succ n ih =>
    intro x3 x4 x5 μ L h hx3 hx4 hx5 hV hL0 hL1 hL2 hL3 hL4 hL5
    replace h : pM_home_L27b N c1 c2 k (pM_home_L27 N c1 c2 k n) x3 x4 x5 μ = some (re, μe) := h
    unfold pM_home_L27b at h
    refine r_iload Ra dX12_home_27 hL5 ?_
    refine r_bipush Ra dX12_home_29 rfl ?_
    refine r_icmp_ge Ra 113 dX12_home_31 hx5 (Rk rfl) rfl (fun hc => ?_) (fun hc => ?_)
    · replace h := ineg hc h
      exact hk x3 x4 μ h hx3 hx4 hV _ hL2 hL3 hL4
    · replace h := ipos hc h
      refine r_aload_n Ra (i := 0) dX12_home_34 rfl hL0 ?_
      refine r_iload Ra dX12_home_35 hL5 ?_
      refine r_bipush Ra dX12_home_37 rfl ?_
      refine r_irem Ra dX12_home_39 (Rk rfl) (by decide) ?_
      refine r_iload Ra dX12_home_40 hL5 ?_
      refine r_bipush Ra dX12_home_42 rfl ?_
      refine r_idiv Ra dX12_home_44 (Rk rfl) (by decide) ?_
      obtain ⟨r45, hr45, h⟩ := bd h
      refine q_callVI Ra (c_pM_isCell hV (inR_32 _) (inR_32 _) hr45) mw_X12_isCell mi_X12_isCell t475 rfl rfl rfl rfl rfl k_X12_437 rfl rfl dX12_home_45 (fun ok45 => ?_)
      refine r_if_ne Ra 54 dX12_home_48 (inR_01 ok45) rfl (fun hc => ?_) (fun hc => ?_)
      · replace h := ineg hc h
        refine r_aload_n Ra (i := 0) dX12_home_54 rfl hL0 ?_
        refine r_iconst Ra dX12_home_55 ?_
        refine r_iconst Ra dX12_home_56 ?_
        obtain ⟨m57, hr57, h⟩ := bd h
        refine q_callVV Ra (c_pM_copies hV (Rk rfl) (Rk rfl) hr57) mw_X12_copies mi_X12_copies t475 rfl rfl rfl rfl rfl k_X12_414 rfl rfl dX12_home_57 (fun ok57 => ?_)
        refine r_aload_n Ra (i := 0) dX12_home_60 rfl hL0 ?_
        refine q_getA Ra (b := 500) f_X12_150 t475 rfl rfl rfl (ok57.ref t475 rfl (by decide)) (by decide) dX12_home_61 ?_
        refine r_bipush Ra dX12_home_64 rfl ?_
        refine r_iload_n Ra (i := 1) dX12_home_66 rfl hL1 ?_
        refine r_iadd Ra dX12_home_67 ?_
        refine r_iload Ra dX12_home_68 hL5 ?_
        obtain ⟨gu70, h⟩ := gd h
        obtain ⟨m70, em70, h⟩ := bv h
        have hm70 : VT m70 := eqV em70 (ok57.setI t500 (kd20 _) hx5)
        refine q_iast Ra t500 l500 gu70 em70 dX12_home_70 ?_
        refine r_aload_n Ra (i := 0) dX12_home_71 rfl hL0 ?_
        refine r_iconst Ra dX12_home_72 ?_
        refine r_iconst Ra dX12_home_73 ?_
        refine r_aload_n Ra (i := 0) dX12_home_74 rfl hL0 ?_
        obtain ⟨r75, hr75, h⟩ := bd h
        refine q_callVI Ra (c_pM_all hm70 hr75) mw_X12_all mi_X12_all t475 rfl rfl rfl rfl rfl k_X12_460 rfl rfl dX12_home_75 (fun ok75 => ?_)
        obtain ⟨⟨r78, m78⟩, hr78, h⟩ := bd h
        refine q_callVI Ra (c_pM_runs hm70 (Rk rfl) (Rk rfl) ok75 hr78) mw_X12_runs mi_X12_runs t475 rfl rfl rfl rfl rfl k_X12_463 rfl rfl dX12_home_78 (fun ok78 => ?_)
        obtain ⟨hV78, ok78⟩ := ok78
        refine r_popI Ra dX12_home_81 ?_
        refine r_aload_n Ra (i := 0) dX12_home_82 rfl hL0 ?_
        refine q_getA Ra (b := 510) f_X12_189 t475 rfl rfl rfl (hV78.ref t475 rfl (by decide)) (by decide) dX12_home_83 ?_
        refine r_iload_n Ra (i := 1) dX12_home_86 rfl hL1 ?_
        obtain ⟨gu87, h⟩ := gd h
        refine q_iald Ra t510 l510 gu87 dX12_home_87 ?_
        refine r_iload Ra dX12_home_88 hL4 ?_
        refine r_icmp_gt Ra 96 dX12_home_90 (hV78.int t510 (kd20 _)) hx4 rfl (fun hc => ?_) (fun hc => ?_)
        · replace h := ipos hc h
          refine r_aload_n Ra (i := 0) dX12_home_96 rfl hL0 ?_
          refine q_getA Ra (b := 510) f_X12_189 t475 rfl rfl rfl (hV78.ref t475 rfl (by decide)) (by decide) dX12_home_97 ?_
          refine r_iload_n Ra (i := 1) dX12_home_100 rfl hL1 ?_
          obtain ⟨gu101, h⟩ := gd h
          refine q_iald Ra t510 l510 gu101 dX12_home_101 ?_
          obtain ⟨x4_102, ex4_102, h⟩ := bv h
          have ix4_102 : inR x4_102 := eqR ex4_102 (hV78.int t510 (kd20 _))
          refine q_istore Ra dX12_home_102 rfl ex4_102 ?_
          refine r_iload Ra dX12_home_104 hL5 ?_
          refine q_istore_n Ra 3 dX12_home_106 rfl rfl rfl ?_
          obtain ⟨x5_107, ex5_107, h⟩ := bv h
          have ix5_107 : inR x5_107 := eqR ex5_107 (inR_32 _)
          refine q_iinc Ra dX12_home_107 hL5 ex5_107 ?_
          refine r_goto Ra 27 dX12_home_110 rfl ?_
          exact ih x5 x4_102 x5_107 m78 _ h hx5 ix4_102 ix5_107 hV78 hL0 hL1 hL2 rfl rfl rfl
        · replace h := ineg hc h
          refine r_goto Ra 107 dX12_home_93 rfl ?_
          obtain ⟨x5_107, ex5_107, h⟩ := bv h
          have ix5_107 : inR x5_107 := eqR ex5_107 (inR_32 _)
          refine q_iinc Ra dX12_home_107 hL5 ex5_107 ?_
          refine r_goto Ra 27 dX12_home_110 rfl ?_
          exact ih x3 x4 x5_107 m78 _ h hx3 hx4 ix5_107 hV78 hL0 hL1 hL2 hL3 hL4 rfl
      · replace h := ipos hc h
        refine r_goto Ra 107 dX12_home_51 rfl ?_
        obtain ⟨x5_107, ex5_107, h⟩ := bv h
        have ix5_107 : inR x5_107 := eqR ex5_107 (inR_32 _)
        refine q_iinc Ra dX12_home_107 hL5 ex5_107 ?_
        refine r_goto Ra 27 dX12_home_110 rfl ?_
        exact ih x3 x4 x5_107 μ _ h hx3 hx4 ix5_107 hV hL0 hL1 hL2 hL3 hL4 rfl
set_option maxHeartbeats 4000000 in
theorem c_pM_home {l : Launch} {en : En} {N : Nat} {μ : Mem} {x1 : Int} {x2 : Int} {re : Int} {μe : Mem} (hV : VT μ) (hx1 : inR x1) (hx2 : inR x2) (h : pM_home N μ x1 x2 = some (re, μe)) : CtI l en yX12_home cX12_home 6 6 210 [vA en 475, vI x1, vI x2] μ .int re μe (VT μe ∧ inR re) := by
  refine Tr.of false (fun h => by cases h) (by decide) (Nat.le_of_ble_eq_true rfl) (fun K Ra => ?_)
  unfold pM_home at h
  refine r_aload_n Ra (i := 0) dX12_home_0 rfl rfl ?_
  refine r_iload_n Ra (i := 1) dX12_home_1 rfl rfl ?_
  obtain ⟨r2, hr2, h⟩ := bd h
  refine q_callVI Ra (c_pM_isPerson hV hx1 hr2) mw_X12_isPerson mi_X12_isPerson t475 rfl rfl rfl rfl rfl k_X12_469 rfl rfl dX12_home_2 (fun ok2 => ?_)
  refine r_if_eq Ra 17 dX12_home_5 (inR_01 ok2) rfl (fun hc => ?_) (fun hc => ?_)
  · replace h := ipos hc h
    refine r_iconst Ra dX12_home_17 ?_
    cases h
    exact r_iret Ra ⟨hV, (Rk rfl)⟩ dX12_home_18
  · replace h := ineg hc h
    refine r_iload_n Ra (i := 2) dX12_home_8 rfl rfl ?_
    refine r_iconst Ra dX12_home_9 ?_
    refine r_iconst Ra dX12_home_10 ?_
    obtain ⟨r11, hr11, h⟩ := bd h
    refine q_callSI Ra (c_pM_is hV hx2 (Rk rfl) (Rk rfl) hr11) mw_X12_is ms_X12_is rfl rfl k_X12_323 rfl rfl dX12_home_11 (fun ok11 => ?_)
    refine r_if_ne Ra 19 dX12_home_14 (inR_01 ok11) rfl (fun hc => ?_) (fun hc => ?_)
    · replace h := ineg hc h
      refine r_iconst Ra dX12_home_19 ?_
      refine q_istore_n Ra 3 dX12_home_20 rfl rfl rfl ?_
      refine r_iconst Ra dX12_home_21 ?_
      refine q_istore Ra dX12_home_22 rfl rfl ?_
      refine r_iconst Ra dX12_home_24 ?_
      refine q_istore Ra dX12_home_25 rfl rfl ?_
      refine k_pM_home_L27 Ra hx1 hx2 ?_ _ _ _ _ _ _ h (Rk rfl) (Rk rfl) (Rk rfl) hV rfl rfl rfl rfl rfl rfl
      intro z3_113 z4_113 n113 h iz3_113 iz4_113 hn113 L9 f113_2 f113_3 f113_4
      refine r_iload_n Ra (i := 2) dX12_home_113 rfl f113_2 ?_
      refine r_if_ne Ra 124 dX12_home_114 hx2 rfl (fun hc => ?_) (fun hc => ?_)
      · replace h := ineg hc h
        refine r_iload_n Ra (i := 2) dX12_home_124 rfl f113_2 ?_
        refine r_iconst Ra dX12_home_125 ?_
        refine r_icmp_ne Ra 136 dX12_home_126 hx2 (Rk rfl) rfl (fun hc => ?_) (fun hc => ?_)
        · replace h := ineg hc h
          refine r_iload Ra dX12_home_136 f113_4 ?_
          cases h
          exact r_iret Ra ⟨hn113, iz4_113⟩ dX12_home_138
        · replace h := ipos hc h
          refine r_iload_n Ra (i := 3) dX12_home_129 rfl f113_3 ?_
          refine r_bipush Ra dX12_home_130 rfl ?_
          refine r_idiv Ra dX12_home_132 (Rk rfl) (by decide) ?_
          refine r_goto Ra 138 dX12_home_133 rfl ?_
          cases h
          exact r_iret Ra ⟨hn113, (inR_32 _)⟩ dX12_home_138
      · replace h := ipos hc h
        refine r_iload_n Ra (i := 3) dX12_home_117 rfl f113_3 ?_
        refine r_bipush Ra dX12_home_118 rfl ?_
        refine r_irem Ra dX12_home_120 (Rk rfl) (by decide) ?_
        refine r_goto Ra 138 dX12_home_121 rfl ?_
        cases h
        exact r_iret Ra ⟨hn113, (inR_32 _)⟩ dX12_home_138
    · replace h := ipos hc h
      refine r_iconst Ra dX12_home_17 ?_
      cases h
      exact r_iret Ra ⟨hV, (Rk rfl)⟩ dX12_home_18
noncomputable def pM_way_L49b (N : Nat) (μ : Mem) (c1 : Int) (c2 : Int) (c3 : Int) (k : Int → Option (Int × Mem)) (self : Int → Int → Option (Int × Mem)) (x4 : Int) (x5 : Int) : Option (Int × Mem) := if x5 < c2 then (some (w32 (x4 * 5) : Int)).bind fun x4_59 => (some (w32 (x5 + 1) : Int)).bind fun x5_61 => self x4_59 x5_61 else k x4
noncomputable def pM_way_L49 (N : Nat) (μ : Mem) (c1 : Int) (c2 : Int) (c3 : Int) (k : Int → Option (Int × Mem)) (n : Nat) : Int → Int → Option (Int × Mem) := lpF (fun _ _ => none) (pM_way_L49b N μ c1 c2 c3 k) n
noncomputable def pM_way_L109b (N : Nat) (c1 : Int) (c2 : Int) (c3 : Int) (c4 : Int) (c5 : Int) (c6 : Int) (k : Mem → Option (Int × Mem)) (self : Int → Int → Mem → Option (Int × Mem)) (x7 : Int) (x8 : Int) (μ : Mem) : Option (Int × Mem) := if x8 < 0 then k μ else if 0 ≤ x8 ∧ x8 < 5 then (some (mset μ 514 x8 (r32 x7 5))).bind fun m124 => (some (d32 x7 5 : Int)).bind fun x7_129 => (some (w32 (x8 + (-1)) : Int)).bind fun x8_131 => self x7_129 x8_131 m124 else none
noncomputable def pM_way_L109 (N : Nat) (c1 : Int) (c2 : Int) (c3 : Int) (c4 : Int) (c5 : Int) (c6 : Int) (k : Mem → Option (Int × Mem)) (n : Nat) : Int → Int → Mem → Option (Int × Mem) := lpF (fun _ _ _ => none) (pM_way_L109b N c1 c2 c3 c4 c5 c6 k) n
noncomputable def pM_way_L199b (N : Nat) (c1 : Int) (c2 : Int) (c3 : Int) (c4 : Int) (c5 : Int) (c6 : Int) (k : Mem → Option (Int × Mem)) (self : Int → Mem → Option (Int × Mem)) (x8 : Int) (μ : Mem) : Option (Int × Mem) := if x8 < c2 then if 0 ≤ x8 ∧ x8 < 5 then if 0 ≤ x8 ∧ x8 < 5 then (some (mset μ 515 x8 (μ 514 x8))).bind fun m218 => (some (w32 (x8 + 1) : Int)).bind fun x8_219 => self x8_219 m218 else none else none else k μ
noncomputable def pM_way_L199 (N : Nat) (c1 : Int) (c2 : Int) (c3 : Int) (c4 : Int) (c5 : Int) (c6 : Int) (k : Mem → Option (Int × Mem)) (n : Nat) : Int → Mem → Option (Int × Mem) := lpF (fun _ _ => none) (pM_way_L199b N c1 c2 c3 c4 c5 c6 k) n
noncomputable def pM_way_L93b (N : Nat) (c1 : Int) (c2 : Int) (c3 : Int) (c4 : Int) (k : Int → Mem → Option (Int × Mem)) (self : Int → Int → Mem → Option (Int × Mem)) (x5 : Int) (x6 : Int) (μ : Mem) : Option (Int × Mem) := if x6 < c4 then (some (w32 (c2 - 1) : Int)).bind fun x8_107 => pM_way_L109 N c1 c2 c3 c4 x5 x6 (fun n137 => (pM_all n137).bind fun r141 => (pM_runs N n137 0 1 r141).bind fun (r144, m144) => if r144 = 0 then (some (w32 (x6 + 1) : Int)).bind fun x6_225 => self x5 x6_225 m144 else if 0 ≤ w32 ((w32 (6 * (w32 ((w32 ((m144 475 63) + c2)) - 1)))) + c1) ∧ w32 ((w32 (6 * (w32 ((w32 ((m144 475 63) + c2)) - 1)))) + c1) < 54 then if x5 < m144 513 (w32 ((w32 (6 * (w32 ((w32 ((m144 475 63) + c2)) - 1)))) + c1)) then if 0 ≤ w32 ((w32 (6 * (w32 ((w32 ((m144 475 63) + c2)) - 1)))) + c1) ∧ w32 ((w32 (6 * (w32 ((w32 ((m144 475 63) + c2)) - 1)))) + c1) < 54 then (some (m144 513 (w32 ((w32 (6 * (w32 ((w32 ((m144 475 63) + c2)) - 1)))) + c1)) : Int)).bind fun x5_194 => pM_way_L199 N c1 c2 c3 c4 x5_194 x6 (fun n225 => (some (w32 (x6 + 1) : Int)).bind fun x6_225 => self x5_194 x6_225 n225) N 0 m144 else none else (some (w32 (x6 + 1) : Int)).bind fun x6_225 => self x5 x6_225 m144 else none) N x6 x8_107 μ else k x5 μ
noncomputable def pM_way_L93 (N : Nat) (c1 : Int) (c2 : Int) (c3 : Int) (c4 : Int) (k : Int → Mem → Option (Int × Mem)) (n : Nat) : Int → Int → Mem → Option (Int × Mem) := lpF (fun _ _ _ => none) (pM_way_L93b N c1 c2 c3 c4 k) n
noncomputable def pM_way (N : Nat) (μ : Mem) (x1 : Int) (x2 : Int) (x3 : Int) : Option (Int × Mem) := (pM_isPerson μ x1).bind fun r2 => if r2 = 0 then some ((-1), μ) else (pM_is μ x2 1 5).bind fun r11 => if r11 = 0 then some ((-1), μ) else if 0 ≤ x1 ∧ x1 < 132 then if 9 < w32 ((μ 501 x1) + x2) then some ((-1), μ) else (pM_is μ x3 (-1) (w32 (x2 - 1))).bind fun r35 => if r35 = 0 then some ((-1), μ) else pM_way_L49 N μ x1 x2 x3 (fun z4_67 => (some (mset μ 475 62 x1)).bind fun m72 => if 0 ≤ x1 ∧ x1 < 132 then (some (mset m72 475 63 (m72 501 x1))).bind fun m82 => (some (mset m82 475 64 x2)).bind fun m87 => pM_way_L93 N x1 x2 x3 z4_67 (fun z5_231 n231 => (some (mset n231 475 62 (-1))).bind fun m233 => if x3 = (-1) then some (z5_231, m233) else if 0 ≤ x3 ∧ x3 < 5 then some (m233 515 x3, m233) else none) N (-1) 0 m87 else none) N 1 0 else none
theorem k_pM_way_L49 {l : Launch} {en : En} {re : Int} {μe : Mem} {N : Nat} {μ : Mem} (hV : VT μ) {c1 : Int} {c2 : Int} {c3 : Int} {k : Int → Option (Int × Mem)} {K : KT} (Ra : Ru false (some (some .int, some (vI re), nCells, μe, 0, 0, (VT μe ∧ inR re))) l en cX12_way yX12_way.cls 9 (rmN 6 210) K) (hi1 : inR c1) (hi2 : inR c2) (hi3 : inR c3) (hk : ∀ (z4 : Int), k z4 = some (re, μe) → inR z4 → ∀ L9 : Lo, L9 0 = some (vA en 475) → L9 1 = some (vI c1) → L9 2 = some (vI c2) → L9 3 = some (vI c3) → L9 4 = some (vI z4) → K ZN 67 L9 [] μ) : ∀ (n : Nat) (x4 : Int) (x5 : Int) (L : Lo), pM_way_L49 N μ c1 c2 c3 k n x4 x5 = some (re, μe) → inR x4 → inR x5 → L 0 = some (vA en 475) → L 1 = some (vI c1) → L 2 = some (vI c2) → L 3 = some (vI c3) → L 4 = some (vI x4) → L 5 = some (vI x5) → K ZN 49 L [] μ := by
  intro n
  induction n with
  | zero => intro x4 x5 L h; cases h
  | succ n ih =>
    intro x4 x5 L h hx4 hx5 hL0 hL1 hL2 hL3 hL4 hL5
    replace h : pM_way_L49b N μ c1 c2 c3 k (pM_way_L49 N μ c1 c2 c3 k n) x4 x5 = some (re, μe) := h
    unfold pM_way_L49b at h
    refine r_iload Ra dX12_way_49 hL5 ?_
    refine r_iload_n Ra (i := 2) dX12_way_51 rfl hL2 ?_
    refine r_icmp_ge Ra 67 dX12_way_52 hx5 hi2 rfl (fun hc => ?_) (fun hc => ?_)
    · replace h := ineg hc h
      exact hk x4 h hx4 _ hL0 hL1 hL2 hL3 hL4
    · replace h := ipos hc h
      refine r_iload Ra dX12_way_55 hL4 ?_
      refine r_iconst Ra dX12_way_57 ?_
      refine r_imul Ra dX12_way_58 ?_
      obtain ⟨x4_59, ex4_59, h⟩ := bv h
      have ix4_59 : inR x4_59 := eqR ex4_59 (inR_32 _)
      refine q_istore Ra dX12_way_59 rfl ex4_59 ?_
      obtain ⟨x5_61, ex5_61, h⟩ := bv h
      have ix5_61 : inR x5_61 := eqR ex5_61 (inR_32 _)
      refine q_iinc Ra dX12_way_61 hL5 ex5_61 ?_
      refine r_goto Ra 49 dX12_way_64 rfl ?_
      exact ih x4_59 x5_61 _ h ix4_59 ix5_61 hL0 hL1 hL2 hL3 rfl rfl
theorem k_pM_way_L109 {l : Launch} {en : En} {re : Int} {μe : Mem} {N : Nat} {c1 : Int} {c2 : Int} {c3 : Int} {c4 : Int} {c5 : Int} {c6 : Int} {k : Mem → Option (Int × Mem)} {K : KT} (Ra : Ru false (some (some .int, some (vI re), nCells, μe, 0, 0, (VT μe ∧ inR re))) l en cX12_way yX12_way.cls 9 (rmN 6 210) K) (hi1 : inR c1) (hi2 : inR c2) (hi3 : inR c3) (hi4 : inR c4) (hi5 : inR c5) (hi6 : inR c6) (hk : ∀  (μ9 : Mem), k μ9 = some (re, μe) → VT μ9 → ∀ L9 : Lo, L9 0 = some (vA en 475) → L9 1 = some (vI c1) → L9 2 = some (vI c2) → L9 3 = some (vI c3) → L9 4 = some (vI c4) → L9 5 = some (vI c5) → L9 6 = some (vI c6) → K ZN 137 L9 [] μ9) : ∀ (n : Nat) (x7 : Int) (x8 : Int) (μ : Mem) (L : Lo), pM_way_L109 N c1 c2 c3 c4 c5 c6 k n x7 x8 μ = some (re, μe) → inR x7 → inR x8 → VT μ → L 0 = some (vA en 475) → L 1 = some (vI c1) → L 2 = some (vI c2) → L 3 = some (vI c3) → L 4 = some (vI c4) → L 5 = some (vI c5) → L 6 = some (vI c6) → L 7 = some (vI x7) → L 8 = some (vI x8) → K ZN 109 L [] μ := by
  intro n
  induction n with
  | zero => intro x7 x8 μ L h; cases h
  | succ n ih =>
    intro x7 x8 μ L h hx7 hx8 hV hL0 hL1 hL2 hL3 hL4 hL5 hL6 hL7 hL8
    replace h : pM_way_L109b N c1 c2 c3 c4 c5 c6 k (pM_way_L109 N c1 c2 c3 c4 c5 c6 k n) x7 x8 μ = some (re, μe) := h
    unfold pM_way_L109b at h
    refine r_iload Ra dX12_way_109 hL8 ?_
    refine r_if_lt Ra 137 dX12_way_111 hx8 rfl (fun hc => ?_) (fun hc => ?_)
    · replace h := ipos hc h
      exact hk μ h  hV _ hL0 hL1 hL2 hL3 hL4 hL5 hL6
    · replace h := ineg hc h
      refine r_aload_n Ra (i := 0) dX12_way_114 rfl hL0 ?_
      refine q_getA Ra (b := 514) f_X12_210 t475 rfl rfl rfl (hV.ref t475 rfl (by decide)) (by decide) dX12_way_115 ?_
      refine r_iload Ra dX12_way_118 hL8 ?_
      refine r_iload Ra dX12_way_120 hL7 ?_
      refine r_iconst Ra dX12_way_122 ?_
      refine r_irem Ra dX12_way_123 (Rk rfl) (by decide) ?_
      obtain ⟨gu124, h⟩ := gd h
      obtain ⟨m124, em124, h⟩ := bv h
      have hm124 : VT m124 := eqV em124 (hV.setI t514 (kd20 _) (inR_32 _))
      refine q_iast Ra t514 l514 gu124 em124 dX12_way_124 ?_
      refine r_iload Ra dX12_way_125 hL7 ?_
      refine r_iconst Ra dX12_way_127 ?_
      refine r_idiv Ra dX12_way_128 (Rk rfl) (by decide) ?_
      obtain ⟨x7_129, ex7_129, h⟩ := bv h
      have ix7_129 : inR x7_129 := eqR ex7_129 (inR_32 _)
      refine q_istore Ra dX12_way_129 rfl ex7_129 ?_
      obtain ⟨x8_131, ex8_131, h⟩ := bv h
      have ix8_131 : inR x8_131 := eqR ex8_131 (inR_32 _)
      refine q_iinc Ra dX12_way_131 hL8 ex8_131 ?_
      refine r_goto Ra 109 dX12_way_134 rfl ?_
      exact ih x7_129 x8_131 m124 _ h ix7_129 ix8_131 hm124 hL0 hL1 hL2 hL3 hL4 hL5 hL6 rfl rfl
theorem k_pM_way_L199 {l : Launch} {en : En} {re : Int} {μe : Mem} {N : Nat} {c1 : Int} {c2 : Int} {c3 : Int} {c4 : Int} {c5 : Int} {c6 : Int} {k : Mem → Option (Int × Mem)} {K : KT} (Ra : Ru false (some (some .int, some (vI re), nCells, μe, 0, 0, (VT μe ∧ inR re))) l en cX12_way yX12_way.cls 9 (rmN 6 210) K) (hi1 : inR c1) (hi2 : inR c2) (hi3 : inR c3) (hi4 : inR c4) (hi5 : inR c5) (hi6 : inR c6) (hk : ∀  (μ9 : Mem), k μ9 = some (re, μe) → VT μ9 → ∀ L9 : Lo, L9 0 = some (vA en 475) → L9 1 = some (vI c1) → L9 2 = some (vI c2) → L9 3 = some (vI c3) → L9 4 = some (vI c4) → L9 5 = some (vI c5) → L9 6 = some (vI c6) → K ZN 225 L9 [] μ9) : ∀ (n : Nat) (x8 : Int) (μ : Mem) (L : Lo), pM_way_L199 N c1 c2 c3 c4 c5 c6 k n x8 μ = some (re, μe) → inR x8 → VT μ → L 0 = some (vA en 475) → L 1 = some (vI c1) → L 2 = some (vI c2) → L 3 = some (vI c3) → L 4 = some (vI c4) → L 5 = some (vI c5) → L 6 = some (vI c6) → L 8 = some (vI x8) → K ZN 199 L [] μ := by
  intro n
  induction n with
  | zero => intro x8 μ L h; cases h
  | succ n ih =>
    intro x8 μ L h hx8 hV hL0 hL1 hL2 hL3 hL4 hL5 hL6 hL8
    replace h : pM_way_L199b N c1 c2 c3 c4 c5 c6 k (pM_way_L199 N c1 c2 c3 c4 c5 c6 k n) x8 μ = some (re, μe) := h
    unfold pM_way_L199b at h
    refine r_iload Ra dX12_way_199 hL8 ?_
    refine r_iload_n Ra (i := 2) dX12_way_201 rfl hL2 ?_
    refine r_icmp_ge Ra 225 dX12_way_202 hx8 hi2 rfl (fun hc => ?_) (fun hc => ?_)
    · replace h := ineg hc h
      exact hk μ h  hV _ hL0 hL1 hL2 hL3 hL4 hL5 hL6
    · replace h := ipos hc h
      refine r_aload_n Ra (i := 0) dX12_way_205 rfl hL0 ?_
      refine q_getA Ra (b := 515) f_X12_216 t475 rfl rfl rfl (hV.ref t475 rfl (by decide)) (by decide) dX12_way_206 ?_
      refine r_iload Ra dX12_way_209 hL8 ?_
      refine r_aload_n Ra (i := 0) dX12_way_211 rfl hL0 ?_
      refine q_getA Ra (b := 514) f_X12_210 t475 rfl rfl rfl (hV.ref t475 rfl (by decide)) (by decide) dX12_way_212 ?_
      refine r_iload Ra dX12_way_215 hL8 ?_
      obtain ⟨gu217, h⟩ := gd h
      refine q_iald Ra t514 l514 gu217 dX12_way_217 ?_
      obtain ⟨gu218, h⟩ := gd h
      obtain ⟨m218, em218, h⟩ := bv h
      have hm218 : VT m218 := eqV em218 (hV.setI t515 (kd20 _) (hV.int t514 (kd20 _)))
      refine q_iast Ra t515 l515 gu218 em218 dX12_way_218 ?_
      obtain ⟨x8_219, ex8_219, h⟩ := bv h
      have ix8_219 : inR x8_219 := eqR ex8_219 (inR_32 _)
      refine q_iinc Ra dX12_way_219 hL8 ex8_219 ?_
      refine r_goto Ra 199 dX12_way_222 rfl ?_
      exact ih x8_219 m218 _ h ix8_219 hm218 hL0 hL1 hL2 hL3 hL4 hL5 hL6 rfl
theorem k_pM_way_L93 {l : Launch} {en : En} {re : Int} {μe : Mem} {N : Nat} {c1 : Int} {c2 : Int} {c3 : Int} {c4 : Int} {k : Int → Mem → Option (Int × Mem)} {K : KT} (Ra : Ru false (some (some .int, some (vI re), nCells, μe, 0, 0, (VT μe ∧ inR re))) l en cX12_way yX12_way.cls 9 (rmN 6 210) K) (hi1 : inR c1) (hi2 : inR c2) (hi3 : inR c3) (hi4 : inR c4) (hk : ∀ (z5 : Int) (μ9 : Mem), k z5 μ9 = some (re, μe) → inR z5 → VT μ9 → ∀ L9 : Lo, L9 0 = some (vA en 475) → L9 3 = some (vI c3) → L9 5 = some (vI z5) → K ZN 231 L9 [] μ9) : ∀ (n : Nat) (x5 : Int) (x6 : Int) (μ : Mem) (L : Lo), pM_way_L93 N c1 c2 c3 c4 k n x5 x6 μ = some (re, μe) → inR x5 → inR x6 → VT μ → L 0 = some (vA en 475) → L 1 = some (vI c1) → L 2 = some (vI c2) → L 3 = some (vI c3) → L 4 = some (vI c4) → L 5 = some (vI x5) → L 6 = some (vI x6) → K ZN 93 L [] μ := by
  intro n
  induction n with
  | zero => intro x5 x6 μ L h; cases h
  | succ n ih =>
    intro x5 x6 μ L h hx5 hx6 hV hL0 hL1 hL2 hL3 hL4 hL5 hL6
    replace h : pM_way_L93b N c1 c2 c3 c4 k (pM_way_L93 N c1 c2 c3 c4 k n) x5 x6 μ = some (re, μe) := h
    unfold pM_way_L93b at h
    refine r_iload Ra dX12_way_93 hL6 ?_
    refine r_iload Ra dX12_way_95 hL4 ?_
    refine r_icmp_ge Ra 231 dX12_way_97 hx6 hi4 rfl (fun hc => ?_) (fun hc => ?_)
    · replace h := ineg hc h
      exact hk x5 μ h hx5 hV _ hL0 hL3 hL5
    · replace h := ipos hc h
      refine r_iload Ra dX12_way_100 hL6 ?_
      refine q_istore Ra dX12_way_102 rfl rfl ?_
      refine r_iload_n Ra (i := 2) dX12_way_104 rfl hL2 ?_
      refine r_iconst Ra dX12_way_105 ?_
      refine r_isub Ra dX12_way_106 ?_
      obtain ⟨x8_107, ex8_107, h⟩ := bv h
      have ix8_107 : inR x8_107 := eqR ex8_107 (inR_32 _)
      refine q_istore Ra dX12_way_107 rfl ex8_107 ?_
      refine k_pM_way_L109 Ra hi1 hi2 hi3 hi4 hx5 hx6 ?_ _ _ _ _ _ h hx6 ix8_107 hV hL0 hL1 hL2 hL3 hL4 hL5 hL6 rfl rfl
      intro n137 h hn137 L9 f137_0 f137_1 f137_2 f137_3 f137_4 f137_5 f137_6
      refine r_aload_n Ra (i := 0) dX12_way_137 rfl f137_0 ?_
      refine r_iconst Ra dX12_way_138 ?_
      refine r_iconst Ra dX12_way_139 ?_
      refine r_aload_n Ra (i := 0) dX12_way_140 rfl f137_0 ?_
      obtain ⟨r141, hr141, h⟩ := bd h
      refine q_callVI Ra (c_pM_all hn137 hr141) mw_X12_all mi_X12_all t475 rfl rfl rfl rfl rfl k_X12_460 rfl rfl dX12_way_141 (fun ok141 => ?_)
      obtain ⟨⟨r144, m144⟩, hr144, h⟩ := bd h
      refine q_callVI Ra (c_pM_runs hn137 (Rk rfl) (Rk rfl) ok141 hr144) mw_X12_runs mi_X12_runs t475 rfl rfl rfl rfl rfl k_X12_463 rfl rfl dX12_way_144 (fun ok144 => ?_)
      obtain ⟨hV144, ok144⟩ := ok144
      refine r_if_eq Ra 225 dX12_way_147 (inR_01 ok144) rfl (fun hc => ?_) (fun hc => ?_)
      · replace h := ipos hc h
        obtain ⟨x6_225, ex6_225, h⟩ := bv h
        have ix6_225 : inR x6_225 := eqR ex6_225 (inR_32 _)
        refine q_iinc Ra dX12_way_225 f137_6 ex6_225 ?_
        refine r_goto Ra 93 dX12_way_228 rfl ?_
        exact ih x5 x6_225 m144 _ h hx5 ix6_225 hV144 f137_0 f137_1 f137_2 f137_3 f137_4 f137_5 rfl
      · replace h := ineg hc h
        refine r_aload_n Ra (i := 0) dX12_way_150 rfl f137_0 ?_
        refine q_getA Ra (b := 513) f_X12_198 t475 rfl rfl rfl (hV144.ref t475 rfl (by decide)) (by decide) dX12_way_151 ?_
        refine r_bipush Ra dX12_way_154 rfl ?_
        refine r_aload_n Ra (i := 0) dX12_way_156 rfl f137_0 ?_
        refine q_getI Ra (x := m144 475 63) f_X12_204 t475 rfl rfl rfl rfl dX12_way_157 ?_
        refine r_iload_n Ra (i := 2) dX12_way_160 rfl f137_2 ?_
        refine r_iadd Ra dX12_way_161 ?_
        refine r_iconst Ra dX12_way_162 ?_
        refine r_isub Ra dX12_way_163 ?_
        refine r_imul Ra dX12_way_164 ?_
        refine r_iload_n Ra (i := 1) dX12_way_165 rfl f137_1 ?_
        refine r_iadd Ra dX12_way_166 ?_
        obtain ⟨gu167, h⟩ := gd h
        refine q_iald Ra t513 l513 gu167 dX12_way_167 ?_
        refine r_iload Ra dX12_way_168 f137_5 ?_
        refine r_icmp_gt Ra 176 dX12_way_170 (hV144.int t513 (kd20 _)) hx5 rfl (fun hc => ?_) (fun hc => ?_)
        · replace h := ipos hc h
          refine r_aload_n Ra (i := 0) dX12_way_176 rfl f137_0 ?_
          refine q_getA Ra (b := 513) f_X12_198 t475 rfl rfl rfl (hV144.ref t475 rfl (by decide)) (by decide) dX12_way_177 ?_
          refine r_bipush Ra dX12_way_180 rfl ?_
          refine r_aload_n Ra (i := 0) dX12_way_182 rfl f137_0 ?_
          refine q_getI Ra (x := m144 475 63) f_X12_204 t475 rfl rfl rfl rfl dX12_way_183 ?_
          refine r_iload_n Ra (i := 2) dX12_way_186 rfl f137_2 ?_
          refine r_iadd Ra dX12_way_187 ?_
          refine r_iconst Ra dX12_way_188 ?_
          refine r_isub Ra dX12_way_189 ?_
          refine r_imul Ra dX12_way_190 ?_
          refine r_iload_n Ra (i := 1) dX12_way_191 rfl f137_1 ?_
          refine r_iadd Ra dX12_way_192 ?_
          obtain ⟨gu193, h⟩ := gd h
          refine q_iald Ra t513 l513 gu193 dX12_way_193 ?_
          obtain ⟨x5_194, ex5_194, h⟩ := bv h
          have ix5_194 : inR x5_194 := eqR ex5_194 (hV144.int t513 (kd20 _))
          refine q_istore Ra dX12_way_194 rfl ex5_194 ?_
          refine r_iconst Ra dX12_way_196 ?_
          refine q_istore Ra dX12_way_197 rfl rfl ?_
          refine k_pM_way_L199 Ra hi1 hi2 hi3 hi4 ix5_194 hx6 ?_ _ _ _ _ h (Rk rfl) hV144 f137_0 f137_1 f137_2 f137_3 f137_4 rfl f137_6 rfl
          intro n225 h hn225 L9 f225_0 f225_1 f225_2 f225_3 f225_4 f225_5 f225_6
          obtain ⟨x6_225, ex6_225, h⟩ := bv h
          have ix6_225 : inR x6_225 := eqR ex6_225 (inR_32 _)
          refine q_iinc Ra dX12_way_225 f225_6 ex6_225 ?_
          refine r_goto Ra 93 dX12_way_228 rfl ?_
          exact ih x5_194 x6_225 n225 _ h ix5_194 ix6_225 hn225 f225_0 f225_1 f225_2 f225_3 f225_4 f225_5 rfl
        · replace h := ineg hc h
          refine r_goto Ra 225 dX12_way_173 rfl ?_
          obtain ⟨x6_225, ex6_225, h⟩ := bv h
          have ix6_225 : inR x6_225 := eqR ex6_225 (inR_32 _)
          refine q_iinc Ra dX12_way_225 f137_6 ex6_225 ?_
          refine r_goto Ra 93 dX12_way_228 rfl ?_
          exact ih x5 x6_225 m144 _ h hx5 ix6_225 hV144 f137_0 f137_1 f137_2 f137_3 f137_4 f137_5 rfl
set_option maxHeartbeats 4000000 in
theorem c_pM_way {l : Launch} {en : En} {N : Nat} {μ : Mem} {x1 : Int} {x2 : Int} {x3 : Int} {re : Int} {μe : Mem} (hV : VT μ) (hx1 : inR x1) (hx2 : inR x2) (hx3 : inR x3) (h : pM_way N μ x1 x2 x3 = some (re, μe)) : CtI l en yX12_way cX12_way 9 6 210 [vA en 475, vI x1, vI x2, vI x3] μ .int re μe (VT μe ∧ inR re) := by
  refine Tr.of false (fun h => by cases h) (by decide) (Nat.le_of_ble_eq_true rfl) (fun K Ra => ?_)
  unfold pM_way at h
  refine r_aload_n Ra (i := 0) dX12_way_0 rfl rfl ?_
  refine r_iload_n Ra (i := 1) dX12_way_1 rfl rfl ?_
  obtain ⟨r2, hr2, h⟩ := bd h
  refine q_callVI Ra (c_pM_isPerson hV hx1 hr2) mw_X12_isPerson mi_X12_isPerson t475 rfl rfl rfl rfl rfl k_X12_469 rfl rfl dX12_way_2 (fun ok2 => ?_)
  refine r_if_eq Ra 41 dX12_way_5 (inR_01 ok2) rfl (fun hc => ?_) (fun hc => ?_)
  · replace h := ipos hc h
    refine r_iconst Ra dX12_way_41 ?_
    cases h
    exact r_iret Ra ⟨hV, (Rk rfl)⟩ dX12_way_42
  · replace h := ineg hc h
    refine r_iload_n Ra (i := 2) dX12_way_8 rfl rfl ?_
    refine r_iconst Ra dX12_way_9 ?_
    refine r_iconst Ra dX12_way_10 ?_
    obtain ⟨r11, hr11, h⟩ := bd h
    refine q_callSI Ra (c_pM_is hV hx2 (Rk rfl) (Rk rfl) hr11) mw_X12_is ms_X12_is rfl rfl k_X12_323 rfl rfl dX12_way_11 (fun ok11 => ?_)
    refine r_if_eq Ra 41 dX12_way_14 (inR_01 ok11) rfl (fun hc => ?_) (fun hc => ?_)
    · replace h := ipos hc h
      refine r_iconst Ra dX12_way_41 ?_
      cases h
      exact r_iret Ra ⟨hV, (Rk rfl)⟩ dX12_way_42
    · replace h := ineg hc h
      refine r_aload_n Ra (i := 0) dX12_way_17 rfl rfl ?_
      refine q_getA Ra (b := 501) f_X12_153 t475 rfl rfl rfl (hV.ref t475 rfl (by decide)) (by decide) dX12_way_18 ?_
      refine r_iload_n Ra (i := 1) dX12_way_21 rfl rfl ?_
      obtain ⟨gu22, h⟩ := gd h
      refine q_iald Ra t501 l501 gu22 dX12_way_22 ?_
      refine r_iload_n Ra (i := 2) dX12_way_23 rfl rfl ?_
      refine r_iadd Ra dX12_way_24 ?_
      refine r_bipush Ra dX12_way_25 rfl ?_
      refine r_icmp_gt Ra 41 dX12_way_27 (inR_32 _) (Rk rfl) rfl (fun hc => ?_) (fun hc => ?_)
      · replace h := ipos hc h
        refine r_iconst Ra dX12_way_41 ?_
        cases h
        exact r_iret Ra ⟨hV, (Rk rfl)⟩ dX12_way_42
      · replace h := ineg hc h
        refine r_iload_n Ra (i := 3) dX12_way_30 rfl rfl ?_
        refine r_iconst Ra dX12_way_31 ?_
        refine r_iload_n Ra (i := 2) dX12_way_32 rfl rfl ?_
        refine r_iconst Ra dX12_way_33 ?_
        refine r_isub Ra dX12_way_34 ?_
        obtain ⟨r35, hr35, h⟩ := bd h
        refine q_callSI Ra (c_pM_is hV hx3 (Rk rfl) (inR_32 _) hr35) mw_X12_is ms_X12_is rfl rfl k_X12_323 rfl rfl dX12_way_35 (fun ok35 => ?_)
        refine r_if_ne Ra 43 dX12_way_38 (inR_01 ok35) rfl (fun hc => ?_) (fun hc => ?_)
        · replace h := ineg hc h
          refine r_iconst Ra dX12_way_43 ?_
          refine q_istore Ra dX12_way_44 rfl rfl ?_
          refine r_iconst Ra dX12_way_46 ?_
          refine q_istore Ra dX12_way_47 rfl rfl ?_
          refine k_pM_way_L49 hV Ra hx1 hx2 hx3 ?_ _ _ _ _ h (Rk rfl) (Rk rfl) rfl rfl rfl rfl rfl rfl
          intro z4_67 h iz4_67 L9 f67_0 f67_1 f67_2 f67_3 f67_4
          refine r_iconst Ra dX12_way_67 ?_
          refine q_istore Ra dX12_way_68 rfl rfl ?_
          refine r_aload_n Ra (i := 0) dX12_way_70 rfl f67_0 ?_
          refine r_iload_n Ra (i := 1) dX12_way_71 rfl f67_1 ?_
          obtain ⟨m72, em72, h⟩ := bv h
          have hm72 : VT m72 := eqV em72 (hV.setI t475 rfl hx1)
          refine q_putI Ra f_X12_201 p_X12_62 t475 rfl rfl rfl em72 dX12_way_72 ?_
          refine r_aload_n Ra (i := 0) dX12_way_75 rfl f67_0 ?_
          refine r_aload_n Ra (i := 0) dX12_way_76 rfl f67_0 ?_
          refine q_getA Ra (b := 501) f_X12_153 t475 rfl rfl rfl (hm72.ref t475 rfl (by decide)) (by decide) dX12_way_77 ?_
          refine r_iload_n Ra (i := 1) dX12_way_80 rfl f67_1 ?_
          obtain ⟨gu81, h⟩ := gd h
          refine q_iald Ra t501 l501 gu81 dX12_way_81 ?_
          obtain ⟨m82, em82, h⟩ := bv h
          have hm82 : VT m82 := eqV em82 (hm72.setI t475 rfl (hm72.int t501 (kd20 _)))
          refine q_putI Ra f_X12_204 p_X12_63 t475 rfl rfl rfl em82 dX12_way_82 ?_
          refine r_aload_n Ra (i := 0) dX12_way_85 rfl f67_0 ?_
          refine r_iload_n Ra (i := 2) dX12_way_86 rfl f67_2 ?_
          obtain ⟨m87, em87, h⟩ := bv h
          have hm87 : VT m87 := eqV em87 (hm82.setI t475 rfl hx2)
          refine q_putI Ra f_X12_207 p_X12_64 t475 rfl rfl rfl em87 dX12_way_87 ?_
          refine r_iconst Ra dX12_way_90 ?_
          refine q_istore Ra dX12_way_91 rfl rfl ?_
          refine k_pM_way_L93 Ra hx1 hx2 hx3 iz4_67 ?_ _ _ _ _ _ h (Rk rfl) (Rk rfl) hm87 f67_0 f67_1 f67_2 f67_3 f67_4 rfl rfl
          intro z5_231 n231 h iz5_231 hn231 L9 f231_0 f231_3 f231_5
          refine r_aload_n Ra (i := 0) dX12_way_231 rfl f231_0 ?_
          refine r_iconst Ra dX12_way_232 ?_
          obtain ⟨m233, em233, h⟩ := bv h
          have hm233 : VT m233 := eqV em233 (hn231.setI t475 rfl (Rk rfl))
          refine q_putI Ra f_X12_201 p_X12_62 t475 rfl rfl rfl em233 dX12_way_233 ?_
          refine r_iload_n Ra (i := 3) dX12_way_236 rfl f231_3 ?_
          refine r_iconst Ra dX12_way_237 ?_
          refine r_icmp_ne Ra 246 dX12_way_238 hx3 (Rk rfl) rfl (fun hc => ?_) (fun hc => ?_)
          · replace h := ineg hc h
            refine r_aload_n Ra (i := 0) dX12_way_246 rfl f231_0 ?_
            refine q_getA Ra (b := 515) f_X12_216 t475 rfl rfl rfl (hm233.ref t475 rfl (by decide)) (by decide) dX12_way_247 ?_
            refine r_iload_n Ra (i := 3) dX12_way_250 rfl f231_3 ?_
            obtain ⟨gu251, h⟩ := gd h
            refine q_iald Ra t515 l515 gu251 dX12_way_251 ?_
            cases h
            exact r_iret Ra ⟨hm233, (hm233.int t515 (kd20 _))⟩ dX12_way_252
          · replace h := ipos hc h
            refine r_iload Ra dX12_way_241 f231_5 ?_
            refine r_goto Ra 252 dX12_way_243 rfl ?_
            cases h
            exact r_iret Ra ⟨hm233, iz5_231⟩ dX12_way_252
        · replace h := ipos hc h
          refine r_iconst Ra dX12_way_41 ?_
          cases h
          exact r_iret Ra ⟨hV, (Rk rfl)⟩ dX12_way_42
noncomputable def pM_changed_L55b (N : Nat) (c1 : Int) (c5 : Int) (k : Int → Int → Int → Mem → Option (Int × Mem)) (self : Int → Int → Int → Int → Mem → Option (Int × Mem)) (x2 : Int) (x3 : Int) (x4 : Int) (x6 : Int) (μ : Mem) : Option (Int × Mem) := if 0 ≤ μ 475 13 ∧ μ 475 13 < 2 then if x6 < μ 480 (μ 475 13) then (pM_copies N μ 1 0).bind fun m72 => if 0 ≤ x6 ∧ x6 < 132 then if 0 ≤ w32 (6 + c5) ∧ w32 (6 + c5) < 132 then (some (mset m72 502 (w32 (6 + c5)) (m72 502 x6))).bind fun m91 => if 0 ≤ c5 ∧ c5 < 132 then if 0 ≤ w32 (6 + x6) ∧ w32 (6 + x6) < 132 then (some (mset m91 502 (w32 (6 + x6)) (m91 502 c5))).bind fun m108 => (pM_all m108).bind fun r113 => (pM_runs N m108 1 1 r113).bind fun (r116, m116) => (pM_wrung N m116).bind fun r121 => if x2 < r121 then (pM_wrung N m116).bind fun r132 => (some (w32 (x6 + 1) : Int)).bind fun x6_143 => self r132 c5 x6 x6_143 m116 else (some (w32 (x6 + 1) : Int)).bind fun x6_143 => self x2 x3 x4 x6_143 m116 else none else none else none else none else k x2 x3 x4 μ else none
noncomputable def pM_changed_L55 (N : Nat) (c1 : Int) (c5 : Int) (k : Int → Int → Int → Mem → Option (Int × Mem)) (n : Nat) : Int → Int → Int → Int → Mem → Option (Int × Mem) := lpF (fun _ _ _ _ _ => none) (pM_changed_L55b N c1 c5 k) n
noncomputable def pM_changed_L35b (N : Nat) (c1 : Int) (k : Int → Int → Int → Mem → Option (Int × Mem)) (self : Int → Int → Int → Int → Mem → Option (Int × Mem)) (x2 : Int) (x3 : Int) (x4 : Int) (x5 : Int) (μ : Mem) : Option (Int × Mem) := if 0 ≤ μ 475 13 ∧ μ 475 13 < 2 then if x5 < μ 480 (μ 475 13) then (some (w32 (x5 + 1) : Int)).bind fun x6_53 => pM_changed_L55 N c1 x5 (fun z2_149 z3_149 z4_149 n149 => (some (w32 (x5 + 1) : Int)).bind fun x5_149 => self z2_149 z3_149 z4_149 x5_149 n149) N x2 x3 x4 x6_53 μ else k x2 x3 x4 μ else none
noncomputable def pM_changed_L35 (N : Nat) (c1 : Int) (k : Int → Int → Int → Mem → Option (Int × Mem)) (n : Nat) : Int → Int → Int → Int → Mem → Option (Int × Mem) := lpF (fun _ _ _ _ _ => none) (pM_changed_L35b N c1 k) n
noncomputable def pM_changed (N : Nat) (μ : Mem) (x1 : Int) : Option (Int × Mem) := (pM_is μ x1 0 2).bind fun r3 => if r3 = 0 then some ((-1), μ) else (pM_all μ).bind fun r15 => (pM_runs N μ 0 1 r15).bind fun (r18, m18) => (pM_wrung N m18).bind fun r23 => pM_changed_L35 N x1 (fun z2_155 z3_155 z4_155 n155 => if z3_155 = (-1) then some ((-1), n155) else if x1 = 0 then some (z3_155, n155) else if x1 = 1 then some (z4_155, n155) else some (z2_155, n155)) N r23 (-1) (-1) 0 m18
theorem k_pM_changed_L55 {l : Launch} {en : En} {re : Int} {μe : Mem} {N : Nat} {c1 : Int} {c5 : Int} {k : Int → Int → Int → Mem → Option (Int × Mem)} {K : KT} (Ra : Ru false (some (some .int, some (vI re), nCells, μe, 0, 0, (VT μe ∧ inR re))) l en cX12_changed yX12_changed.cls 7 (rmN 6 210) K) (hi1 : inR c1) (hi5 : inR c5) (hk : ∀ (z2 : Int) (z3 : Int) (z4 : Int) (μ9 : Mem), k z2 z3 z4 μ9 = some (re, μe) → inR z2 → inR z3 → inR z4 → VT μ9 → ∀ L9 : Lo, L9 0 = some (vA en 475) → L9 1 = some (vI c1) → L9 2 = some (vI z2) → L9 3 = some (vI z3) → L9 4 = some (vI z4) → L9 5 = some (vI c5) → K ZN 149 L9 [] μ9) : ∀ (n : Nat) (x2 : Int) (x3 : Int) (x4 : Int) (x6 : Int) (μ : Mem) (L : Lo), pM_changed_L55 N c1 c5 k n x2 x3 x4 x6 μ = some (re, μe) → inR x2 → inR x3 → inR x4 → inR x6 → VT μ → L 0 = some (vA en 475) → L 1 = some (vI c1) → L 2 = some (vI x2) → L 3 = some (vI x3) → L 4 = some (vI x4) → L 5 = some (vI c5) → L 6 = some (vI x6) → K ZN 55 L [] μ := by
  intro n
  induction n with
  | zero => intro x2 x3 x4 x6 μ L h; cases h
  | succ n ih =>
    intro x2 x3 x4 x6 μ L h hx2 hx3 hx4 hx6 hV hL0 hL1 hL2 hL3 hL4 hL5 hL6
    replace h : pM_changed_L55b N c1 c5 k (pM_changed_L55 N c1 c5 k n) x2 x3 x4 x6 μ = some (re, μe) := h
    unfold pM_changed_L55b at h
    refine r_iload Ra dX12_changed_55 hL6 ?_
    refine r_aload_n Ra (i := 0) dX12_changed_57 rfl hL0 ?_
    refine q_getA Ra (b := 480) f_X12_63 t475 rfl rfl rfl (hV.ref t475 rfl (by decide)) (by decide) dX12_changed_58 ?_
    refine r_aload_n Ra (i := 0) dX12_changed_61 rfl hL0 ?_
    refine q_getI Ra (x := μ 475 13) f_X12_51 t475 rfl rfl rfl rfl dX12_changed_62 ?_
    obtain ⟨gu65, h⟩ := gd h
    refine q_iald Ra t480 l480 gu65 dX12_changed_65 ?_
    refine r_icmp_ge Ra 149 dX12_changed_66 hx6 (hV.int t480 (kd20 _)) rfl (fun hc => ?_) (fun hc => ?_)
    · replace h := ineg hc h
      exact hk x2 x3 x4 μ h hx2 hx3 hx4 hV _ hL0 hL1 hL2 hL3 hL4 hL5
    · replace h := ipos hc h
      refine r_aload_n Ra (i := 0) dX12_changed_69 rfl hL0 ?_
      refine r_iconst Ra dX12_changed_70 ?_
      refine r_iconst Ra dX12_changed_71 ?_
      obtain ⟨m72, hr72, h⟩ := bd h
      refine q_callVV Ra (c_pM_copies hV (Rk rfl) (Rk rfl) hr72) mw_X12_copies mi_X12_copies t475 rfl rfl rfl rfl rfl k_X12_414 rfl rfl dX12_changed_72 (fun ok72 => ?_)
      refine r_aload_n Ra (i := 0) dX12_changed_75 rfl hL0 ?_
      refine q_getA Ra (b := 502) f_X12_156 t475 rfl rfl rfl (ok72.ref t475 rfl (by decide)) (by decide) dX12_changed_76 ?_
      refine r_bipush Ra dX12_changed_79 rfl ?_
      refine r_iload Ra dX12_changed_81 hL5 ?_
      refine r_iadd Ra dX12_changed_83 ?_
      refine r_aload_n Ra (i := 0) dX12_changed_84 rfl hL0 ?_
      refine q_getA Ra (b := 502) f_X12_156 t475 rfl rfl rfl (ok72.ref t475 rfl (by decide)) (by decide) dX12_changed_85 ?_
      refine r_iload Ra dX12_changed_88 hL6 ?_
      obtain ⟨gu90, h⟩ := gd h
      refine q_iald Ra t502 l502 gu90 dX12_changed_90 ?_
      obtain ⟨gu91, h⟩ := gd h
      obtain ⟨m91, em91, h⟩ := bv h
      have hm91 : VT m91 := eqV em91 (ok72.setI t502 (kd20 _) (ok72.int t502 (kd20 _)))
      refine q_iast Ra t502 l502 gu91 em91 dX12_changed_91 ?_
      refine r_aload_n Ra (i := 0) dX12_changed_92 rfl hL0 ?_
      refine q_getA Ra (b := 502) f_X12_156 t475 rfl rfl rfl (hm91.ref t475 rfl (by decide)) (by decide) dX12_changed_93 ?_
      refine r_bipush Ra dX12_changed_96 rfl ?_
      refine r_iload Ra dX12_changed_98 hL6 ?_
      refine r_iadd Ra dX12_changed_100 ?_
      refine r_aload_n Ra (i := 0) dX12_changed_101 rfl hL0 ?_
      refine q_getA Ra (b := 502) f_X12_156 t475 rfl rfl rfl (hm91.ref t475 rfl (by decide)) (by decide) dX12_changed_102 ?_
      refine r_iload Ra dX12_changed_105 hL5 ?_
      obtain ⟨gu107, h⟩ := gd h
      refine q_iald Ra t502 l502 gu107 dX12_changed_107 ?_
      obtain ⟨gu108, h⟩ := gd h
      obtain ⟨m108, em108, h⟩ := bv h
      have hm108 : VT m108 := eqV em108 (hm91.setI t502 (kd20 _) (hm91.int t502 (kd20 _)))
      refine q_iast Ra t502 l502 gu108 em108 dX12_changed_108 ?_
      refine r_aload_n Ra (i := 0) dX12_changed_109 rfl hL0 ?_
      refine r_iconst Ra dX12_changed_110 ?_
      refine r_iconst Ra dX12_changed_111 ?_
      refine r_aload_n Ra (i := 0) dX12_changed_112 rfl hL0 ?_
      obtain ⟨r113, hr113, h⟩ := bd h
      refine q_callVI Ra (c_pM_all hm108 hr113) mw_X12_all mi_X12_all t475 rfl rfl rfl rfl rfl k_X12_460 rfl rfl dX12_changed_113 (fun ok113 => ?_)
      obtain ⟨⟨r116, m116⟩, hr116, h⟩ := bd h
      refine q_callVI Ra (c_pM_runs hm108 (Rk rfl) (Rk rfl) ok113 hr116) mw_X12_runs mi_X12_runs t475 rfl rfl rfl rfl rfl k_X12_463 rfl rfl dX12_changed_116 (fun ok116 => ?_)
      obtain ⟨hV116, ok116⟩ := ok116
      refine r_popI Ra dX12_changed_119 ?_
      refine r_aload_n Ra (i := 0) dX12_changed_120 rfl hL0 ?_
      obtain ⟨r121, hr121, h⟩ := bd h
      refine q_callVI Ra (c_pM_wrung hV116 hr121) mw_X12_wrung mi_X12_wrung t475 rfl rfl rfl rfl rfl k_X12_466 rfl rfl dX12_changed_121 (fun ok121 => ?_)
      refine r_iload_n Ra (i := 2) dX12_changed_124 rfl hL2 ?_
      refine r_icmp_gt Ra 131 dX12_changed_125 ok121 hx2 rfl (fun hc => ?_) (fun hc => ?_)
      · replace h := ipos hc h
        refine r_aload_n Ra (i := 0) dX12_changed_131 rfl hL0 ?_
        obtain ⟨r132, hr132, h⟩ := bd h
        refine q_callVI Ra (c_pM_wrung hV116 hr132) mw_X12_wrung mi_X12_wrung t475 rfl rfl rfl rfl rfl k_X12_466 rfl rfl dX12_changed_132 (fun ok132 => ?_)
        refine q_istore_n Ra 2 dX12_changed_135 rfl rfl rfl ?_
        refine r_iload Ra dX12_changed_136 hL5 ?_
        refine q_istore_n Ra 3 dX12_changed_138 rfl rfl rfl ?_
        refine r_iload Ra dX12_changed_139 hL6 ?_
        refine q_istore Ra dX12_changed_141 rfl rfl ?_
        obtain ⟨x6_143, ex6_143, h⟩ := bv h
        have ix6_143 : inR x6_143 := eqR ex6_143 (inR_32 _)
        refine q_iinc Ra dX12_changed_143 hL6 ex6_143 ?_
        refine r_goto Ra 55 dX12_changed_146 rfl ?_
        exact ih r132 c5 x6 x6_143 m116 _ h ok132 hi5 hx6 ix6_143 hV116 hL0 hL1 rfl rfl rfl hL5 rfl
      · replace h := ineg hc h
        refine r_goto Ra 143 dX12_changed_128 rfl ?_
        obtain ⟨x6_143, ex6_143, h⟩ := bv h
        have ix6_143 : inR x6_143 := eqR ex6_143 (inR_32 _)
        refine q_iinc Ra dX12_changed_143 hL6 ex6_143 ?_
        refine r_goto Ra 55 dX12_changed_146 rfl ?_
        exact ih x2 x3 x4 x6_143 m116 _ h hx2 hx3 hx4 ix6_143 hV116 hL0 hL1 hL2 hL3 hL4 hL5 rfl
theorem k_pM_changed_L35 {l : Launch} {en : En} {re : Int} {μe : Mem} {N : Nat} {c1 : Int} {k : Int → Int → Int → Mem → Option (Int × Mem)} {K : KT} (Ra : Ru false (some (some .int, some (vI re), nCells, μe, 0, 0, (VT μe ∧ inR re))) l en cX12_changed yX12_changed.cls 7 (rmN 6 210) K) (hi1 : inR c1) (hk : ∀ (z2 : Int) (z3 : Int) (z4 : Int) (μ9 : Mem), k z2 z3 z4 μ9 = some (re, μe) → inR z2 → inR z3 → inR z4 → VT μ9 → ∀ L9 : Lo, L9 1 = some (vI c1) → L9 2 = some (vI z2) → L9 3 = some (vI z3) → L9 4 = some (vI z4) → K ZN 155 L9 [] μ9) : ∀ (n : Nat) (x2 : Int) (x3 : Int) (x4 : Int) (x5 : Int) (μ : Mem) (L : Lo), pM_changed_L35 N c1 k n x2 x3 x4 x5 μ = some (re, μe) → inR x2 → inR x3 → inR x4 → inR x5 → VT μ → L 0 = some (vA en 475) → L 1 = some (vI c1) → L 2 = some (vI x2) → L 3 = some (vI x3) → L 4 = some (vI x4) → L 5 = some (vI x5) → K ZN 35 L [] μ := by
  intro n
  induction n with
  | zero => intro x2 x3 x4 x5 μ L h; cases h
  | succ n ih =>
    intro x2 x3 x4 x5 μ L h hx2 hx3 hx4 hx5 hV hL0 hL1 hL2 hL3 hL4 hL5
    replace h : pM_changed_L35b N c1 k (pM_changed_L35 N c1 k n) x2 x3 x4 x5 μ = some (re, μe) := h
    unfold pM_changed_L35b at h
    refine r_iload Ra dX12_changed_35 hL5 ?_
    refine r_aload_n Ra (i := 0) dX12_changed_37 rfl hL0 ?_
    refine q_getA Ra (b := 480) f_X12_63 t475 rfl rfl rfl (hV.ref t475 rfl (by decide)) (by decide) dX12_changed_38 ?_
    refine r_aload_n Ra (i := 0) dX12_changed_41 rfl hL0 ?_
    refine q_getI Ra (x := μ 475 13) f_X12_51 t475 rfl rfl rfl rfl dX12_changed_42 ?_
    obtain ⟨gu45, h⟩ := gd h
    refine q_iald Ra t480 l480 gu45 dX12_changed_45 ?_
    refine r_icmp_ge Ra 155 dX12_changed_46 hx5 (hV.int t480 (kd20 _)) rfl (fun hc => ?_) (fun hc => ?_)
    · replace h := ineg hc h
      exact hk x2 x3 x4 μ h hx2 hx3 hx4 hV _ hL1 hL2 hL3 hL4
    · replace h := ipos hc h
      refine r_iload Ra dX12_changed_49 hL5 ?_
      refine r_iconst Ra dX12_changed_51 ?_
      refine r_iadd Ra dX12_changed_52 ?_
      obtain ⟨x6_53, ex6_53, h⟩ := bv h
      have ix6_53 : inR x6_53 := eqR ex6_53 (inR_32 _)
      refine q_istore Ra dX12_changed_53 rfl ex6_53 ?_
      refine k_pM_changed_L55 Ra hi1 hx5 ?_ _ _ _ _ _ _ _ h hx2 hx3 hx4 ix6_53 hV hL0 hL1 hL2 hL3 hL4 hL5 rfl
      intro z2_149 z3_149 z4_149 n149 h iz2_149 iz3_149 iz4_149 hn149 L9 f149_0 f149_1 f149_2 f149_3 f149_4 f149_5
      obtain ⟨x5_149, ex5_149, h⟩ := bv h
      have ix5_149 : inR x5_149 := eqR ex5_149 (inR_32 _)
      refine q_iinc Ra dX12_changed_149 f149_5 ex5_149 ?_
      refine r_goto Ra 35 dX12_changed_152 rfl ?_
      exact ih z2_149 z3_149 z4_149 x5_149 n149 _ h iz2_149 iz3_149 iz4_149 ix5_149 hn149 f149_0 f149_1 f149_2 f149_3 f149_4 rfl
set_option maxHeartbeats 4000000 in
theorem c_pM_changed {l : Launch} {en : En} {N : Nat} {μ : Mem} {x1 : Int} {re : Int} {μe : Mem} (hV : VT μ) (hx1 : inR x1) (h : pM_changed N μ x1 = some (re, μe)) : CtI l en yX12_changed cX12_changed 7 6 210 [vA en 475, vI x1] μ .int re μe (VT μe ∧ inR re) := by
  refine Tr.of false (fun h => by cases h) (by decide) (Nat.le_of_ble_eq_true rfl) (fun K Ra => ?_)
  unfold pM_changed at h
  refine r_iload_n Ra (i := 1) dX12_changed_0 rfl rfl ?_
  refine r_iconst Ra dX12_changed_1 ?_
  refine r_iconst Ra dX12_changed_2 ?_
  obtain ⟨r3, hr3, h⟩ := bd h
  refine q_callSI Ra (c_pM_is hV hx1 (Rk rfl) (Rk rfl) hr3) mw_X12_is ms_X12_is rfl rfl k_X12_323 rfl rfl dX12_changed_3 (fun ok3 => ?_)
  refine r_if_ne Ra 11 dX12_changed_6 (inR_01 ok3) rfl (fun hc => ?_) (fun hc => ?_)
  · replace h := ineg hc h
    refine r_aload_n Ra (i := 0) dX12_changed_11 rfl rfl ?_
    refine r_iconst Ra dX12_changed_12 ?_
    refine r_iconst Ra dX12_changed_13 ?_
    refine r_aload_n Ra (i := 0) dX12_changed_14 rfl rfl ?_
    obtain ⟨r15, hr15, h⟩ := bd h
    refine q_callVI Ra (c_pM_all hV hr15) mw_X12_all mi_X12_all t475 rfl rfl rfl rfl rfl k_X12_460 rfl rfl dX12_changed_15 (fun ok15 => ?_)
    obtain ⟨⟨r18, m18⟩, hr18, h⟩ := bd h
    refine q_callVI Ra (c_pM_runs hV (Rk rfl) (Rk rfl) ok15 hr18) mw_X12_runs mi_X12_runs t475 rfl rfl rfl rfl rfl k_X12_463 rfl rfl dX12_changed_18 (fun ok18 => ?_)
    obtain ⟨hV18, ok18⟩ := ok18
    refine r_popI Ra dX12_changed_21 ?_
    refine r_aload_n Ra (i := 0) dX12_changed_22 rfl rfl ?_
    obtain ⟨r23, hr23, h⟩ := bd h
    refine q_callVI Ra (c_pM_wrung hV18 hr23) mw_X12_wrung mi_X12_wrung t475 rfl rfl rfl rfl rfl k_X12_466 rfl rfl dX12_changed_23 (fun ok23 => ?_)
    refine q_istore_n Ra 2 dX12_changed_26 rfl rfl rfl ?_
    refine r_iconst Ra dX12_changed_27 ?_
    refine q_istore_n Ra 3 dX12_changed_28 rfl rfl rfl ?_
    refine r_iconst Ra dX12_changed_29 ?_
    refine q_istore Ra dX12_changed_30 rfl rfl ?_
    refine r_iconst Ra dX12_changed_32 ?_
    refine q_istore Ra dX12_changed_33 rfl rfl ?_
    refine k_pM_changed_L35 Ra hx1 ?_ _ _ _ _ _ _ _ h ok23 (Rk rfl) (Rk rfl) (Rk rfl) hV18 rfl rfl rfl rfl rfl rfl
    intro z2_155 z3_155 z4_155 n155 h iz2_155 iz3_155 iz4_155 hn155 L9 f155_1 f155_2 f155_3 f155_4
    refine r_iload_n Ra (i := 3) dX12_changed_155 rfl f155_3 ?_
    refine r_iconst Ra dX12_changed_156 ?_
    refine r_icmp_ne Ra 164 dX12_changed_157 iz3_155 (Rk rfl) rfl (fun hc => ?_) (fun hc => ?_)
    · replace h := ineg hc h
      refine r_iload_n Ra (i := 1) dX12_changed_164 rfl f155_1 ?_
      refine r_if_ne Ra 172 dX12_changed_165 hx1 rfl (fun hc => ?_) (fun hc => ?_)
      · replace h := ineg hc h
        refine r_iload_n Ra (i := 1) dX12_changed_172 rfl f155_1 ?_
        refine r_iconst Ra dX12_changed_173 ?_
        refine r_icmp_ne Ra 182 dX12_changed_174 hx1 (Rk rfl) rfl (fun hc => ?_) (fun hc => ?_)
        · replace h := ineg hc h
          refine r_iload_n Ra (i := 2) dX12_changed_182 rfl f155_2 ?_
          cases h
          exact r_iret Ra ⟨hn155, iz2_155⟩ dX12_changed_183
        · replace h := ipos hc h
          refine r_iload Ra dX12_changed_177 f155_4 ?_
          refine r_goto Ra 183 dX12_changed_179 rfl ?_
          cases h
          exact r_iret Ra ⟨hn155, iz4_155⟩ dX12_changed_183
      · replace h := ipos hc h
        refine r_iload_n Ra (i := 3) dX12_changed_168 rfl f155_3 ?_
        refine r_goto Ra 183 dX12_changed_169 rfl ?_
        cases h
        exact r_iret Ra ⟨hn155, iz3_155⟩ dX12_changed_183
    · replace h := ipos hc h
      refine r_iconst Ra dX12_changed_160 ?_
      refine r_goto Ra 183 dX12_changed_161 rfl ?_
      cases h
      exact r_iret Ra ⟨hn155, (Rk rfl)⟩ dX12_changed_183
  · replace h := ipos hc h
    refine r_iconst Ra dX12_changed_9 ?_
    cases h
    exact r_iret Ra ⟨hV, (Rk rfl)⟩ dX12_changed_10
noncomputable def pM_isAhead (μ : Mem) (x1 : Int) (x2 : Int) (x3 : Int) : Option (Int) := (pM_is μ x1 x2 x3).bind fun r3 => if r3 = 0 then some (0) else if w32 (999 - x1) < μ 498 0 then some (0) else some (1)
set_option maxHeartbeats 4000000 in
theorem c_pM_isAhead {l : Launch} {en : En} {μ : Mem} {x1 : Int} {x2 : Int} {x3 : Int} {re : Int} (hV : VT μ) (hx1 : inR x1) (hx2 : inR x2) (hx3 : inR x3) (h : pM_isAhead μ x1 x2 x3 = some re) : CtI l en yX12_isAhead cX12_isAhead 4 1 82 [vA en 475, vI x1, vI x2, vI x3] μ .boolean re μ ((re = 0 ∨ re = 1)) := by
  refine Tr.of false (fun h => by cases h) (by decide) (Nat.le_of_ble_eq_true rfl) (fun K Ra => ?_)
  unfold pM_isAhead at h
  refine r_iload_n Ra (i := 1) dX12_isAhead_0 rfl rfl ?_
  refine r_iload_n Ra (i := 2) dX12_isAhead_1 rfl rfl ?_
  refine r_iload_n Ra (i := 3) dX12_isAhead_2 rfl rfl ?_
  obtain ⟨r3, hr3, h⟩ := bd h
  refine q_callSI Ra (c_pM_is hV hx1 hx2 hx3 hr3) mw_X12_is ms_X12_is rfl rfl k_X12_323 rfl rfl dX12_isAhead_3 (fun ok3 => ?_)
  refine r_if_eq Ra 27 dX12_isAhead_6 (inR_01 ok3) rfl (fun hc => ?_) (fun hc => ?_)
  · replace h := ipos hc h
    refine r_iconst Ra dX12_isAhead_27 ?_
    cases h
    exact r_zret Ra (Or.inl rfl) (Or.inl rfl) dX12_isAhead_28
  · replace h := ineg hc h
    refine r_aload_n Ra (i := 0) dX12_isAhead_9 rfl rfl ?_
    refine q_getA Ra (b := 498) f_X12_144 t475 rfl rfl rfl (hV.ref t475 rfl (by decide)) (by decide) dX12_isAhead_10 ?_
    refine r_iconst Ra dX12_isAhead_13 ?_
    refine q_iald Ra t498 l498 (by decide) dX12_isAhead_14 ?_
    refine r_sipush Ra dX12_isAhead_15 rfl ?_
    refine r_iload_n Ra (i := 1) dX12_isAhead_18 rfl rfl ?_
    refine r_isub Ra dX12_isAhead_19 ?_
    refine r_icmp_gt Ra 27 dX12_isAhead_20 (hV.int t498 (kd20 _)) (inR_32 _) rfl (fun hc => ?_) (fun hc => ?_)
    · replace h := ipos hc h
      refine r_iconst Ra dX12_isAhead_27 ?_
      cases h
      exact r_zret Ra (Or.inl rfl) (Or.inl rfl) dX12_isAhead_28
    · replace h := ineg hc h
      refine r_iconst Ra dX12_isAhead_23 ?_
      refine r_goto Ra 28 dX12_isAhead_24 rfl ?_
      cases h
      exact r_zret Ra (Or.inr rfl) (Or.inr rfl) dX12_isAhead_28
noncomputable def pM_tries_L8b (N : Nat) (c1 : Int) (k : Mem → Option (Mem)) (self : Int → Mem → Option (Mem)) (x2 : Int) (μ : Mem) : Option (Mem) := if x2 < c1 then (pM_passes N μ 1 1).bind fun (r16, m16) => (some (w32 (x2 + 1) : Int)).bind fun x2_20 => self x2_20 m16 else k μ
noncomputable def pM_tries_L8 (N : Nat) (c1 : Int) (k : Mem → Option (Mem)) (n : Nat) : Int → Mem → Option (Mem) := lpF (fun _ _ => none) (pM_tries_L8b N c1 k) n
noncomputable def pM_tries (N : Nat) (μ : Mem) (x1 : Int) : Option (Mem) := (pM_copies N μ 1 0).bind fun m3 => pM_tries_L8 N x1 (fun n26 => some n26) N 0 m3
theorem k_pM_tries_L8 {l : Launch} {en : En} {μe : Mem} {N : Nat} {c1 : Int} {k : Mem → Option (Mem)} {K : KT} (Ra : Ru false (some (none, none, nCells, μe, 0, 0, (VT μe))) l en cX12_tries yX12_tries.cls 3 (rmN 7 235) K) (hi1 : inR c1) (hk : ∀  (μ9 : Mem), k μ9 = some μe → VT μ9 → ∀ L9 : Lo, K ZN 26 L9 [] μ9) : ∀ (n : Nat) (x2 : Int) (μ : Mem) (L : Lo), pM_tries_L8 N c1 k n x2 μ = some μe → inR x2 → VT μ → L 0 = some (vA en 475) → L 1 = some (vI c1) → L 2 = some (vI x2) → K ZN 8 L [] μ := by
  intro n
  induction n with
  | zero => intro x2 μ L h; cases h
  | succ n ih =>
    intro x2 μ L h hx2 hV hL0 hL1 hL2
    replace h : pM_tries_L8b N c1 k (pM_tries_L8 N c1 k n) x2 μ = some μe := h
    unfold pM_tries_L8b at h
    refine r_iload_n Ra (i := 2) dX12_tries_8 rfl hL2 ?_
    refine r_iload_n Ra (i := 1) dX12_tries_9 rfl hL1 ?_
    refine r_icmp_ge Ra 26 dX12_tries_10 hx2 hi1 rfl (fun hc => ?_) (fun hc => ?_)
    · replace h := ineg hc h
      exact hk μ h  hV _ 
    · replace h := ipos hc h
      refine r_aload_n Ra (i := 0) dX12_tries_13 rfl hL0 ?_
      refine r_iconst Ra dX12_tries_14 ?_
      refine r_iconst Ra dX12_tries_15 ?_
      obtain ⟨⟨r16, m16⟩, hr16, h⟩ := bd h
      refine q_callVI Ra (c_pM_passes hV (Rk rfl) (Rk rfl) hr16) mw_X12_passes mi_X12_passes t475 rfl rfl rfl rfl rfl k_X12_474 rfl rfl dX12_tries_16 (fun ok16 => ?_)
      obtain ⟨hV16, ok16⟩ := ok16
      refine r_popI Ra dX12_tries_19 ?_
      obtain ⟨x2_20, ex2_20, h⟩ := bv h
      have ix2_20 : inR x2_20 := eqR ex2_20 (inR_32 _)
      refine q_iinc Ra dX12_tries_20 hL2 ex2_20 ?_
      refine r_goto Ra 8 dX12_tries_23 rfl ?_
      exact ih x2_20 m16 _ h ix2_20 hV16 hL0 hL1 rfl
set_option maxHeartbeats 4000000 in
theorem c_pM_tries {l : Launch} {en : En} {N : Nat} {μ : Mem} {x1 : Int} {μe : Mem} (hV : VT μ) (hx1 : inR x1) (h : pM_tries N μ x1 = some μe) : CtV l en yX12_tries cX12_tries 3 7 235 [vA en 475, vI x1] μ μe (VT μe) := by
  refine Tr.of false (fun h => by cases h) (by decide) (Nat.le_of_ble_eq_true rfl) (fun K Ra => ?_)
  unfold pM_tries at h
  refine r_aload_n Ra (i := 0) dX12_tries_0 rfl rfl ?_
  refine r_iconst Ra dX12_tries_1 ?_
  refine r_iconst Ra dX12_tries_2 ?_
  obtain ⟨m3, hr3, h⟩ := bd h
  refine q_callVV Ra (c_pM_copies hV (Rk rfl) (Rk rfl) hr3) mw_X12_copies mi_X12_copies t475 rfl rfl rfl rfl rfl k_X12_414 rfl rfl dX12_tries_3 (fun ok3 => ?_)
  refine r_iconst Ra dX12_tries_6 ?_
  refine q_istore_n Ra 2 dX12_tries_7 rfl rfl rfl ?_
  refine k_pM_tries_L8 Ra hx1 ?_ _ _ _ _ h (Rk rfl) ok3 rfl rfl rfl
  intro n26 h hn26 L9 
  cases h
  exact r_vret Ra hn26 dX12_tries_26
noncomputable def pM_later (N : Nat) (μ : Mem) (x1 : Int) (x2 : Int) (x3 : Int) : Option (Int × Mem) := (pM_isCell μ x1 x2).bind fun r3 => if r3 = 0 then some ((-1), μ) else (pM_isAhead μ x3 0 40).bind fun r14 => if r14 = 0 then some ((-1), μ) else (pM_tries N μ x3).bind fun m24 => if 0 ≤ w32 ((w32 (64 + (w32 (8 * x2)))) + x1) ∧ w32 ((w32 (64 + (w32 (8 * x2)))) + x1) < 1408 then some (m24 499 (w32 ((w32 (64 + (w32 (8 * x2)))) + x1)), m24) else none
set_option maxHeartbeats 4000000 in
theorem c_pM_later {l : Launch} {en : En} {N : Nat} {μ : Mem} {x1 : Int} {x2 : Int} {x3 : Int} {re : Int} {μe : Mem} (hV : VT μ) (hx1 : inR x1) (hx2 : inR x2) (hx3 : inR x3) (h : pM_later N μ x1 x2 x3 = some (re, μe)) : CtI l en yX12_later cX12_later 4 8 257 [vA en 475, vI x1, vI x2, vI x3] μ .int re μe (VT μe ∧ inR re) := by
  refine Tr.of false (fun h => by cases h) (by decide) (Nat.le_of_ble_eq_true rfl) (fun K Ra => ?_)
  unfold pM_later at h
  refine r_aload_n Ra (i := 0) dX12_later_0 rfl rfl ?_
  refine r_iload_n Ra (i := 1) dX12_later_1 rfl rfl ?_
  refine r_iload_n Ra (i := 2) dX12_later_2 rfl rfl ?_
  obtain ⟨r3, hr3, h⟩ := bd h
  refine q_callVI Ra (c_pM_isCell hV hx1 hx2 hr3) mw_X12_isCell mi_X12_isCell t475 rfl rfl rfl rfl rfl k_X12_437 rfl rfl dX12_later_3 (fun ok3 => ?_)
  refine r_if_eq Ra 20 dX12_later_6 (inR_01 ok3) rfl (fun hc => ?_) (fun hc => ?_)
  · replace h := ipos hc h
    refine r_iconst Ra dX12_later_20 ?_
    cases h
    exact r_iret Ra ⟨hV, (Rk rfl)⟩ dX12_later_21
  · replace h := ineg hc h
    refine r_aload_n Ra (i := 0) dX12_later_9 rfl rfl ?_
    refine r_iload_n Ra (i := 3) dX12_later_10 rfl rfl ?_
    refine r_iconst Ra dX12_later_11 ?_
    refine r_bipush Ra dX12_later_12 rfl ?_
    obtain ⟨r14, hr14, h⟩ := bd h
    refine q_callVI Ra (c_pM_isAhead hV hx3 (Rk rfl) (Rk rfl) hr14) mw_X12_isAhead mi_X12_isAhead t475 rfl rfl rfl rfl rfl k_X12_477 rfl rfl dX12_later_14 (fun ok14 => ?_)
    refine r_if_ne Ra 22 dX12_later_17 (inR_01 ok14) rfl (fun hc => ?_) (fun hc => ?_)
    · replace h := ineg hc h
      refine r_aload_n Ra (i := 0) dX12_later_22 rfl rfl ?_
      refine r_iload_n Ra (i := 3) dX12_later_23 rfl rfl ?_
      obtain ⟨m24, hr24, h⟩ := bd h
      refine q_callVV Ra (c_pM_tries hV hx3 hr24) mw_X12_tries mi_X12_tries t475 rfl rfl rfl rfl rfl k_X12_480 rfl rfl dX12_later_24 (fun ok24 => ?_)
      refine r_aload_n Ra (i := 0) dX12_later_27 rfl rfl ?_
      refine q_getA Ra (b := 499) f_X12_147 t475 rfl rfl rfl (ok24.ref t475 rfl (by decide)) (by decide) dX12_later_28 ?_
      refine r_bipush Ra dX12_later_31 rfl ?_
      refine r_bipush Ra dX12_later_33 rfl ?_
      refine r_iload_n Ra (i := 2) dX12_later_35 rfl rfl ?_
      refine r_imul Ra dX12_later_36 ?_
      refine r_iadd Ra dX12_later_37 ?_
      refine r_iload_n Ra (i := 1) dX12_later_38 rfl rfl ?_
      refine r_iadd Ra dX12_later_39 ?_
      obtain ⟨gu40, h⟩ := gd h
      refine q_iald Ra t499 l499 gu40 dX12_later_40 ?_
      cases h
      exact r_iret Ra ⟨ok24, (ok24.int t499 (kd20 _))⟩ dX12_later_41
    · replace h := ipos hc h
      refine r_iconst Ra dX12_later_20 ?_
      cases h
      exact r_iret Ra ⟨hV, (Rk rfl)⟩ dX12_later_21
noncomputable def pM_purse (N : Nat) (μ : Mem) (x1 : Int) (x2 : Int) : Option (Int × Mem) := (pM_isPerson μ x1).bind fun r2 => if r2 = 0 then some ((-1), μ) else (pM_isAhead μ x2 0 40).bind fun r13 => if r13 = 0 then some ((-1), μ) else (pM_tries N μ x2).bind fun m23 => if 0 ≤ w32 (6 + x1) ∧ w32 (6 + x1) < 132 then some (m23 503 (w32 (6 + x1)), m23) else none
set_option maxHeartbeats 4000000 in
theorem c_pM_purse {l : Launch} {en : En} {N : Nat} {μ : Mem} {x1 : Int} {x2 : Int} {re : Int} {μe : Mem} (hV : VT μ) (hx1 : inR x1) (hx2 : inR x2) (h : pM_purse N μ x1 x2 = some (re, μe)) : CtI l en yX12_purse cX12_purse 3 8 257 [vA en 475, vI x1, vI x2] μ .int re μe (VT μe ∧ inR re) := by
  refine Tr.of false (fun h => by cases h) (by decide) (Nat.le_of_ble_eq_true rfl) (fun K Ra => ?_)
  unfold pM_purse at h
  refine r_aload_n Ra (i := 0) dX12_purse_0 rfl rfl ?_
  refine r_iload_n Ra (i := 1) dX12_purse_1 rfl rfl ?_
  obtain ⟨r2, hr2, h⟩ := bd h
  refine q_callVI Ra (c_pM_isPerson hV hx1 hr2) mw_X12_isPerson mi_X12_isPerson t475 rfl rfl rfl rfl rfl k_X12_469 rfl rfl dX12_purse_2 (fun ok2 => ?_)
  refine r_if_eq Ra 19 dX12_purse_5 (inR_01 ok2) rfl (fun hc => ?_) (fun hc => ?_)
  · replace h := ipos hc h
    refine r_iconst Ra dX12_purse_19 ?_
    cases h
    exact r_iret Ra ⟨hV, (Rk rfl)⟩ dX12_purse_20
  · replace h := ineg hc h
    refine r_aload_n Ra (i := 0) dX12_purse_8 rfl rfl ?_
    refine r_iload_n Ra (i := 2) dX12_purse_9 rfl rfl ?_
    refine r_iconst Ra dX12_purse_10 ?_
    refine r_bipush Ra dX12_purse_11 rfl ?_
    obtain ⟨r13, hr13, h⟩ := bd h
    refine q_callVI Ra (c_pM_isAhead hV hx2 (Rk rfl) (Rk rfl) hr13) mw_X12_isAhead mi_X12_isAhead t475 rfl rfl rfl rfl rfl k_X12_477 rfl rfl dX12_purse_13 (fun ok13 => ?_)
    refine r_if_ne Ra 21 dX12_purse_16 (inR_01 ok13) rfl (fun hc => ?_) (fun hc => ?_)
    · replace h := ineg hc h
      refine r_aload_n Ra (i := 0) dX12_purse_21 rfl rfl ?_
      refine r_iload_n Ra (i := 2) dX12_purse_22 rfl rfl ?_
      obtain ⟨m23, hr23, h⟩ := bd h
      refine q_callVV Ra (c_pM_tries hV hx2 hr23) mw_X12_tries mi_X12_tries t475 rfl rfl rfl rfl rfl k_X12_480 rfl rfl dX12_purse_23 (fun ok23 => ?_)
      refine r_aload_n Ra (i := 0) dX12_purse_26 rfl rfl ?_
      refine q_getA Ra (b := 503) f_X12_159 t475 rfl rfl rfl (ok23.ref t475 rfl (by decide)) (by decide) dX12_purse_27 ?_
      refine r_bipush Ra dX12_purse_30 rfl ?_
      refine r_iload_n Ra (i := 1) dX12_purse_32 rfl rfl ?_
      refine r_iadd Ra dX12_purse_33 ?_
      obtain ⟨gu34, h⟩ := gd h
      refine q_iald Ra t503 l503 gu34 dX12_purse_34 ?_
      cases h
      exact r_iret Ra ⟨ok23, (ok23.int t503 (kd20 _))⟩ dX12_purse_35
    · replace h := ipos hc h
      refine r_iconst Ra dX12_purse_19 ?_
      cases h
      exact r_iret Ra ⟨hV, (Rk rfl)⟩ dX12_purse_20
noncomputable def pM_dry_L18b (N : Nat) (c1 : Int) (k : Mem → Option (Int × Mem)) (self : Int → Mem → Option (Int × Mem)) (x2 : Int) (μ : Mem) : Option (Int × Mem) := (pM_isAhead μ x2 0 39).bind fun r23 => if r23 = 0 then k μ else (pM_passes N μ 1 1).bind fun (r32, m32) => if a32 (shr32 (m32 475 66) c1) 1 = 1 then some (x2, m32) else (some (w32 (x2 + 1) : Int)).bind fun x2_50 => self x2_50 m32
noncomputable def pM_dry_L18 (N : Nat) (c1 : Int) (k : Mem → Option (Int × Mem)) (n : Nat) : Int → Mem → Option (Int × Mem) := lpF (fun _ _ => none) (pM_dry_L18b N c1 k) n
noncomputable def pM_dry (N : Nat) (μ : Mem) (x1 : Int) : Option (Int × Mem) := (pM_isPerson μ x1).bind fun r2 => if r2 = 0 then some ((-1), μ) else (pM_copies N μ 1 0).bind fun m13 => pM_dry_L18 N x1 (fun n56 => some ((-1), n56)) N 0 m13
theorem k_pM_dry_L18 {l : Launch} {en : En} {re : Int} {μe : Mem} {N : Nat} {c1 : Int} {k : Mem → Option (Int × Mem)} {K : KT} (Ra : Ru false (some (some .int, some (vI re), nCells, μe, 0, 0, (VT μe ∧ inR re))) l en cX12_dry yX12_dry.cls 3 (rmN 7 235) K) (hi1 : inR c1) (hk : ∀  (μ9 : Mem), k μ9 = some (re, μe) → VT μ9 → ∀ L9 : Lo, K ZN 56 L9 [] μ9) : ∀ (n : Nat) (x2 : Int) (μ : Mem) (L : Lo), pM_dry_L18 N c1 k n x2 μ = some (re, μe) → inR x2 → VT μ → L 0 = some (vA en 475) → L 1 = some (vI c1) → L 2 = some (vI x2) → K ZN 18 L [] μ := by
  intro n
  induction n with
  | zero => intro x2 μ L h; cases h
  | succ n ih =>
    intro x2 μ L h hx2 hV hL0 hL1 hL2
    replace h : pM_dry_L18b N c1 k (pM_dry_L18 N c1 k n) x2 μ = some (re, μe) := h
    unfold pM_dry_L18b at h
    refine r_aload_n Ra (i := 0) dX12_dry_18 rfl hL0 ?_
    refine r_iload_n Ra (i := 2) dX12_dry_19 rfl hL2 ?_
    refine r_iconst Ra dX12_dry_20 ?_
    refine r_bipush Ra dX12_dry_21 rfl ?_
    obtain ⟨r23, hr23, h⟩ := bd h
    refine q_callVI Ra (c_pM_isAhead hV hx2 (Rk rfl) (Rk rfl) hr23) mw_X12_isAhead mi_X12_isAhead t475 rfl rfl rfl rfl rfl k_X12_477 rfl rfl dX12_dry_23 (fun ok23 => ?_)
    refine r_if_eq Ra 56 dX12_dry_26 (inR_01 ok23) rfl (fun hc => ?_) (fun hc => ?_)
    · replace h := ipos hc h
      exact hk μ h  hV _ 
    · replace h := ineg hc h
      refine r_aload_n Ra (i := 0) dX12_dry_29 rfl hL0 ?_
      refine r_iconst Ra dX12_dry_30 ?_
      refine r_iconst Ra dX12_dry_31 ?_
      obtain ⟨⟨r32, m32⟩, hr32, h⟩ := bd h
      refine q_callVI Ra (c_pM_passes hV (Rk rfl) (Rk rfl) hr32) mw_X12_passes mi_X12_passes t475 rfl rfl rfl rfl rfl k_X12_474 rfl rfl dX12_dry_32 (fun ok32 => ?_)
      obtain ⟨hV32, ok32⟩ := ok32
      refine r_popI Ra dX12_dry_35 ?_
      refine r_aload_n Ra (i := 0) dX12_dry_36 rfl hL0 ?_
      refine q_getI Ra (x := m32 475 66) f_X12_213 t475 rfl rfl rfl rfl dX12_dry_37 ?_
      refine r_iload_n Ra (i := 1) dX12_dry_40 rfl hL1 ?_
      refine r_ishr Ra dX12_dry_41 ?_
      refine r_iconst Ra dX12_dry_42 ?_
      refine r_iand Ra dX12_dry_43 ?_
      refine r_iconst Ra dX12_dry_44 ?_
      refine r_icmp_ne Ra 50 dX12_dry_45 (inR_32 _) (Rk rfl) rfl (fun hc => ?_) (fun hc => ?_)
      · replace h := ineg hc h
        obtain ⟨x2_50, ex2_50, h⟩ := bv h
        have ix2_50 : inR x2_50 := eqR ex2_50 (inR_32 _)
        refine q_iinc Ra dX12_dry_50 hL2 ex2_50 ?_
        refine r_goto Ra 18 dX12_dry_53 rfl ?_
        exact ih x2_50 m32 _ h ix2_50 hV32 hL0 hL1 rfl
      · replace h := ipos hc h
        refine r_iload_n Ra (i := 2) dX12_dry_48 rfl hL2 ?_
        cases h
        exact r_iret Ra ⟨hV32, hx2⟩ dX12_dry_49
set_option maxHeartbeats 4000000 in
theorem c_pM_dry {l : Launch} {en : En} {N : Nat} {μ : Mem} {x1 : Int} {re : Int} {μe : Mem} (hV : VT μ) (hx1 : inR x1) (h : pM_dry N μ x1 = some (re, μe)) : CtI l en yX12_dry cX12_dry 3 7 235 [vA en 475, vI x1] μ .int re μe (VT μe ∧ inR re) := by
  refine Tr.of false (fun h => by cases h) (by decide) (Nat.le_of_ble_eq_true rfl) (fun K Ra => ?_)
  unfold pM_dry at h
  refine r_aload_n Ra (i := 0) dX12_dry_0 rfl rfl ?_
  refine r_iload_n Ra (i := 1) dX12_dry_1 rfl rfl ?_
  obtain ⟨r2, hr2, h⟩ := bd h
  refine q_callVI Ra (c_pM_isPerson hV hx1 hr2) mw_X12_isPerson mi_X12_isPerson t475 rfl rfl rfl rfl rfl k_X12_469 rfl rfl dX12_dry_2 (fun ok2 => ?_)
  refine r_if_ne Ra 10 dX12_dry_5 (inR_01 ok2) rfl (fun hc => ?_) (fun hc => ?_)
  · replace h := ineg hc h
    refine r_aload_n Ra (i := 0) dX12_dry_10 rfl rfl ?_
    refine r_iconst Ra dX12_dry_11 ?_
    refine r_iconst Ra dX12_dry_12 ?_
    obtain ⟨m13, hr13, h⟩ := bd h
    refine q_callVV Ra (c_pM_copies hV (Rk rfl) (Rk rfl) hr13) mw_X12_copies mi_X12_copies t475 rfl rfl rfl rfl rfl k_X12_414 rfl rfl dX12_dry_13 (fun ok13 => ?_)
    refine r_iconst Ra dX12_dry_16 ?_
    refine q_istore_n Ra 2 dX12_dry_17 rfl rfl rfl ?_
    refine k_pM_dry_L18 Ra hx1 ?_ _ _ _ _ h (Rk rfl) ok13 rfl rfl rfl
    intro n56 h hn56 L9 
    refine r_iconst Ra dX12_dry_56 ?_
    cases h
    exact r_iret Ra ⟨hn56, (Rk rfl)⟩ dX12_dry_57
  · replace h := ipos hc h
    refine r_iconst Ra dX12_dry_8 ?_
    cases h
    exact r_iret Ra ⟨hV, (Rk rfl)⟩ dX12_dry_9
noncomputable def pM_see_L34b (N : Nat) (μ : Mem) (c1 : Int) (k : Int → Option (Int × Mem)) (self : Int → Int → Option (Int × Mem)) (x2 : Int) (x3 : Int) : Option (Int × Mem) := if x3 < c1 then if x2 = 0 then k x2 else if 0 ≤ x3 ∧ x3 < 1800 then if μ 476 x3 < 9 then if 0 ≤ w32 (x3 + 1) ∧ w32 (x3 + 1) < 1800 then if 0 ≤ w32 (x3 + 2) ∧ w32 (x3 + 2) < 1800 then (pM_isCell μ (μ 476 (w32 (x3 + 1))) (μ 476 (w32 (x3 + 2)))).bind fun r71 => if r71 = 0 then (some (w32 (x3 + 4) : Int)).bind fun x3_96 => self 0 x3_96 else if 0 ≤ w32 (x3 + 3) ∧ w32 (x3 + 3) < 1800 then if 99 < μ 476 (w32 (x3 + 3)) then (some (w32 (x3 + 4) : Int)).bind fun x3_96 => self 0 x3_96 else (some (w32 (x3 + 4) : Int)).bind fun x3_96 => self 1 x3_96 else none else none else none else (some (w32 (x3 + 4) : Int)).bind fun x3_96 => self 0 x3_96 else none else k x2
noncomputable def pM_see_L34 (N : Nat) (μ : Mem) (c1 : Int) (k : Int → Option (Int × Mem)) (n : Nat) : Int → Int → Option (Int × Mem) := lpF (fun _ _ => none) (pM_see_L34b N μ c1 k) n
noncomputable def pM_see_L121b (N : Nat)  (k : Mem → Option (Int × Mem)) (self : Int → Mem → Option (Int × Mem)) (x3 : Int) (μ : Mem) : Option (Int × Mem) := if x3 < μ 475 68 then if 0 ≤ w32 (4 * x3) ∧ w32 (4 * x3) < 1800 then if 0 ≤ x3 ∧ x3 < 16 then (some (mset μ 516 x3 (μ 476 (w32 (4 * x3))))).bind fun m142 => if 0 ≤ w32 ((w32 (4 * x3)) + 2) ∧ w32 ((w32 (4 * x3)) + 2) < 1800 then if 0 ≤ w32 ((w32 (4 * x3)) + 1) ∧ w32 ((w32 (4 * x3)) + 1) < 1800 then if 0 ≤ x3 ∧ x3 < 16 then (some (mset m142 517 x3 (w32 ((w32 (8 * (m142 476 (w32 ((w32 (4 * x3)) + 2))))) + (m142 476 (w32 ((w32 (4 * x3)) + 1))))))).bind fun m172 => if 0 ≤ w32 ((w32 (4 * x3)) + 3) ∧ w32 ((w32 (4 * x3)) + 3) < 1800 then if 0 ≤ x3 ∧ x3 < 16 then (some (mset m172 518 x3 (m172 476 (w32 ((w32 (4 * x3)) + 3))))).bind fun m188 => (some (w32 (x3 + 1) : Int)).bind fun x3_189 => self x3_189 m188 else none else none else none else none else none else none else none else k μ
noncomputable def pM_see_L121 (N : Nat)  (k : Mem → Option (Int × Mem)) (n : Nat) : Int → Mem → Option (Int × Mem) := lpF (fun _ _ => none) (pM_see_L121b N k) n
noncomputable def pM_see (N : Nat) (μ : Mem)  : Option (Int × Mem) := (some (μ 475 1 : Int)).bind fun x1_4 => (some (mset μ 475 1 0)).bind fun m7 => (some (if 0 < x1_4 then if r32 x1_4 4 = 0 then if 64 < x1_4 then 0 else 1 else 0 else 0 : Int)).bind fun ys0_31 => pM_see_L34 N m7 x1_4 (fun z2_102 => if z2_102 = 0 then (pM_refuses m7 5).bind fun (r108, m108) => some (r108, m108) else (some (mset m7 475 68 (d32 x1_4 4))).bind fun m116 => pM_see_L121 N (fun n195 => some (n195 475 68, n195)) N 0 m116) N ys0_31 0
theorem k_pM_see_L34 {l : Launch} {en : En} {re : Int} {μe : Mem} {N : Nat} {μ : Mem} (hV : VT μ) {c1 : Int} {k : Int → Option (Int × Mem)} {K : KT} (Ra : Ru false (some (some .int, some (vI re), nCells, μe, 0, 0, (VT μe ∧ inR re))) l en cX12_see yX12_see.cls 4 (rmN 2 104) K) (hi1 : inR c1) (hk : ∀ (z2 : Int), k z2 = some (re, μe) → inR z2 → ∀ L9 : Lo, L9 0 = some (vA en 475) → L9 1 = some (vI c1) → L9 2 = some (vI z2) → K ZN 102 L9 [] μ) : ∀ (n : Nat) (x2 : Int) (x3 : Int) (L : Lo), pM_see_L34 N μ c1 k n x2 x3 = some (re, μe) → inR x2 → inR x3 → L 0 = some (vA en 475) → L 1 = some (vI c1) → L 2 = some (vI x2) → L 3 = some (vI x3) → K ZN 34 L [] μ := by
  intro n
  induction n with
  | zero => intro x2 x3 L h; cases h
  | succ n ih =>
    intro x2 x3 L h hx2 hx3 hL0 hL1 hL2 hL3
    replace h : pM_see_L34b N μ c1 k (pM_see_L34 N μ c1 k n) x2 x3 = some (re, μe) := h
    unfold pM_see_L34b at h
    refine r_iload_n Ra (i := 3) dX12_see_34 rfl hL3 ?_
    refine r_iload_n Ra (i := 1) dX12_see_35 rfl hL1 ?_
    refine r_icmp_ge Ra 102 dX12_see_36 hx3 hi1 rfl (fun hc => ?_) (fun hc => ?_)
    · replace h := ineg hc h
      exact hk x2 h hx2 _ hL0 hL1 hL2
    · replace h := ipos hc h
      refine r_iload_n Ra (i := 2) dX12_see_39 rfl hL2 ?_
      refine r_if_eq Ra 102 dX12_see_40 hx2 rfl (fun hc => ?_) (fun hc => ?_)
      · replace h := ipos hc h
        exact hk x2 h hx2 _ hL0 hL1 hL2
      · replace h := ineg hc h
        refine r_aload_n Ra (i := 0) dX12_see_43 rfl hL0 ?_
        refine q_getA Ra (b := 476) f_X12_7 t475 rfl rfl rfl (hV.ref t475 rfl (by decide)) (by decide) dX12_see_44 ?_
        refine r_iload_n Ra (i := 3) dX12_see_47 rfl hL3 ?_
        obtain ⟨gu48, h⟩ := gd h
        refine q_iald Ra t476 l476 gu48 dX12_see_48 ?_
        refine r_bipush Ra dX12_see_49 rfl ?_
        refine r_icmp_ge Ra 94 dX12_see_51 (hV.int t476 (kd20 _)) (Rk rfl) rfl (fun hc => ?_) (fun hc => ?_)
        · replace h := ineg hc h
          refine r_iconst Ra dX12_see_94 ?_
          refine q_istore_n Ra 2 dX12_see_95 rfl rfl rfl ?_
          obtain ⟨x3_96, ex3_96, h⟩ := bv h
          have ix3_96 : inR x3_96 := eqR ex3_96 (inR_32 _)
          refine q_iinc Ra dX12_see_96 hL3 ex3_96 ?_
          refine r_goto Ra 34 dX12_see_99 rfl ?_
          exact ih 0 x3_96 _ h (Rk rfl) ix3_96 hL0 hL1 rfl rfl
        · replace h := ipos hc h
          refine r_aload_n Ra (i := 0) dX12_see_54 rfl hL0 ?_
          refine r_aload_n Ra (i := 0) dX12_see_55 rfl hL0 ?_
          refine q_getA Ra (b := 476) f_X12_7 t475 rfl rfl rfl (hV.ref t475 rfl (by decide)) (by decide) dX12_see_56 ?_
          refine r_iload_n Ra (i := 3) dX12_see_59 rfl hL3 ?_
          refine r_iconst Ra dX12_see_60 ?_
          refine r_iadd Ra dX12_see_61 ?_
          obtain ⟨gu62, h⟩ := gd h
          refine q_iald Ra t476 l476 gu62 dX12_see_62 ?_
          refine r_aload_n Ra (i := 0) dX12_see_63 rfl hL0 ?_
          refine q_getA Ra (b := 476) f_X12_7 t475 rfl rfl rfl (hV.ref t475 rfl (by decide)) (by decide) dX12_see_64 ?_
          refine r_iload_n Ra (i := 3) dX12_see_67 rfl hL3 ?_
          refine r_iconst Ra dX12_see_68 ?_
          refine r_iadd Ra dX12_see_69 ?_
          obtain ⟨gu70, h⟩ := gd h
          refine q_iald Ra t476 l476 gu70 dX12_see_70 ?_
          obtain ⟨r71, hr71, h⟩ := bd h
          refine q_callVI Ra (c_pM_isCell hV (hV.int t476 (kd20 _)) (hV.int t476 (kd20 _)) hr71) mw_X12_isCell mi_X12_isCell t475 rfl rfl rfl rfl rfl k_X12_437 rfl rfl dX12_see_71 (fun ok71 => ?_)
          refine r_if_eq Ra 94 dX12_see_74 (inR_01 ok71) rfl (fun hc => ?_) (fun hc => ?_)
          · replace h := ipos hc h
            refine r_iconst Ra dX12_see_94 ?_
            refine q_istore_n Ra 2 dX12_see_95 rfl rfl rfl ?_
            obtain ⟨x3_96, ex3_96, h⟩ := bv h
            have ix3_96 : inR x3_96 := eqR ex3_96 (inR_32 _)
            refine q_iinc Ra dX12_see_96 hL3 ex3_96 ?_
            refine r_goto Ra 34 dX12_see_99 rfl ?_
            exact ih 0 x3_96 _ h (Rk rfl) ix3_96 hL0 hL1 rfl rfl
          · replace h := ineg hc h
            refine r_aload_n Ra (i := 0) dX12_see_77 rfl hL0 ?_
            refine q_getA Ra (b := 476) f_X12_7 t475 rfl rfl rfl (hV.ref t475 rfl (by decide)) (by decide) dX12_see_78 ?_
            refine r_iload_n Ra (i := 3) dX12_see_81 rfl hL3 ?_
            refine r_iconst Ra dX12_see_82 ?_
            refine r_iadd Ra dX12_see_83 ?_
            obtain ⟨gu84, h⟩ := gd h
            refine q_iald Ra t476 l476 gu84 dX12_see_84 ?_
            refine r_bipush Ra dX12_see_85 rfl ?_
            refine r_icmp_gt Ra 94 dX12_see_87 (hV.int t476 (kd20 _)) (Rk rfl) rfl (fun hc => ?_) (fun hc => ?_)
            · replace h := ipos hc h
              refine r_iconst Ra dX12_see_94 ?_
              refine q_istore_n Ra 2 dX12_see_95 rfl rfl rfl ?_
              obtain ⟨x3_96, ex3_96, h⟩ := bv h
              have ix3_96 : inR x3_96 := eqR ex3_96 (inR_32 _)
              refine q_iinc Ra dX12_see_96 hL3 ex3_96 ?_
              refine r_goto Ra 34 dX12_see_99 rfl ?_
              exact ih 0 x3_96 _ h (Rk rfl) ix3_96 hL0 hL1 rfl rfl
            · replace h := ineg hc h
              refine r_iconst Ra dX12_see_90 ?_
              refine r_goto Ra 95 dX12_see_91 rfl ?_
              refine q_istore_n Ra 2 dX12_see_95 rfl rfl rfl ?_
              obtain ⟨x3_96, ex3_96, h⟩ := bv h
              have ix3_96 : inR x3_96 := eqR ex3_96 (inR_32 _)
              refine q_iinc Ra dX12_see_96 hL3 ex3_96 ?_
              refine r_goto Ra 34 dX12_see_99 rfl ?_
              exact ih 1 x3_96 _ h (Rk rfl) ix3_96 hL0 hL1 rfl rfl
theorem k_pM_see_L121 {l : Launch} {en : En} {re : Int} {μe : Mem} {N : Nat}  {k : Mem → Option (Int × Mem)} {K : KT} (Ra : Ru false (some (some .int, some (vI re), nCells, μe, 0, 0, (VT μe ∧ inR re))) l en cX12_see yX12_see.cls 4 (rmN 2 104) K)  (hk : ∀  (μ9 : Mem), k μ9 = some (re, μe) → VT μ9 → ∀ L9 : Lo, L9 0 = some (vA en 475) → K ZN 195 L9 [] μ9) : ∀ (n : Nat) (x3 : Int) (μ : Mem) (L : Lo), pM_see_L121 N k n x3 μ = some (re, μe) → inR x3 → VT μ → L 0 = some (vA en 475) → L 3 = some (vI x3) → K ZN 121 L [] μ := by
  intro n
  induction n with
  | zero => intro x3 μ L h; cases h
  | succ n ih =>
    intro x3 μ L h hx3 hV hL0 hL3
    replace h : pM_see_L121b N k (pM_see_L121 N k n) x3 μ = some (re, μe) := h
    unfold pM_see_L121b at h
    refine r_iload_n Ra (i := 3) dX12_see_121 rfl hL3 ?_
    refine r_aload_n Ra (i := 0) dX12_see_122 rfl hL0 ?_
    refine q_getI Ra (x := μ 475 68) f_X12_219 t475 rfl rfl rfl rfl dX12_see_123 ?_
    refine r_icmp_ge Ra 195 dX12_see_126 hx3 (hV.int t475 rfl) rfl (fun hc => ?_) (fun hc => ?_)
    · replace h := ineg hc h
      exact hk μ h  hV _ hL0
    · replace h := ipos hc h
      refine r_aload_n Ra (i := 0) dX12_see_129 rfl hL0 ?_
      refine q_getA Ra (b := 516) f_X12_222 t475 rfl rfl rfl (hV.ref t475 rfl (by decide)) (by decide) dX12_see_130 ?_
      refine r_iload_n Ra (i := 3) dX12_see_133 rfl hL3 ?_
      refine r_aload_n Ra (i := 0) dX12_see_134 rfl hL0 ?_
      refine q_getA Ra (b := 476) f_X12_7 t475 rfl rfl rfl (hV.ref t475 rfl (by decide)) (by decide) dX12_see_135 ?_
      refine r_iconst Ra dX12_see_138 ?_
      refine r_iload_n Ra (i := 3) dX12_see_139 rfl hL3 ?_
      refine r_imul Ra dX12_see_140 ?_
      obtain ⟨gu141, h⟩ := gd h
      refine q_iald Ra t476 l476 gu141 dX12_see_141 ?_
      obtain ⟨gu142, h⟩ := gd h
      obtain ⟨m142, em142, h⟩ := bv h
      have hm142 : VT m142 := eqV em142 (hV.setI t516 (kd20 _) (hV.int t476 (kd20 _)))
      refine q_iast Ra t516 l516 gu142 em142 dX12_see_142 ?_
      refine r_aload_n Ra (i := 0) dX12_see_143 rfl hL0 ?_
      refine q_getA Ra (b := 517) f_X12_225 t475 rfl rfl rfl (hm142.ref t475 rfl (by decide)) (by decide) dX12_see_144 ?_
      refine r_iload_n Ra (i := 3) dX12_see_147 rfl hL3 ?_
      refine r_bipush Ra dX12_see_148 rfl ?_
      refine r_aload_n Ra (i := 0) dX12_see_150 rfl hL0 ?_
      refine q_getA Ra (b := 476) f_X12_7 t475 rfl rfl rfl (hm142.ref t475 rfl (by decide)) (by decide) dX12_see_151 ?_
      refine r_iconst Ra dX12_see_154 ?_
      refine r_iload_n Ra (i := 3) dX12_see_155 rfl hL3 ?_
      refine r_imul Ra dX12_see_156 ?_
      refine r_iconst Ra dX12_see_157 ?_
      refine r_iadd Ra dX12_see_158 ?_
      obtain ⟨gu159, h⟩ := gd h
      refine q_iald Ra t476 l476 gu159 dX12_see_159 ?_
      refine r_imul Ra dX12_see_160 ?_
      refine r_aload_n Ra (i := 0) dX12_see_161 rfl hL0 ?_
      refine q_getA Ra (b := 476) f_X12_7 t475 rfl rfl rfl (hm142.ref t475 rfl (by decide)) (by decide) dX12_see_162 ?_
      refine r_iconst Ra dX12_see_165 ?_
      refine r_iload_n Ra (i := 3) dX12_see_166 rfl hL3 ?_
      refine r_imul Ra dX12_see_167 ?_
      refine r_iconst Ra dX12_see_168 ?_
      refine r_iadd Ra dX12_see_169 ?_
      obtain ⟨gu170, h⟩ := gd h
      refine q_iald Ra t476 l476 gu170 dX12_see_170 ?_
      refine r_iadd Ra dX12_see_171 ?_
      obtain ⟨gu172, h⟩ := gd h
      obtain ⟨m172, em172, h⟩ := bv h
      have hm172 : VT m172 := eqV em172 (hm142.setI t517 (kd20 _) (inR_32 _))
      refine q_iast Ra t517 l517 gu172 em172 dX12_see_172 ?_
      refine r_aload_n Ra (i := 0) dX12_see_173 rfl hL0 ?_
      refine q_getA Ra (b := 518) f_X12_228 t475 rfl rfl rfl (hm172.ref t475 rfl (by decide)) (by decide) dX12_see_174 ?_
      refine r_iload_n Ra (i := 3) dX12_see_177 rfl hL3 ?_
      refine r_aload_n Ra (i := 0) dX12_see_178 rfl hL0 ?_
      refine q_getA Ra (b := 476) f_X12_7 t475 rfl rfl rfl (hm172.ref t475 rfl (by decide)) (by decide) dX12_see_179 ?_
      refine r_iconst Ra dX12_see_182 ?_
      refine r_iload_n Ra (i := 3) dX12_see_183 rfl hL3 ?_
      refine r_imul Ra dX12_see_184 ?_
      refine r_iconst Ra dX12_see_185 ?_
      refine r_iadd Ra dX12_see_186 ?_
      obtain ⟨gu187, h⟩ := gd h
      refine q_iald Ra t476 l476 gu187 dX12_see_187 ?_
      obtain ⟨gu188, h⟩ := gd h
      obtain ⟨m188, em188, h⟩ := bv h
      have hm188 : VT m188 := eqV em188 (hm172.setI t518 (kd20 _) (hm172.int t476 (kd20 _)))
      refine q_iast Ra t518 l518 gu188 em188 dX12_see_188 ?_
      obtain ⟨x3_189, ex3_189, h⟩ := bv h
      have ix3_189 : inR x3_189 := eqR ex3_189 (inR_32 _)
      refine q_iinc Ra dX12_see_189 hL3 ex3_189 ?_
      refine r_goto Ra 121 dX12_see_192 rfl ?_
      exact ih x3_189 m188 _ h ix3_189 hm188 hL0 rfl
set_option maxHeartbeats 4000000 in
theorem c_pM_see {l : Launch} {en : En} {N : Nat} {μ : Mem}  {re : Int} {μe : Mem} (hV : VT μ)  (h : pM_see N μ = some (re, μe)) : CtI l en yX12_see cX12_see 4 2 104 [vA en 475] μ .int re μe (VT μe ∧ inR re) := by
  refine Tr.of false (fun h => by cases h) (by decide) (Nat.le_of_ble_eq_true rfl) (fun K Ra => ?_)
  unfold pM_see at h
  refine r_aload_n Ra (i := 0) dX12_see_0 rfl rfl ?_
  refine q_getI Ra (x := μ 475 1) f_X12_13 t475 rfl rfl rfl rfl dX12_see_1 ?_
  obtain ⟨x1_4, ex1_4, h⟩ := bv h
  have ix1_4 : inR x1_4 := eqR ex1_4 (hV.int t475 rfl)
  refine q_istore_n Ra 1 dX12_see_4 rfl rfl ex1_4 ?_
  refine r_aload_n Ra (i := 0) dX12_see_5 rfl rfl ?_
  refine r_iconst Ra dX12_see_6 ?_
  obtain ⟨m7, em7, h⟩ := bv h
  have hm7 : VT m7 := eqV em7 (hV.setI t475 rfl (Rk rfl))
  refine q_putI Ra f_X12_13 p_X12_1 t475 rfl rfl rfl em7 dX12_see_7 ?_
  refine r_iload_n Ra (i := 1) dX12_see_10 rfl rfl ?_
  obtain ⟨ys0_31, eys0_31, h⟩ := bv h
  have hJ : inR ys0_31 → (ys0_31 = 0 ∨ ys0_31 = 1) → ∀ L9 : Lo, L9 0 = some (vA en 475) → L9 1 = some (vI x1_4) → K ZN 31 L9 [vI ys0_31] m7 := by
    intro iys0_31 bys0_31 L9 f31_0 f31_1
    refine q_istore_n Ra 2 dX12_see_31 rfl rfl rfl ?_
    refine r_iconst Ra dX12_see_32 ?_
    refine q_istore_n Ra 3 dX12_see_33 rfl rfl rfl ?_
    refine k_pM_see_L34 hm7 Ra ix1_4 ?_ _ _ _ _ h iys0_31 (Rk rfl) f31_0 f31_1 rfl rfl
    intro z2_102 h iz2_102 L9 f102_0 f102_1 f102_2
    refine r_iload_n Ra (i := 2) dX12_see_102 rfl f102_2 ?_
    refine r_if_ne Ra 112 dX12_see_103 iz2_102 rfl (fun hc => ?_) (fun hc => ?_)
    · replace h := ineg hc h
      refine r_aload_n Ra (i := 0) dX12_see_112 rfl f102_0 ?_
      refine r_iload_n Ra (i := 1) dX12_see_113 rfl f102_1 ?_
      refine r_iconst Ra dX12_see_114 ?_
      refine r_idiv Ra dX12_see_115 (Rk rfl) (by decide) ?_
      obtain ⟨m116, em116, h⟩ := bv h
      have hm116 : VT m116 := eqV em116 (hm7.setI t475 rfl (inR_32 _))
      refine q_putI Ra f_X12_219 p_X12_68 t475 rfl rfl rfl em116 dX12_see_116 ?_
      refine r_iconst Ra dX12_see_119 ?_
      refine q_istore_n Ra 3 dX12_see_120 rfl rfl rfl ?_
      refine k_pM_see_L121 Ra ?_ _ _ _ _ h (Rk rfl) hm116 f102_0 rfl
      intro n195 h hn195 L9 f195_0
      refine r_aload_n Ra (i := 0) dX12_see_195 rfl f195_0 ?_
      refine q_getI Ra (x := n195 475 68) f_X12_219 t475 rfl rfl rfl rfl dX12_see_196 ?_
      cases h
      exact r_iret Ra ⟨hn195, (hn195.int t475 rfl)⟩ dX12_see_199
    · replace h := ipos hc h
      refine r_aload_n Ra (i := 0) dX12_see_106 rfl f102_0 ?_
      refine r_iconst Ra dX12_see_107 ?_
      obtain ⟨⟨r108, m108⟩, hr108, h⟩ := bd h
      refine q_callVI Ra (c_pM_refuses hm7 (Rk rfl) hr108) mw_X12_refuses mi_X12_refuses t475 rfl rfl rfl rfl rfl k_X12_247 rfl rfl dX12_see_108 (fun ok108 => ?_)
      obtain ⟨hV108, ok108⟩ := ok108
      cases h
      exact r_iret Ra ⟨hV108, ok108⟩ dX12_see_111
  refine r_if_le Ra 30 dX12_see_11 ix1_4 rfl (fun hc => ?_) (fun hc => ?_)
  · replace eys0_31 := eys0_31.trans (if_neg hc)
    refine r_iconst Ra dX12_see_30 ?_
    subst eys0_31
    exact hJ (Rk rfl) (Or.inl rfl) _ rfl rfl
  · replace eys0_31 := eys0_31.trans (if_pos hc)
    refine r_iload_n Ra (i := 1) dX12_see_14 rfl rfl ?_
    refine r_iconst Ra dX12_see_15 ?_
    refine r_irem Ra dX12_see_16 (Rk rfl) (by decide) ?_
    refine r_if_ne Ra 30 dX12_see_17 (inR_32 _) rfl (fun hc => ?_) (fun hc => ?_)
    · replace eys0_31 := eys0_31.trans (if_neg hc)
      refine r_iconst Ra dX12_see_30 ?_
      subst eys0_31
      exact hJ (Rk rfl) (Or.inl rfl) _ rfl rfl
    · replace eys0_31 := eys0_31.trans (if_pos hc)
      refine r_iload_n Ra (i := 1) dX12_see_20 rfl rfl ?_
      refine r_bipush Ra dX12_see_21 rfl ?_
      refine r_icmp_gt Ra 30 dX12_see_23 ix1_4 (Rk rfl) rfl (fun hc => ?_) (fun hc => ?_)
      · replace eys0_31 := eys0_31.trans (if_pos hc)
        refine r_iconst Ra dX12_see_30 ?_
        subst eys0_31
        exact hJ (Rk rfl) (Or.inl rfl) _ rfl rfl
      · replace eys0_31 := eys0_31.trans (if_neg hc)
        refine r_iconst Ra dX12_see_26 ?_
        refine r_goto Ra 31 dX12_see_27 rfl ?_
        subst eys0_31
        exact hJ (Rk rfl) (Or.inr rfl) _ rfl rfl
noncomputable def pM_leaves_L25b (N : Nat) (μ : Mem) (c1 : Int) (c2 : Int) (k : Int → Option (Int × Mem)) (self : Int → Int → Option (Int × Mem)) (x3 : Int) (x4 : Int) : Option (Int × Mem) := if x4 < μ 475 68 then if x3 = 0 then (some (w32 (x4 + 1) : Int)).bind fun x4_79 => self 0 x4_79 else if 0 ≤ x4 ∧ x4 < 16 then if 0 ≤ x4 ∧ x4 < 16 then if 0 ≤ w32 ((w32 (64 * (w32 ((μ 516 x4) + 1)))) + (μ 517 x4)) ∧ w32 ((w32 (64 * (w32 ((μ 516 x4) + 1)))) + (μ 517 x4)) < 640 then if 0 ≤ x4 ∧ x4 < 16 then if μ 511 (w32 ((w32 (64 * (w32 ((μ 516 x4) + 1)))) + (μ 517 x4))) = μ 518 x4 then (some (w32 (x4 + 1) : Int)).bind fun x4_79 => self 1 x4_79 else (some (w32 (x4 + 1) : Int)).bind fun x4_79 => self 0 x4_79 else none else none else none else none else k x3
noncomputable def pM_leaves_L25 (N : Nat) (μ : Mem) (c1 : Int) (c2 : Int) (k : Int → Option (Int × Mem)) (n : Nat) : Int → Int → Option (Int × Mem) := lpF (fun _ _ => none) (pM_leaves_L25b N μ c1 c2 k) n
noncomputable def pM_leaves_L112b (N : Nat) (c1 : Int) (c2 : Int) (k : Mem → Option (Int × Mem)) (self : Int → Mem → Option (Int × Mem)) (x4 : Int) (μ : Mem) : Option (Int × Mem) := if x4 < 576 then if 0 ≤ w32 (64 + x4) ∧ w32 (64 + x4) < 640 then if 0 ≤ w32 ((w32 (576 * c2)) + x4) ∧ w32 ((w32 (576 * c2)) + x4) < 36864 then (some (mset μ 519 (w32 ((w32 (576 * c2)) + x4)) (μ 511 (w32 (64 + x4))))).bind fun m142 => (some (w32 (x4 + 1) : Int)).bind fun x4_143 => self x4_143 m142 else none else none else k μ
noncomputable def pM_leaves_L112 (N : Nat) (c1 : Int) (c2 : Int) (k : Mem → Option (Int × Mem)) (n : Nat) : Int → Mem → Option (Int × Mem) := lpF (fun _ _ => none) (pM_leaves_L112b N c1 c2 k) n
noncomputable def pM_leaves_L4b (N : Nat)  (k : Int → Mem → Option (Int × Mem)) (self : Int → Int → Mem → Option (Int × Mem)) (x1 : Int) (x2 : Int) (μ : Mem) : Option (Int × Mem) := (pM_all μ).bind fun r6 => if r6 < x2 then k x1 μ else (pM_runs N μ 0 1 x2).bind fun (r16, m16) => pM_leaves_L25 N m16 x1 x2 (fun z3_85 => (some (if z3_85 = 0 then 0 else 1 : Int)).bind fun ys2_99 => if 0 ≤ x2 ∧ x2 < 64 then (some (mset m16 520 x2 ys2_99)).bind fun m99 => if 0 ≤ x2 ∧ x2 < 64 then (some (w32 (x1 + (m99 520 x2)) : Int)).bind fun x1_108 => pM_leaves_L112 N x1_108 x2 (fun n149 => (some (w32 (x2 + 1) : Int)).bind fun x2_149 => self x1_108 x2_149 n149) N 0 m99 else none else none) N 1 0
noncomputable def pM_leaves_L4 (N : Nat)  (k : Int → Mem → Option (Int × Mem)) (n : Nat) : Int → Int → Mem → Option (Int × Mem) := lpF (fun _ _ _ => none) (pM_leaves_L4b N k) n
noncomputable def pM_leaves (N : Nat) (μ : Mem)  : Option (Int × Mem) := pM_leaves_L4 N (fun z1_155 n155 => some (z1_155, n155)) N 0 0 μ
theorem k_pM_leaves_L25 {l : Launch} {en : En} {re : Int} {μe : Mem} {N : Nat} {μ : Mem} (hV : VT μ) {c1 : Int} {c2 : Int} {k : Int → Option (Int × Mem)} {K : KT} (Ra : Ru false (some (some .int, some (vI re), nCells, μe, 0, 0, (VT μe ∧ inR re))) l en cX12_leaves yX12_leaves.cls 5 (rmN 6 210) K) (hi1 : inR c1) (hi2 : inR c2) (hk : ∀ (z3 : Int), k z3 = some (re, μe) → inR z3 → ∀ L9 : Lo, L9 0 = some (vA en 475) → L9 1 = some (vI c1) → L9 2 = some (vI c2) → L9 3 = some (vI z3) → K ZN 85 L9 [] μ) : ∀ (n : Nat) (x3 : Int) (x4 : Int) (L : Lo), pM_leaves_L25 N μ c1 c2 k n x3 x4 = some (re, μe) → inR x3 → inR x4 → L 0 = some (vA en 475) → L 1 = some (vI c1) → L 2 = some (vI c2) → L 3 = some (vI x3) → L 4 = some (vI x4) → K ZN 25 L [] μ := by
  intro n
  induction n with
  | zero => intro x3 x4 L h; cases h
  | succ n ih =>
    intro x3 x4 L h hx3 hx4 hL0 hL1 hL2 hL3 hL4
    replace h : pM_leaves_L25b N μ c1 c2 k (pM_leaves_L25 N μ c1 c2 k n) x3 x4 = some (re, μe) := h
    unfold pM_leaves_L25b at h
    refine r_iload Ra dX12_leaves_25 hL4 ?_
    refine r_aload_n Ra (i := 0) dX12_leaves_27 rfl hL0 ?_
    refine q_getI Ra (x := μ 475 68) f_X12_219 t475 rfl rfl rfl rfl dX12_leaves_28 ?_
    refine r_icmp_ge Ra 85 dX12_leaves_31 hx4 (hV.int t475 rfl) rfl (fun hc => ?_) (fun hc => ?_)
    · replace h := ineg hc h
      exact hk x3 h hx3 _ hL0 hL1 hL2 hL3
    · replace h := ipos hc h
      refine r_iload_n Ra (i := 3) dX12_leaves_34 rfl hL3 ?_
      refine r_if_eq Ra 77 dX12_leaves_35 hx3 rfl (fun hc => ?_) (fun hc => ?_)
      · replace h := ipos hc h
        refine r_iconst Ra dX12_leaves_77 ?_
        refine q_istore_n Ra 3 dX12_leaves_78 rfl rfl rfl ?_
        obtain ⟨x4_79, ex4_79, h⟩ := bv h
        have ix4_79 : inR x4_79 := eqR ex4_79 (inR_32 _)
        refine q_iinc Ra dX12_leaves_79 hL4 ex4_79 ?_
        refine r_goto Ra 25 dX12_leaves_82 rfl ?_
        exact ih 0 x4_79 _ h (Rk rfl) ix4_79 hL0 hL1 hL2 rfl rfl
      · replace h := ineg hc h
        refine r_aload_n Ra (i := 0) dX12_leaves_38 rfl hL0 ?_
        refine q_getA Ra (b := 511) f_X12_192 t475 rfl rfl rfl (hV.ref t475 rfl (by decide)) (by decide) dX12_leaves_39 ?_
        refine r_bipush Ra dX12_leaves_42 rfl ?_
        refine r_aload_n Ra (i := 0) dX12_leaves_44 rfl hL0 ?_
        refine q_getA Ra (b := 516) f_X12_222 t475 rfl rfl rfl (hV.ref t475 rfl (by decide)) (by decide) dX12_leaves_45 ?_
        refine r_iload Ra dX12_leaves_48 hL4 ?_
        obtain ⟨gu50, h⟩ := gd h
        refine q_iald Ra t516 l516 gu50 dX12_leaves_50 ?_
        refine r_iconst Ra dX12_leaves_51 ?_
        refine r_iadd Ra dX12_leaves_52 ?_
        refine r_imul Ra dX12_leaves_53 ?_
        refine r_aload_n Ra (i := 0) dX12_leaves_54 rfl hL0 ?_
        refine q_getA Ra (b := 517) f_X12_225 t475 rfl rfl rfl (hV.ref t475 rfl (by decide)) (by decide) dX12_leaves_55 ?_
        refine r_iload Ra dX12_leaves_58 hL4 ?_
        obtain ⟨gu60, h⟩ := gd h
        refine q_iald Ra t517 l517 gu60 dX12_leaves_60 ?_
        refine r_iadd Ra dX12_leaves_61 ?_
        obtain ⟨gu62, h⟩ := gd h
        refine q_iald Ra t511 l511 gu62 dX12_leaves_62 ?_
        refine r_aload_n Ra (i := 0) dX12_leaves_63 rfl hL0 ?_
        refine q_getA Ra (b := 518) f_X12_228 t475 rfl rfl rfl (hV.ref t475 rfl (by decide)) (by decide) dX12_leaves_64 ?_
        refine r_iload Ra dX12_leaves_67 hL4 ?_
        obtain ⟨gu69, h⟩ := gd h
        refine q_iald Ra t518 l518 gu69 dX12_leaves_69 ?_
        refine r_icmp_ne Ra 77 dX12_leaves_70 (hV.int t511 (kd20 _)) (hV.int t518 (kd20 _)) rfl (fun hc => ?_) (fun hc => ?_)
        · replace h := ineg hc h
          refine r_iconst Ra dX12_leaves_77 ?_
          refine q_istore_n Ra 3 dX12_leaves_78 rfl rfl rfl ?_
          obtain ⟨x4_79, ex4_79, h⟩ := bv h
          have ix4_79 : inR x4_79 := eqR ex4_79 (inR_32 _)
          refine q_iinc Ra dX12_leaves_79 hL4 ex4_79 ?_
          refine r_goto Ra 25 dX12_leaves_82 rfl ?_
          exact ih 0 x4_79 _ h (Rk rfl) ix4_79 hL0 hL1 hL2 rfl rfl
        · replace h := ipos hc h
          refine r_iconst Ra dX12_leaves_73 ?_
          refine r_goto Ra 78 dX12_leaves_74 rfl ?_
          refine q_istore_n Ra 3 dX12_leaves_78 rfl rfl rfl ?_
          obtain ⟨x4_79, ex4_79, h⟩ := bv h
          have ix4_79 : inR x4_79 := eqR ex4_79 (inR_32 _)
          refine q_iinc Ra dX12_leaves_79 hL4 ex4_79 ?_
          refine r_goto Ra 25 dX12_leaves_82 rfl ?_
          exact ih 1 x4_79 _ h (Rk rfl) ix4_79 hL0 hL1 hL2 rfl rfl
theorem k_pM_leaves_L112 {l : Launch} {en : En} {re : Int} {μe : Mem} {N : Nat} {c1 : Int} {c2 : Int} {k : Mem → Option (Int × Mem)} {K : KT} (Ra : Ru false (some (some .int, some (vI re), nCells, μe, 0, 0, (VT μe ∧ inR re))) l en cX12_leaves yX12_leaves.cls 5 (rmN 6 210) K) (hi1 : inR c1) (hi2 : inR c2) (hk : ∀  (μ9 : Mem), k μ9 = some (re, μe) → VT μ9 → ∀ L9 : Lo, L9 0 = some (vA en 475) → L9 1 = some (vI c1) → L9 2 = some (vI c2) → K ZN 149 L9 [] μ9) : ∀ (n : Nat) (x4 : Int) (μ : Mem) (L : Lo), pM_leaves_L112 N c1 c2 k n x4 μ = some (re, μe) → inR x4 → VT μ → L 0 = some (vA en 475) → L 1 = some (vI c1) → L 2 = some (vI c2) → L 4 = some (vI x4) → K ZN 112 L [] μ := by
  intro n
  induction n with
  | zero => intro x4 μ L h; cases h
  | succ n ih =>
    intro x4 μ L h hx4 hV hL0 hL1 hL2 hL4
    replace h : pM_leaves_L112b N c1 c2 k (pM_leaves_L112 N c1 c2 k n) x4 μ = some (re, μe) := h
    unfold pM_leaves_L112b at h
    refine r_iload Ra dX12_leaves_112 hL4 ?_
    refine r_sipush Ra dX12_leaves_114 rfl ?_
    refine r_icmp_ge Ra 149 dX12_leaves_117 hx4 (Rk rfl) rfl (fun hc => ?_) (fun hc => ?_)
    · replace h := ineg hc h
      exact hk μ h  hV _ hL0 hL1 hL2
    · replace h := ipos hc h
      refine r_aload_n Ra (i := 0) dX12_leaves_120 rfl hL0 ?_
      refine q_getA Ra (b := 519) f_X12_232 t475 rfl rfl rfl (hV.ref t475 rfl (by decide)) (by decide) dX12_leaves_121 ?_
      refine r_sipush Ra dX12_leaves_124 rfl ?_
      refine r_iload_n Ra (i := 2) dX12_leaves_127 rfl hL2 ?_
      refine r_imul Ra dX12_leaves_128 ?_
      refine r_iload Ra dX12_leaves_129 hL4 ?_
      refine r_iadd Ra dX12_leaves_131 ?_
      refine r_aload_n Ra (i := 0) dX12_leaves_132 rfl hL0 ?_
      refine q_getA Ra (b := 511) f_X12_192 t475 rfl rfl rfl (hV.ref t475 rfl (by decide)) (by decide) dX12_leaves_133 ?_
      refine r_bipush Ra dX12_leaves_136 rfl ?_
      refine r_iload Ra dX12_leaves_138 hL4 ?_
      refine r_iadd Ra dX12_leaves_140 ?_
      obtain ⟨gu141, h⟩ := gd h
      refine q_iald Ra t511 l511 gu141 dX12_leaves_141 ?_
      obtain ⟨gu142, h⟩ := gd h
      obtain ⟨m142, em142, h⟩ := bv h
      have hm142 : VT m142 := eqV em142 (hV.setI t519 (kd20 _) (hV.int t511 (kd20 _)))
      refine q_iast Ra t519 l519 gu142 em142 dX12_leaves_142 ?_
      obtain ⟨x4_143, ex4_143, h⟩ := bv h
      have ix4_143 : inR x4_143 := eqR ex4_143 (inR_32 _)
      refine q_iinc Ra dX12_leaves_143 hL4 ex4_143 ?_
      refine r_goto Ra 112 dX12_leaves_146 rfl ?_
      exact ih x4_143 m142 _ h ix4_143 hm142 hL0 hL1 hL2 rfl
theorem k_pM_leaves_L4 {l : Launch} {en : En} {re : Int} {μe : Mem} {N : Nat}  {k : Int → Mem → Option (Int × Mem)} {K : KT} (Ra : Ru false (some (some .int, some (vI re), nCells, μe, 0, 0, (VT μe ∧ inR re))) l en cX12_leaves yX12_leaves.cls 5 (rmN 6 210) K)  (hk : ∀ (z1 : Int) (μ9 : Mem), k z1 μ9 = some (re, μe) → inR z1 → VT μ9 → ∀ L9 : Lo, L9 1 = some (vI z1) → K ZN 155 L9 [] μ9) : ∀ (n : Nat) (x1 : Int) (x2 : Int) (μ : Mem) (L : Lo), pM_leaves_L4 N k n x1 x2 μ = some (re, μe) → inR x1 → inR x2 → VT μ → L 0 = some (vA en 475) → L 1 = some (vI x1) → L 2 = some (vI x2) → K ZN 4 L [] μ := by
  intro n
  induction n with
  | zero => intro x1 x2 μ L h; cases h
  | succ n ih =>
    intro x1 x2 μ L h hx1 hx2 hV hL0 hL1 hL2
    replace h : pM_leaves_L4b N k (pM_leaves_L4 N k n) x1 x2 μ = some (re, μe) := h
    unfold pM_leaves_L4b at h
    refine r_iload_n Ra (i := 2) dX12_leaves_4 rfl hL2 ?_
    refine r_aload_n Ra (i := 0) dX12_leaves_5 rfl hL0 ?_
    obtain ⟨r6, hr6, h⟩ := bd h
    refine q_callVI Ra (c_pM_all hV hr6) mw_X12_all mi_X12_all t475 rfl rfl rfl rfl rfl k_X12_460 rfl rfl dX12_leaves_6 (fun ok6 => ?_)
    refine r_icmp_gt Ra 155 dX12_leaves_9 hx2 ok6 rfl (fun hc => ?_) (fun hc => ?_)
    · replace h := ipos hc h
      exact hk x1 μ h hx1 hV _ hL1
    · replace h := ineg hc h
      refine r_aload_n Ra (i := 0) dX12_leaves_12 rfl hL0 ?_
      refine r_iconst Ra dX12_leaves_13 ?_
      refine r_iconst Ra dX12_leaves_14 ?_
      refine r_iload_n Ra (i := 2) dX12_leaves_15 rfl hL2 ?_
      obtain ⟨⟨r16, m16⟩, hr16, h⟩ := bd h
      refine q_callVI Ra (c_pM_runs hV (Rk rfl) (Rk rfl) hx2 hr16) mw_X12_runs mi_X12_runs t475 rfl rfl rfl rfl rfl k_X12_463 rfl rfl dX12_leaves_16 (fun ok16 => ?_)
      obtain ⟨hV16, ok16⟩ := ok16
      refine r_popI Ra dX12_leaves_19 ?_
      refine r_iconst Ra dX12_leaves_20 ?_
      refine q_istore_n Ra 3 dX12_leaves_21 rfl rfl rfl ?_
      refine r_iconst Ra dX12_leaves_22 ?_
      refine q_istore Ra dX12_leaves_23 rfl rfl ?_
      refine k_pM_leaves_L25 hV16 Ra hx1 hx2 ?_ _ _ _ _ h (Rk rfl) (Rk rfl) hL0 hL1 hL2 rfl rfl
      intro z3_85 h iz3_85 L9 f85_0 f85_1 f85_2 f85_3
      refine r_aload_n Ra (i := 0) dX12_leaves_85 rfl f85_0 ?_
      refine q_getA Ra (b := 520) f_X12_235 t475 rfl rfl rfl (hV16.ref t475 rfl (by decide)) (by decide) dX12_leaves_86 ?_
      refine r_iload_n Ra (i := 2) dX12_leaves_89 rfl f85_2 ?_
      refine r_iload_n Ra (i := 3) dX12_leaves_90 rfl f85_3 ?_
      obtain ⟨ys2_99, eys2_99, h⟩ := bv h
      have hJ : inR ys2_99 → (ys2_99 = 0 ∨ ys2_99 = 1) → ∀ L9 : Lo, L9 0 = some (vA en 475) → L9 1 = some (vI x1) → L9 2 = some (vI x2) → K ZN 99 L9 [vI ys2_99, vI x2, vA en 520] m16 := by
        intro iys2_99 bys2_99 L9 f99_0 f99_1 f99_2
        obtain ⟨gu99, h⟩ := gd h
        obtain ⟨m99, em99, h⟩ := bv h
        have hm99 : VT m99 := eqV em99 (hV16.setI t520 (kd20 _) iys2_99)
        refine q_iast Ra t520 l520 gu99 em99 dX12_leaves_99 ?_
        refine r_iload_n Ra (i := 1) dX12_leaves_100 rfl f99_1 ?_
        refine r_aload_n Ra (i := 0) dX12_leaves_101 rfl f99_0 ?_
        refine q_getA Ra (b := 520) f_X12_235 t475 rfl rfl rfl (hm99.ref t475 rfl (by decide)) (by decide) dX12_leaves_102 ?_
        refine r_iload_n Ra (i := 2) dX12_leaves_105 rfl f99_2 ?_
        obtain ⟨gu106, h⟩ := gd h
        refine q_iald Ra t520 l520 gu106 dX12_leaves_106 ?_
        refine r_iadd Ra dX12_leaves_107 ?_
        obtain ⟨x1_108, ex1_108, h⟩ := bv h
        have ix1_108 : inR x1_108 := eqR ex1_108 (inR_32 _)
        refine q_istore_n Ra 1 dX12_leaves_108 rfl rfl ex1_108 ?_
        refine r_iconst Ra dX12_leaves_109 ?_
        refine q_istore Ra dX12_leaves_110 rfl rfl ?_
        refine k_pM_leaves_L112 Ra ix1_108 hx2 ?_ _ _ _ _ h (Rk rfl) hm99 f99_0 rfl f99_2 rfl
        intro n149 h hn149 L9 f149_0 f149_1 f149_2
        obtain ⟨x2_149, ex2_149, h⟩ := bv h
        have ix2_149 : inR x2_149 := eqR ex2_149 (inR_32 _)
        refine q_iinc Ra dX12_leaves_149 f149_2 ex2_149 ?_
        refine r_goto Ra 4 dX12_leaves_152 rfl ?_
        exact ih x1_108 x2_149 n149 _ h ix1_108 ix2_149 hn149 f149_0 f149_1 rfl
      refine r_if_eq Ra 98 dX12_leaves_91 iz3_85 rfl (fun hc => ?_) (fun hc => ?_)
      · replace eys2_99 := eys2_99.trans (if_pos hc)
        refine r_iconst Ra dX12_leaves_98 ?_
        subst eys2_99
        exact hJ (Rk rfl) (Or.inl rfl) _ f85_0 f85_1 f85_2
      · replace eys2_99 := eys2_99.trans (if_neg hc)
        refine r_iconst Ra dX12_leaves_94 ?_
        refine r_goto Ra 99 dX12_leaves_95 rfl ?_
        subst eys2_99
        exact hJ (Rk rfl) (Or.inr rfl) _ f85_0 f85_1 f85_2
set_option maxHeartbeats 4000000 in
theorem c_pM_leaves {l : Launch} {en : En} {N : Nat} {μ : Mem}  {re : Int} {μe : Mem} (hV : VT μ)  (h : pM_leaves N μ = some (re, μe)) : CtI l en yX12_leaves cX12_leaves 5 6 210 [vA en 475] μ .int re μe (VT μe ∧ inR re) := by
  refine Tr.of false (fun h => by cases h) (by decide) (Nat.le_of_ble_eq_true rfl) (fun K Ra => ?_)
  unfold pM_leaves at h
  refine r_iconst Ra dX12_leaves_0 ?_
  refine q_istore_n Ra 1 dX12_leaves_1 rfl rfl rfl ?_
  refine r_iconst Ra dX12_leaves_2 ?_
  refine q_istore_n Ra 2 dX12_leaves_3 rfl rfl rfl ?_
  refine k_pM_leaves_L4 Ra ?_ _ _ _ _ _ h (Rk rfl) (Rk rfl) hV rfl rfl rfl
  intro z1_155 n155 h iz1_155 hn155 L9 f155_1
  refine r_iload_n Ra (i := 1) dX12_leaves_155 rfl f155_1 ?_
  cases h
  exact r_iret Ra ⟨hn155, iz1_155⟩ dX12_leaves_156
noncomputable def pM_walkers_L36b (N : Nat) (μ : Mem)  (k : Int → Option (Int × Mem)) (self : Int → Option (Int × Mem)) (x3 : Int) : Option (Int × Mem) := if 0 ≤ x3 ∧ x3 < 64 then if μ 520 x3 = 0 then (some (w32 (x3 + 1) : Int)).bind fun x3_45 => self x3_45 else k x3 else none
noncomputable def pM_walkers_L36 (N : Nat) (μ : Mem)  (k : Int → Option (Int × Mem)) (n : Nat) : Int → Option (Int × Mem) := lpF (fun _ => none) (pM_walkers_L36b N μ k) n
noncomputable def pM_walkers (N : Nat) (μ : Mem) (x1 : Int) : Option (Int × Mem) := (pM_is μ x1 0 1).bind fun r3 => if r3 = 0 then some ((-1), μ) else (pM_leaves N μ).bind fun (r12, m12) => jn (α := Unit → Option (Int × Mem)) (fun (_ : Unit) => if x1 = 0 then some (r12, m12) else some ((-1), m12)) (fun (j24 : Unit → Option (Int × Mem)) => if x1 = 0 then j24 () else if r12 = 0 then j24 () else pM_walkers_L36 N m12 (fun z3_51 => some (z3_51, m12)) N 0)
theorem k_pM_walkers_L36 {l : Launch} {en : En} {re : Int} {μe : Mem} {N : Nat} {μ : Mem} (hV : VT μ)  {k : Int → Option (Int × Mem)} {K : KT} (Ra : Ru false (some (some .int, some (vI re), nCells, μe, 0, 0, (VT μe ∧ inR re))) l en cX12_walkers yX12_walkers.cls 4 (rmN 7 234) K)  (hk : ∀ (z3 : Int), k z3 = some (re, μe) → inR z3 → ∀ L9 : Lo, L9 3 = some (vI z3) → K ZN 51 L9 [] μ) : ∀ (n : Nat) (x3 : Int) (L : Lo), pM_walkers_L36 N μ k n x3 = some (re, μe) → inR x3 → L 0 = some (vA en 475) → L 3 = some (vI x3) → K ZN 36 L [] μ := by
  intro n
  induction n with
  | zero => intro x3 L h; cases h
  | succ n ih =>
    intro x3 L h hx3 hL0 hL3
    replace h : pM_walkers_L36b N μ k (pM_walkers_L36 N μ k n) x3 = some (re, μe) := h
    unfold pM_walkers_L36b at h
    refine r_aload_n Ra (i := 0) dX12_walkers_36 rfl hL0 ?_
    refine q_getA Ra (b := 520) f_X12_235 t475 rfl rfl rfl (hV.ref t475 rfl (by decide)) (by decide) dX12_walkers_37 ?_
    refine r_iload_n Ra (i := 3) dX12_walkers_40 rfl hL3 ?_
    obtain ⟨gu41, h⟩ := gd h
    refine q_iald Ra t520 l520 gu41 dX12_walkers_41 ?_
    refine r_if_ne Ra 51 dX12_walkers_42 (hV.int t520 (kd20 _)) rfl (fun hc => ?_) (fun hc => ?_)
    · replace h := ineg hc h
      exact hk x3 h hx3 _ hL3
    · replace h := ipos hc h
      obtain ⟨x3_45, ex3_45, h⟩ := bv h
      have ix3_45 : inR x3_45 := eqR ex3_45 (inR_32 _)
      refine q_iinc Ra dX12_walkers_45 hL3 ex3_45 ?_
      refine r_goto Ra 36 dX12_walkers_48 rfl ?_
      exact ih x3_45 _ h ix3_45 hL0 rfl
set_option maxHeartbeats 4000000 in
theorem c_pM_walkers {l : Launch} {en : En} {N : Nat} {μ : Mem} {x1 : Int} {re : Int} {μe : Mem} (hV : VT μ) (hx1 : inR x1) (h : pM_walkers N μ x1 = some (re, μe)) : CtI l en yX12_walkers cX12_walkers 4 7 234 [vA en 475, vI x1] μ .int re μe (VT μe ∧ inR re) := by
  refine Tr.of false (fun h => by cases h) (by decide) (Nat.le_of_ble_eq_true rfl) (fun K Ra => ?_)
  unfold pM_walkers at h
  refine r_iload_n Ra (i := 1) dX12_walkers_0 rfl rfl ?_
  refine r_iconst Ra dX12_walkers_1 ?_
  refine r_iconst Ra dX12_walkers_2 ?_
  obtain ⟨r3, hr3, h⟩ := bd h
  refine q_callSI Ra (c_pM_is hV hx1 (Rk rfl) (Rk rfl) hr3) mw_X12_is ms_X12_is rfl rfl k_X12_323 rfl rfl dX12_walkers_3 (fun ok3 => ?_)
  refine r_if_ne Ra 11 dX12_walkers_6 (inR_01 ok3) rfl (fun hc => ?_) (fun hc => ?_)
  · replace h := ineg hc h
    refine r_aload_n Ra (i := 0) dX12_walkers_11 rfl rfl ?_
    obtain ⟨⟨r12, m12⟩, hr12, h⟩ := bd h
    refine q_callVI Ra (c_pM_leaves hV hr12) mw_X12_leaves mi_X12_leaves t475 rfl rfl rfl rfl rfl k_X12_483 rfl rfl dX12_walkers_12 (fun ok12 => ?_)
    obtain ⟨hV12, ok12⟩ := ok12
    refine q_istore_n Ra 2 dX12_walkers_15 rfl rfl rfl ?_
    refine r_iload_n Ra (i := 1) dX12_walkers_16 rfl rfl ?_
    obtain ⟨j24, ej24, h⟩ := jn_elim h
    have hJ24 : j24 () = some (re, μe) → ∀ L9 : Lo, L9 1 = some (vI x1) → L9 2 = some (vI r12) → K ZN 24 L9 [] m12 := by
      intro h L9 f24_1 f24_2
      rw [ej24] at h
      refine r_iload_n Ra (i := 1) dX12_walkers_24 rfl f24_1 ?_
      refine r_if_ne Ra 32 dX12_walkers_25 hx1 rfl (fun hc => ?_) (fun hc => ?_)
      · replace h := ineg hc h
        refine r_iconst Ra dX12_walkers_32 ?_
        cases h
        exact r_iret Ra ⟨hV12, (Rk rfl)⟩ dX12_walkers_33
      · replace h := ipos hc h
        refine r_iload_n Ra (i := 2) dX12_walkers_28 rfl f24_2 ?_
        refine r_goto Ra 33 dX12_walkers_29 rfl ?_
        cases h
        exact r_iret Ra ⟨hV12, ok12⟩ dX12_walkers_33
    refine r_if_eq Ra 24 dX12_walkers_17 hx1 rfl (fun hc => ?_) (fun hc => ?_)
    · replace h := ipos hc h
      exact hJ24 h  _ rfl rfl
    · replace h := ineg hc h
      refine r_iload_n Ra (i := 2) dX12_walkers_20 rfl rfl ?_
      refine r_if_ne Ra 34 dX12_walkers_21 ok12 rfl (fun hc => ?_) (fun hc => ?_)
      · replace h := ineg hc h
        refine r_iconst Ra dX12_walkers_34 ?_
        refine q_istore_n Ra 3 dX12_walkers_35 rfl rfl rfl ?_
        refine k_pM_walkers_L36 hV12 Ra ?_ _ _ _ h (Rk rfl) rfl rfl
        intro z3_51 h iz3_51 L9 f51_3
        refine r_iload_n Ra (i := 3) dX12_walkers_51 rfl f51_3 ?_
        cases h
        exact r_iret Ra ⟨hV12, iz3_51⟩ dX12_walkers_52
      · replace h := ipos hc h
        exact hJ24 h  _ rfl rfl
  · replace h := ipos hc h
    refine r_iconst Ra dX12_walkers_9 ?_
    cases h
    exact r_iret Ra ⟨hV, (Rk rfl)⟩ dX12_walkers_10
noncomputable def pM_mostBy_L2b (N : Nat) (c1 : Int) (k : Mem → Option (Int × Mem)) (self : Int → Mem → Option (Int × Mem)) (x2 : Int) (μ : Mem) : Option (Int × Mem) := if 99 < x2 then k μ else if 0 ≤ x2 ∧ x2 < 100 then (some (mset μ 521 x2 0)).bind fun m14 => (some (w32 (x2 + 1) : Int)).bind fun x2_15 => self x2_15 m14 else none
noncomputable def pM_mostBy_L2 (N : Nat) (c1 : Int) (k : Mem → Option (Int × Mem)) (n : Nat) : Int → Mem → Option (Int × Mem) := lpF (fun _ _ => none) (pM_mostBy_L2b N c1 k) n
noncomputable def pM_mostBy_L25b (N : Nat) (c1 : Int) (k : Int → Mem → Option (Int × Mem)) (self : Int → Int → Mem → Option (Int × Mem)) (x2 : Int) (x3 : Int) (μ : Mem) : Option (Int × Mem) := (pM_all μ).bind fun r27 => if r27 < x3 then k x2 μ else if 0 ≤ x3 ∧ x3 < 64 then if μ 520 x3 = 0 then (some (w32 (x3 + 1) : Int)).bind fun x3_93 => self x2 x3_93 μ else if 0 ≤ w32 ((w32 (576 * x3)) + c1) ∧ w32 ((w32 (576 * x3)) + c1) < 36864 then (some (μ 519 (w32 ((w32 (576 * x3)) + c1)) : Int)).bind fun x4_57 => if 0 ≤ x4_57 ∧ x4_57 < 100 then if 0 ≤ x4_57 ∧ x4_57 < 100 then (some (mset μ 521 x4_57 (w32 ((μ 521 x4_57) + 1)))).bind fun m69 => if 0 ≤ x4_57 ∧ x4_57 < 100 then if x2 < m69 521 x4_57 then if 0 ≤ x4_57 ∧ x4_57 < 100 then (some (m69 521 x4_57 : Int)).bind fun x2_92 => (some (w32 (x3 + 1) : Int)).bind fun x3_93 => self x2_92 x3_93 m69 else none else (some (w32 (x3 + 1) : Int)).bind fun x3_93 => self x2 x3_93 m69 else none else none else none else none else none
noncomputable def pM_mostBy_L25 (N : Nat) (c1 : Int) (k : Int → Mem → Option (Int × Mem)) (n : Nat) : Int → Int → Mem → Option (Int × Mem) := lpF (fun _ _ _ => none) (pM_mostBy_L25b N c1 k) n
noncomputable def pM_mostBy (N : Nat) (μ : Mem) (x1 : Int) : Option (Int × Mem) := pM_mostBy_L2 N x1 (fun n21 => pM_mostBy_L25 N x1 (fun z2_99 n99 => some (z2_99, n99)) N 0 0 n21) N 0 μ
theorem k_pM_mostBy_L2 {l : Launch} {en : En} {re : Int} {μe : Mem} {N : Nat} {c1 : Int} {k : Mem → Option (Int × Mem)} {K : KT} (Ra : Ru false (some (some .int, some (vI re), nCells, μe, 0, 0, (VT μe ∧ inR re))) l en cX12_mostBy yX12_mostBy.cls 5 (rmN 1 80) K) (hi1 : inR c1) (hk : ∀  (μ9 : Mem), k μ9 = some (re, μe) → VT μ9 → ∀ L9 : Lo, L9 0 = some (vA en 475) → L9 1 = some (vI c1) → K ZN 21 L9 [] μ9) : ∀ (n : Nat) (x2 : Int) (μ : Mem) (L : Lo), pM_mostBy_L2 N c1 k n x2 μ = some (re, μe) → inR x2 → VT μ → L 0 = some (vA en 475) → L 1 = some (vI c1) → L 2 = some (vI x2) → K ZN 2 L [] μ := by
  intro n
  induction n with
  | zero => intro x2 μ L h; cases h
  | succ n ih =>
    intro x2 μ L h hx2 hV hL0 hL1 hL2
    replace h : pM_mostBy_L2b N c1 k (pM_mostBy_L2 N c1 k n) x2 μ = some (re, μe) := h
    unfold pM_mostBy_L2b at h
    refine r_iload_n Ra (i := 2) dX12_mostBy_2 rfl hL2 ?_
    refine r_bipush Ra dX12_mostBy_3 rfl ?_
    refine r_icmp_gt Ra 21 dX12_mostBy_5 hx2 (Rk rfl) rfl (fun hc => ?_) (fun hc => ?_)
    · replace h := ipos hc h
      exact hk μ h  hV _ hL0 hL1
    · replace h := ineg hc h
      refine r_aload_n Ra (i := 0) dX12_mostBy_8 rfl hL0 ?_
      refine q_getA Ra (b := 521) f_X12_238 t475 rfl rfl rfl (hV.ref t475 rfl (by decide)) (by decide) dX12_mostBy_9 ?_
      refine r_iload_n Ra (i := 2) dX12_mostBy_12 rfl hL2 ?_
      refine r_iconst Ra dX12_mostBy_13 ?_
      obtain ⟨gu14, h⟩ := gd h
      obtain ⟨m14, em14, h⟩ := bv h
      have hm14 : VT m14 := eqV em14 (hV.setI t521 (kd20 _) (Rk rfl))
      refine q_iast Ra t521 l521 gu14 em14 dX12_mostBy_14 ?_
      obtain ⟨x2_15, ex2_15, h⟩ := bv h
      have ix2_15 : inR x2_15 := eqR ex2_15 (inR_32 _)
      refine q_iinc Ra dX12_mostBy_15 hL2 ex2_15 ?_
      refine r_goto Ra 2 dX12_mostBy_18 rfl ?_
      exact ih x2_15 m14 _ h ix2_15 hm14 hL0 hL1 rfl
theorem k_pM_mostBy_L25 {l : Launch} {en : En} {re : Int} {μe : Mem} {N : Nat} {c1 : Int} {k : Int → Mem → Option (Int × Mem)} {K : KT} (Ra : Ru false (some (some .int, some (vI re), nCells, μe, 0, 0, (VT μe ∧ inR re))) l en cX12_mostBy yX12_mostBy.cls 5 (rmN 1 80) K) (hi1 : inR c1) (hk : ∀ (z2 : Int) (μ9 : Mem), k z2 μ9 = some (re, μe) → inR z2 → VT μ9 → ∀ L9 : Lo, L9 2 = some (vI z2) → K ZN 99 L9 [] μ9) : ∀ (n : Nat) (x2 : Int) (x3 : Int) (μ : Mem) (L : Lo), pM_mostBy_L25 N c1 k n x2 x3 μ = some (re, μe) → inR x2 → inR x3 → VT μ → L 0 = some (vA en 475) → L 1 = some (vI c1) → L 2 = some (vI x2) → L 3 = some (vI x3) → K ZN 25 L [] μ := by
  intro n
  induction n with
  | zero => intro x2 x3 μ L h; cases h
  | succ n ih =>
    intro x2 x3 μ L h hx2 hx3 hV hL0 hL1 hL2 hL3
    replace h : pM_mostBy_L25b N c1 k (pM_mostBy_L25 N c1 k n) x2 x3 μ = some (re, μe) := h
    unfold pM_mostBy_L25b at h
    refine r_iload_n Ra (i := 3) dX12_mostBy_25 rfl hL3 ?_
    refine r_aload_n Ra (i := 0) dX12_mostBy_26 rfl hL0 ?_
    obtain ⟨r27, hr27, h⟩ := bd h
    refine q_callVI Ra (c_pM_all hV hr27) mw_X12_all mi_X12_all t475 rfl rfl rfl rfl rfl k_X12_460 rfl rfl dX12_mostBy_27 (fun ok27 => ?_)
    refine r_icmp_gt Ra 99 dX12_mostBy_30 hx3 ok27 rfl (fun hc => ?_) (fun hc => ?_)
    · replace h := ipos hc h
      exact hk x2 μ h hx2 hV _ hL2
    · replace h := ineg hc h
      refine r_aload_n Ra (i := 0) dX12_mostBy_33 rfl hL0 ?_
      refine q_getA Ra (b := 520) f_X12_235 t475 rfl rfl rfl (hV.ref t475 rfl (by decide)) (by decide) dX12_mostBy_34 ?_
      refine r_iload_n Ra (i := 3) dX12_mostBy_37 rfl hL3 ?_
      obtain ⟨gu38, h⟩ := gd h
      refine q_iald Ra t520 l520 gu38 dX12_mostBy_38 ?_
      refine r_if_ne Ra 45 dX12_mostBy_39 (hV.int t520 (kd20 _)) rfl (fun hc => ?_) (fun hc => ?_)
      · replace h := ineg hc h
        refine r_aload_n Ra (i := 0) dX12_mostBy_45 rfl hL0 ?_
        refine q_getA Ra (b := 519) f_X12_232 t475 rfl rfl rfl (hV.ref t475 rfl (by decide)) (by decide) dX12_mostBy_46 ?_
        refine r_sipush Ra dX12_mostBy_49 rfl ?_
        refine r_iload_n Ra (i := 3) dX12_mostBy_52 rfl hL3 ?_
        refine r_imul Ra dX12_mostBy_53 ?_
        refine r_iload_n Ra (i := 1) dX12_mostBy_54 rfl hL1 ?_
        refine r_iadd Ra dX12_mostBy_55 ?_
        obtain ⟨gu56, h⟩ := gd h
        refine q_iald Ra t519 l519 gu56 dX12_mostBy_56 ?_
        obtain ⟨x4_57, ex4_57, h⟩ := bv h
        have ix4_57 : inR x4_57 := eqR ex4_57 (hV.int t519 (kd20 _))
        refine q_istore Ra dX12_mostBy_57 rfl ex4_57 ?_
        refine r_aload_n Ra (i := 0) dX12_mostBy_59 rfl hL0 ?_
        refine q_getA Ra (b := 521) f_X12_238 t475 rfl rfl rfl (hV.ref t475 rfl (by decide)) (by decide) dX12_mostBy_60 ?_
        refine r_iload Ra dX12_mostBy_63 rfl ?_
        refine r_dup2 Ra dX12_mostBy_65 ?_
        obtain ⟨gu66, h⟩ := gd h
        refine q_iald Ra t521 l521 gu66 dX12_mostBy_66 ?_
        refine r_iconst Ra dX12_mostBy_67 ?_
        refine r_iadd Ra dX12_mostBy_68 ?_
        obtain ⟨gu69, h⟩ := gd h
        obtain ⟨m69, em69, h⟩ := bv h
        have hm69 : VT m69 := eqV em69 (hV.setI t521 (kd20 _) (inR_32 _))
        refine q_iast Ra t521 l521 gu69 em69 dX12_mostBy_69 ?_
        refine r_aload_n Ra (i := 0) dX12_mostBy_70 rfl hL0 ?_
        refine q_getA Ra (b := 521) f_X12_238 t475 rfl rfl rfl (hm69.ref t475 rfl (by decide)) (by decide) dX12_mostBy_71 ?_
        refine r_iload Ra dX12_mostBy_74 rfl ?_
        obtain ⟨gu76, h⟩ := gd h
        refine q_iald Ra t521 l521 gu76 dX12_mostBy_76 ?_
        refine r_iload_n Ra (i := 2) dX12_mostBy_77 rfl hL2 ?_
        refine r_icmp_le Ra 91 dX12_mostBy_78 (hm69.int t521 (kd20 _)) hx2 rfl (fun hc => ?_) (fun hc => ?_)
        · replace h := ineg hc h
          refine r_iload_n Ra (i := 2) dX12_mostBy_91 rfl hL2 ?_
          refine q_istore_n Ra 2 dX12_mostBy_92 rfl rfl rfl ?_
          obtain ⟨x3_93, ex3_93, h⟩ := bv h
          have ix3_93 : inR x3_93 := eqR ex3_93 (inR_32 _)
          refine q_iinc Ra dX12_mostBy_93 hL3 ex3_93 ?_
          refine r_goto Ra 25 dX12_mostBy_96 rfl ?_
          exact ih x2 x3_93 m69 _ h hx2 ix3_93 hm69 hL0 hL1 rfl rfl
        · replace h := ipos hc h
          refine r_aload_n Ra (i := 0) dX12_mostBy_81 rfl hL0 ?_
          refine q_getA Ra (b := 521) f_X12_238 t475 rfl rfl rfl (hm69.ref t475 rfl (by decide)) (by decide) dX12_mostBy_82 ?_
          refine r_iload Ra dX12_mostBy_85 rfl ?_
          obtain ⟨gu87, h⟩ := gd h
          refine q_iald Ra t521 l521 gu87 dX12_mostBy_87 ?_
          refine r_goto Ra 92 dX12_mostBy_88 rfl ?_
          obtain ⟨x2_92, ex2_92, h⟩ := bv h
          have ix2_92 : inR x2_92 := eqR ex2_92 (hm69.int t521 (kd20 _))
          refine q_istore_n Ra 2 dX12_mostBy_92 rfl rfl ex2_92 ?_
          obtain ⟨x3_93, ex3_93, h⟩ := bv h
          have ix3_93 : inR x3_93 := eqR ex3_93 (inR_32 _)
          refine q_iinc Ra dX12_mostBy_93 hL3 ex3_93 ?_
          refine r_goto Ra 25 dX12_mostBy_96 rfl ?_
          exact ih x2_92 x3_93 m69 _ h ix2_92 ix3_93 hm69 hL0 hL1 rfl rfl
      · replace h := ipos hc h
        refine r_goto Ra 93 dX12_mostBy_42 rfl ?_
        obtain ⟨x3_93, ex3_93, h⟩ := bv h
        have ix3_93 : inR x3_93 := eqR ex3_93 (inR_32 _)
        refine q_iinc Ra dX12_mostBy_93 hL3 ex3_93 ?_
        refine r_goto Ra 25 dX12_mostBy_96 rfl ?_
        exact ih x2 x3_93 μ _ h hx2 ix3_93 hV hL0 hL1 hL2 rfl
set_option maxHeartbeats 4000000 in
theorem c_pM_mostBy {l : Launch} {en : En} {N : Nat} {μ : Mem} {x1 : Int} {re : Int} {μe : Mem} (hV : VT μ) (hx1 : inR x1) (h : pM_mostBy N μ x1 = some (re, μe)) : CtI l en yX12_mostBy cX12_mostBy 5 1 80 [vA en 475, vI x1] μ .int re μe (VT μe ∧ inR re) := by
  refine Tr.of false (fun h => by cases h) (by decide) (Nat.le_of_ble_eq_true rfl) (fun K Ra => ?_)
  unfold pM_mostBy at h
  refine r_iconst Ra dX12_mostBy_0 ?_
  refine q_istore_n Ra 2 dX12_mostBy_1 rfl rfl rfl ?_
  refine k_pM_mostBy_L2 Ra hx1 ?_ _ _ _ _ h (Rk rfl) hV rfl rfl rfl
  intro n21 h hn21 L9 f21_0 f21_1
  refine r_iconst Ra dX12_mostBy_21 ?_
  refine q_istore_n Ra 2 dX12_mostBy_22 rfl rfl rfl ?_
  refine r_iconst Ra dX12_mostBy_23 ?_
  refine q_istore_n Ra 3 dX12_mostBy_24 rfl rfl rfl ?_
  refine k_pM_mostBy_L25 Ra hx1 ?_ _ _ _ _ _ h (Rk rfl) (Rk rfl) hn21 f21_0 f21_1 rfl rfl
  intro z2_99 n99 h iz2_99 hn99 L9 f99_2
  refine r_iload_n Ra (i := 2) dX12_mostBy_99 rfl f99_2 ?_
  cases h
  exact r_iret Ra ⟨hn99, iz2_99⟩ dX12_mostBy_100
noncomputable def pM_tells_L34b (N : Nat) (c1 : Int) (k : Int → Int → Mem → Option (Int × Mem)) (self : Int → Int → Int → Mem → Option (Int × Mem)) (x2 : Int) (x3 : Int) (x4 : Int) (μ : Mem) : Option (Int × Mem) := if x4 < 576 then (pM_isCell μ (r32 x4 8) (d32 (r32 x4 64) 8)).bind fun r56 => if r56 = 0 then (some (w32 (x4 + 1) : Int)).bind fun x4_88 => self x2 x3 x4_88 μ else (pM_mostBy N μ x4).bind fun (r68, m68) => if r68 < x3 then (some (w32 (x4 + 1) : Int)).bind fun x4_88 => self x4 r68 x4_88 m68 else (some (w32 (x4 + 1) : Int)).bind fun x4_88 => self x2 x3 x4_88 m68 else k x2 x3 μ
noncomputable def pM_tells_L34 (N : Nat) (c1 : Int) (k : Int → Int → Mem → Option (Int × Mem)) (n : Nat) : Int → Int → Int → Mem → Option (Int × Mem) := lpF (fun _ _ _ _ => none) (pM_tells_L34b N c1 k) n
noncomputable def pM_tells (N : Nat) (μ : Mem) (x1 : Int) : Option (Int × Mem) := if μ 475 41 = 0 then some ((-1), μ) else (pM_is μ x1 0 3).bind fun r10 => if r10 = 0 then some ((-1), μ) else (pM_leaves N μ).bind fun (r17, m17) => if r17 = 0 then some ((-1), m17) else pM_tells_L34 N x1 (fun z2_94 z3_94 n94 => if x1 = 0 then some (d32 z2_94 64, n94) else if x1 = 1 then some (r32 z2_94 8, n94) else if x1 = 2 then some (d32 (r32 z2_94 64) 8, n94) else some (z3_94, n94)) N (-1) 100000000 0 m17
theorem k_pM_tells_L34 {l : Launch} {en : En} {re : Int} {μe : Mem} {N : Nat} {c1 : Int} {k : Int → Int → Mem → Option (Int × Mem)} {K : KT} (Ra : Ru false (some (some .int, some (vI re), nCells, μe, 0, 0, (VT μe ∧ inR re))) l en cX12_tells yX12_tells.cls 6 (rmN 7 234) K) (hi1 : inR c1) (hk : ∀ (z2 : Int) (z3 : Int) (μ9 : Mem), k z2 z3 μ9 = some (re, μe) → inR z2 → inR z3 → VT μ9 → ∀ L9 : Lo, L9 1 = some (vI c1) → L9 2 = some (vI z2) → L9 3 = some (vI z3) → K ZN 94 L9 [] μ9) : ∀ (n : Nat) (x2 : Int) (x3 : Int) (x4 : Int) (μ : Mem) (L : Lo), pM_tells_L34 N c1 k n x2 x3 x4 μ = some (re, μe) → inR x2 → inR x3 → inR x4 → VT μ → L 0 = some (vA en 475) → L 1 = some (vI c1) → L 2 = some (vI x2) → L 3 = some (vI x3) → L 4 = some (vI x4) → K ZN 34 L [] μ := by
  intro n
  induction n with
  | zero => intro x2 x3 x4 μ L h; cases h
  | succ n ih =>
    intro x2 x3 x4 μ L h hx2 hx3 hx4 hV hL0 hL1 hL2 hL3 hL4
    replace h : pM_tells_L34b N c1 k (pM_tells_L34 N c1 k n) x2 x3 x4 μ = some (re, μe) := h
    unfold pM_tells_L34b at h
    refine r_iload Ra dX12_tells_34 hL4 ?_
    refine r_sipush Ra dX12_tells_36 rfl ?_
    refine r_icmp_ge Ra 94 dX12_tells_39 hx4 (Rk rfl) rfl (fun hc => ?_) (fun hc => ?_)
    · replace h := ineg hc h
      exact hk x2 x3 μ h hx2 hx3 hV _ hL1 hL2 hL3
    · replace h := ipos hc h
      refine r_aload_n Ra (i := 0) dX12_tells_42 rfl hL0 ?_
      refine r_iload Ra dX12_tells_43 hL4 ?_
      refine r_bipush Ra dX12_tells_45 rfl ?_
      refine r_irem Ra dX12_tells_47 (Rk rfl) (by decide) ?_
      refine r_iload Ra dX12_tells_48 hL4 ?_
      refine r_bipush Ra dX12_tells_50 rfl ?_
      refine r_irem Ra dX12_tells_52 (Rk rfl) (by decide) ?_
      refine r_bipush Ra dX12_tells_53 rfl ?_
      refine r_idiv Ra dX12_tells_55 (Rk rfl) (by decide) ?_
      obtain ⟨r56, hr56, h⟩ := bd h
      refine q_callVI Ra (c_pM_isCell hV (inR_32 _) (inR_32 _) hr56) mw_X12_isCell mi_X12_isCell t475 rfl rfl rfl rfl rfl k_X12_437 rfl rfl dX12_tells_56 (fun ok56 => ?_)
      refine r_if_ne Ra 65 dX12_tells_59 (inR_01 ok56) rfl (fun hc => ?_) (fun hc => ?_)
      · replace h := ineg hc h
        refine r_aload_n Ra (i := 0) dX12_tells_65 rfl hL0 ?_
        refine r_iload Ra dX12_tells_66 hL4 ?_
        obtain ⟨⟨r68, m68⟩, hr68, h⟩ := bd h
        refine q_callVI Ra (c_pM_mostBy hV hx4 hr68) mw_X12_mostBy mi_X12_mostBy t475 rfl rfl rfl rfl rfl k_X12_487 rfl rfl dX12_tells_68 (fun ok68 => ?_)
        obtain ⟨hV68, ok68⟩ := ok68
        refine q_istore Ra dX12_tells_71 rfl rfl ?_
        refine r_iload Ra dX12_tells_73 rfl ?_
        refine r_iload_n Ra (i := 3) dX12_tells_75 rfl hL3 ?_
        refine r_icmp_lt Ra 82 dX12_tells_76 ok68 hx3 rfl (fun hc => ?_) (fun hc => ?_)
        · replace h := ipos hc h
          refine r_iload Ra dX12_tells_82 rfl ?_
          refine q_istore_n Ra 3 dX12_tells_84 rfl rfl rfl ?_
          refine r_iload Ra dX12_tells_85 hL4 ?_
          refine q_istore_n Ra 2 dX12_tells_87 rfl rfl rfl ?_
          obtain ⟨x4_88, ex4_88, h⟩ := bv h
          have ix4_88 : inR x4_88 := eqR ex4_88 (inR_32 _)
          refine q_iinc Ra dX12_tells_88 hL4 ex4_88 ?_
          refine r_goto Ra 34 dX12_tells_91 rfl ?_
          exact ih x4 r68 x4_88 m68 _ h hx4 ok68 ix4_88 hV68 hL0 hL1 rfl rfl rfl
        · replace h := ineg hc h
          refine r_goto Ra 88 dX12_tells_79 rfl ?_
          obtain ⟨x4_88, ex4_88, h⟩ := bv h
          have ix4_88 : inR x4_88 := eqR ex4_88 (inR_32 _)
          refine q_iinc Ra dX12_tells_88 hL4 ex4_88 ?_
          refine r_goto Ra 34 dX12_tells_91 rfl ?_
          exact ih x2 x3 x4_88 m68 _ h hx2 hx3 ix4_88 hV68 hL0 hL1 hL2 hL3 rfl
      · replace h := ipos hc h
        refine r_goto Ra 88 dX12_tells_62 rfl ?_
        obtain ⟨x4_88, ex4_88, h⟩ := bv h
        have ix4_88 : inR x4_88 := eqR ex4_88 (inR_32 _)
        refine q_iinc Ra dX12_tells_88 hL4 ex4_88 ?_
        refine r_goto Ra 34 dX12_tells_91 rfl ?_
        exact ih x2 x3 x4_88 μ _ h hx2 hx3 ix4_88 hV hL0 hL1 hL2 hL3 rfl
set_option maxHeartbeats 4000000 in
theorem c_pM_tells {l : Launch} {en : En} {N : Nat} {μ : Mem} {x1 : Int} {re : Int} {μe : Mem} (hV : VT μ) (hx1 : inR x1) (h : pM_tells N μ x1 = some (re, μe)) : CtI l en yX12_tells cX12_tells 6 7 234 [vA en 475, vI x1] μ .int re μe (VT μe ∧ inR re) := by
  refine Tr.of false (fun h => by cases h) (by decide) (Nat.le_of_ble_eq_true rfl) (fun K Ra => ?_)
  unfold pM_tells at h
  refine r_aload_n Ra (i := 0) dX12_tells_0 rfl rfl ?_
  refine q_getZ Ra (x := μ 475 41) f_X12_138 t475 rfl rfl rfl rfl dX12_tells_1 ?_
  refine r_if_eq Ra 23 dX12_tells_4 (inR_01 (hV.bool t475 rfl)) rfl (fun hc => ?_) (fun hc => ?_)
  · replace h := ipos hc h
    refine r_iconst Ra dX12_tells_23 ?_
    cases h
    exact r_iret Ra ⟨hV, (Rk rfl)⟩ dX12_tells_24
  · replace h := ineg hc h
    refine r_iload_n Ra (i := 1) dX12_tells_7 rfl rfl ?_
    refine r_iconst Ra dX12_tells_8 ?_
    refine r_iconst Ra dX12_tells_9 ?_
    obtain ⟨r10, hr10, h⟩ := bd h
    refine q_callSI Ra (c_pM_is hV hx1 (Rk rfl) (Rk rfl) hr10) mw_X12_is ms_X12_is rfl rfl k_X12_323 rfl rfl dX12_tells_10 (fun ok10 => ?_)
    refine r_if_eq Ra 23 dX12_tells_13 (inR_01 ok10) rfl (fun hc => ?_) (fun hc => ?_)
    · replace h := ipos hc h
      refine r_iconst Ra dX12_tells_23 ?_
      cases h
      exact r_iret Ra ⟨hV, (Rk rfl)⟩ dX12_tells_24
    · replace h := ineg hc h
      refine r_aload_n Ra (i := 0) dX12_tells_16 rfl rfl ?_
      obtain ⟨⟨r17, m17⟩, hr17, h⟩ := bd h
      refine q_callVI Ra (c_pM_leaves hV hr17) mw_X12_leaves mi_X12_leaves t475 rfl rfl rfl rfl rfl k_X12_483 rfl rfl dX12_tells_17 (fun ok17 => ?_)
      obtain ⟨hV17, ok17⟩ := ok17
      refine r_if_ne Ra 25 dX12_tells_20 ok17 rfl (fun hc => ?_) (fun hc => ?_)
      · replace h := ineg hc h
        refine r_iconst Ra dX12_tells_25 ?_
        refine q_istore_n Ra 2 dX12_tells_26 rfl rfl rfl ?_
        refine q_ldcw Ra dX12_tells_27 kc_X12_486 ?_
        refine q_istore_n Ra 3 dX12_tells_30 rfl rfl rfl ?_
        refine r_iconst Ra dX12_tells_31 ?_
        refine q_istore Ra dX12_tells_32 rfl rfl ?_
        refine k_pM_tells_L34 Ra hx1 ?_ _ _ _ _ _ _ h (Rk rfl) (Rk rfl) (Rk rfl) hV17 rfl rfl rfl rfl rfl
        intro z2_94 z3_94 n94 h iz2_94 iz3_94 hn94 L9 f94_1 f94_2 f94_3
        refine r_iload_n Ra (i := 1) dX12_tells_94 rfl f94_1 ?_
        refine r_if_ne Ra 105 dX12_tells_95 hx1 rfl (fun hc => ?_) (fun hc => ?_)
        · replace h := ineg hc h
          refine r_iload_n Ra (i := 1) dX12_tells_105 rfl f94_1 ?_
          refine r_iconst Ra dX12_tells_106 ?_
          refine r_icmp_ne Ra 117 dX12_tells_107 hx1 (Rk rfl) rfl (fun hc => ?_) (fun hc => ?_)
          · replace h := ineg hc h
            refine r_iload_n Ra (i := 1) dX12_tells_117 rfl f94_1 ?_
            refine r_iconst Ra dX12_tells_118 ?_
            refine r_icmp_ne Ra 132 dX12_tells_119 hx1 (Rk rfl) rfl (fun hc => ?_) (fun hc => ?_)
            · replace h := ineg hc h
              refine r_iload_n Ra (i := 3) dX12_tells_132 rfl f94_3 ?_
              cases h
              exact r_iret Ra ⟨hn94, iz3_94⟩ dX12_tells_133
            · replace h := ipos hc h
              refine r_iload_n Ra (i := 2) dX12_tells_122 rfl f94_2 ?_
              refine r_bipush Ra dX12_tells_123 rfl ?_
              refine r_irem Ra dX12_tells_125 (Rk rfl) (by decide) ?_
              refine r_bipush Ra dX12_tells_126 rfl ?_
              refine r_idiv Ra dX12_tells_128 (Rk rfl) (by decide) ?_
              refine r_goto Ra 133 dX12_tells_129 rfl ?_
              cases h
              exact r_iret Ra ⟨hn94, (inR_32 _)⟩ dX12_tells_133
          · replace h := ipos hc h
            refine r_iload_n Ra (i := 2) dX12_tells_110 rfl f94_2 ?_
            refine r_bipush Ra dX12_tells_111 rfl ?_
            refine r_irem Ra dX12_tells_113 (Rk rfl) (by decide) ?_
            refine r_goto Ra 133 dX12_tells_114 rfl ?_
            cases h
            exact r_iret Ra ⟨hn94, (inR_32 _)⟩ dX12_tells_133
        · replace h := ipos hc h
          refine r_iload_n Ra (i := 2) dX12_tells_98 rfl f94_2 ?_
          refine r_bipush Ra dX12_tells_99 rfl ?_
          refine r_idiv Ra dX12_tells_101 (Rk rfl) (by decide) ?_
          refine r_goto Ra 133 dX12_tells_102 rfl ?_
          cases h
          exact r_iret Ra ⟨hn94, (inR_32 _)⟩ dX12_tells_133
      · replace h := ipos hc h
        refine r_iconst Ra dX12_tells_23 ?_
        cases h
        exact r_iret Ra ⟨hV17, (Rk rfl)⟩ dX12_tells_24
noncomputable def pM_days_L25b (N : Nat) (c1 : Int) (k : Int → Mem → Option (Int × Mem)) (self : Int → Int → Mem → Option (Int × Mem)) (x2 : Int) (x3 : Int) (μ : Mem) : Option (Int × Mem) := if x3 < c1 then (pM_passes N μ 0 1).bind fun (r34, m34) => (some (w32 (x2 + r34) : Int)).bind fun x2_38 => (some (w32 (x3 + 1) : Int)).bind fun x3_39 => self x2_38 x3_39 m34 else k x2 μ
noncomputable def pM_days_L25 (N : Nat) (c1 : Int) (k : Int → Mem → Option (Int × Mem)) (n : Nat) : Int → Int → Mem → Option (Int × Mem) := lpF (fun _ _ _ => none) (pM_days_L25b N c1 k) n
noncomputable def pM_days (N : Nat) (μ : Mem) (x1 : Int) : Option (Int × Mem) := (pM_isAhead μ x1 1 40).bind fun r5 => if r5 = 0 then (pM_refuses μ 2).bind fun (r13, m13) => some (r13, m13) else (pM_keeps N μ).bind fun m18 => pM_days_L25 N x1 (fun z2_45 n45 => some (z2_45, n45)) N 0 0 m18
theorem k_pM_days_L25 {l : Launch} {en : En} {re : Int} {μe : Mem} {N : Nat} {c1 : Int} {k : Int → Mem → Option (Int × Mem)} {K : KT} (Ra : Ru false (some (some .int, some (vI re), nCells, μe, 0, 0, (VT μe ∧ inR re))) l en cX12_days yX12_days.cls 4 (rmN 7 235) K) (hi1 : inR c1) (hk : ∀ (z2 : Int) (μ9 : Mem), k z2 μ9 = some (re, μe) → inR z2 → VT μ9 → ∀ L9 : Lo, L9 2 = some (vI z2) → K ZN 45 L9 [] μ9) : ∀ (n : Nat) (x2 : Int) (x3 : Int) (μ : Mem) (L : Lo), pM_days_L25 N c1 k n x2 x3 μ = some (re, μe) → inR x2 → inR x3 → VT μ → L 0 = some (vA en 475) → L 1 = some (vI c1) → L 2 = some (vI x2) → L 3 = some (vI x3) → K ZN 25 L [] μ := by
  intro n
  induction n with
  | zero => intro x2 x3 μ L h; cases h
  | succ n ih =>
    intro x2 x3 μ L h hx2 hx3 hV hL0 hL1 hL2 hL3
    replace h : pM_days_L25b N c1 k (pM_days_L25 N c1 k n) x2 x3 μ = some (re, μe) := h
    unfold pM_days_L25b at h
    refine r_iload_n Ra (i := 3) dX12_days_25 rfl hL3 ?_
    refine r_iload_n Ra (i := 1) dX12_days_26 rfl hL1 ?_
    refine r_icmp_ge Ra 45 dX12_days_27 hx3 hi1 rfl (fun hc => ?_) (fun hc => ?_)
    · replace h := ineg hc h
      exact hk x2 μ h hx2 hV _ hL2
    · replace h := ipos hc h
      refine r_iload_n Ra (i := 2) dX12_days_30 rfl hL2 ?_
      refine r_aload_n Ra (i := 0) dX12_days_31 rfl hL0 ?_
      refine r_iconst Ra dX12_days_32 ?_
      refine r_iconst Ra dX12_days_33 ?_
      obtain ⟨⟨r34, m34⟩, hr34, h⟩ := bd h
      refine q_callVI Ra (c_pM_passes hV (Rk rfl) (Rk rfl) hr34) mw_X12_passes mi_X12_passes t475 rfl rfl rfl rfl rfl k_X12_474 rfl rfl dX12_days_34 (fun ok34 => ?_)
      obtain ⟨hV34, ok34⟩ := ok34
      refine r_iadd Ra dX12_days_37 ?_
      obtain ⟨x2_38, ex2_38, h⟩ := bv h
      have ix2_38 : inR x2_38 := eqR ex2_38 (inR_32 _)
      refine q_istore_n Ra 2 dX12_days_38 rfl rfl ex2_38 ?_
      obtain ⟨x3_39, ex3_39, h⟩ := bv h
      have ix3_39 : inR x3_39 := eqR ex3_39 (inR_32 _)
      refine q_iinc Ra dX12_days_39 hL3 ex3_39 ?_
      refine r_goto Ra 25 dX12_days_42 rfl ?_
      exact ih x2_38 x3_39 m34 _ h ix2_38 ix3_39 hV34 hL0 hL1 rfl rfl
set_option maxHeartbeats 4000000 in
theorem c_pM_days {l : Launch} {en : En} {N : Nat} {μ : Mem} {x1 : Int} {re : Int} {μe : Mem} (hV : VT μ) (hx1 : inR x1) (h : pM_days N μ x1 = some (re, μe)) : CtI l en yX12_days cX12_days 4 7 235 [vA en 475, vI x1] μ .int re μe (VT μe ∧ inR re) := by
  refine Tr.of false (fun h => by cases h) (by decide) (Nat.le_of_ble_eq_true rfl) (fun K Ra => ?_)
  unfold pM_days at h
  refine r_aload_n Ra (i := 0) dX12_days_0 rfl rfl ?_
  refine r_iload_n Ra (i := 1) dX12_days_1 rfl rfl ?_
  refine r_iconst Ra dX12_days_2 ?_
  refine r_bipush Ra dX12_days_3 rfl ?_
  obtain ⟨r5, hr5, h⟩ := bd h
  refine q_callVI Ra (c_pM_isAhead hV hx1 (Rk rfl) (Rk rfl) hr5) mw_X12_isAhead mi_X12_isAhead t475 rfl rfl rfl rfl rfl k_X12_477 rfl rfl dX12_days_5 (fun ok5 => ?_)
  refine r_if_ne Ra 17 dX12_days_8 (inR_01 ok5) rfl (fun hc => ?_) (fun hc => ?_)
  · replace h := ineg hc h
    refine r_aload_n Ra (i := 0) dX12_days_17 rfl rfl ?_
    obtain ⟨m18, hr18, h⟩ := bd h
    refine q_callVV Ra (c_pM_keeps hV hr18) mw_X12_keeps mi_X12_keeps t475 rfl rfl rfl rfl rfl k_X12_490 rfl rfl dX12_days_18 (fun ok18 => ?_)
    refine r_iconst Ra dX12_days_21 ?_
    refine q_istore_n Ra 2 dX12_days_22 rfl rfl rfl ?_
    refine r_iconst Ra dX12_days_23 ?_
    refine q_istore_n Ra 3 dX12_days_24 rfl rfl rfl ?_
    refine k_pM_days_L25 Ra hx1 ?_ _ _ _ _ _ h (Rk rfl) (Rk rfl) ok18 rfl rfl rfl rfl
    intro z2_45 n45 h iz2_45 hn45 L9 f45_2
    refine r_iload_n Ra (i := 2) dX12_days_45 rfl f45_2 ?_
    cases h
    exact r_iret Ra ⟨hn45, iz2_45⟩ dX12_days_46
  · replace h := ipos hc h
    refine r_aload_n Ra (i := 0) dX12_days_11 rfl rfl ?_
    refine r_iconst Ra dX12_days_12 ?_
    obtain ⟨⟨r13, m13⟩, hr13, h⟩ := bd h
    refine q_callVI Ra (c_pM_refuses hV (Rk rfl) hr13) mw_X12_refuses mi_X12_refuses t475 rfl rfl rfl rfl rfl k_X12_247 rfl rfl dX12_days_13 (fun ok13 => ?_)
    obtain ⟨hV13, ok13⟩ := ok13
    cases h
    exact r_iret Ra ⟨hV13, ok13⟩ dX12_days_16
noncomputable def pM_draw (μ : Mem) (x1 : Int) : Option (Int × Mem) := (some (mset μ 475 53 (r64 (w64 ((w64 (1103515245 * (μ 475 53))) + 12345)) 2147483648))).bind fun m17 => if x1 ≠ 0 then some (w32 (r64 (d64 (m17 475 53) 64) x1), m17) else none
set_option maxHeartbeats 4000000 in
theorem c_pM_draw {l : Launch} {en : En} {μ : Mem} {x1 : Int} {re : Int} {μe : Mem} (hV : VT μ) (hx1 : inR x1) (h : pM_draw μ x1 = some (re, μe)) : CtI l en yX12_draw cX12_draw 2 0 60 [vA en 475, vI x1] μ .int re μe (VT μe ∧ inR re) := by
  refine Tr.of false (fun h => by cases h) (by decide) (Nat.le_of_ble_eq_true rfl) (fun K Ra => ?_)
  unfold pM_draw at h
  refine r_aload_n Ra (i := 0) dX12_draw_0 rfl rfl ?_
  refine r_ldc2 Ra dX12_draw_1 kc_X12_493 ?_
  refine r_aload_n Ra (i := 0) dX12_draw_4 rfl rfl ?_
  refine q_getJ Ra (x := μ 475 53) f_X12_174 t475 rfl rfl rfl rfl dX12_draw_5 ?_
  refine r_lmul Ra dX12_draw_8 ?_
  refine r_ldc2 Ra dX12_draw_9 kc_X12_495 ?_
  refine r_ladd Ra dX12_draw_12 ?_
  refine r_ldc2 Ra dX12_draw_13 kc_X12_497 ?_
  refine r_lrem Ra dX12_draw_16 (Lk rfl) (by decide) ?_
  obtain ⟨m17, em17, h⟩ := bv h
  have hm17 : VT m17 := eqV em17 (hV.setJ t475 rfl (inL_64 _))
  refine q_putJ Ra f_X12_174 p_X12_53 t475 rfl rfl rfl em17 dX12_draw_17 ?_
  refine r_aload_n Ra (i := 0) dX12_draw_20 rfl rfl ?_
  refine q_getJ Ra (x := m17 475 53) f_X12_174 t475 rfl rfl rfl rfl dX12_draw_21 ?_
  refine r_ldc2 Ra dX12_draw_24 kc_X12_499 ?_
  refine r_ldiv Ra dX12_draw_27 (Lk rfl) (by decide) ?_
  refine r_iload_n Ra (i := 1) dX12_draw_28 rfl rfl ?_
  refine r_i2l Ra dX12_draw_29 hx1 ?_
  obtain ⟨gu30, h⟩ := gd h
  refine r_lrem Ra dX12_draw_30 (inL_of hx1) gu30 ?_
  refine r_l2i Ra dX12_draw_31 ?_
  cases h
  exact r_iret Ra ⟨hm17, (inR_32 _)⟩ dX12_draw_32
noncomputable def pM_chance_L25b (N : Nat) (c1 : Int) (k : Int → Mem → Option (Int × Mem)) (self : Int → Int → Mem → Option (Int × Mem)) (x2 : Int) (x3 : Int) (μ : Mem) : Option (Int × Mem) := if x3 < c1 then (pM_draw μ 100).bind fun (r33, m33) => if 0 ≤ m33 475 13 ∧ m33 475 13 < 2 then (some (if r33 < m33 485 (m33 475 13) then 1 else 0 : Int)).bind fun ys0_53 => (some (if ys0_53 = 0 then 0 else 1 : Int)).bind fun ys1_66 => (some (w32 (x2 + ys1_66) : Int)).bind fun x2_67 => (some (if ys0_53 = 0 then 1 else 2 : Int)).bind fun ys2_80 => (pM_passes N m33 0 ys2_80).bind fun (r80, m80) => (some (w32 (x3 + 1) : Int)).bind fun x3_84 => self x2_67 x3_84 m80 else none else k x2 μ
noncomputable def pM_chance_L25 (N : Nat) (c1 : Int) (k : Int → Mem → Option (Int × Mem)) (n : Nat) : Int → Int → Mem → Option (Int × Mem) := lpF (fun _ _ _ => none) (pM_chance_L25b N c1 k) n
noncomputable def pM_chance (N : Nat) (μ : Mem) (x1 : Int) : Option (Int × Mem) := (pM_isAhead μ x1 1 40).bind fun r5 => if r5 = 0 then (pM_refuses μ 2).bind fun (r13, m13) => some (r13, m13) else (pM_keeps N μ).bind fun m18 => pM_chance_L25 N x1 (fun z2_90 n90 => some (z2_90, n90)) N 0 0 m18
theorem k_pM_chance_L25 {l : Launch} {en : En} {re : Int} {μe : Mem} {N : Nat} {c1 : Int} {k : Int → Mem → Option (Int × Mem)} {K : KT} (Ra : Ru false (some (some .int, some (vI re), nCells, μe, 0, 0, (VT μe ∧ inR re))) l en cX12_chance yX12_chance.cls 5 (rmN 7 235) K) (hi1 : inR c1) (hk : ∀ (z2 : Int) (μ9 : Mem), k z2 μ9 = some (re, μe) → inR z2 → VT μ9 → ∀ L9 : Lo, L9 2 = some (vI z2) → K ZN 90 L9 [] μ9) : ∀ (n : Nat) (x2 : Int) (x3 : Int) (μ : Mem) (L : Lo), pM_chance_L25 N c1 k n x2 x3 μ = some (re, μe) → inR x2 → inR x3 → VT μ → L 0 = some (vA en 475) → L 1 = some (vI c1) → L 2 = some (vI x2) → L 3 = some (vI x3) → K ZN 25 L [] μ := by
  intro n
  induction n with
  | zero => intro x2 x3 μ L h; cases h
  | succ n ih =>
    intro x2 x3 μ L h hx2 hx3 hV hL0 hL1 hL2 hL3
    replace h : pM_chance_L25b N c1 k (pM_chance_L25 N c1 k n) x2 x3 μ = some (re, μe) := h
    unfold pM_chance_L25b at h
    refine r_iload_n Ra (i := 3) dX12_chance_25 rfl hL3 ?_
    refine r_iload_n Ra (i := 1) dX12_chance_26 rfl hL1 ?_
    refine r_icmp_ge Ra 90 dX12_chance_27 hx3 hi1 rfl (fun hc => ?_) (fun hc => ?_)
    · replace h := ineg hc h
      exact hk x2 μ h hx2 hV _ hL2
    · replace h := ipos hc h
      refine r_aload_n Ra (i := 0) dX12_chance_30 rfl hL0 ?_
      refine r_bipush Ra dX12_chance_31 rfl ?_
      obtain ⟨⟨r33, m33⟩, hr33, h⟩ := bd h
      refine q_callVI Ra (c_pM_draw hV (Rk rfl) hr33) mw_X12_draw mi_X12_draw t475 rfl rfl rfl rfl rfl k_X12_501 rfl rfl dX12_chance_33 (fun ok33 => ?_)
      obtain ⟨hV33, ok33⟩ := ok33
      refine r_aload_n Ra (i := 0) dX12_chance_36 rfl hL0 ?_
      refine q_getA Ra (b := 485) f_X12_78 t475 rfl rfl rfl (hV33.ref t475 rfl (by decide)) (by decide) dX12_chance_37 ?_
      refine r_aload_n Ra (i := 0) dX12_chance_40 rfl hL0 ?_
      refine q_getI Ra (x := m33 475 13) f_X12_51 t475 rfl rfl rfl rfl dX12_chance_41 ?_
      obtain ⟨gu44, h⟩ := gd h
      refine q_iald Ra t485 l485 gu44 dX12_chance_44 ?_
      obtain ⟨ys0_53, eys0_53, h⟩ := bv h
      have hJ : inR ys0_53 → (ys0_53 = 0 ∨ ys0_53 = 1) → ∀ L9 : Lo, L9 0 = some (vA en 475) → L9 1 = some (vI c1) → L9 2 = some (vI x2) → L9 3 = some (vI x3) → K ZN 53 L9 [vI ys0_53] m33 := by
        intro iys0_53 bys0_53 L9 f53_0 f53_1 f53_2 f53_3
        refine q_istore Ra dX12_chance_53 rfl rfl ?_
        refine r_iload_n Ra (i := 2) dX12_chance_55 rfl f53_2 ?_
        refine r_iload Ra dX12_chance_56 rfl ?_
        obtain ⟨ys1_66, eys1_66, h⟩ := bv h
        have hJ : inR ys1_66 → (ys1_66 = 0 ∨ ys1_66 = 1) → ∀ L9 : Lo, L9 0 = some (vA en 475) → L9 1 = some (vI c1) → L9 3 = some (vI x3) → L9 4 = some (vI ys0_53) → K ZN 66 L9 [vI ys1_66, vI x2] m33 := by
          intro iys1_66 bys1_66 L9 f66_0 f66_1 f66_3 f66_4
          refine r_iadd Ra dX12_chance_66 ?_
          obtain ⟨x2_67, ex2_67, h⟩ := bv h
          have ix2_67 : inR x2_67 := eqR ex2_67 (inR_32 _)
          refine q_istore_n Ra 2 dX12_chance_67 rfl rfl ex2_67 ?_
          refine r_aload_n Ra (i := 0) dX12_chance_68 rfl f66_0 ?_
          refine r_iconst Ra dX12_chance_69 ?_
          refine r_iload Ra dX12_chance_70 f66_4 ?_
          obtain ⟨ys2_80, eys2_80, h⟩ := bv h
          have hJ : inR ys2_80 → ∀ L9 : Lo, L9 0 = some (vA en 475) → L9 1 = some (vI c1) → L9 2 = some (vI x2_67) → L9 3 = some (vI x3) → K ZN 80 L9 [vI ys2_80, vI 0, vA en 475] m33 := by
            intro iys2_80 L9 f80_0 f80_1 f80_2 f80_3
            obtain ⟨⟨r80, m80⟩, hr80, h⟩ := bd h
            refine q_callVI Ra (c_pM_passes hV33 (Rk rfl) iys2_80 hr80) mw_X12_passes mi_X12_passes t475 rfl rfl rfl rfl rfl k_X12_474 rfl rfl dX12_chance_80 (fun ok80 => ?_)
            obtain ⟨hV80, ok80⟩ := ok80
            refine r_popI Ra dX12_chance_83 ?_
            obtain ⟨x3_84, ex3_84, h⟩ := bv h
            have ix3_84 : inR x3_84 := eqR ex3_84 (inR_32 _)
            refine q_iinc Ra dX12_chance_84 f80_3 ex3_84 ?_
            refine r_goto Ra 25 dX12_chance_87 rfl ?_
            exact ih x2_67 x3_84 m80 _ h ix2_67 ix3_84 hV80 f80_0 f80_1 f80_2 rfl
          refine r_if_eq Ra 79 dX12_chance_72 iys0_53 rfl (fun hc => ?_) (fun hc => ?_)
          · replace eys2_80 := eys2_80.trans (if_pos hc)
            refine r_iconst Ra dX12_chance_79 ?_
            subst eys2_80
            exact hJ (Rk rfl) _ f66_0 f66_1 rfl f66_3
          · replace eys2_80 := eys2_80.trans (if_neg hc)
            refine r_iconst Ra dX12_chance_75 ?_
            refine r_goto Ra 80 dX12_chance_76 rfl ?_
            subst eys2_80
            exact hJ (Rk rfl) _ f66_0 f66_1 rfl f66_3
        refine r_if_eq Ra 65 dX12_chance_58 iys0_53 rfl (fun hc => ?_) (fun hc => ?_)
        · replace eys1_66 := eys1_66.trans (if_pos hc)
          refine r_iconst Ra dX12_chance_65 ?_
          subst eys1_66
          exact hJ (Rk rfl) (Or.inl rfl) _ f53_0 f53_1 f53_3 rfl
        · replace eys1_66 := eys1_66.trans (if_neg hc)
          refine r_iconst Ra dX12_chance_61 ?_
          refine r_goto Ra 66 dX12_chance_62 rfl ?_
          subst eys1_66
          exact hJ (Rk rfl) (Or.inr rfl) _ f53_0 f53_1 f53_3 rfl
      refine r_icmp_ge Ra 52 dX12_chance_45 ok33 (hV33.int t485 (kd20 _)) rfl (fun hc => ?_) (fun hc => ?_)
      · replace eys0_53 := eys0_53.trans (if_neg hc)
        refine r_iconst Ra dX12_chance_52 ?_
        subst eys0_53
        exact hJ (Rk rfl) (Or.inl rfl) _ hL0 hL1 hL2 hL3
      · replace eys0_53 := eys0_53.trans (if_pos hc)
        refine r_iconst Ra dX12_chance_48 ?_
        refine r_goto Ra 53 dX12_chance_49 rfl ?_
        subst eys0_53
        exact hJ (Rk rfl) (Or.inr rfl) _ hL0 hL1 hL2 hL3
set_option maxHeartbeats 4000000 in
theorem c_pM_chance {l : Launch} {en : En} {N : Nat} {μ : Mem} {x1 : Int} {re : Int} {μe : Mem} (hV : VT μ) (hx1 : inR x1) (h : pM_chance N μ x1 = some (re, μe)) : CtI l en yX12_chance cX12_chance 5 7 235 [vA en 475, vI x1] μ .int re μe (VT μe ∧ inR re) := by
  refine Tr.of false (fun h => by cases h) (by decide) (Nat.le_of_ble_eq_true rfl) (fun K Ra => ?_)
  unfold pM_chance at h
  refine r_aload_n Ra (i := 0) dX12_chance_0 rfl rfl ?_
  refine r_iload_n Ra (i := 1) dX12_chance_1 rfl rfl ?_
  refine r_iconst Ra dX12_chance_2 ?_
  refine r_bipush Ra dX12_chance_3 rfl ?_
  obtain ⟨r5, hr5, h⟩ := bd h
  refine q_callVI Ra (c_pM_isAhead hV hx1 (Rk rfl) (Rk rfl) hr5) mw_X12_isAhead mi_X12_isAhead t475 rfl rfl rfl rfl rfl k_X12_477 rfl rfl dX12_chance_5 (fun ok5 => ?_)
  refine r_if_ne Ra 17 dX12_chance_8 (inR_01 ok5) rfl (fun hc => ?_) (fun hc => ?_)
  · replace h := ineg hc h
    refine r_aload_n Ra (i := 0) dX12_chance_17 rfl rfl ?_
    obtain ⟨m18, hr18, h⟩ := bd h
    refine q_callVV Ra (c_pM_keeps hV hr18) mw_X12_keeps mi_X12_keeps t475 rfl rfl rfl rfl rfl k_X12_490 rfl rfl dX12_chance_18 (fun ok18 => ?_)
    refine r_iconst Ra dX12_chance_21 ?_
    refine q_istore_n Ra 2 dX12_chance_22 rfl rfl rfl ?_
    refine r_iconst Ra dX12_chance_23 ?_
    refine q_istore_n Ra 3 dX12_chance_24 rfl rfl rfl ?_
    refine k_pM_chance_L25 Ra hx1 ?_ _ _ _ _ _ h (Rk rfl) (Rk rfl) ok18 rfl rfl rfl rfl
    intro z2_90 n90 h iz2_90 hn90 L9 f90_2
    refine r_iload_n Ra (i := 2) dX12_chance_90 rfl f90_2 ?_
    cases h
    exact r_iret Ra ⟨hn90, iz2_90⟩ dX12_chance_91
  · replace h := ipos hc h
    refine r_aload_n Ra (i := 0) dX12_chance_11 rfl rfl ?_
    refine r_iconst Ra dX12_chance_12 ?_
    obtain ⟨⟨r13, m13⟩, hr13, h⟩ := bd h
    refine q_callVI Ra (c_pM_refuses hV (Rk rfl) hr13) mw_X12_refuses mi_X12_refuses t475 rfl rfl rfl rfl rfl k_X12_247 rfl rfl dX12_chance_13 (fun ok13 => ?_)
    obtain ⟨hV13, ok13⟩ := ok13
    cases h
    exact r_iret Ra ⟨hV13, ok13⟩ dX12_chance_16
noncomputable def pM_rise (N : Nat) (μ : Mem) (x1 : Int) (x2 : Int) : Option (Int × Mem) := (pM_isPerson μ x1).bind fun r2 => jn (α := Unit → Option (Int × Mem)) (fun (_ : Unit) => (pM_refuses μ 3).bind fun (r30, m30) => if r30 < 0 then some (0, m30) else some (1, m30)) (fun (j28 : Unit → Option (Int × Mem)) => if r2 = 0 then j28 () else (pM_is μ x2 0 8).bind fun r12 => if r12 = 0 then j28 () else if 0 ≤ x1 ∧ x1 < 132 then if μ 501 x1 = x2 then j28 () else (pM_keeps N μ).bind fun m43 => if 0 ≤ x1 ∧ x1 < 132 then (some (mset m43 501 x1 x2)).bind fun m52 => some (1, m52) else none else none)
set_option maxHeartbeats 4000000 in
theorem c_pM_rise {l : Launch} {en : En} {N : Nat} {μ : Mem} {x1 : Int} {x2 : Int} {re : Int} {μe : Mem} (hV : VT μ) (hx1 : inR x1) (hx2 : inR x2) (h : pM_rise N μ x1 x2 = some (re, μe)) : CtI l en yX12_rise cX12_rise 3 2 103 [vA en 475, vI x1, vI x2] μ .boolean re μe (VT μe ∧ (re = 0 ∨ re = 1)) := by
  refine Tr.of false (fun h => by cases h) (by decide) (Nat.le_of_ble_eq_true rfl) (fun K Ra => ?_)
  unfold pM_rise at h
  refine r_aload_n Ra (i := 0) dX12_rise_0 rfl rfl ?_
  refine r_iload_n Ra (i := 1) dX12_rise_1 rfl rfl ?_
  obtain ⟨r2, hr2, h⟩ := bd h
  refine q_callVI Ra (c_pM_isPerson hV hx1 hr2) mw_X12_isPerson mi_X12_isPerson t475 rfl rfl rfl rfl rfl k_X12_469 rfl rfl dX12_rise_2 (fun ok2 => ?_)
  obtain ⟨j28, ej28, h⟩ := jn_elim h
  have hJ28 : j28 () = some (re, μe) → ∀ L9 : Lo, L9 0 = some (vA en 475) → K ZN 28 L9 [] μ := by
    intro h L9 f28_0
    rw [ej28] at h
    refine r_aload_n Ra (i := 0) dX12_rise_28 rfl f28_0 ?_
    refine r_iconst Ra dX12_rise_29 ?_
    obtain ⟨⟨r30, m30⟩, hr30, h⟩ := bd h
    refine q_callVI Ra (c_pM_refuses hV (Rk rfl) hr30) mw_X12_refuses mi_X12_refuses t475 rfl rfl rfl rfl rfl k_X12_247 rfl rfl dX12_rise_30 (fun ok30 => ?_)
    obtain ⟨hV30, ok30⟩ := ok30
    refine r_if_lt Ra 40 dX12_rise_33 ok30 rfl (fun hc => ?_) (fun hc => ?_)
    · replace h := ipos hc h
      refine r_iconst Ra dX12_rise_40 ?_
      cases h
      exact r_zret Ra (Or.inl rfl) ⟨hV30, (Or.inl rfl)⟩ dX12_rise_41
    · replace h := ineg hc h
      refine r_iconst Ra dX12_rise_36 ?_
      refine r_goto Ra 41 dX12_rise_37 rfl ?_
      cases h
      exact r_zret Ra (Or.inr rfl) ⟨hV30, (Or.inr rfl)⟩ dX12_rise_41
  refine r_if_eq Ra 28 dX12_rise_5 (inR_01 ok2) rfl (fun hc => ?_) (fun hc => ?_)
  · replace h := ipos hc h
    exact hJ28 h  _ rfl
  · replace h := ineg hc h
    refine r_iload_n Ra (i := 2) dX12_rise_8 rfl rfl ?_
    refine r_iconst Ra dX12_rise_9 ?_
    refine r_bipush Ra dX12_rise_10 rfl ?_
    obtain ⟨r12, hr12, h⟩ := bd h
    refine q_callSI Ra (c_pM_is hV hx2 (Rk rfl) (Rk rfl) hr12) mw_X12_is ms_X12_is rfl rfl k_X12_323 rfl rfl dX12_rise_12 (fun ok12 => ?_)
    refine r_if_eq Ra 28 dX12_rise_15 (inR_01 ok12) rfl (fun hc => ?_) (fun hc => ?_)
    · replace h := ipos hc h
      exact hJ28 h  _ rfl
    · replace h := ineg hc h
      refine r_aload_n Ra (i := 0) dX12_rise_18 rfl rfl ?_
      refine q_getA Ra (b := 501) f_X12_153 t475 rfl rfl rfl (hV.ref t475 rfl (by decide)) (by decide) dX12_rise_19 ?_
      refine r_iload_n Ra (i := 1) dX12_rise_22 rfl rfl ?_
      obtain ⟨gu23, h⟩ := gd h
      refine q_iald Ra t501 l501 gu23 dX12_rise_23 ?_
      refine r_iload_n Ra (i := 2) dX12_rise_24 rfl rfl ?_
      refine r_icmp_ne Ra 42 dX12_rise_25 (hV.int t501 (kd20 _)) hx2 rfl (fun hc => ?_) (fun hc => ?_)
      · replace h := ineg hc h
        refine r_aload_n Ra (i := 0) dX12_rise_42 rfl rfl ?_
        obtain ⟨m43, hr43, h⟩ := bd h
        refine q_callVV Ra (c_pM_keeps hV hr43) mw_X12_keeps mi_X12_keeps t475 rfl rfl rfl rfl rfl k_X12_490 rfl rfl dX12_rise_43 (fun ok43 => ?_)
        refine r_aload_n Ra (i := 0) dX12_rise_46 rfl rfl ?_
        refine q_getA Ra (b := 501) f_X12_153 t475 rfl rfl rfl (ok43.ref t475 rfl (by decide)) (by decide) dX12_rise_47 ?_
        refine r_iload_n Ra (i := 1) dX12_rise_50 rfl rfl ?_
        refine r_iload_n Ra (i := 2) dX12_rise_51 rfl rfl ?_
        obtain ⟨gu52, h⟩ := gd h
        obtain ⟨m52, em52, h⟩ := bv h
        have hm52 : VT m52 := eqV em52 (ok43.setI t501 (kd20 _) hx2)
        refine q_iast Ra t501 l501 gu52 em52 dX12_rise_52 ?_
        refine r_iconst Ra dX12_rise_53 ?_
        cases h
        exact r_zret Ra (Or.inr rfl) ⟨hm52, (Or.inr rfl)⟩ dX12_rise_54
      · replace h := ipos hc h
        exact hJ28 h  _ rfl
noncomputable def pM_move (N : Nat) (μ : Mem) (x1 : Int) (x2 : Int) (x3 : Int) : Option (Int × Mem) := (pM_isPerson μ x1).bind fun r2 => jn (α := Unit → Option (Int × Mem)) (fun (_ : Unit) => (pM_refuses μ 3).bind fun (r34, m34) => if r34 < 0 then some (0, m34) else some (1, m34)) (fun (j32 : Unit → Option (Int × Mem)) => if r2 = 0 then j32 () else (pM_isCell μ x2 x3).bind fun r11 => if r11 = 0 then j32 () else if 0 ≤ x1 ∧ x1 < 132 then if μ 500 x1 = w32 ((w32 (8 * x3)) + x2) then j32 () else (pM_keeps N μ).bind fun m47 => if 0 ≤ x1 ∧ x1 < 132 then (some (mset m47 500 x1 (w32 ((w32 (8 * x3)) + x2)))).bind fun m61 => some (1, m61) else none else none)
set_option maxHeartbeats 4000000 in
theorem c_pM_move {l : Launch} {en : En} {N : Nat} {μ : Mem} {x1 : Int} {x2 : Int} {x3 : Int} {re : Int} {μe : Mem} (hV : VT μ) (hx1 : inR x1) (hx2 : inR x2) (hx3 : inR x3) (h : pM_move N μ x1 x2 x3 = some (re, μe)) : CtI l en yX12_move cX12_move 4 2 104 [vA en 475, vI x1, vI x2, vI x3] μ .boolean re μe (VT μe ∧ (re = 0 ∨ re = 1)) := by
  refine Tr.of false (fun h => by cases h) (by decide) (Nat.le_of_ble_eq_true rfl) (fun K Ra => ?_)
  unfold pM_move at h
  refine r_aload_n Ra (i := 0) dX12_move_0 rfl rfl ?_
  refine r_iload_n Ra (i := 1) dX12_move_1 rfl rfl ?_
  obtain ⟨r2, hr2, h⟩ := bd h
  refine q_callVI Ra (c_pM_isPerson hV hx1 hr2) mw_X12_isPerson mi_X12_isPerson t475 rfl rfl rfl rfl rfl k_X12_469 rfl rfl dX12_move_2 (fun ok2 => ?_)
  obtain ⟨j32, ej32, h⟩ := jn_elim h
  have hJ32 : j32 () = some (re, μe) → ∀ L9 : Lo, L9 0 = some (vA en 475) → K ZN 32 L9 [] μ := by
    intro h L9 f32_0
    rw [ej32] at h
    refine r_aload_n Ra (i := 0) dX12_move_32 rfl f32_0 ?_
    refine r_iconst Ra dX12_move_33 ?_
    obtain ⟨⟨r34, m34⟩, hr34, h⟩ := bd h
    refine q_callVI Ra (c_pM_refuses hV (Rk rfl) hr34) mw_X12_refuses mi_X12_refuses t475 rfl rfl rfl rfl rfl k_X12_247 rfl rfl dX12_move_34 (fun ok34 => ?_)
    obtain ⟨hV34, ok34⟩ := ok34
    refine r_if_lt Ra 44 dX12_move_37 ok34 rfl (fun hc => ?_) (fun hc => ?_)
    · replace h := ipos hc h
      refine r_iconst Ra dX12_move_44 ?_
      cases h
      exact r_zret Ra (Or.inl rfl) ⟨hV34, (Or.inl rfl)⟩ dX12_move_45
    · replace h := ineg hc h
      refine r_iconst Ra dX12_move_40 ?_
      refine r_goto Ra 45 dX12_move_41 rfl ?_
      cases h
      exact r_zret Ra (Or.inr rfl) ⟨hV34, (Or.inr rfl)⟩ dX12_move_45
  refine r_if_eq Ra 32 dX12_move_5 (inR_01 ok2) rfl (fun hc => ?_) (fun hc => ?_)
  · replace h := ipos hc h
    exact hJ32 h  _ rfl
  · replace h := ineg hc h
    refine r_aload_n Ra (i := 0) dX12_move_8 rfl rfl ?_
    refine r_iload_n Ra (i := 2) dX12_move_9 rfl rfl ?_
    refine r_iload_n Ra (i := 3) dX12_move_10 rfl rfl ?_
    obtain ⟨r11, hr11, h⟩ := bd h
    refine q_callVI Ra (c_pM_isCell hV hx2 hx3 hr11) mw_X12_isCell mi_X12_isCell t475 rfl rfl rfl rfl rfl k_X12_437 rfl rfl dX12_move_11 (fun ok11 => ?_)
    refine r_if_eq Ra 32 dX12_move_14 (inR_01 ok11) rfl (fun hc => ?_) (fun hc => ?_)
    · replace h := ipos hc h
      exact hJ32 h  _ rfl
    · replace h := ineg hc h
      refine r_aload_n Ra (i := 0) dX12_move_17 rfl rfl ?_
      refine q_getA Ra (b := 500) f_X12_150 t475 rfl rfl rfl (hV.ref t475 rfl (by decide)) (by decide) dX12_move_18 ?_
      refine r_iload_n Ra (i := 1) dX12_move_21 rfl rfl ?_
      obtain ⟨gu22, h⟩ := gd h
      refine q_iald Ra t500 l500 gu22 dX12_move_22 ?_
      refine r_bipush Ra dX12_move_23 rfl ?_
      refine r_iload_n Ra (i := 3) dX12_move_25 rfl rfl ?_
      refine r_imul Ra dX12_move_26 ?_
      refine r_iload_n Ra (i := 2) dX12_move_27 rfl rfl ?_
      refine r_iadd Ra dX12_move_28 ?_
      refine r_icmp_ne Ra 46 dX12_move_29 (hV.int t500 (kd20 _)) (inR_32 _) rfl (fun hc => ?_) (fun hc => ?_)
      · replace h := ineg hc h
        refine r_aload_n Ra (i := 0) dX12_move_46 rfl rfl ?_
        obtain ⟨m47, hr47, h⟩ := bd h
        refine q_callVV Ra (c_pM_keeps hV hr47) mw_X12_keeps mi_X12_keeps t475 rfl rfl rfl rfl rfl k_X12_490 rfl rfl dX12_move_47 (fun ok47 => ?_)
        refine r_aload_n Ra (i := 0) dX12_move_50 rfl rfl ?_
        refine q_getA Ra (b := 500) f_X12_150 t475 rfl rfl rfl (ok47.ref t475 rfl (by decide)) (by decide) dX12_move_51 ?_
        refine r_iload_n Ra (i := 1) dX12_move_54 rfl rfl ?_
        refine r_bipush Ra dX12_move_55 rfl ?_
        refine r_iload_n Ra (i := 3) dX12_move_57 rfl rfl ?_
        refine r_imul Ra dX12_move_58 ?_
        refine r_iload_n Ra (i := 2) dX12_move_59 rfl rfl ?_
        refine r_iadd Ra dX12_move_60 ?_
        obtain ⟨gu61, h⟩ := gd h
        obtain ⟨m61, em61, h⟩ := bv h
        have hm61 : VT m61 := eqV em61 (ok47.setI t500 (kd20 _) (inR_32 _))
        refine q_iast Ra t500 l500 gu61 em61 dX12_move_61 ?_
        refine r_iconst Ra dX12_move_62 ?_
        cases h
        exact r_zret Ra (Or.inr rfl) ⟨hm61, (Or.inr rfl)⟩ dX12_move_63
      · replace h := ipos hc h
        exact hJ32 h  _ rfl
noncomputable def pM_weave (N : Nat) (μ : Mem) (x1 : Int) (x2 : Int) : Option (Int × Mem) := (pM_isPerson μ x1).bind fun r2 => jn (α := Unit → Option (Int × Mem)) (fun (_ : Unit) => (pM_refuses μ 3).bind fun (r30, m30) => if r30 < 0 then some (0, m30) else some (1, m30)) (fun (j28 : Unit → Option (Int × Mem)) => if r2 = 0 then j28 () else (pM_is μ x2 1 99).bind fun r12 => if r12 = 0 then j28 () else if 0 ≤ x1 ∧ x1 < 132 then if μ 502 x1 = x2 then j28 () else (pM_keeps N μ).bind fun m43 => if 0 ≤ x1 ∧ x1 < 132 then (some (mset m43 502 x1 x2)).bind fun m52 => some (1, m52) else none else none)
set_option maxHeartbeats 4000000 in
theorem c_pM_weave {l : Launch} {en : En} {N : Nat} {μ : Mem} {x1 : Int} {x2 : Int} {re : Int} {μe : Mem} (hV : VT μ) (hx1 : inR x1) (hx2 : inR x2) (h : pM_weave N μ x1 x2 = some (re, μe)) : CtI l en yX12_weave cX12_weave 3 2 103 [vA en 475, vI x1, vI x2] μ .boolean re μe (VT μe ∧ (re = 0 ∨ re = 1)) := by
  refine Tr.of false (fun h => by cases h) (by decide) (Nat.le_of_ble_eq_true rfl) (fun K Ra => ?_)
  unfold pM_weave at h
  refine r_aload_n Ra (i := 0) dX12_weave_0 rfl rfl ?_
  refine r_iload_n Ra (i := 1) dX12_weave_1 rfl rfl ?_
  obtain ⟨r2, hr2, h⟩ := bd h
  refine q_callVI Ra (c_pM_isPerson hV hx1 hr2) mw_X12_isPerson mi_X12_isPerson t475 rfl rfl rfl rfl rfl k_X12_469 rfl rfl dX12_weave_2 (fun ok2 => ?_)
  obtain ⟨j28, ej28, h⟩ := jn_elim h
  have hJ28 : j28 () = some (re, μe) → ∀ L9 : Lo, L9 0 = some (vA en 475) → K ZN 28 L9 [] μ := by
    intro h L9 f28_0
    rw [ej28] at h
    refine r_aload_n Ra (i := 0) dX12_weave_28 rfl f28_0 ?_
    refine r_iconst Ra dX12_weave_29 ?_
    obtain ⟨⟨r30, m30⟩, hr30, h⟩ := bd h
    refine q_callVI Ra (c_pM_refuses hV (Rk rfl) hr30) mw_X12_refuses mi_X12_refuses t475 rfl rfl rfl rfl rfl k_X12_247 rfl rfl dX12_weave_30 (fun ok30 => ?_)
    obtain ⟨hV30, ok30⟩ := ok30
    refine r_if_lt Ra 40 dX12_weave_33 ok30 rfl (fun hc => ?_) (fun hc => ?_)
    · replace h := ipos hc h
      refine r_iconst Ra dX12_weave_40 ?_
      cases h
      exact r_zret Ra (Or.inl rfl) ⟨hV30, (Or.inl rfl)⟩ dX12_weave_41
    · replace h := ineg hc h
      refine r_iconst Ra dX12_weave_36 ?_
      refine r_goto Ra 41 dX12_weave_37 rfl ?_
      cases h
      exact r_zret Ra (Or.inr rfl) ⟨hV30, (Or.inr rfl)⟩ dX12_weave_41
  refine r_if_eq Ra 28 dX12_weave_5 (inR_01 ok2) rfl (fun hc => ?_) (fun hc => ?_)
  · replace h := ipos hc h
    exact hJ28 h  _ rfl
  · replace h := ineg hc h
    refine r_iload_n Ra (i := 2) dX12_weave_8 rfl rfl ?_
    refine r_iconst Ra dX12_weave_9 ?_
    refine r_bipush Ra dX12_weave_10 rfl ?_
    obtain ⟨r12, hr12, h⟩ := bd h
    refine q_callSI Ra (c_pM_is hV hx2 (Rk rfl) (Rk rfl) hr12) mw_X12_is ms_X12_is rfl rfl k_X12_323 rfl rfl dX12_weave_12 (fun ok12 => ?_)
    refine r_if_eq Ra 28 dX12_weave_15 (inR_01 ok12) rfl (fun hc => ?_) (fun hc => ?_)
    · replace h := ipos hc h
      exact hJ28 h  _ rfl
    · replace h := ineg hc h
      refine r_aload_n Ra (i := 0) dX12_weave_18 rfl rfl ?_
      refine q_getA Ra (b := 502) f_X12_156 t475 rfl rfl rfl (hV.ref t475 rfl (by decide)) (by decide) dX12_weave_19 ?_
      refine r_iload_n Ra (i := 1) dX12_weave_22 rfl rfl ?_
      obtain ⟨gu23, h⟩ := gd h
      refine q_iald Ra t502 l502 gu23 dX12_weave_23 ?_
      refine r_iload_n Ra (i := 2) dX12_weave_24 rfl rfl ?_
      refine r_icmp_ne Ra 42 dX12_weave_25 (hV.int t502 (kd20 _)) hx2 rfl (fun hc => ?_) (fun hc => ?_)
      · replace h := ineg hc h
        refine r_aload_n Ra (i := 0) dX12_weave_42 rfl rfl ?_
        obtain ⟨m43, hr43, h⟩ := bd h
        refine q_callVV Ra (c_pM_keeps hV hr43) mw_X12_keeps mi_X12_keeps t475 rfl rfl rfl rfl rfl k_X12_490 rfl rfl dX12_weave_43 (fun ok43 => ?_)
        refine r_aload_n Ra (i := 0) dX12_weave_46 rfl rfl ?_
        refine q_getA Ra (b := 502) f_X12_156 t475 rfl rfl rfl (ok43.ref t475 rfl (by decide)) (by decide) dX12_weave_47 ?_
        refine r_iload_n Ra (i := 1) dX12_weave_50 rfl rfl ?_
        refine r_iload_n Ra (i := 2) dX12_weave_51 rfl rfl ?_
        obtain ⟨gu52, h⟩ := gd h
        obtain ⟨m52, em52, h⟩ := bv h
        have hm52 : VT m52 := eqV em52 (ok43.setI t502 (kd20 _) hx2)
        refine q_iast Ra t502 l502 gu52 em52 dX12_weave_52 ?_
        refine r_iconst Ra dX12_weave_53 ?_
        cases h
        exact r_zret Ra (Or.inr rfl) ⟨hm52, (Or.inr rfl)⟩ dX12_weave_54
      · replace h := ipos hc h
        exact hJ28 h  _ rfl
noncomputable def pM_seed (μ : Mem) (x1 : Int) : Option (Int × Mem) := if x1 < 0 then (pM_refuses μ 5).bind fun (r6, m6) => if r6 < 0 then some (0, m6) else some (1, m6) else (some (mset μ 475 53 x1)).bind fun m21 => some (1, m21)
set_option maxHeartbeats 4000000 in
theorem c_pM_seed {l : Launch} {en : En} {μ : Mem} {x1 : Int} {re : Int} {μe : Mem} (hV : VT μ) (hx1 : inR x1) (h : pM_seed μ x1 = some (re, μe)) : CtI l en yX12_seed cX12_seed 2 1 81 [vA en 475, vI x1] μ .boolean re μe (VT μe ∧ (re = 0 ∨ re = 1)) := by
  refine Tr.of false (fun h => by cases h) (by decide) (Nat.le_of_ble_eq_true rfl) (fun K Ra => ?_)
  unfold pM_seed at h
  refine r_iload_n Ra (i := 1) dX12_seed_0 rfl rfl ?_
  refine r_if_ge Ra 18 dX12_seed_1 hx1 rfl (fun hc => ?_) (fun hc => ?_)
  · replace h := ineg hc h
    refine r_aload_n Ra (i := 0) dX12_seed_18 rfl rfl ?_
    refine r_iload_n Ra (i := 1) dX12_seed_19 rfl rfl ?_
    refine r_i2l Ra dX12_seed_20 hx1 ?_
    obtain ⟨m21, em21, h⟩ := bv h
    have hm21 : VT m21 := eqV em21 (hV.setJ t475 rfl (inL_of hx1))
    refine q_putJ Ra f_X12_174 p_X12_53 t475 rfl rfl rfl em21 dX12_seed_21 ?_
    refine r_iconst Ra dX12_seed_24 ?_
    cases h
    exact r_zret Ra (Or.inr rfl) ⟨hm21, (Or.inr rfl)⟩ dX12_seed_25
  · replace h := ipos hc h
    refine r_aload_n Ra (i := 0) dX12_seed_4 rfl rfl ?_
    refine r_iconst Ra dX12_seed_5 ?_
    obtain ⟨⟨r6, m6⟩, hr6, h⟩ := bd h
    refine q_callVI Ra (c_pM_refuses hV (Rk rfl) hr6) mw_X12_refuses mi_X12_refuses t475 rfl rfl rfl rfl rfl k_X12_247 rfl rfl dX12_seed_6 (fun ok6 => ?_)
    obtain ⟨hV6, ok6⟩ := ok6
    refine r_if_lt Ra 16 dX12_seed_9 ok6 rfl (fun hc => ?_) (fun hc => ?_)
    · replace h := ipos hc h
      refine r_iconst Ra dX12_seed_16 ?_
      cases h
      exact r_zret Ra (Or.inl rfl) ⟨hV6, (Or.inl rfl)⟩ dX12_seed_17
    · replace h := ineg hc h
      refine r_iconst Ra dX12_seed_12 ?_
      refine r_goto Ra 17 dX12_seed_13 rfl ?_
      cases h
      exact r_zret Ra (Or.inr rfl) ⟨hV6, (Or.inr rfl)⟩ dX12_seed_17
noncomputable def pM_kept (μ : Mem) (x1 : Int) (x2 : Int) : Option (Int) := (pM_is μ x1 0 (w32 ((μ 504 0) - 1))).bind fun r10 => if r10 = 0 then some ((-1)) else (pM_is μ x2 0 2).bind fun r19 => if r19 = 0 then some ((-1)) else if 0 ≤ w32 ((w32 (3 * x1)) + x2) ∧ w32 ((w32 (3 * x1)) + x2) < 2640 then some (μ 505 (w32 ((w32 (3 * x1)) + x2))) else none
set_option maxHeartbeats 4000000 in
theorem c_pM_kept {l : Launch} {en : En} {μ : Mem} {x1 : Int} {x2 : Int} {re : Int} (hV : VT μ) (hx1 : inR x1) (hx2 : inR x2) (h : pM_kept μ x1 x2 = some re) : CtI l en yX12_kept cX12_kept 3 1 82 [vA en 475, vI x1, vI x2] μ .int re μ (inR re) := by
  refine Tr.of false (fun h => by cases h) (by decide) (Nat.le_of_ble_eq_true rfl) (fun K Ra => ?_)
  unfold pM_kept at h
  refine r_iload_n Ra (i := 1) dX12_kept_0 rfl rfl ?_
  refine r_iconst Ra dX12_kept_1 ?_
  refine r_aload_n Ra (i := 0) dX12_kept_2 rfl rfl ?_
  refine q_getA Ra (b := 504) f_X12_162 t475 rfl rfl rfl (hV.ref t475 rfl (by decide)) (by decide) dX12_kept_3 ?_
  refine r_iconst Ra dX12_kept_6 ?_
  refine q_iald Ra t504 l504 (by decide) dX12_kept_7 ?_
  refine r_iconst Ra dX12_kept_8 ?_
  refine r_isub Ra dX12_kept_9 ?_
  obtain ⟨r10, hr10, h⟩ := bd h
  refine q_callSI Ra (c_pM_is hV hx1 (Rk rfl) (inR_32 _) hr10) mw_X12_is ms_X12_is rfl rfl k_X12_323 rfl rfl dX12_kept_10 (fun ok10 => ?_)
  refine r_if_eq Ra 38 dX12_kept_13 (inR_01 ok10) rfl (fun hc => ?_) (fun hc => ?_)
  · replace h := ipos hc h
    refine r_iconst Ra dX12_kept_38 ?_
    cases h
    exact r_iret Ra (Rk rfl) dX12_kept_39
  · replace h := ineg hc h
    refine r_iload_n Ra (i := 2) dX12_kept_16 rfl rfl ?_
    refine r_iconst Ra dX12_kept_17 ?_
    refine r_iconst Ra dX12_kept_18 ?_
    obtain ⟨r19, hr19, h⟩ := bd h
    refine q_callSI Ra (c_pM_is hV hx2 (Rk rfl) (Rk rfl) hr19) mw_X12_is ms_X12_is rfl rfl k_X12_323 rfl rfl dX12_kept_19 (fun ok19 => ?_)
    refine r_if_eq Ra 38 dX12_kept_22 (inR_01 ok19) rfl (fun hc => ?_) (fun hc => ?_)
    · replace h := ipos hc h
      refine r_iconst Ra dX12_kept_38 ?_
      cases h
      exact r_iret Ra (Rk rfl) dX12_kept_39
    · replace h := ineg hc h
      refine r_aload_n Ra (i := 0) dX12_kept_25 rfl rfl ?_
      refine q_getA Ra (b := 505) f_X12_165 t475 rfl rfl rfl (hV.ref t475 rfl (by decide)) (by decide) dX12_kept_26 ?_
      refine r_iconst Ra dX12_kept_29 ?_
      refine r_iload_n Ra (i := 1) dX12_kept_30 rfl rfl ?_
      refine r_imul Ra dX12_kept_31 ?_
      refine r_iload_n Ra (i := 2) dX12_kept_32 rfl rfl ?_
      refine r_iadd Ra dX12_kept_33 ?_
      obtain ⟨gu34, h⟩ := gd h
      refine q_iald Ra t505 l505 gu34 dX12_kept_34 ?_
      refine r_goto Ra 39 dX12_kept_35 rfl ?_
      cases h
      exact r_iret Ra (hV.int t505 (kd20 _)) dX12_kept_39
noncomputable def pM_writes (μ : Mem) (x1 : Int) : Option (Mem) := if 0 ≤ μ 475 76 ∧ μ 475 76 < 110 then (some (mset μ 522 (μ 475 76) (a32 x1 255))).bind fun m13 => (some (mset m13 475 76 (w32 ((m13 475 76) + 1)))).bind fun m21 => some m21 else none
set_option maxHeartbeats 4000000 in
theorem c_pM_writes {l : Launch} {en : En} {μ : Mem} {x1 : Int} {μe : Mem} (hV : VT μ) (hx1 : inR x1) (h : pM_writes μ x1 = some μe) : CtV l en yX12_writes cX12_writes 2 0 60 [vA en 475, vI x1] μ μe (VT μe) := by
  refine Tr.of false (fun h => by cases h) (by decide) (Nat.le_of_ble_eq_true rfl) (fun K Ra => ?_)
  unfold pM_writes at h
  refine r_aload_n Ra (i := 0) dX12_writes_0 rfl rfl ?_
  refine q_getA Ra (b := 522) f_X12_241 t475 rfl rfl rfl (hV.ref t475 rfl (by decide)) (by decide) dX12_writes_1 ?_
  refine r_aload_n Ra (i := 0) dX12_writes_4 rfl rfl ?_
  refine q_getI Ra (x := μ 475 76) f_X12_244 t475 rfl rfl rfl rfl dX12_writes_5 ?_
  refine r_iload_n Ra (i := 1) dX12_writes_8 rfl rfl ?_
  refine r_sipush Ra dX12_writes_9 rfl ?_
  refine r_iand Ra dX12_writes_12 ?_
  obtain ⟨gu13, h⟩ := gd h
  obtain ⟨m13, em13, h⟩ := bv h
  have hm13 : VT m13 := eqV em13 (hV.setI t522 (kd20 _) (inR_32 _))
  refine q_iast Ra t522 l522 gu13 em13 dX12_writes_13 ?_
  refine r_aload_n Ra (i := 0) dX12_writes_14 rfl rfl ?_
  refine r_dupA Ra dX12_writes_15 ?_
  refine q_getI Ra (x := m13 475 76) f_X12_244 t475 rfl rfl rfl rfl dX12_writes_16 ?_
  refine r_iconst Ra dX12_writes_19 ?_
  refine r_iadd Ra dX12_writes_20 ?_
  obtain ⟨m21, em21, h⟩ := bv h
  have hm21 : VT m21 := eqV em21 (hm13.setI t475 rfl (inR_32 _))
  refine q_putI Ra f_X12_244 p_X12_76 t475 rfl rfl rfl em21 dX12_writes_21 ?_
  cases h
  exact r_vret Ra hm21 dX12_writes_24
noncomputable def pM_image_L30b (N : Nat)  (k : Mem → Option (Int × Mem)) (self : Int → Mem → Option (Int × Mem)) (x1 : Int) (μ : Mem) : Option (Int × Mem) := if x1 < 64 then (pM_isCell μ (r32 x1 8) (d32 x1 8)).bind fun r45 => if r45 = 0 then (some (w32 (x1 + 1) : Int)).bind fun x1_61 => self x1_61 μ else if 0 ≤ x1 ∧ x1 < 1408 then (pM_writes μ (μ 499 x1)).bind fun m58 => (some (w32 (x1 + 1) : Int)).bind fun x1_61 => self x1_61 m58 else none else k μ
noncomputable def pM_image_L30 (N : Nat)  (k : Mem → Option (Int × Mem)) (n : Nat) : Int → Mem → Option (Int × Mem) := lpF (fun _ _ => none) (pM_image_L30b N k) n
noncomputable def pM_image_L69b (N : Nat)  (k : Mem → Option (Int × Mem)) (self : Int → Mem → Option (Int × Mem)) (x1 : Int) (μ : Mem) : Option (Int × Mem) := if 0 ≤ μ 475 13 ∧ μ 475 13 < 2 then if x1 < μ 480 (μ 475 13) then if 0 ≤ x1 ∧ x1 < 132 then (pM_writes μ (r32 (μ 500 x1) 8)).bind fun m92 => if 0 ≤ x1 ∧ x1 < 132 then (pM_writes m92 (d32 (m92 500 x1) 8)).bind fun m105 => if 0 ≤ x1 ∧ x1 < 132 then (pM_writes m105 (m105 501 x1)).bind fun m115 => if 0 ≤ x1 ∧ x1 < 132 then (pM_writes m115 (m115 502 x1)).bind fun m125 => if 0 ≤ x1 ∧ x1 < 132 then (pM_writes m125 (shr32 (m125 503 x1) 8)).bind fun m138 => if 0 ≤ x1 ∧ x1 < 132 then (pM_writes m138 (m138 503 x1)).bind fun m148 => (some (w32 (x1 + 1) : Int)).bind fun x1_151 => self x1_151 m148 else none else none else none else none else none else none else k μ else none
noncomputable def pM_image_L69 (N : Nat)  (k : Mem → Option (Int × Mem)) (n : Nat) : Int → Mem → Option (Int × Mem) := lpF (fun _ _ => none) (pM_image_L69b N k) n
noncomputable def pM_image_L163b (N : Nat) (μ : Mem)  (k : Int → Option (Int × Mem)) (self : Int → Int → Option (Int × Mem)) (x1 : Int) (x2 : Int) : Option (Int × Mem) := if x2 < μ 475 76 then if 0 ≤ x2 ∧ x2 < 110 then (some (r32 (w32 ((w32 (5 * x1)) + (μ 522 x2))) 251 : Int)).bind fun x1_185 => (some (w32 (x2 + 1) : Int)).bind fun x2_186 => self x1_185 x2_186 else none else k x1
noncomputable def pM_image_L163 (N : Nat) (μ : Mem)  (k : Int → Option (Int × Mem)) (n : Nat) : Int → Int → Option (Int × Mem) := lpF (fun _ _ => none) (pM_image_L163b N μ k) n
noncomputable def pM_image (N : Nat) (μ : Mem)  : Option (Int × Mem) := (some (mset μ 475 76 0)).bind fun m2 => (pM_writes m2 (shr32 (m2 498 0) 8)).bind fun m15 => (pM_writes m15 (m15 498 0)).bind fun m25 => pM_image_L30 N (fun n67 => pM_image_L69 N (fun n157 => pM_image_L163 N n157 (fun z1_192 => (pM_writes n157 z1_192).bind fun m194 => some (m194 475 76, m194)) N 223 0) N 0 n67) N 0 m25
theorem k_pM_image_L30 {l : Launch} {en : En} {re : Int} {μe : Mem} {N : Nat}  {k : Mem → Option (Int × Mem)} {K : KT} (Ra : Ru false (some (some .int, some (vI re), nCells, μe, 0, 0, (VT μe ∧ inR re))) l en cX12_image yX12_image.cls 3 (rmN 2 104) K)  (hk : ∀  (μ9 : Mem), k μ9 = some (re, μe) → VT μ9 → ∀ L9 : Lo, L9 0 = some (vA en 475) → K ZN 67 L9 [] μ9) : ∀ (n : Nat) (x1 : Int) (μ : Mem) (L : Lo), pM_image_L30 N k n x1 μ = some (re, μe) → inR x1 → VT μ → L 0 = some (vA en 475) → L 1 = some (vI x1) → K ZN 30 L [] μ := by
  intro n
  induction n with
  | zero => intro x1 μ L h; cases h
  | succ n ih =>
    intro x1 μ L h hx1 hV hL0 hL1
    replace h : pM_image_L30b N k (pM_image_L30 N k n) x1 μ = some (re, μe) := h
    unfold pM_image_L30b at h
    refine r_iload_n Ra (i := 1) dX12_image_30 rfl hL1 ?_
    refine r_bipush Ra dX12_image_31 rfl ?_
    refine r_icmp_ge Ra 67 dX12_image_33 hx1 (Rk rfl) rfl (fun hc => ?_) (fun hc => ?_)
    · replace h := ineg hc h
      exact hk μ h  hV _ hL0
    · replace h := ipos hc h
      refine r_aload_n Ra (i := 0) dX12_image_36 rfl hL0 ?_
      refine r_iload_n Ra (i := 1) dX12_image_37 rfl hL1 ?_
      refine r_bipush Ra dX12_image_38 rfl ?_
      refine r_irem Ra dX12_image_40 (Rk rfl) (by decide) ?_
      refine r_iload_n Ra (i := 1) dX12_image_41 rfl hL1 ?_
      refine r_bipush Ra dX12_image_42 rfl ?_
      refine r_idiv Ra dX12_image_44 (Rk rfl) (by decide) ?_
      obtain ⟨r45, hr45, h⟩ := bd h
      refine q_callVI Ra (c_pM_isCell hV (inR_32 _) (inR_32 _) hr45) mw_X12_isCell mi_X12_isCell t475 rfl rfl rfl rfl rfl k_X12_437 rfl rfl dX12_image_45 (fun ok45 => ?_)
      refine r_if_eq Ra 61 dX12_image_48 (inR_01 ok45) rfl (fun hc => ?_) (fun hc => ?_)
      · replace h := ipos hc h
        obtain ⟨x1_61, ex1_61, h⟩ := bv h
        have ix1_61 : inR x1_61 := eqR ex1_61 (inR_32 _)
        refine q_iinc Ra dX12_image_61 hL1 ex1_61 ?_
        refine r_goto Ra 30 dX12_image_64 rfl ?_
        exact ih x1_61 μ _ h ix1_61 hV hL0 rfl
      · replace h := ineg hc h
        refine r_aload_n Ra (i := 0) dX12_image_51 rfl hL0 ?_
        refine r_aload_n Ra (i := 0) dX12_image_52 rfl hL0 ?_
        refine q_getA Ra (b := 499) f_X12_147 t475 rfl rfl rfl (hV.ref t475 rfl (by decide)) (by decide) dX12_image_53 ?_
        refine r_iload_n Ra (i := 1) dX12_image_56 rfl hL1 ?_
        obtain ⟨gu57, h⟩ := gd h
        refine q_iald Ra t499 l499 gu57 dX12_image_57 ?_
        obtain ⟨m58, hr58, h⟩ := bd h
        refine q_callVV Ra (c_pM_writes hV (hV.int t499 (kd20 _)) hr58) mw_X12_writes mi_X12_writes t475 rfl rfl rfl rfl rfl k_X12_504 rfl rfl dX12_image_58 (fun ok58 => ?_)
        obtain ⟨x1_61, ex1_61, h⟩ := bv h
        have ix1_61 : inR x1_61 := eqR ex1_61 (inR_32 _)
        refine q_iinc Ra dX12_image_61 hL1 ex1_61 ?_
        refine r_goto Ra 30 dX12_image_64 rfl ?_
        exact ih x1_61 m58 _ h ix1_61 ok58 hL0 rfl
theorem k_pM_image_L69 {l : Launch} {en : En} {re : Int} {μe : Mem} {N : Nat}  {k : Mem → Option (Int × Mem)} {K : KT} (Ra : Ru false (some (some .int, some (vI re), nCells, μe, 0, 0, (VT μe ∧ inR re))) l en cX12_image yX12_image.cls 3 (rmN 2 104) K)  (hk : ∀  (μ9 : Mem), k μ9 = some (re, μe) → VT μ9 → ∀ L9 : Lo, L9 0 = some (vA en 475) → K ZN 157 L9 [] μ9) : ∀ (n : Nat) (x1 : Int) (μ : Mem) (L : Lo), pM_image_L69 N k n x1 μ = some (re, μe) → inR x1 → VT μ → L 0 = some (vA en 475) → L 1 = some (vI x1) → K ZN 69 L [] μ := by
  intro n
  induction n with
  | zero => intro x1 μ L h; cases h
  | succ n ih =>
    intro x1 μ L h hx1 hV hL0 hL1
    replace h : pM_image_L69b N k (pM_image_L69 N k n) x1 μ = some (re, μe) := h
    unfold pM_image_L69b at h
    refine r_iload_n Ra (i := 1) dX12_image_69 rfl hL1 ?_
    refine r_aload_n Ra (i := 0) dX12_image_70 rfl hL0 ?_
    refine q_getA Ra (b := 480) f_X12_63 t475 rfl rfl rfl (hV.ref t475 rfl (by decide)) (by decide) dX12_image_71 ?_
    refine r_aload_n Ra (i := 0) dX12_image_74 rfl hL0 ?_
    refine q_getI Ra (x := μ 475 13) f_X12_51 t475 rfl rfl rfl rfl dX12_image_75 ?_
    obtain ⟨gu78, h⟩ := gd h
    refine q_iald Ra t480 l480 gu78 dX12_image_78 ?_
    refine r_icmp_ge Ra 157 dX12_image_79 hx1 (hV.int t480 (kd20 _)) rfl (fun hc => ?_) (fun hc => ?_)
    · replace h := ineg hc h
      exact hk μ h  hV _ hL0
    · replace h := ipos hc h
      refine r_aload_n Ra (i := 0) dX12_image_82 rfl hL0 ?_
      refine r_aload_n Ra (i := 0) dX12_image_83 rfl hL0 ?_
      refine q_getA Ra (b := 500) f_X12_150 t475 rfl rfl rfl (hV.ref t475 rfl (by decide)) (by decide) dX12_image_84 ?_
      refine r_iload_n Ra (i := 1) dX12_image_87 rfl hL1 ?_
      obtain ⟨gu88, h⟩ := gd h
      refine q_iald Ra t500 l500 gu88 dX12_image_88 ?_
      refine r_bipush Ra dX12_image_89 rfl ?_
      refine r_irem Ra dX12_image_91 (Rk rfl) (by decide) ?_
      obtain ⟨m92, hr92, h⟩ := bd h
      refine q_callVV Ra (c_pM_writes hV (inR_32 _) hr92) mw_X12_writes mi_X12_writes t475 rfl rfl rfl rfl rfl k_X12_504 rfl rfl dX12_image_92 (fun ok92 => ?_)
      refine r_aload_n Ra (i := 0) dX12_image_95 rfl hL0 ?_
      refine r_aload_n Ra (i := 0) dX12_image_96 rfl hL0 ?_
      refine q_getA Ra (b := 500) f_X12_150 t475 rfl rfl rfl (ok92.ref t475 rfl (by decide)) (by decide) dX12_image_97 ?_
      refine r_iload_n Ra (i := 1) dX12_image_100 rfl hL1 ?_
      obtain ⟨gu101, h⟩ := gd h
      refine q_iald Ra t500 l500 gu101 dX12_image_101 ?_
      refine r_bipush Ra dX12_image_102 rfl ?_
      refine r_idiv Ra dX12_image_104 (Rk rfl) (by decide) ?_
      obtain ⟨m105, hr105, h⟩ := bd h
      refine q_callVV Ra (c_pM_writes ok92 (inR_32 _) hr105) mw_X12_writes mi_X12_writes t475 rfl rfl rfl rfl rfl k_X12_504 rfl rfl dX12_image_105 (fun ok105 => ?_)
      refine r_aload_n Ra (i := 0) dX12_image_108 rfl hL0 ?_
      refine r_aload_n Ra (i := 0) dX12_image_109 rfl hL0 ?_
      refine q_getA Ra (b := 501) f_X12_153 t475 rfl rfl rfl (ok105.ref t475 rfl (by decide)) (by decide) dX12_image_110 ?_
      refine r_iload_n Ra (i := 1) dX12_image_113 rfl hL1 ?_
      obtain ⟨gu114, h⟩ := gd h
      refine q_iald Ra t501 l501 gu114 dX12_image_114 ?_
      obtain ⟨m115, hr115, h⟩ := bd h
      refine q_callVV Ra (c_pM_writes ok105 (ok105.int t501 (kd20 _)) hr115) mw_X12_writes mi_X12_writes t475 rfl rfl rfl rfl rfl k_X12_504 rfl rfl dX12_image_115 (fun ok115 => ?_)
      refine r_aload_n Ra (i := 0) dX12_image_118 rfl hL0 ?_
      refine r_aload_n Ra (i := 0) dX12_image_119 rfl hL0 ?_
      refine q_getA Ra (b := 502) f_X12_156 t475 rfl rfl rfl (ok115.ref t475 rfl (by decide)) (by decide) dX12_image_120 ?_
      refine r_iload_n Ra (i := 1) dX12_image_123 rfl hL1 ?_
      obtain ⟨gu124, h⟩ := gd h
      refine q_iald Ra t502 l502 gu124 dX12_image_124 ?_
      obtain ⟨m125, hr125, h⟩ := bd h
      refine q_callVV Ra (c_pM_writes ok115 (ok115.int t502 (kd20 _)) hr125) mw_X12_writes mi_X12_writes t475 rfl rfl rfl rfl rfl k_X12_504 rfl rfl dX12_image_125 (fun ok125 => ?_)
      refine r_aload_n Ra (i := 0) dX12_image_128 rfl hL0 ?_
      refine r_aload_n Ra (i := 0) dX12_image_129 rfl hL0 ?_
      refine q_getA Ra (b := 503) f_X12_159 t475 rfl rfl rfl (ok125.ref t475 rfl (by decide)) (by decide) dX12_image_130 ?_
      refine r_iload_n Ra (i := 1) dX12_image_133 rfl hL1 ?_
      obtain ⟨gu134, h⟩ := gd h
      refine q_iald Ra t503 l503 gu134 dX12_image_134 ?_
      refine r_bipush Ra dX12_image_135 rfl ?_
      refine r_ishr Ra dX12_image_137 ?_
      obtain ⟨m138, hr138, h⟩ := bd h
      refine q_callVV Ra (c_pM_writes ok125 (inR_32 _) hr138) mw_X12_writes mi_X12_writes t475 rfl rfl rfl rfl rfl k_X12_504 rfl rfl dX12_image_138 (fun ok138 => ?_)
      refine r_aload_n Ra (i := 0) dX12_image_141 rfl hL0 ?_
      refine r_aload_n Ra (i := 0) dX12_image_142 rfl hL0 ?_
      refine q_getA Ra (b := 503) f_X12_159 t475 rfl rfl rfl (ok138.ref t475 rfl (by decide)) (by decide) dX12_image_143 ?_
      refine r_iload_n Ra (i := 1) dX12_image_146 rfl hL1 ?_
      obtain ⟨gu147, h⟩ := gd h
      refine q_iald Ra t503 l503 gu147 dX12_image_147 ?_
      obtain ⟨m148, hr148, h⟩ := bd h
      refine q_callVV Ra (c_pM_writes ok138 (ok138.int t503 (kd20 _)) hr148) mw_X12_writes mi_X12_writes t475 rfl rfl rfl rfl rfl k_X12_504 rfl rfl dX12_image_148 (fun ok148 => ?_)
      obtain ⟨x1_151, ex1_151, h⟩ := bv h
      have ix1_151 : inR x1_151 := eqR ex1_151 (inR_32 _)
      refine q_iinc Ra dX12_image_151 hL1 ex1_151 ?_
      refine r_goto Ra 69 dX12_image_154 rfl ?_
      exact ih x1_151 m148 _ h ix1_151 ok148 hL0 rfl
theorem k_pM_image_L163 {l : Launch} {en : En} {re : Int} {μe : Mem} {N : Nat} {μ : Mem} (hV : VT μ)  {k : Int → Option (Int × Mem)} {K : KT} (Ra : Ru false (some (some .int, some (vI re), nCells, μe, 0, 0, (VT μe ∧ inR re))) l en cX12_image yX12_image.cls 3 (rmN 2 104) K)  (hk : ∀ (z1 : Int), k z1 = some (re, μe) → inR z1 → ∀ L9 : Lo, L9 0 = some (vA en 475) → L9 1 = some (vI z1) → K ZN 192 L9 [] μ) : ∀ (n : Nat) (x1 : Int) (x2 : Int) (L : Lo), pM_image_L163 N μ k n x1 x2 = some (re, μe) → inR x1 → inR x2 → L 0 = some (vA en 475) → L 1 = some (vI x1) → L 2 = some (vI x2) → K ZN 163 L [] μ := by
  intro n
  induction n with
  | zero => intro x1 x2 L h; cases h
  | succ n ih =>
    intro x1 x2 L h hx1 hx2 hL0 hL1 hL2
    replace h : pM_image_L163b N μ k (pM_image_L163 N μ k n) x1 x2 = some (re, μe) := h
    unfold pM_image_L163b at h
    refine r_iload_n Ra (i := 2) dX12_image_163 rfl hL2 ?_
    refine r_aload_n Ra (i := 0) dX12_image_164 rfl hL0 ?_
    refine q_getI Ra (x := μ 475 76) f_X12_244 t475 rfl rfl rfl rfl dX12_image_165 ?_
    refine r_icmp_ge Ra 192 dX12_image_168 hx2 (hV.int t475 rfl) rfl (fun hc => ?_) (fun hc => ?_)
    · replace h := ineg hc h
      exact hk x1 h hx1 _ hL0 hL1
    · replace h := ipos hc h
      refine r_iconst Ra dX12_image_171 ?_
      refine r_iload_n Ra (i := 1) dX12_image_172 rfl hL1 ?_
      refine r_imul Ra dX12_image_173 ?_
      refine r_aload_n Ra (i := 0) dX12_image_174 rfl hL0 ?_
      refine q_getA Ra (b := 522) f_X12_241 t475 rfl rfl rfl (hV.ref t475 rfl (by decide)) (by decide) dX12_image_175 ?_
      refine r_iload_n Ra (i := 2) dX12_image_178 rfl hL2 ?_
      obtain ⟨gu179, h⟩ := gd h
      refine q_iald Ra t522 l522 gu179 dX12_image_179 ?_
      refine r_iadd Ra dX12_image_180 ?_
      refine r_sipush Ra dX12_image_181 rfl ?_
      refine r_irem Ra dX12_image_184 (Rk rfl) (by decide) ?_
      obtain ⟨x1_185, ex1_185, h⟩ := bv h
      have ix1_185 : inR x1_185 := eqR ex1_185 (inR_32 _)
      refine q_istore_n Ra 1 dX12_image_185 rfl rfl ex1_185 ?_
      obtain ⟨x2_186, ex2_186, h⟩ := bv h
      have ix2_186 : inR x2_186 := eqR ex2_186 (inR_32 _)
      refine q_iinc Ra dX12_image_186 hL2 ex2_186 ?_
      refine r_goto Ra 163 dX12_image_189 rfl ?_
      exact ih x1_185 x2_186 _ h ix1_185 ix2_186 hL0 rfl rfl
set_option maxHeartbeats 4000000 in
theorem c_pM_image {l : Launch} {en : En} {N : Nat} {μ : Mem}  {re : Int} {μe : Mem} (hV : VT μ)  (h : pM_image N μ = some (re, μe)) : CtI l en yX12_image cX12_image 3 2 104 [vA en 475] μ .int re μe (VT μe ∧ inR re) := by
  refine Tr.of false (fun h => by cases h) (by decide) (Nat.le_of_ble_eq_true rfl) (fun K Ra => ?_)
  unfold pM_image at h
  refine r_aload_n Ra (i := 0) dX12_image_0 rfl rfl ?_
  refine r_iconst Ra dX12_image_1 ?_
  obtain ⟨m2, em2, h⟩ := bv h
  have hm2 : VT m2 := eqV em2 (hV.setI t475 rfl (Rk rfl))
  refine q_putI Ra f_X12_244 p_X12_76 t475 rfl rfl rfl em2 dX12_image_2 ?_
  refine r_aload_n Ra (i := 0) dX12_image_5 rfl rfl ?_
  refine r_aload_n Ra (i := 0) dX12_image_6 rfl rfl ?_
  refine q_getA Ra (b := 498) f_X12_144 t475 rfl rfl rfl (hm2.ref t475 rfl (by decide)) (by decide) dX12_image_7 ?_
  refine r_iconst Ra dX12_image_10 ?_
  refine q_iald Ra t498 l498 (by decide) dX12_image_11 ?_
  refine r_bipush Ra dX12_image_12 rfl ?_
  refine r_ishr Ra dX12_image_14 ?_
  obtain ⟨m15, hr15, h⟩ := bd h
  refine q_callVV Ra (c_pM_writes hm2 (inR_32 _) hr15) mw_X12_writes mi_X12_writes t475 rfl rfl rfl rfl rfl k_X12_504 rfl rfl dX12_image_15 (fun ok15 => ?_)
  refine r_aload_n Ra (i := 0) dX12_image_18 rfl rfl ?_
  refine r_aload_n Ra (i := 0) dX12_image_19 rfl rfl ?_
  refine q_getA Ra (b := 498) f_X12_144 t475 rfl rfl rfl (ok15.ref t475 rfl (by decide)) (by decide) dX12_image_20 ?_
  refine r_iconst Ra dX12_image_23 ?_
  refine q_iald Ra t498 l498 (by decide) dX12_image_24 ?_
  obtain ⟨m25, hr25, h⟩ := bd h
  refine q_callVV Ra (c_pM_writes ok15 (ok15.int t498 (kd20 _)) hr25) mw_X12_writes mi_X12_writes t475 rfl rfl rfl rfl rfl k_X12_504 rfl rfl dX12_image_25 (fun ok25 => ?_)
  refine r_iconst Ra dX12_image_28 ?_
  refine q_istore_n Ra 1 dX12_image_29 rfl rfl rfl ?_
  refine k_pM_image_L30 Ra ?_ _ _ _ _ h (Rk rfl) ok25 rfl rfl
  intro n67 h hn67 L9 f67_0
  refine r_iconst Ra dX12_image_67 ?_
  refine q_istore_n Ra 1 dX12_image_68 rfl rfl rfl ?_
  refine k_pM_image_L69 Ra ?_ _ _ _ _ h (Rk rfl) hn67 f67_0 rfl
  intro n157 h hn157 L9 f157_0
  refine r_sipush Ra dX12_image_157 rfl ?_
  refine q_istore_n Ra 1 dX12_image_160 rfl rfl rfl ?_
  refine r_iconst Ra dX12_image_161 ?_
  refine q_istore_n Ra 2 dX12_image_162 rfl rfl rfl ?_
  refine k_pM_image_L163 hn157 Ra ?_ _ _ _ _ h (Rk rfl) (Rk rfl) f157_0 rfl rfl
  intro z1_192 h iz1_192 L9 f192_0 f192_1
  refine r_aload_n Ra (i := 0) dX12_image_192 rfl f192_0 ?_
  refine r_iload_n Ra (i := 1) dX12_image_193 rfl f192_1 ?_
  obtain ⟨m194, hr194, h⟩ := bd h
  refine q_callVV Ra (c_pM_writes hn157 iz1_192 hr194) mw_X12_writes mi_X12_writes t475 rfl rfl rfl rfl rfl k_X12_504 rfl rfl dX12_image_194 (fun ok194 => ?_)
  refine r_aload_n Ra (i := 0) dX12_image_197 rfl f192_0 ?_
  refine q_getI Ra (x := m194 475 76) f_X12_244 t475 rfl rfl rfl rfl dX12_image_198 ?_
  cases h
  exact r_iret Ra ⟨ok194, (ok194.int t475 rfl)⟩ dX12_image_201
noncomputable def pM_octet (μ : Mem) (x1 : Int) : Option (Int) := (pM_is μ x1 0 (w32 ((μ 475 76) - 1))).bind fun r8 => if r8 = 0 then some ((-1)) else if 0 ≤ x1 ∧ x1 < 110 then some (μ 522 x1) else none
set_option maxHeartbeats 4000000 in
theorem c_pM_octet {l : Launch} {en : En} {μ : Mem} {x1 : Int} {re : Int} (hV : VT μ) (hx1 : inR x1) (h : pM_octet μ x1 = some re) : CtI l en yX12_octet cX12_octet 2 1 82 [vA en 475, vI x1] μ .int re μ (inR re) := by
  refine Tr.of false (fun h => by cases h) (by decide) (Nat.le_of_ble_eq_true rfl) (fun K Ra => ?_)
  unfold pM_octet at h
  refine r_iload_n Ra (i := 1) dX12_octet_0 rfl rfl ?_
  refine r_iconst Ra dX12_octet_1 ?_
  refine r_aload_n Ra (i := 0) dX12_octet_2 rfl rfl ?_
  refine q_getI Ra (x := μ 475 76) f_X12_244 t475 rfl rfl rfl rfl dX12_octet_3 ?_
  refine r_iconst Ra dX12_octet_6 ?_
  refine r_isub Ra dX12_octet_7 ?_
  obtain ⟨r8, hr8, h⟩ := bd h
  refine q_callSI Ra (c_pM_is hV hx1 (Rk rfl) (inR_32 _) hr8) mw_X12_is ms_X12_is rfl rfl k_X12_323 rfl rfl dX12_octet_8 (fun ok8 => ?_)
  refine r_if_eq Ra 23 dX12_octet_11 (inR_01 ok8) rfl (fun hc => ?_) (fun hc => ?_)
  · replace h := ipos hc h
    refine r_iconst Ra dX12_octet_23 ?_
    cases h
    exact r_iret Ra (Rk rfl) dX12_octet_24
  · replace h := ineg hc h
    refine r_aload_n Ra (i := 0) dX12_octet_14 rfl rfl ?_
    refine q_getA Ra (b := 522) f_X12_241 t475 rfl rfl rfl (hV.ref t475 rfl (by decide)) (by decide) dX12_octet_15 ?_
    refine r_iload_n Ra (i := 1) dX12_octet_18 rfl rfl ?_
    obtain ⟨gu19, h⟩ := gd h
    refine q_iald Ra t522 l522 gu19 dX12_octet_19 ?_
    refine r_goto Ra 24 dX12_octet_20 rfl ?_
    cases h
    exact r_iret Ra (hV.int t522 (kd20 _)) dX12_octet_24
noncomputable def pM_personOn (μ : Mem) (x1 : Int) (x2 : Int) : Option (Int × Mem) := if 0 ≤ x2 ∧ x2 < 1800 then if 0 ≤ w32 (x2 + 1) ∧ w32 (x2 + 1) < 1800 then (pM_isCell μ (μ 476 x2) (μ 476 (w32 (x2 + 1)))).bind fun r15 => if r15 = 0 then some (0, μ) else if 0 ≤ w32 (x2 + 2) ∧ w32 (x2 + 2) < 1800 then if μ 476 (w32 (x2 + 2)) < 9 then if 0 ≤ w32 (x2 + 3) ∧ w32 (x2 + 3) < 1800 then (pM_is μ (μ 476 (w32 (x2 + 3))) 1 99).bind fun r45 => if r45 = 0 then some (0, μ) else if 0 ≤ w32 (x2 + 1) ∧ w32 (x2 + 1) < 1800 then if 0 ≤ x2 ∧ x2 < 1800 then if 0 ≤ w32 (6 + x1) ∧ w32 (6 + x1) < 132 then (some (mset μ 500 (w32 (6 + x1)) (w32 ((w32 (8 * (μ 476 (w32 (x2 + 1))))) + (μ 476 x2))))).bind fun m79 => if 0 ≤ w32 (x2 + 2) ∧ w32 (x2 + 2) < 1800 then if 0 ≤ w32 (6 + x1) ∧ w32 (6 + x1) < 132 then (some (mset m79 501 (w32 (6 + x1)) (m79 476 (w32 (x2 + 2))))).bind fun m96 => if 0 ≤ w32 (x2 + 3) ∧ w32 (x2 + 3) < 1800 then if 0 ≤ w32 (6 + x1) ∧ w32 (6 + x1) < 132 then (some (mset m96 502 (w32 (6 + x1)) (m96 476 (w32 (x2 + 3))))).bind fun m113 => if 0 ≤ w32 (x2 + 4) ∧ w32 (x2 + 4) < 1800 then if 0 ≤ w32 (x2 + 5) ∧ w32 (x2 + 5) < 1800 then if 0 ≤ w32 (6 + x1) ∧ w32 (6 + x1) < 132 then (some (mset m113 503 (w32 (6 + x1)) (o32 (shl32 (m113 476 (w32 (x2 + 4))) 8) (m113 476 (w32 (x2 + 5)))))).bind fun m142 => if 0 ≤ w32 (6 + x1) ∧ w32 (6 + x1) < 132 then if 999 < m142 503 (w32 (6 + x1)) then some (0, m142) else some (1, m142) else none else none else none else none else none else none else none else none else none else none else none else none else some (0, μ) else none else none else none
set_option maxHeartbeats 4000000 in
theorem c_pM_personOn {l : Launch} {en : En} {μ : Mem} {x1 : Int} {x2 : Int} {re : Int} {μe : Mem} (hV : VT μ) (hx1 : inR x1) (hx2 : inR x2) (h : pM_personOn μ x1 x2 = some (re, μe)) : CtI l en yX12_personOn cX12_personOn 3 2 104 [vA en 475, vI x1, vI x2] μ .boolean re μe (VT μe ∧ (re = 0 ∨ re = 1)) := by
  refine Tr.of false (fun h => by cases h) (by decide) (Nat.le_of_ble_eq_true rfl) (fun K Ra => ?_)
  unfold pM_personOn at h
  refine r_aload_n Ra (i := 0) dX12_personOn_0 rfl rfl ?_
  refine r_aload_n Ra (i := 0) dX12_personOn_1 rfl rfl ?_
  refine q_getA Ra (b := 476) f_X12_7 t475 rfl rfl rfl (hV.ref t475 rfl (by decide)) (by decide) dX12_personOn_2 ?_
  refine r_iload_n Ra (i := 2) dX12_personOn_5 rfl rfl ?_
  obtain ⟨gu6, h⟩ := gd h
  refine q_iald Ra t476 l476 gu6 dX12_personOn_6 ?_
  refine r_aload_n Ra (i := 0) dX12_personOn_7 rfl rfl ?_
  refine q_getA Ra (b := 476) f_X12_7 t475 rfl rfl rfl (hV.ref t475 rfl (by decide)) (by decide) dX12_personOn_8 ?_
  refine r_iload_n Ra (i := 2) dX12_personOn_11 rfl rfl ?_
  refine r_iconst Ra dX12_personOn_12 ?_
  refine r_iadd Ra dX12_personOn_13 ?_
  obtain ⟨gu14, h⟩ := gd h
  refine q_iald Ra t476 l476 gu14 dX12_personOn_14 ?_
  obtain ⟨r15, hr15, h⟩ := bd h
  refine q_callVI Ra (c_pM_isCell hV (hV.int t476 (kd20 _)) (hV.int t476 (kd20 _)) hr15) mw_X12_isCell mi_X12_isCell t475 rfl rfl rfl rfl rfl k_X12_437 rfl rfl dX12_personOn_15 (fun ok15 => ?_)
  refine r_if_eq Ra 51 dX12_personOn_18 (inR_01 ok15) rfl (fun hc => ?_) (fun hc => ?_)
  · replace h := ipos hc h
    refine r_iconst Ra dX12_personOn_51 ?_
    cases h
    exact r_zret Ra (Or.inl rfl) ⟨hV, (Or.inl rfl)⟩ dX12_personOn_52
  · replace h := ineg hc h
    refine r_aload_n Ra (i := 0) dX12_personOn_21 rfl rfl ?_
    refine q_getA Ra (b := 476) f_X12_7 t475 rfl rfl rfl (hV.ref t475 rfl (by decide)) (by decide) dX12_personOn_22 ?_
    refine r_iload_n Ra (i := 2) dX12_personOn_25 rfl rfl ?_
    refine r_iconst Ra dX12_personOn_26 ?_
    refine r_iadd Ra dX12_personOn_27 ?_
    obtain ⟨gu28, h⟩ := gd h
    refine q_iald Ra t476 l476 gu28 dX12_personOn_28 ?_
    refine r_bipush Ra dX12_personOn_29 rfl ?_
    refine r_icmp_ge Ra 51 dX12_personOn_31 (hV.int t476 (kd20 _)) (Rk rfl) rfl (fun hc => ?_) (fun hc => ?_)
    · replace h := ineg hc h
      refine r_iconst Ra dX12_personOn_51 ?_
      cases h
      exact r_zret Ra (Or.inl rfl) ⟨hV, (Or.inl rfl)⟩ dX12_personOn_52
    · replace h := ipos hc h
      refine r_aload_n Ra (i := 0) dX12_personOn_34 rfl rfl ?_
      refine q_getA Ra (b := 476) f_X12_7 t475 rfl rfl rfl (hV.ref t475 rfl (by decide)) (by decide) dX12_personOn_35 ?_
      refine r_iload_n Ra (i := 2) dX12_personOn_38 rfl rfl ?_
      refine r_iconst Ra dX12_personOn_39 ?_
      refine r_iadd Ra dX12_personOn_40 ?_
      obtain ⟨gu41, h⟩ := gd h
      refine q_iald Ra t476 l476 gu41 dX12_personOn_41 ?_
      refine r_iconst Ra dX12_personOn_42 ?_
      refine r_bipush Ra dX12_personOn_43 rfl ?_
      obtain ⟨r45, hr45, h⟩ := bd h
      refine q_callSI Ra (c_pM_is hV (hV.int t476 (kd20 _)) (Rk rfl) (Rk rfl) hr45) mw_X12_is ms_X12_is rfl rfl k_X12_323 rfl rfl dX12_personOn_45 (fun ok45 => ?_)
      refine r_if_ne Ra 53 dX12_personOn_48 (inR_01 ok45) rfl (fun hc => ?_) (fun hc => ?_)
      · replace h := ineg hc h
        refine r_aload_n Ra (i := 0) dX12_personOn_53 rfl rfl ?_
        refine q_getA Ra (b := 500) f_X12_150 t475 rfl rfl rfl (hV.ref t475 rfl (by decide)) (by decide) dX12_personOn_54 ?_
        refine r_bipush Ra dX12_personOn_57 rfl ?_
        refine r_iload_n Ra (i := 1) dX12_personOn_59 rfl rfl ?_
        refine r_iadd Ra dX12_personOn_60 ?_
        refine r_bipush Ra dX12_personOn_61 rfl ?_
        refine r_aload_n Ra (i := 0) dX12_personOn_63 rfl rfl ?_
        refine q_getA Ra (b := 476) f_X12_7 t475 rfl rfl rfl (hV.ref t475 rfl (by decide)) (by decide) dX12_personOn_64 ?_
        refine r_iload_n Ra (i := 2) dX12_personOn_67 rfl rfl ?_
        refine r_iconst Ra dX12_personOn_68 ?_
        refine r_iadd Ra dX12_personOn_69 ?_
        obtain ⟨gu70, h⟩ := gd h
        refine q_iald Ra t476 l476 gu70 dX12_personOn_70 ?_
        refine r_imul Ra dX12_personOn_71 ?_
        refine r_aload_n Ra (i := 0) dX12_personOn_72 rfl rfl ?_
        refine q_getA Ra (b := 476) f_X12_7 t475 rfl rfl rfl (hV.ref t475 rfl (by decide)) (by decide) dX12_personOn_73 ?_
        refine r_iload_n Ra (i := 2) dX12_personOn_76 rfl rfl ?_
        obtain ⟨gu77, h⟩ := gd h
        refine q_iald Ra t476 l476 gu77 dX12_personOn_77 ?_
        refine r_iadd Ra dX12_personOn_78 ?_
        obtain ⟨gu79, h⟩ := gd h
        obtain ⟨m79, em79, h⟩ := bv h
        have hm79 : VT m79 := eqV em79 (hV.setI t500 (kd20 _) (inR_32 _))
        refine q_iast Ra t500 l500 gu79 em79 dX12_personOn_79 ?_
        refine r_aload_n Ra (i := 0) dX12_personOn_80 rfl rfl ?_
        refine q_getA Ra (b := 501) f_X12_153 t475 rfl rfl rfl (hm79.ref t475 rfl (by decide)) (by decide) dX12_personOn_81 ?_
        refine r_bipush Ra dX12_personOn_84 rfl ?_
        refine r_iload_n Ra (i := 1) dX12_personOn_86 rfl rfl ?_
        refine r_iadd Ra dX12_personOn_87 ?_
        refine r_aload_n Ra (i := 0) dX12_personOn_88 rfl rfl ?_
        refine q_getA Ra (b := 476) f_X12_7 t475 rfl rfl rfl (hm79.ref t475 rfl (by decide)) (by decide) dX12_personOn_89 ?_
        refine r_iload_n Ra (i := 2) dX12_personOn_92 rfl rfl ?_
        refine r_iconst Ra dX12_personOn_93 ?_
        refine r_iadd Ra dX12_personOn_94 ?_
        obtain ⟨gu95, h⟩ := gd h
        refine q_iald Ra t476 l476 gu95 dX12_personOn_95 ?_
        obtain ⟨gu96, h⟩ := gd h
        obtain ⟨m96, em96, h⟩ := bv h
        have hm96 : VT m96 := eqV em96 (hm79.setI t501 (kd20 _) (hm79.int t476 (kd20 _)))
        refine q_iast Ra t501 l501 gu96 em96 dX12_personOn_96 ?_
        refine r_aload_n Ra (i := 0) dX12_personOn_97 rfl rfl ?_
        refine q_getA Ra (b := 502) f_X12_156 t475 rfl rfl rfl (hm96.ref t475 rfl (by decide)) (by decide) dX12_personOn_98 ?_
        refine r_bipush Ra dX12_personOn_101 rfl ?_
        refine r_iload_n Ra (i := 1) dX12_personOn_103 rfl rfl ?_
        refine r_iadd Ra dX12_personOn_104 ?_
        refine r_aload_n Ra (i := 0) dX12_personOn_105 rfl rfl ?_
        refine q_getA Ra (b := 476) f_X12_7 t475 rfl rfl rfl (hm96.ref t475 rfl (by decide)) (by decide) dX12_personOn_106 ?_
        refine r_iload_n Ra (i := 2) dX12_personOn_109 rfl rfl ?_
        refine r_iconst Ra dX12_personOn_110 ?_
        refine r_iadd Ra dX12_personOn_111 ?_
        obtain ⟨gu112, h⟩ := gd h
        refine q_iald Ra t476 l476 gu112 dX12_personOn_112 ?_
        obtain ⟨gu113, h⟩ := gd h
        obtain ⟨m113, em113, h⟩ := bv h
        have hm113 : VT m113 := eqV em113 (hm96.setI t502 (kd20 _) (hm96.int t476 (kd20 _)))
        refine q_iast Ra t502 l502 gu113 em113 dX12_personOn_113 ?_
        refine r_aload_n Ra (i := 0) dX12_personOn_114 rfl rfl ?_
        refine q_getA Ra (b := 503) f_X12_159 t475 rfl rfl rfl (hm113.ref t475 rfl (by decide)) (by decide) dX12_personOn_115 ?_
        refine r_bipush Ra dX12_personOn_118 rfl ?_
        refine r_iload_n Ra (i := 1) dX12_personOn_120 rfl rfl ?_
        refine r_iadd Ra dX12_personOn_121 ?_
        refine r_aload_n Ra (i := 0) dX12_personOn_122 rfl rfl ?_
        refine q_getA Ra (b := 476) f_X12_7 t475 rfl rfl rfl (hm113.ref t475 rfl (by decide)) (by decide) dX12_personOn_123 ?_
        refine r_iload_n Ra (i := 2) dX12_personOn_126 rfl rfl ?_
        refine r_iconst Ra dX12_personOn_127 ?_
        refine r_iadd Ra dX12_personOn_128 ?_
        obtain ⟨gu129, h⟩ := gd h
        refine q_iald Ra t476 l476 gu129 dX12_personOn_129 ?_
        refine r_bipush Ra dX12_personOn_130 rfl ?_
        refine r_ishl Ra dX12_personOn_132 ?_
        refine r_aload_n Ra (i := 0) dX12_personOn_133 rfl rfl ?_
        refine q_getA Ra (b := 476) f_X12_7 t475 rfl rfl rfl (hm113.ref t475 rfl (by decide)) (by decide) dX12_personOn_134 ?_
        refine r_iload_n Ra (i := 2) dX12_personOn_137 rfl rfl ?_
        refine r_iconst Ra dX12_personOn_138 ?_
        refine r_iadd Ra dX12_personOn_139 ?_
        obtain ⟨gu140, h⟩ := gd h
        refine q_iald Ra t476 l476 gu140 dX12_personOn_140 ?_
        refine r_ior Ra dX12_personOn_141 ?_
        obtain ⟨gu142, h⟩ := gd h
        obtain ⟨m142, em142, h⟩ := bv h
        have hm142 : VT m142 := eqV em142 (hm113.setI t503 (kd20 _) (inR_32 _))
        refine q_iast Ra t503 l503 gu142 em142 dX12_personOn_142 ?_
        refine r_aload_n Ra (i := 0) dX12_personOn_143 rfl rfl ?_
        refine q_getA Ra (b := 503) f_X12_159 t475 rfl rfl rfl (hm142.ref t475 rfl (by decide)) (by decide) dX12_personOn_144 ?_
        refine r_bipush Ra dX12_personOn_147 rfl ?_
        refine r_iload_n Ra (i := 1) dX12_personOn_149 rfl rfl ?_
        refine r_iadd Ra dX12_personOn_150 ?_
        obtain ⟨gu151, h⟩ := gd h
        refine q_iald Ra t503 l503 gu151 dX12_personOn_151 ?_
        refine r_sipush Ra dX12_personOn_152 rfl ?_
        refine r_icmp_gt Ra 162 dX12_personOn_155 (hm142.int t503 (kd20 _)) (Rk rfl) rfl (fun hc => ?_) (fun hc => ?_)
        · replace h := ipos hc h
          refine r_iconst Ra dX12_personOn_162 ?_
          cases h
          exact r_zret Ra (Or.inl rfl) ⟨hm142, (Or.inl rfl)⟩ dX12_personOn_163
        · replace h := ineg hc h
          refine r_iconst Ra dX12_personOn_158 ?_
          refine r_goto Ra 163 dX12_personOn_159 rfl ?_
          cases h
          exact r_zret Ra (Or.inr rfl) ⟨hm142, (Or.inr rfl)⟩ dX12_personOn_163
      · replace h := ipos hc h
        refine r_iconst Ra dX12_personOn_51 ?_
        cases h
        exact r_zret Ra (Or.inl rfl) ⟨hV, (Or.inl rfl)⟩ dX12_personOn_52
noncomputable def pM_comesOn_L71b (N : Nat) (μ : Mem) (c1 : Int) (c2 : Int) (k : Int → Option (Int × Mem)) (self : Int → Int → Option (Int × Mem)) (x3 : Int) (x4 : Int) : Option (Int × Mem) := if x4 < w32 (c1 - 1) then if 0 ≤ x4 ∧ x4 < 1800 then (some (r32 (w32 ((w32 (5 * x3)) + (μ 476 x4))) 251 : Int)).bind fun x3_94 => (some (w32 (x4 + 1) : Int)).bind fun x4_95 => self x3_94 x4_95 else none else k x3
noncomputable def pM_comesOn_L71 (N : Nat) (μ : Mem) (c1 : Int) (c2 : Int) (k : Int → Option (Int × Mem)) (n : Nat) : Int → Int → Option (Int × Mem) := lpF (fun _ _ => none) (pM_comesOn_L71b N μ c1 c2 k) n
noncomputable def pM_comesOn_L153b (N : Nat) (c2 : Int) (k : Mem → Option (Int × Mem)) (self : Int → Mem → Option (Int × Mem)) (x4 : Int) (μ : Mem) : Option (Int × Mem) := if x4 < c2 then if 0 ≤ w32 (2 + x4) ∧ w32 (2 + x4) < 1800 then if 99 < μ 476 (w32 (2 + x4)) then some (0, μ) else if 0 ≤ μ 475 13 ∧ μ 475 13 < 2 then if μ 477 (μ 475 13) ≠ 0 then if 0 ≤ μ 475 13 ∧ μ 475 13 < 2 then if μ 477 (μ 475 13) ≠ 0 then if 0 ≤ w32 (2 + x4) ∧ w32 (2 + x4) < 1800 then if 0 ≤ w32 ((w32 (64 + (w32 (8 * (d32 x4 (μ 477 (μ 475 13))))))) + (r32 x4 (μ 477 (μ 475 13)))) ∧ w32 ((w32 (64 + (w32 (8 * (d32 x4 (μ 477 (μ 475 13))))))) + (r32 x4 (μ 477 (μ 475 13)))) < 1408 then (some (mset μ 499 (w32 ((w32 (64 + (w32 (8 * (d32 x4 (μ 477 (μ 475 13))))))) + (r32 x4 (μ 477 (μ 475 13))))) (μ 476 (w32 (2 + x4))))).bind fun m219 => (some (w32 (x4 + 1) : Int)).bind fun x4_220 => self x4_220 m219 else none else none else none else none else none else none else none else k μ
noncomputable def pM_comesOn_L153 (N : Nat) (c2 : Int) (k : Mem → Option (Int × Mem)) (n : Nat) : Int → Mem → Option (Int × Mem) := lpF (fun _ _ => none) (pM_comesOn_L153b N c2 k) n
noncomputable def pM_comesOn_L229b (N : Nat) (c2 : Int) (k : Mem → Option (Int × Mem)) (self : Int → Mem → Option (Int × Mem)) (x4 : Int) (μ : Mem) : Option (Int × Mem) := if 0 ≤ μ 475 13 ∧ μ 475 13 < 2 then if x4 < μ 480 (μ 475 13) then (pM_personOn μ x4 (w32 ((w32 (2 + c2)) + (w32 (6 * x4))))).bind fun (r255, m255) => if r255 = 0 then some (0, m255) else (some (w32 (x4 + 1) : Int)).bind fun x4_263 => self x4_263 m255 else k μ else none
noncomputable def pM_comesOn_L229 (N : Nat) (c2 : Int) (k : Mem → Option (Int × Mem)) (n : Nat) : Int → Mem → Option (Int × Mem) := lpF (fun _ _ => none) (pM_comesOn_L229b N c2 k) n
noncomputable def pM_comesOn (N : Nat) (μ : Mem) (x1 : Int) : Option (Int × Mem) := if 0 ≤ μ 475 13 ∧ μ 475 13 < 2 then if 0 ≤ μ 475 13 ∧ μ 475 13 < 2 then (some (w32 ((μ 477 (μ 475 13)) * (μ 478 (μ 475 13))) : Int)).bind fun x2_19 => if 0 ≤ μ 475 13 ∧ μ 475 13 < 2 then if x1 = w32 ((w32 (3 + x2_19)) + (w32 (6 * (μ 480 (μ 475 13))))) then if 999 < o32 (shl32 (μ 476 0) 8) (μ 476 1) then some (0, μ) else pM_comesOn_L71 N μ x1 x2_19 (fun z3_101 => if 0 ≤ w32 (x1 - 1) ∧ w32 (x1 - 1) < 1800 then if μ 476 (w32 (x1 - 1)) = z3_101 then (pM_copies N μ 1 0).bind fun m118 => (some (mset m118 498 1 (o32 (shl32 (m118 476 0) 8) (m118 476 1)))).bind fun m142 => (some (mset m142 504 1 0)).bind fun m149 => pM_comesOn_L153 N x2_19 (fun n226 => pM_comesOn_L229 N x2_19 (fun n269 => some (1, n269)) N 0 n226) N 0 m149 else some (0, μ) else none) N 223 0 else some (0, μ) else none else none else none
theorem k_pM_comesOn_L71 {l : Launch} {en : En} {re : Int} {μe : Mem} {N : Nat} {μ : Mem} (hV : VT μ) {c1 : Int} {c2 : Int} {k : Int → Option (Int × Mem)} {K : KT} (Ra : Ru false (some (some .boolean, some (vI re), nCells, μe, 0, 0, (VT μe ∧ (re = 0 ∨ re = 1)))) l en cX12_comesOn yX12_comesOn.cls 5 (rmN 3 126) K) (hi1 : inR c1) (hi2 : inR c2) (hk : ∀ (z3 : Int), k z3 = some (re, μe) → inR z3 → ∀ L9 : Lo, L9 0 = some (vA en 475) → L9 1 = some (vI c1) → L9 2 = some (vI c2) → L9 3 = some (vI z3) → K ZN 101 L9 [] μ) : ∀ (n : Nat) (x3 : Int) (x4 : Int) (L : Lo), pM_comesOn_L71 N μ c1 c2 k n x3 x4 = some (re, μe) → inR x3 → inR x4 → L 0 = some (vA en 475) → L 1 = some (vI c1) → L 2 = some (vI c2) → L 3 = some (vI x3) → L 4 = some (vI x4) → K ZN 71 L [] μ := by
  intro n
  induction n with
  | zero => intro x3 x4 L h; cases h
  | succ n ih =>
    intro x3 x4 L h hx3 hx4 hL0 hL1 hL2 hL3 hL4
    replace h : pM_comesOn_L71b N μ c1 c2 k (pM_comesOn_L71 N μ c1 c2 k n) x3 x4 = some (re, μe) := h
    unfold pM_comesOn_L71b at h
    refine r_iload Ra dX12_comesOn_71 hL4 ?_
    refine r_iload_n Ra (i := 1) dX12_comesOn_73 rfl hL1 ?_
    refine r_iconst Ra dX12_comesOn_74 ?_
    refine r_isub Ra dX12_comesOn_75 ?_
    refine r_icmp_ge Ra 101 dX12_comesOn_76 hx4 (inR_32 _) rfl (fun hc => ?_) (fun hc => ?_)
    · replace h := ineg hc h
      exact hk x3 h hx3 _ hL0 hL1 hL2 hL3
    · replace h := ipos hc h
      refine r_iconst Ra dX12_comesOn_79 ?_
      refine r_iload_n Ra (i := 3) dX12_comesOn_80 rfl hL3 ?_
      refine r_imul Ra dX12_comesOn_81 ?_
      refine r_aload_n Ra (i := 0) dX12_comesOn_82 rfl hL0 ?_
      refine q_getA Ra (b := 476) f_X12_7 t475 rfl rfl rfl (hV.ref t475 rfl (by decide)) (by decide) dX12_comesOn_83 ?_
      refine r_iload Ra dX12_comesOn_86 hL4 ?_
      obtain ⟨gu88, h⟩ := gd h
      refine q_iald Ra t476 l476 gu88 dX12_comesOn_88 ?_
      refine r_iadd Ra dX12_comesOn_89 ?_
      refine r_sipush Ra dX12_comesOn_90 rfl ?_
      refine r_irem Ra dX12_comesOn_93 (Rk rfl) (by decide) ?_
      obtain ⟨x3_94, ex3_94, h⟩ := bv h
      have ix3_94 : inR x3_94 := eqR ex3_94 (inR_32 _)
      refine q_istore_n Ra 3 dX12_comesOn_94 rfl rfl ex3_94 ?_
      obtain ⟨x4_95, ex4_95, h⟩ := bv h
      have ix4_95 : inR x4_95 := eqR ex4_95 (inR_32 _)
      refine q_iinc Ra dX12_comesOn_95 hL4 ex4_95 ?_
      refine r_goto Ra 71 dX12_comesOn_98 rfl ?_
      exact ih x3_94 x4_95 _ h ix3_94 ix4_95 hL0 hL1 hL2 rfl rfl
theorem k_pM_comesOn_L153 {l : Launch} {en : En} {re : Int} {μe : Mem} {N : Nat} {c2 : Int} {k : Mem → Option (Int × Mem)} {K : KT} (Ra : Ru false (some (some .boolean, some (vI re), nCells, μe, 0, 0, (VT μe ∧ (re = 0 ∨ re = 1)))) l en cX12_comesOn yX12_comesOn.cls 5 (rmN 3 126) K) (hi2 : inR c2) (hk : ∀  (μ9 : Mem), k μ9 = some (re, μe) → VT μ9 → ∀ L9 : Lo, L9 0 = some (vA en 475) → L9 2 = some (vI c2) → K ZN 226 L9 [] μ9) : ∀ (n : Nat) (x4 : Int) (μ : Mem) (L : Lo), pM_comesOn_L153 N c2 k n x4 μ = some (re, μe) → inR x4 → VT μ → L 0 = some (vA en 475) → L 2 = some (vI c2) → L 4 = some (vI x4) → K ZN 153 L [] μ := by
  intro n
  induction n with
  | zero => intro x4 μ L h; cases h
  | succ n ih =>
    intro x4 μ L h hx4 hV hL0 hL2 hL4
    replace h : pM_comesOn_L153b N c2 k (pM_comesOn_L153 N c2 k n) x4 μ = some (re, μe) := h
    unfold pM_comesOn_L153b at h
    refine r_iload Ra dX12_comesOn_153 hL4 ?_
    refine r_iload_n Ra (i := 2) dX12_comesOn_155 rfl hL2 ?_
    refine r_icmp_ge Ra 226 dX12_comesOn_156 hx4 hi2 rfl (fun hc => ?_) (fun hc => ?_)
    · replace h := ineg hc h
      exact hk μ h  hV _ hL0 hL2
    · replace h := ipos hc h
      refine r_aload_n Ra (i := 0) dX12_comesOn_159 rfl hL0 ?_
      refine q_getA Ra (b := 476) f_X12_7 t475 rfl rfl rfl (hV.ref t475 rfl (by decide)) (by decide) dX12_comesOn_160 ?_
      refine r_iconst Ra dX12_comesOn_163 ?_
      refine r_iload Ra dX12_comesOn_164 hL4 ?_
      refine r_iadd Ra dX12_comesOn_166 ?_
      obtain ⟨gu167, h⟩ := gd h
      refine q_iald Ra t476 l476 gu167 dX12_comesOn_167 ?_
      refine r_bipush Ra dX12_comesOn_168 rfl ?_
      refine r_icmp_le Ra 175 dX12_comesOn_170 (hV.int t476 (kd20 _)) (Rk rfl) rfl (fun hc => ?_) (fun hc => ?_)
      · replace h := ineg hc h
        refine r_aload_n Ra (i := 0) dX12_comesOn_175 rfl hL0 ?_
        refine q_getA Ra (b := 499) f_X12_147 t475 rfl rfl rfl (hV.ref t475 rfl (by decide)) (by decide) dX12_comesOn_176 ?_
        refine r_bipush Ra dX12_comesOn_179 rfl ?_
        refine r_bipush Ra dX12_comesOn_181 rfl ?_
        refine r_iload Ra dX12_comesOn_183 hL4 ?_
        refine r_aload_n Ra (i := 0) dX12_comesOn_185 rfl hL0 ?_
        refine q_getA Ra (b := 477) f_X12_54 t475 rfl rfl rfl (hV.ref t475 rfl (by decide)) (by decide) dX12_comesOn_186 ?_
        refine r_aload_n Ra (i := 0) dX12_comesOn_189 rfl hL0 ?_
        refine q_getI Ra (x := μ 475 13) f_X12_51 t475 rfl rfl rfl rfl dX12_comesOn_190 ?_
        obtain ⟨gu193, h⟩ := gd h
        refine q_iald Ra t477 l477 gu193 dX12_comesOn_193 ?_
        obtain ⟨gu194, h⟩ := gd h
        refine r_idiv Ra dX12_comesOn_194 (hV.int t477 (kd20 _)) gu194 ?_
        refine r_imul Ra dX12_comesOn_195 ?_
        refine r_iadd Ra dX12_comesOn_196 ?_
        refine r_iload Ra dX12_comesOn_197 hL4 ?_
        refine r_aload_n Ra (i := 0) dX12_comesOn_199 rfl hL0 ?_
        refine q_getA Ra (b := 477) f_X12_54 t475 rfl rfl rfl (hV.ref t475 rfl (by decide)) (by decide) dX12_comesOn_200 ?_
        refine r_aload_n Ra (i := 0) dX12_comesOn_203 rfl hL0 ?_
        refine q_getI Ra (x := μ 475 13) f_X12_51 t475 rfl rfl rfl rfl dX12_comesOn_204 ?_
        obtain ⟨gu207, h⟩ := gd h
        refine q_iald Ra t477 l477 gu207 dX12_comesOn_207 ?_
        obtain ⟨gu208, h⟩ := gd h
        refine r_irem Ra dX12_comesOn_208 (hV.int t477 (kd20 _)) gu208 ?_
        refine r_iadd Ra dX12_comesOn_209 ?_
        refine r_aload_n Ra (i := 0) dX12_comesOn_210 rfl hL0 ?_
        refine q_getA Ra (b := 476) f_X12_7 t475 rfl rfl rfl (hV.ref t475 rfl (by decide)) (by decide) dX12_comesOn_211 ?_
        refine r_iconst Ra dX12_comesOn_214 ?_
        refine r_iload Ra dX12_comesOn_215 hL4 ?_
        refine r_iadd Ra dX12_comesOn_217 ?_
        obtain ⟨gu218, h⟩ := gd h
        refine q_iald Ra t476 l476 gu218 dX12_comesOn_218 ?_
        obtain ⟨gu219, h⟩ := gd h
        obtain ⟨m219, em219, h⟩ := bv h
        have hm219 : VT m219 := eqV em219 (hV.setI t499 (kd20 _) (hV.int t476 (kd20 _)))
        refine q_iast Ra t499 l499 gu219 em219 dX12_comesOn_219 ?_
        obtain ⟨x4_220, ex4_220, h⟩ := bv h
        have ix4_220 : inR x4_220 := eqR ex4_220 (inR_32 _)
        refine q_iinc Ra dX12_comesOn_220 hL4 ex4_220 ?_
        refine r_goto Ra 153 dX12_comesOn_223 rfl ?_
        exact ih x4_220 m219 _ h ix4_220 hm219 hL0 hL2 rfl
      · replace h := ipos hc h
        refine r_iconst Ra dX12_comesOn_173 ?_
        cases h
        exact r_zret Ra (Or.inl rfl) ⟨hV, (Or.inl rfl)⟩ dX12_comesOn_174
theorem k_pM_comesOn_L229 {l : Launch} {en : En} {re : Int} {μe : Mem} {N : Nat} {c2 : Int} {k : Mem → Option (Int × Mem)} {K : KT} (Ra : Ru false (some (some .boolean, some (vI re), nCells, μe, 0, 0, (VT μe ∧ (re = 0 ∨ re = 1)))) l en cX12_comesOn yX12_comesOn.cls 5 (rmN 3 126) K) (hi2 : inR c2) (hk : ∀  (μ9 : Mem), k μ9 = some (re, μe) → VT μ9 → ∀ L9 : Lo, K ZN 269 L9 [] μ9) : ∀ (n : Nat) (x4 : Int) (μ : Mem) (L : Lo), pM_comesOn_L229 N c2 k n x4 μ = some (re, μe) → inR x4 → VT μ → L 0 = some (vA en 475) → L 2 = some (vI c2) → L 4 = some (vI x4) → K ZN 229 L [] μ := by
  intro n
  induction n with
  | zero => intro x4 μ L h; cases h
  | succ n ih =>
    intro x4 μ L h hx4 hV hL0 hL2 hL4
    replace h : pM_comesOn_L229b N c2 k (pM_comesOn_L229 N c2 k n) x4 μ = some (re, μe) := h
    unfold pM_comesOn_L229b at h
    refine r_iload Ra dX12_comesOn_229 hL4 ?_
    refine r_aload_n Ra (i := 0) dX12_comesOn_231 rfl hL0 ?_
    refine q_getA Ra (b := 480) f_X12_63 t475 rfl rfl rfl (hV.ref t475 rfl (by decide)) (by decide) dX12_comesOn_232 ?_
    refine r_aload_n Ra (i := 0) dX12_comesOn_235 rfl hL0 ?_
    refine q_getI Ra (x := μ 475 13) f_X12_51 t475 rfl rfl rfl rfl dX12_comesOn_236 ?_
    obtain ⟨gu239, h⟩ := gd h
    refine q_iald Ra t480 l480 gu239 dX12_comesOn_239 ?_
    refine r_icmp_ge Ra 269 dX12_comesOn_240 hx4 (hV.int t480 (kd20 _)) rfl (fun hc => ?_) (fun hc => ?_)
    · replace h := ineg hc h
      exact hk μ h  hV _ 
    · replace h := ipos hc h
      refine r_aload_n Ra (i := 0) dX12_comesOn_243 rfl hL0 ?_
      refine r_iload Ra dX12_comesOn_244 hL4 ?_
      refine r_iconst Ra dX12_comesOn_246 ?_
      refine r_iload_n Ra (i := 2) dX12_comesOn_247 rfl hL2 ?_
      refine r_iadd Ra dX12_comesOn_248 ?_
      refine r_bipush Ra dX12_comesOn_249 rfl ?_
      refine r_iload Ra dX12_comesOn_251 hL4 ?_
      refine r_imul Ra dX12_comesOn_253 ?_
      refine r_iadd Ra dX12_comesOn_254 ?_
      obtain ⟨⟨r255, m255⟩, hr255, h⟩ := bd h
      refine q_callVI Ra (c_pM_personOn hV hx4 (inR_32 _) hr255) mw_X12_personOn mi_X12_personOn t475 rfl rfl rfl rfl rfl k_X12_507 rfl rfl dX12_comesOn_255 (fun ok255 => ?_)
      obtain ⟨hV255, ok255⟩ := ok255
      refine r_if_ne Ra 263 dX12_comesOn_258 (inR_01 ok255) rfl (fun hc => ?_) (fun hc => ?_)
      · replace h := ineg hc h
        obtain ⟨x4_263, ex4_263, h⟩ := bv h
        have ix4_263 : inR x4_263 := eqR ex4_263 (inR_32 _)
        refine q_iinc Ra dX12_comesOn_263 hL4 ex4_263 ?_
        refine r_goto Ra 229 dX12_comesOn_266 rfl ?_
        exact ih x4_263 m255 _ h ix4_263 hV255 hL0 hL2 rfl
      · replace h := ipos hc h
        refine r_iconst Ra dX12_comesOn_261 ?_
        cases h
        exact r_zret Ra (Or.inl rfl) ⟨hV255, (Or.inl rfl)⟩ dX12_comesOn_262
set_option maxHeartbeats 4000000 in
theorem c_pM_comesOn {l : Launch} {en : En} {N : Nat} {μ : Mem} {x1 : Int} {re : Int} {μe : Mem} (hV : VT μ) (hx1 : inR x1) (h : pM_comesOn N μ x1 = some (re, μe)) : CtI l en yX12_comesOn cX12_comesOn 5 3 126 [vA en 475, vI x1] μ .boolean re μe (VT μe ∧ (re = 0 ∨ re = 1)) := by
  refine Tr.of false (fun h => by cases h) (by decide) (Nat.le_of_ble_eq_true rfl) (fun K Ra => ?_)
  unfold pM_comesOn at h
  refine r_aload_n Ra (i := 0) dX12_comesOn_0 rfl rfl ?_
  refine q_getA Ra (b := 477) f_X12_54 t475 rfl rfl rfl (hV.ref t475 rfl (by decide)) (by decide) dX12_comesOn_1 ?_
  refine r_aload_n Ra (i := 0) dX12_comesOn_4 rfl rfl ?_
  refine q_getI Ra (x := μ 475 13) f_X12_51 t475 rfl rfl rfl rfl dX12_comesOn_5 ?_
  obtain ⟨gu8, h⟩ := gd h
  refine q_iald Ra t477 l477 gu8 dX12_comesOn_8 ?_
  refine r_aload_n Ra (i := 0) dX12_comesOn_9 rfl rfl ?_
  refine q_getA Ra (b := 478) f_X12_57 t475 rfl rfl rfl (hV.ref t475 rfl (by decide)) (by decide) dX12_comesOn_10 ?_
  refine r_aload_n Ra (i := 0) dX12_comesOn_13 rfl rfl ?_
  refine q_getI Ra (x := μ 475 13) f_X12_51 t475 rfl rfl rfl rfl dX12_comesOn_14 ?_
  obtain ⟨gu17, h⟩ := gd h
  refine q_iald Ra t478 l478 gu17 dX12_comesOn_17 ?_
  refine r_imul Ra dX12_comesOn_18 ?_
  obtain ⟨x2_19, ex2_19, h⟩ := bv h
  have ix2_19 : inR x2_19 := eqR ex2_19 (inR_32 _)
  refine q_istore_n Ra 2 dX12_comesOn_19 rfl rfl ex2_19 ?_
  refine r_iload_n Ra (i := 1) dX12_comesOn_20 rfl rfl ?_
  refine r_iconst Ra dX12_comesOn_21 ?_
  refine r_iload_n Ra (i := 2) dX12_comesOn_22 rfl rfl ?_
  refine r_iadd Ra dX12_comesOn_23 ?_
  refine r_bipush Ra dX12_comesOn_24 rfl ?_
  refine r_aload_n Ra (i := 0) dX12_comesOn_26 rfl rfl ?_
  refine q_getA Ra (b := 480) f_X12_63 t475 rfl rfl rfl (hV.ref t475 rfl (by decide)) (by decide) dX12_comesOn_27 ?_
  refine r_aload_n Ra (i := 0) dX12_comesOn_30 rfl rfl ?_
  refine q_getI Ra (x := μ 475 13) f_X12_51 t475 rfl rfl rfl rfl dX12_comesOn_31 ?_
  obtain ⟨gu34, h⟩ := gd h
  refine q_iald Ra t480 l480 gu34 dX12_comesOn_34 ?_
  refine r_imul Ra dX12_comesOn_35 ?_
  refine r_iadd Ra dX12_comesOn_36 ?_
  refine r_icmp_ne Ra 62 dX12_comesOn_37 hx1 (inR_32 _) rfl (fun hc => ?_) (fun hc => ?_)
  · replace h := ineg hc h
    refine r_iconst Ra dX12_comesOn_62 ?_
    cases h
    exact r_zret Ra (Or.inl rfl) ⟨hV, (Or.inl rfl)⟩ dX12_comesOn_63
  · replace h := ipos hc h
    refine r_aload_n Ra (i := 0) dX12_comesOn_40 rfl rfl ?_
    refine q_getA Ra (b := 476) f_X12_7 t475 rfl rfl rfl (hV.ref t475 rfl (by decide)) (by decide) dX12_comesOn_41 ?_
    refine r_iconst Ra dX12_comesOn_44 ?_
    refine q_iald Ra t476 l476 (by decide) dX12_comesOn_45 ?_
    refine r_bipush Ra dX12_comesOn_46 rfl ?_
    refine r_ishl Ra dX12_comesOn_48 ?_
    refine r_aload_n Ra (i := 0) dX12_comesOn_49 rfl rfl ?_
    refine q_getA Ra (b := 476) f_X12_7 t475 rfl rfl rfl (hV.ref t475 rfl (by decide)) (by decide) dX12_comesOn_50 ?_
    refine r_iconst Ra dX12_comesOn_53 ?_
    refine q_iald Ra t476 l476 (by decide) dX12_comesOn_54 ?_
    refine r_ior Ra dX12_comesOn_55 ?_
    refine r_sipush Ra dX12_comesOn_56 rfl ?_
    refine r_icmp_le Ra 64 dX12_comesOn_59 (inR_32 _) (Rk rfl) rfl (fun hc => ?_) (fun hc => ?_)
    · replace h := ineg hc h
      refine r_sipush Ra dX12_comesOn_64 rfl ?_
      refine q_istore_n Ra 3 dX12_comesOn_67 rfl rfl rfl ?_
      refine r_iconst Ra dX12_comesOn_68 ?_
      refine q_istore Ra dX12_comesOn_69 rfl rfl ?_
      refine k_pM_comesOn_L71 hV Ra hx1 ix2_19 ?_ _ _ _ _ h (Rk rfl) (Rk rfl) rfl rfl rfl rfl rfl
      intro z3_101 h iz3_101 L9 f101_0 f101_1 f101_2 f101_3
      refine r_aload_n Ra (i := 0) dX12_comesOn_101 rfl f101_0 ?_
      refine q_getA Ra (b := 476) f_X12_7 t475 rfl rfl rfl (hV.ref t475 rfl (by decide)) (by decide) dX12_comesOn_102 ?_
      refine r_iload_n Ra (i := 1) dX12_comesOn_105 rfl f101_1 ?_
      refine r_iconst Ra dX12_comesOn_106 ?_
      refine r_isub Ra dX12_comesOn_107 ?_
      obtain ⟨gu108, h⟩ := gd h
      refine q_iald Ra t476 l476 gu108 dX12_comesOn_108 ?_
      refine r_iload_n Ra (i := 3) dX12_comesOn_109 rfl f101_3 ?_
      refine r_icmp_eq Ra 115 dX12_comesOn_110 (hV.int t476 (kd20 _)) iz3_101 rfl (fun hc => ?_) (fun hc => ?_)
      · replace h := ipos hc h
        refine r_aload_n Ra (i := 0) dX12_comesOn_115 rfl f101_0 ?_
        refine r_iconst Ra dX12_comesOn_116 ?_
        refine r_iconst Ra dX12_comesOn_117 ?_
        obtain ⟨m118, hr118, h⟩ := bd h
        refine q_callVV Ra (c_pM_copies hV (Rk rfl) (Rk rfl) hr118) mw_X12_copies mi_X12_copies t475 rfl rfl rfl rfl rfl k_X12_414 rfl rfl dX12_comesOn_118 (fun ok118 => ?_)
        refine r_aload_n Ra (i := 0) dX12_comesOn_121 rfl f101_0 ?_
        refine q_getA Ra (b := 498) f_X12_144 t475 rfl rfl rfl (ok118.ref t475 rfl (by decide)) (by decide) dX12_comesOn_122 ?_
        refine r_iconst Ra dX12_comesOn_125 ?_
        refine r_aload_n Ra (i := 0) dX12_comesOn_126 rfl f101_0 ?_
        refine q_getA Ra (b := 476) f_X12_7 t475 rfl rfl rfl (ok118.ref t475 rfl (by decide)) (by decide) dX12_comesOn_127 ?_
        refine r_iconst Ra dX12_comesOn_130 ?_
        refine q_iald Ra t476 l476 (by decide) dX12_comesOn_131 ?_
        refine r_bipush Ra dX12_comesOn_132 rfl ?_
        refine r_ishl Ra dX12_comesOn_134 ?_
        refine r_aload_n Ra (i := 0) dX12_comesOn_135 rfl f101_0 ?_
        refine q_getA Ra (b := 476) f_X12_7 t475 rfl rfl rfl (ok118.ref t475 rfl (by decide)) (by decide) dX12_comesOn_136 ?_
        refine r_iconst Ra dX12_comesOn_139 ?_
        refine q_iald Ra t476 l476 (by decide) dX12_comesOn_140 ?_
        refine r_ior Ra dX12_comesOn_141 ?_
        obtain ⟨m142, em142, h⟩ := bv h
        have hm142 : VT m142 := eqV em142 (ok118.setI t498 (kd20 _) (inR_32 _))
        refine q_iast Ra t498 l498 (by decide) em142 dX12_comesOn_142 ?_
        refine r_aload_n Ra (i := 0) dX12_comesOn_143 rfl f101_0 ?_
        refine q_getA Ra (b := 504) f_X12_162 t475 rfl rfl rfl (hm142.ref t475 rfl (by decide)) (by decide) dX12_comesOn_144 ?_
        refine r_iconst Ra dX12_comesOn_147 ?_
        refine r_iconst Ra dX12_comesOn_148 ?_
        obtain ⟨m149, em149, h⟩ := bv h
        have hm149 : VT m149 := eqV em149 (hm142.setI t504 (kd20 _) (Rk rfl))
        refine q_iast Ra t504 l504 (by decide) em149 dX12_comesOn_149 ?_
        refine r_iconst Ra dX12_comesOn_150 ?_
        refine q_istore Ra dX12_comesOn_151 rfl rfl ?_
        refine k_pM_comesOn_L153 Ra ix2_19 ?_ _ _ _ _ h (Rk rfl) hm149 f101_0 f101_2 rfl
        intro n226 h hn226 L9 f226_0 f226_2
        refine r_iconst Ra dX12_comesOn_226 ?_
        refine q_istore Ra dX12_comesOn_227 rfl rfl ?_
        refine k_pM_comesOn_L229 Ra ix2_19 ?_ _ _ _ _ h (Rk rfl) hn226 f226_0 f226_2 rfl
        intro n269 h hn269 L9 
        refine r_iconst Ra dX12_comesOn_269 ?_
        cases h
        exact r_zret Ra (Or.inr rfl) ⟨hn269, (Or.inr rfl)⟩ dX12_comesOn_270
      · replace h := ineg hc h
        refine r_iconst Ra dX12_comesOn_113 ?_
        cases h
        exact r_zret Ra (Or.inl rfl) ⟨hV, (Or.inl rfl)⟩ dX12_comesOn_114
    · replace h := ipos hc h
      refine r_iconst Ra dX12_comesOn_62 ?_
      cases h
      exact r_zret Ra (Or.inl rfl) ⟨hV, (Or.inl rfl)⟩ dX12_comesOn_63
noncomputable def pM_on (N : Nat) (μ : Mem)  : Option (Int × Mem) := (some (μ 475 1 : Int)).bind fun x1_4 => (some (mset μ 475 1 0)).bind fun m7 => (pM_comesOn N m7 x1_4).bind fun (r12, m12) => if r12 = 0 then (pM_refuses m12 5).bind fun (r20, m20) => if r20 < 0 then some (0, m20) else some (1, m20) else (pM_copies N m12 0 1).bind fun m35 => (some (mset m35 475 52 0)).bind fun m40 => some (1, m40)
set_option maxHeartbeats 4000000 in
theorem c_pM_on {l : Launch} {en : En} {N : Nat} {μ : Mem}  {re : Int} {μe : Mem} (hV : VT μ)  (h : pM_on N μ = some (re, μe)) : CtI l en yX12_on cX12_on 2 4 150 [vA en 475] μ .boolean re μe (VT μe ∧ (re = 0 ∨ re = 1)) := by
  refine Tr.of false (fun h => by cases h) (by decide) (Nat.le_of_ble_eq_true rfl) (fun K Ra => ?_)
  unfold pM_on at h
  refine r_aload_n Ra (i := 0) dX12_on_0 rfl rfl ?_
  refine q_getI Ra (x := μ 475 1) f_X12_13 t475 rfl rfl rfl rfl dX12_on_1 ?_
  obtain ⟨x1_4, ex1_4, h⟩ := bv h
  have ix1_4 : inR x1_4 := eqR ex1_4 (hV.int t475 rfl)
  refine q_istore_n Ra 1 dX12_on_4 rfl rfl ex1_4 ?_
  refine r_aload_n Ra (i := 0) dX12_on_5 rfl rfl ?_
  refine r_iconst Ra dX12_on_6 ?_
  obtain ⟨m7, em7, h⟩ := bv h
  have hm7 : VT m7 := eqV em7 (hV.setI t475 rfl (Rk rfl))
  refine q_putI Ra f_X12_13 p_X12_1 t475 rfl rfl rfl em7 dX12_on_7 ?_
  refine r_aload_n Ra (i := 0) dX12_on_10 rfl rfl ?_
  refine r_iload_n Ra (i := 1) dX12_on_11 rfl rfl ?_
  obtain ⟨⟨r12, m12⟩, hr12, h⟩ := bd h
  refine q_callVI Ra (c_pM_comesOn hm7 ix1_4 hr12) mw_X12_comesOn mi_X12_comesOn t475 rfl rfl rfl rfl rfl k_X12_510 rfl rfl dX12_on_12 (fun ok12 => ?_)
  obtain ⟨hV12, ok12⟩ := ok12
  refine r_if_ne Ra 32 dX12_on_15 (inR_01 ok12) rfl (fun hc => ?_) (fun hc => ?_)
  · replace h := ineg hc h
    refine r_aload_n Ra (i := 0) dX12_on_32 rfl rfl ?_
    refine r_iconst Ra dX12_on_33 ?_
    refine r_iconst Ra dX12_on_34 ?_
    obtain ⟨m35, hr35, h⟩ := bd h
    refine q_callVV Ra (c_pM_copies hV12 (Rk rfl) (Rk rfl) hr35) mw_X12_copies mi_X12_copies t475 rfl rfl rfl rfl rfl k_X12_414 rfl rfl dX12_on_35 (fun ok35 => ?_)
    refine r_aload_n Ra (i := 0) dX12_on_38 rfl rfl ?_
    refine r_iconst Ra dX12_on_39 ?_
    obtain ⟨m40, em40, h⟩ := bv h
    have hm40 : VT m40 := eqV em40 (ok35.setI t475 rfl (Rk rfl))
    refine q_putI Ra f_X12_171 p_X12_52 t475 rfl rfl rfl em40 dX12_on_40 ?_
    refine r_iconst Ra dX12_on_43 ?_
    cases h
    exact r_zret Ra (Or.inr rfl) ⟨hm40, (Or.inr rfl)⟩ dX12_on_44
  · replace h := ipos hc h
    refine r_aload_n Ra (i := 0) dX12_on_18 rfl rfl ?_
    refine r_iconst Ra dX12_on_19 ?_
    obtain ⟨⟨r20, m20⟩, hr20, h⟩ := bd h
    refine q_callVI Ra (c_pM_refuses hV12 (Rk rfl) hr20) mw_X12_refuses mi_X12_refuses t475 rfl rfl rfl rfl rfl k_X12_247 rfl rfl dX12_on_20 (fun ok20 => ?_)
    obtain ⟨hV20, ok20⟩ := ok20
    refine r_if_lt Ra 30 dX12_on_23 ok20 rfl (fun hc => ?_) (fun hc => ?_)
    · replace h := ipos hc h
      refine r_iconst Ra dX12_on_30 ?_
      cases h
      exact r_zret Ra (Or.inl rfl) ⟨hV20, (Or.inl rfl)⟩ dX12_on_31
    · replace h := ineg hc h
      refine r_iconst Ra dX12_on_26 ?_
      refine r_goto Ra 31 dX12_on_27 rfl ?_
      cases h
      exact r_zret Ra (Or.inr rfl) ⟨hV20, (Or.inr rfl)⟩ dX12_on_31
