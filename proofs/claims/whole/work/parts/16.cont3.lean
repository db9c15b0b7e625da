noncomputable def pD_put_L3b (N : Nat) (c1 : Int) (k : Mem → Option (Mem)) (self : Int → Mem → Option (Mem)) (x2 : Int) (μ : Mem) : Option (Mem) := if x2 < 0 then k μ else if μ 0 1 < 1600 then if 0 ≤ μ 0 1 ∧ μ 0 1 < 1600 then (some (mset μ 1 (μ 0 1) (a32 (shr32 c1 x2) 255))).bind fun m32 => (some (mset m32 0 1 (w32 ((m32 0 1) + 1)))).bind fun m40 => (some (w32 (x2 + (-8)) : Int)).bind fun x2_43 => self x2_43 m40 else none else (some (w32 (x2 + (-8)) : Int)).bind fun x2_43 => self x2_43 μ
noncomputable def pD_put_L3 (N : Nat) (c1 : Int) (k : Mem → Option (Mem)) (n : Nat) : Int → Mem → Option (Mem) := lpF (fun _ _ => none) (pD_put_L3b N c1 k) n
noncomputable def pD_put (N : Nat) (μ : Mem) (x1 : Int) : Option (Mem) := pD_put_L3 N x1 (fun n49 => some n49) N 24 μ
theorem k_pD_put_L3 {l : Launch} {en : En} {μe : Mem} {N : Nat} {c1 : Int} {k : Mem → Option (Mem)} {K : KT} (Ra : Ru false (some (none, none, nCells, μe, 0, 0, (VT μe))) l en cX11_put yX11_put.cls 3 (rmN 0 60) K) (hi1 : inR c1) (hk : ∀  (μ9 : Mem), k μ9 = some μe → VT μ9 → ∀ L9 : Lo, K ZN 49 L9 [] μ9) : ∀ (n : Nat) (x2 : Int) (μ : Mem) (L : Lo), pD_put_L3 N c1 k n x2 μ = some μe → inR x2 → VT μ → L 0 = some (vA en 0) → L 1 = some (vI c1) → L 2 = some (vI x2) → K ZN 3 L [] μ := by
  intro n
  induction n with
  | zero => intro x2 μ L h; cases h
  | succ n ih =>
    intro x2 μ L h hx2 hV hL0 hL1 hL2
    replace h : pD_put_L3b N c1 k (pD_put_L3 N c1 k n) x2 μ = some μe := h
    unfold pD_put_L3b at h
    refine r_iload_n Ra (i := 2) dX11_put_3 rfl hL2 ?_
    refine r_if_lt Ra 49 dX11_put_4 hx2 rfl (fun hc => ?_) (fun hc => ?_)
    · replace h := ipos hc h
      exact hk μ h  hV _ 
    · replace h := ineg hc h
      refine r_aload_n Ra (i := 0) dX11_put_7 rfl hL0 ?_
      refine q_getI Ra (x := μ 0 1) f_X11_95 t0 rfl rfl rfl rfl dX11_put_8 ?_
      refine r_sipush Ra dX11_put_11 rfl ?_
      refine r_icmp_ge Ra 43 dX11_put_14 (hV.int t0 rfl) (Rk rfl) rfl (fun hc => ?_) (fun hc => ?_)
      · replace h := ineg hc h
        obtain ⟨x2_43, ex2_43, h⟩ := bv h
        have ix2_43 : inR x2_43 := eqR ex2_43 (inR_32 _)
        refine q_iinc Ra dX11_put_43 hL2 ex2_43 ?_
        refine r_goto Ra 3 dX11_put_46 rfl ?_
        exact ih x2_43 μ _ h ix2_43 hV hL0 hL1 rfl
      · replace h := ipos hc h
        refine r_aload_n Ra (i := 0) dX11_put_17 rfl hL0 ?_
        refine q_getA Ra (b := 1) f_X11_9 t0 rfl rfl rfl (hV.ref t0 rfl (by decide)) (by decide) dX11_put_18 ?_
        refine r_aload_n Ra (i := 0) dX11_put_21 rfl hL0 ?_
        refine q_getI Ra (x := μ 0 1) f_X11_95 t0 rfl rfl rfl rfl dX11_put_22 ?_
        refine r_iload_n Ra (i := 1) dX11_put_25 rfl hL1 ?_
        refine r_iload_n Ra (i := 2) dX11_put_26 rfl hL2 ?_
        refine r_ishr Ra dX11_put_27 ?_
        refine r_sipush Ra dX11_put_28 rfl ?_
        refine r_iand Ra dX11_put_31 ?_
        obtain ⟨gu32, h⟩ := gd h
        obtain ⟨m32, em32, h⟩ := bv h
        have hm32 : VT m32 := eqV em32 (hV.setI t1 (kd20 _) (inR_32 _))
        refine q_iast Ra t1 l1 gu32 em32 dX11_put_32 ?_
        refine r_aload_n Ra (i := 0) dX11_put_33 rfl hL0 ?_
        refine r_dupA Ra dX11_put_34 ?_
        refine q_getI Ra (x := m32 0 1) f_X11_95 t0 rfl rfl rfl rfl dX11_put_35 ?_
        refine r_iconst Ra dX11_put_38 ?_
        refine r_iadd Ra dX11_put_39 ?_
        obtain ⟨m40, em40, h⟩ := bv h
        have hm40 : VT m40 := eqV em40 (hm32.setI t0 rfl (inR_32 _))
        refine q_putI Ra f_X11_95 p_X11_1 t0 rfl rfl rfl em40 dX11_put_40 ?_
        obtain ⟨x2_43, ex2_43, h⟩ := bv h
        have ix2_43 : inR x2_43 := eqR ex2_43 (inR_32 _)
        refine q_iinc Ra dX11_put_43 hL2 ex2_43 ?_
        refine r_goto Ra 3 dX11_put_46 rfl ?_
        exact ih x2_43 m40 _ h ix2_43 hm40 hL0 hL1 rfl
set_option maxHeartbeats 4000000 in
theorem c_pD_put {l : Launch} {en : En} {N : Nat} {μ : Mem} {x1 : Int} {μe : Mem} (hV : VT μ) (hx1 : inR x1) (h : pD_put N μ x1 = some μe) : CtV l en yX11_put cX11_put 3 0 60 [vA en 0, vI x1] μ μe (VT μe) := by
  refine Tr.of false (fun h => by cases h) (by decide) (Nat.le_of_ble_eq_true rfl) (fun K Ra => ?_)
  unfold pD_put at h
  refine r_bipush Ra dX11_put_0 rfl ?_
  refine q_istore_n Ra 2 dX11_put_2 rfl rfl rfl ?_
  refine k_pD_put_L3 Ra hx1 ?_ _ _ _ _ h (Rk rfl) hV rfl rfl rfl
  intro n49 h hn49 L9 
  cases h
  exact r_vret Ra hn49 dX11_put_49
noncomputable def pD_refuse (μ : Mem) (x1 : Int) : Option (Int × Mem) := if x1 < 0 then some ((-1), μ) else if x1 < 6 then if 0 ≤ x1 ∧ x1 < 6 then if 0 ≤ x1 ∧ x1 < 6 then (some (mset μ 474 x1 (w32 ((μ 474 x1) + 1)))).bind fun m19 => some ((-1), m19) else none else none else some ((-1), μ)
set_option maxHeartbeats 4000000 in
theorem c_pD_refuse {l : Launch} {en : En} {μ : Mem} {x1 : Int} {re : Int} {μe : Mem} (hV : VT μ) (hx1 : inR x1) (h : pD_refuse μ x1 = some (re, μe)) : CtI l en yX11_refuse cX11_refuse 2 0 60 [vA en 0, vI x1] μ .int re μe (VT μe ∧ inR re) := by
  refine Tr.of false (fun h => by cases h) (by decide) (Nat.le_of_ble_eq_true rfl) (fun K Ra => ?_)
  unfold pD_refuse at h
  refine r_iload_n Ra (i := 1) dX11_refuse_0 rfl rfl ?_
  refine r_if_lt Ra 20 dX11_refuse_1 hx1 rfl (fun hc => ?_) (fun hc => ?_)
  · replace h := ipos hc h
    refine r_iconst Ra dX11_refuse_20 ?_
    cases h
    exact r_iret Ra ⟨hV, (Rk rfl)⟩ dX11_refuse_21
  · replace h := ineg hc h
    refine r_iload_n Ra (i := 1) dX11_refuse_4 rfl rfl ?_
    refine r_bipush Ra dX11_refuse_5 rfl ?_
    refine r_icmp_ge Ra 20 dX11_refuse_7 hx1 (Rk rfl) rfl (fun hc => ?_) (fun hc => ?_)
    · replace h := ineg hc h
      refine r_iconst Ra dX11_refuse_20 ?_
      cases h
      exact r_iret Ra ⟨hV, (Rk rfl)⟩ dX11_refuse_21
    · replace h := ipos hc h
      refine r_aload_n Ra (i := 0) dX11_refuse_10 rfl rfl ?_
      refine q_getA Ra (b := 474) f_X11_88 t0 rfl rfl rfl (hV.ref t0 rfl (by decide)) (by decide) dX11_refuse_11 ?_
      refine r_iload_n Ra (i := 1) dX11_refuse_14 rfl rfl ?_
      refine r_dup2 Ra dX11_refuse_15 ?_
      obtain ⟨gu16, h⟩ := gd h
      refine q_iald Ra t474 l474 gu16 dX11_refuse_16 ?_
      refine r_iconst Ra dX11_refuse_17 ?_
      refine r_iadd Ra dX11_refuse_18 ?_
      obtain ⟨gu19, h⟩ := gd h
      obtain ⟨m19, em19, h⟩ := bv h
      have hm19 : VT m19 := eqV em19 (hV.setI t474 (kd20 _) (inR_32 _))
      refine q_iast Ra t474 l474 gu19 em19 dX11_refuse_19 ?_
      refine r_iconst Ra dX11_refuse_20 ?_
      cases h
      exact r_iret Ra ⟨hm19, (Rk rfl)⟩ dX11_refuse_21
noncomputable def pD_feed (N : Nat) (μ : Mem) (x1 : Int) (x2 : Int) (x3 : Int) (x4 : Int) (x5 : Int) : Option (Int × Mem) := if 1600 < w32 ((μ 0 1) + 20) then (pD_refuse μ 0).bind fun (r15, m15) => some (r15, m15) else (pD_put N μ x1).bind fun m21 => (pD_put N m21 x2).bind fun m26 => (pD_put N m26 x3).bind fun m31 => (pD_put N m31 x4).bind fun m37 => (pD_put N m37 x5).bind fun m43 => some (m43 0 1, m43)
set_option maxHeartbeats 4000000 in
theorem c_pD_feed {l : Launch} {en : En} {N : Nat} {μ : Mem} {x1 : Int} {x2 : Int} {x3 : Int} {x4 : Int} {x5 : Int} {re : Int} {μe : Mem} (hV : VT μ) (hx1 : inR x1) (hx2 : inR x2) (hx3 : inR x3) (hx4 : inR x4) (hx5 : inR x5) (h : pD_feed N μ x1 x2 x3 x4 x5 = some (re, μe)) : CtI l en yX11_feed cX11_feed 6 1 82 [vA en 0, vI x1, vI x2, vI x3, vI x4, vI x5] μ .int re μe (VT μe ∧ inR re) := by
  refine Tr.of false (fun h => by cases h) (by decide) (Nat.le_of_ble_eq_true rfl) (fun K Ra => ?_)
  unfold pD_feed at h
  refine r_aload_n Ra (i := 0) dX11_feed_0 rfl rfl ?_
  refine q_getI Ra (x := μ 0 1) f_X11_95 t0 rfl rfl rfl rfl dX11_feed_1 ?_
  refine r_bipush Ra dX11_feed_4 rfl ?_
  refine r_iadd Ra dX11_feed_6 ?_
  refine r_sipush Ra dX11_feed_7 rfl ?_
  refine r_icmp_le Ra 19 dX11_feed_10 (inR_32 _) (Rk rfl) rfl (fun hc => ?_) (fun hc => ?_)
  · replace h := ineg hc h
    refine r_aload_n Ra (i := 0) dX11_feed_19 rfl rfl ?_
    refine r_iload_n Ra (i := 1) dX11_feed_20 rfl rfl ?_
    obtain ⟨m21, hr21, h⟩ := bd h
    refine q_callVV Ra (c_pD_put hV hx1 hr21) mw_X11_put mi_X11_put t0 rfl rfl rfl rfl rfl k_X11_102 rfl rfl dX11_feed_21 (fun ok21 => ?_)
    refine r_aload_n Ra (i := 0) dX11_feed_24 rfl rfl ?_
    refine r_iload_n Ra (i := 2) dX11_feed_25 rfl rfl ?_
    obtain ⟨m26, hr26, h⟩ := bd h
    refine q_callVV Ra (c_pD_put ok21 hx2 hr26) mw_X11_put mi_X11_put t0 rfl rfl rfl rfl rfl k_X11_102 rfl rfl dX11_feed_26 (fun ok26 => ?_)
    refine r_aload_n Ra (i := 0) dX11_feed_29 rfl rfl ?_
    refine r_iload_n Ra (i := 3) dX11_feed_30 rfl rfl ?_
    obtain ⟨m31, hr31, h⟩ := bd h
    refine q_callVV Ra (c_pD_put ok26 hx3 hr31) mw_X11_put mi_X11_put t0 rfl rfl rfl rfl rfl k_X11_102 rfl rfl dX11_feed_31 (fun ok31 => ?_)
    refine r_aload_n Ra (i := 0) dX11_feed_34 rfl rfl ?_
    refine r_iload Ra dX11_feed_35 rfl ?_
    obtain ⟨m37, hr37, h⟩ := bd h
    refine q_callVV Ra (c_pD_put ok31 hx4 hr37) mw_X11_put mi_X11_put t0 rfl rfl rfl rfl rfl k_X11_102 rfl rfl dX11_feed_37 (fun ok37 => ?_)
    refine r_aload_n Ra (i := 0) dX11_feed_40 rfl rfl ?_
    refine r_iload Ra dX11_feed_41 rfl ?_
    obtain ⟨m43, hr43, h⟩ := bd h
    refine q_callVV Ra (c_pD_put ok37 hx5 hr43) mw_X11_put mi_X11_put t0 rfl rfl rfl rfl rfl k_X11_102 rfl rfl dX11_feed_43 (fun ok43 => ?_)
    refine r_aload_n Ra (i := 0) dX11_feed_46 rfl rfl ?_
    refine q_getI Ra (x := m43 0 1) f_X11_95 t0 rfl rfl rfl rfl dX11_feed_47 ?_
    cases h
    exact r_iret Ra ⟨ok43, (ok43.int t0 rfl)⟩ dX11_feed_50
  · replace h := ipos hc h
    refine r_aload_n Ra (i := 0) dX11_feed_13 rfl rfl ?_
    refine r_iconst Ra dX11_feed_14 ?_
    obtain ⟨⟨r15, m15⟩, hr15, h⟩ := bd h
    refine q_callVI Ra (c_pD_refuse hV (Rk rfl) hr15) mw_X11_refuse mi_X11_refuse t0 rfl rfl rfl rfl rfl k_X11_98 rfl rfl dX11_feed_15 (fun ok15 => ?_)
    obtain ⟨hV15, ok15⟩ := ok15
    cases h
    exact r_iret Ra ⟨hV15, ok15⟩ dX11_feed_18
noncomputable def pD_end (μ : Mem) (x1 : Int) : Option (Int × Mem) := jn (α := Unit → Option (Int × Mem)) (fun (_ : Unit) => (pD_refuse μ 0).bind fun (r14, m14) => some (0, m14)) (fun (j12 : Unit → Option (Int × Mem)) => if x1 < 0 then j12 () else if μ 0 1 < x1 then j12 () else (some (mset μ 0 1 x1)).bind fun m22 => some (1, m22))
set_option maxHeartbeats 4000000 in
theorem c_pD_end {l : Launch} {en : En} {μ : Mem} {x1 : Int} {re : Int} {μe : Mem} (hV : VT μ) (hx1 : inR x1) (h : pD_end μ x1 = some (re, μe)) : CtI l en yX11_end cX11_end 2 1 81 [vA en 0, vI x1] μ .boolean re μe (VT μe ∧ (re = 0 ∨ re = 1)) := by
  refine Tr.of false (fun h => by cases h) (by decide) (Nat.le_of_ble_eq_true rfl) (fun K Ra => ?_)
  unfold pD_end at h
  refine r_iload_n Ra (i := 1) dX11_end_0 rfl rfl ?_
  obtain ⟨j12, ej12, h⟩ := jn_elim h
  have hJ12 : j12 () = some (re, μe) → ∀ L9 : Lo, L9 0 = some (vA en 0) → K ZN 12 L9 [] μ := by
    intro h L9 f12_0
    rw [ej12] at h
    refine r_aload_n Ra (i := 0) dX11_end_12 rfl f12_0 ?_
    refine r_iconst Ra dX11_end_13 ?_
    obtain ⟨⟨r14, m14⟩, hr14, h⟩ := bd h
    refine q_callVI Ra (c_pD_refuse hV (Rk rfl) hr14) mw_X11_refuse mi_X11_refuse t0 rfl rfl rfl rfl rfl k_X11_98 rfl rfl dX11_end_14 (fun ok14 => ?_)
    obtain ⟨hV14, ok14⟩ := ok14
    refine r_popI Ra dX11_end_17 ?_
    refine r_iconst Ra dX11_end_18 ?_
    cases h
    exact r_zret Ra (Or.inl rfl) ⟨hV14, (Or.inl rfl)⟩ dX11_end_19
  refine r_if_lt Ra 12 dX11_end_1 hx1 rfl (fun hc => ?_) (fun hc => ?_)
  · replace h := ipos hc h
    exact hJ12 h  _ rfl
  · replace h := ineg hc h
    refine r_iload_n Ra (i := 1) dX11_end_4 rfl rfl ?_
    refine r_aload_n Ra (i := 0) dX11_end_5 rfl rfl ?_
    refine q_getI Ra (x := μ 0 1) f_X11_95 t0 rfl rfl rfl rfl dX11_end_6 ?_
    refine r_icmp_le Ra 20 dX11_end_9 hx1 (hV.int t0 rfl) rfl (fun hc => ?_) (fun hc => ?_)
    · replace h := ineg hc h
      refine r_aload_n Ra (i := 0) dX11_end_20 rfl rfl ?_
      refine r_iload_n Ra (i := 1) dX11_end_21 rfl rfl ?_
      obtain ⟨m22, em22, h⟩ := bv h
      have hm22 : VT m22 := eqV em22 (hV.setI t0 rfl hx1)
      refine q_putI Ra f_X11_95 p_X11_1 t0 rfl rfl rfl em22 dX11_end_22 ?_
      refine r_iconst Ra dX11_end_25 ?_
      cases h
      exact r_zret Ra (Or.inr rfl) ⟨hm22, (Or.inr rfl)⟩ dX11_end_26
    · replace h := ipos hc h
      exact hJ12 h  _ rfl
noncomputable def pD_forgetAnswers (μ : Mem)  : Option (Mem) := (pT_forget μ).bind fun m4 => (pY_forget m4).bind fun m11 => (pH_forget m11).bind fun m18 => (pK_forget m18).bind fun m25 => some m25
set_option maxHeartbeats 4000000 in
theorem c_pD_forgetAnswers {l : Launch} {en : En} {μ : Mem}  {μe : Mem} (hV : VT μ)  (h : pD_forgetAnswers μ = some μe) : CtV l en yX11_forgetAnswers cX11_forgetAnswers 1 1 80 [vA en 0] μ μe (VT μe) := by
  refine Tr.of false (fun h => by cases h) (by decide) (Nat.le_of_ble_eq_true rfl) (fun K Ra => ?_)
  unfold pD_forgetAnswers at h
  refine r_aload_n Ra (i := 0) dX11_forgetAnswers_0 rfl rfl ?_
  refine q_getA Ra (b := 201) f_X11_56 t0 rfl rfl rfl (hV.ref t0 rfl (by decide)) (by decide) dX11_forgetAnswers_1 ?_
  obtain ⟨m4, hr4, h⟩ := bd h
  refine q_callVV Ra (c_pT_forget hV hr4) mw_X7_forget mi_X7_forget t201 rfl rfl rfl rfl rfl k_X11_335 rfl rfl dX11_forgetAnswers_4 (fun ok4 => ?_)
  refine r_aload_n Ra (i := 0) dX11_forgetAnswers_7 rfl rfl ?_
  refine q_getA Ra (b := 250) f_X11_63 t0 rfl rfl rfl (ok4.ref t0 rfl (by decide)) (by decide) dX11_forgetAnswers_8 ?_
  obtain ⟨m11, hr11, h⟩ := bd h
  refine q_callVV Ra (c_pY_forget ok4 hr11) mw_X10_forget mi_X10_forget t250 rfl rfl rfl rfl rfl k_X11_336 rfl rfl dX11_forgetAnswers_11 (fun ok11 => ?_)
  refine r_aload_n Ra (i := 0) dX11_forgetAnswers_14 rfl rfl ?_
  refine q_getA Ra (b := 296) f_X11_70 t0 rfl rfl rfl (ok11.ref t0 rfl (by decide)) (by decide) dX11_forgetAnswers_15 ?_
  obtain ⟨m18, hr18, h⟩ := bd h
  refine q_callVV Ra (c_pH_forget ok11 hr18) mw_X1_forget mi_X1_forget t296 rfl rfl rfl rfl rfl k_X11_337 rfl rfl dX11_forgetAnswers_18 (fun ok18 => ?_)
  refine r_aload_n Ra (i := 0) dX11_forgetAnswers_21 rfl rfl ?_
  refine q_getA Ra (b := 396) f_X11_77 t0 rfl rfl rfl (ok18.ref t0 rfl (by decide)) (by decide) dX11_forgetAnswers_22 ?_
  obtain ⟨m25, hr25, h⟩ := bd h
  refine q_callVV Ra (c_pK_forget ok18 hr25) mw_X9_forget mi_X9_forget t396 rfl rfl rfl rfl rfl k_X11_338 rfl rfl dX11_forgetAnswers_25 (fun ok25 => ?_)
  cases h
  exact r_vret Ra ok25 dX11_forgetAnswers_28
noncomputable def pD_valley (N : Nat) (μ : Mem)  : Option (Int × Mem) := (pR_read N μ (μ 0 1)).bind fun (r12, m12) => (some (mset m12 0 1 0)).bind fun m18 => if r12 = 0 then (pD_refuse m18 1).bind fun (r27, m27) => some (r27, m27) else (pP_copyOf m18 2 19).bind fun m42 => (pS_startOf N m42 38).bind fun m53 => (pA_forget m53).bind fun m60 => (pK_forgetSeen m60).bind fun m67 => (pD_forgetAnswers m67).bind fun m71 => some (m71 2 5, m71)
set_option maxHeartbeats 4000000 in
theorem c_pD_valley {l : Launch} {en : En} {N : Nat} {μ : Mem}  {re : Int} {μe : Mem} (hV : VT μ)  (h : pD_valley N μ = some (re, μe)) : CtI l en yX11_valley cX11_valley 2 207 4593 [vA en 0] μ .int re μe (VT μe ∧ inR re) := by
  refine Tr.of false (fun h => by cases h) (by decide) (Nat.le_of_ble_eq_true rfl) (fun K Ra => ?_)
  unfold pD_valley at h
  refine r_aload_n Ra (i := 0) dX11_valley_0 rfl rfl ?_
  refine q_getA Ra (b := 18) f_X11_23 t0 rfl rfl rfl (hV.ref t0 rfl (by decide)) (by decide) dX11_valley_1 ?_
  refine r_aload_n Ra (i := 0) dX11_valley_4 rfl rfl ?_
  refine q_getA Ra (b := 1) f_X11_9 t0 rfl rfl rfl (hV.ref t0 rfl (by decide)) (by decide) dX11_valley_5 ?_
  refine r_aload_n Ra (i := 0) dX11_valley_8 rfl rfl ?_
  refine q_getI Ra (x := μ 0 1) f_X11_95 t0 rfl rfl rfl rfl dX11_valley_9 ?_
  obtain ⟨⟨r12, m12⟩, hr12, h⟩ := bd h
  refine q_callVI Ra (c_pR_read hV (hV.int t0 rfl) hr12) mw_X4_read mi_X4_read t18 rfl rfl rfl rfl rfl k_X11_106 rfl rfl dX11_valley_12 (fun ok12 => ?_)
  obtain ⟨hV12, ok12⟩ := ok12
  refine q_istore_n Ra 1 dX11_valley_15 rfl rfl rfl ?_
  refine r_aload_n Ra (i := 0) dX11_valley_16 rfl rfl ?_
  refine r_iconst Ra dX11_valley_17 ?_
  obtain ⟨m18, em18, h⟩ := bv h
  have hm18 : VT m18 := eqV em18 (hV12.setI t0 rfl (Rk rfl))
  refine q_putI Ra f_X11_95 p_X11_1 t0 rfl rfl rfl em18 dX11_valley_18 ?_
  refine r_iload_n Ra (i := 1) dX11_valley_21 rfl rfl ?_
  refine r_if_ne Ra 31 dX11_valley_22 (inR_01 ok12) rfl (fun hc => ?_) (fun hc => ?_)
  · replace h := ineg hc h
    refine r_aload_n Ra (i := 0) dX11_valley_31 rfl rfl ?_
    refine q_getA Ra (b := 2) f_X11_16 t0 rfl rfl rfl (hm18.ref t0 rfl (by decide)) (by decide) dX11_valley_32 ?_
    refine r_aload_n Ra (i := 0) dX11_valley_35 rfl rfl ?_
    refine q_getA Ra (b := 18) f_X11_23 t0 rfl rfl rfl (hm18.ref t0 rfl (by decide)) (by decide) dX11_valley_36 ?_
    refine q_getA Ra (b := 19) f_X11_110 t18 rfl rfl rfl (hm18.ref t18 rfl (by decide)) (by decide) dX11_valley_39 ?_
    obtain ⟨m42, hr42, h⟩ := bd h
    refine q_callVV Ra (c_pP_copyOf hm18 t2 t19 hr42) mw_X3_copyOf mi_X3_copyOf t2 rfl rfl rfl rfl rfl k_X11_111 rfl rfl dX11_valley_42 (fun ok42 => ?_)
    refine r_aload_n Ra (i := 0) dX11_valley_45 rfl rfl ?_
    refine q_getA Ra (b := 38) f_X11_30 t0 rfl rfl rfl (ok42.ref t0 rfl (by decide)) (by decide) dX11_valley_46 ?_
    refine r_aload_n Ra (i := 0) dX11_valley_49 rfl rfl ?_
    refine q_getA Ra (b := 2) f_X11_16 t0 rfl rfl rfl (ok42.ref t0 rfl (by decide)) (by decide) dX11_valley_50 ?_
    obtain ⟨m53, hr53, h⟩ := bd h
    refine q_callVV Ra (c_pS_startOf ok42 t38 hr53) mw_X5_startOf mi_X5_startOf t38 rfl rfl rfl rfl rfl k_X11_114 rfl rfl dX11_valley_53 (fun ok53 => ?_)
    refine r_aload_n Ra (i := 0) dX11_valley_56 rfl rfl ?_
    refine q_getA Ra (b := 52) f_X11_40 t0 rfl rfl rfl (ok53.ref t0 rfl (by decide)) (by decide) dX11_valley_57 ?_
    obtain ⟨m60, hr60, h⟩ := bd h
    refine q_callVV Ra (c_pA_forget ok53 hr60) mw_X0_forget mi_X0_forget t52 rfl rfl rfl rfl rfl k_X11_117 rfl rfl dX11_valley_60 (fun ok60 => ?_)
    refine r_aload_n Ra (i := 0) dX11_valley_63 rfl rfl ?_
    refine q_getA Ra (b := 396) f_X11_77 t0 rfl rfl rfl (ok60.ref t0 rfl (by decide)) (by decide) dX11_valley_64 ?_
    obtain ⟨m67, hr67, h⟩ := bd h
    refine q_callVV Ra (c_pK_forgetSeen ok60 hr67) mw_X9_forgetSeen mi_X9_forgetSeen t396 rfl rfl rfl rfl rfl k_X11_120 rfl rfl dX11_valley_67 (fun ok67 => ?_)
    refine r_aload_n Ra (i := 0) dX11_valley_70 rfl rfl ?_
    obtain ⟨m71, hr71, h⟩ := bd h
    refine q_callVV Ra (c_pD_forgetAnswers ok67 hr71) mw_X11_forgetAnswers mi_X11_forgetAnswers t0 rfl rfl rfl rfl rfl k_X11_123 rfl rfl dX11_valley_71 (fun ok71 => ?_)
    refine r_aload_n Ra (i := 0) dX11_valley_74 rfl rfl ?_
    refine q_getA Ra (b := 2) f_X11_16 t0 rfl rfl rfl (ok71.ref t0 rfl (by decide)) (by decide) dX11_valley_75 ?_
    refine q_getI Ra (x := m71 2 5) f_X11_126 t2 rfl rfl rfl rfl dX11_valley_78 ?_
    cases h
    exact r_iret Ra ⟨ok71, (ok71.int t2 rfl)⟩ dX11_valley_81
  · replace h := ipos hc h
    refine r_aload_n Ra (i := 0) dX11_valley_25 rfl rfl ?_
    refine r_iconst Ra dX11_valley_26 ?_
    obtain ⟨⟨r27, m27⟩, hr27, h⟩ := bd h
    refine q_callVI Ra (c_pD_refuse hm18 (Rk rfl) hr27) mw_X11_refuse mi_X11_refuse t0 rfl rfl rfl rfl rfl k_X11_98 rfl rfl dX11_valley_27 (fun ok27 => ?_)
    obtain ⟨hV27, ok27⟩ := ok27
    cases h
    exact r_iret Ra ⟨hV27, ok27⟩ dX11_valley_30
noncomputable def pD_fault (μ : Mem) (x1 : Int) : Option (Int) := if x1 = 0 then some (μ 18 1) else if x1 = 1 then some (μ 18 2) else some ((-1))
set_option maxHeartbeats 4000000 in
theorem c_pD_fault {l : Launch} {en : En} {μ : Mem} {x1 : Int} {re : Int} (hV : VT μ) (hx1 : inR x1) (h : pD_fault μ x1 = some re) : CtI l en yX11_fault cX11_fault 2 0 60 [vA en 0, vI x1] μ .int re μ (inR re) := by
  refine Tr.of false (fun h => by cases h) (by decide) (Nat.le_of_ble_eq_true rfl) (fun K Ra => ?_)
  unfold pD_fault at h
  refine r_iload_n Ra (i := 1) dX11_fault_0 rfl rfl ?_
  refine r_if_ne Ra 12 dX11_fault_1 hx1 rfl (fun hc => ?_) (fun hc => ?_)
  · replace h := ineg hc h
    refine r_iload_n Ra (i := 1) dX11_fault_12 rfl rfl ?_
    refine r_iconst Ra dX11_fault_13 ?_
    refine r_icmp_ne Ra 27 dX11_fault_14 hx1 (Rk rfl) rfl (fun hc => ?_) (fun hc => ?_)
    · replace h := ineg hc h
      refine r_iconst Ra dX11_fault_27 ?_
      cases h
      exact r_iret Ra (Rk rfl) dX11_fault_28
    · replace h := ipos hc h
      refine r_aload_n Ra (i := 0) dX11_fault_17 rfl rfl ?_
      refine q_getA Ra (b := 18) f_X11_23 t0 rfl rfl rfl (hV.ref t0 rfl (by decide)) (by decide) dX11_fault_18 ?_
      refine q_getI Ra (x := μ 18 2) f_X11_132 t18 rfl rfl rfl rfl dX11_fault_21 ?_
      refine r_goto Ra 28 dX11_fault_24 rfl ?_
      cases h
      exact r_iret Ra (hV.int t18 rfl) dX11_fault_28
  · replace h := ipos hc h
    refine r_aload_n Ra (i := 0) dX11_fault_4 rfl rfl ?_
    refine q_getA Ra (b := 18) f_X11_23 t0 rfl rfl rfl (hV.ref t0 rfl (by decide)) (by decide) dX11_fault_5 ?_
    refine q_getI Ra (x := μ 18 1) f_X11_129 t18 rfl rfl rfl rfl dX11_fault_8 ?_
    cases h
    exact r_iret Ra (hV.int t18 rfl) dX11_fault_11
noncomputable def pD_has (N : Nat) (μ : Mem) (x1 : Int) : Option (Int) := if x1 = 0 then some (μ 2 0) else if x1 = 1 then some (μ 2 1) else if x1 = 2 then some (μ 2 3) else if x1 = 3 then some (μ 38 0) else if x1 = 4 then (pD_total N μ 39 (μ 2 2)).bind fun r102 => some (r102) else if x1 = 5 then (pD_total N μ 43 (μ 2 3)).bind fun r120 => some (r120) else if x1 = 6 then some (μ 38 7) else if x1 = 7 then some (μ 396 3) else if x1 = 8 then some (μ 52 2) else if x1 = 9 then some (μ 0 14) else some ((-1))
set_option maxHeartbeats 4000000 in
theorem c_pD_has {l : Launch} {en : En} {N : Nat} {μ : Mem} {x1 : Int} {re : Int} (hV : VT μ) (hx1 : inR x1) (h : pD_has N μ x1 = some re) : CtI l en yX11_has cX11_has 2 1 83 [vA en 0, vI x1] μ .int re μ (inR re) := by
  refine Tr.of false (fun h => by cases h) (by decide) (Nat.le_of_ble_eq_true rfl) (fun K Ra => ?_)
  unfold pD_has at h
  refine r_iload_n Ra (i := 1) dX11_has_0 rfl rfl ?_
  by_cases hc : x1 = 0
  · replace h := ipos hc h
    refine q_tableC Ra 56 dX11_has_1 hx1 hc rfl rfl rfl ?_
    refine r_aload_n Ra (i := 0) dX11_has_56 rfl rfl ?_
    refine q_getA Ra (b := 2) f_X11_16 t0 rfl rfl rfl (hV.ref t0 rfl (by decide)) (by decide) dX11_has_57 ?_
    refine q_getI Ra (x := μ 2 0) f_X11_135 t2 rfl rfl rfl rfl dX11_has_60 ?_
    cases h
    exact r_iret Ra (hV.int t2 rfl) dX11_has_63
  · have hs1_0 := hc
    replace h := ineg hc h
    by_cases hc : x1 = 1
    · replace h := ipos hc h
      refine q_tableC Ra 64 dX11_has_1 hx1 hc rfl rfl rfl ?_
      refine r_aload_n Ra (i := 0) dX11_has_64 rfl rfl ?_
      refine q_getA Ra (b := 2) f_X11_16 t0 rfl rfl rfl (hV.ref t0 rfl (by decide)) (by decide) dX11_has_65 ?_
      refine q_getI Ra (x := μ 2 1) f_X11_138 t2 rfl rfl rfl rfl dX11_has_68 ?_
      cases h
      exact r_iret Ra (hV.int t2 rfl) dX11_has_71
    · have hs1_1 := hc
      replace h := ineg hc h
      by_cases hc : x1 = 2
      · replace h := ipos hc h
        refine q_tableC Ra 72 dX11_has_1 hx1 hc rfl rfl rfl ?_
        refine r_aload_n Ra (i := 0) dX11_has_72 rfl rfl ?_
        refine q_getA Ra (b := 2) f_X11_16 t0 rfl rfl rfl (hV.ref t0 rfl (by decide)) (by decide) dX11_has_73 ?_
        refine q_getI Ra (x := μ 2 3) f_X11_141 t2 rfl rfl rfl rfl dX11_has_76 ?_
        cases h
        exact r_iret Ra (hV.int t2 rfl) dX11_has_79
      · have hs1_2 := hc
        replace h := ineg hc h
        by_cases hc : x1 = 3
        · replace h := ipos hc h
          refine q_tableC Ra 80 dX11_has_1 hx1 hc rfl rfl rfl ?_
          refine r_aload_n Ra (i := 0) dX11_has_80 rfl rfl ?_
          refine q_getA Ra (b := 38) f_X11_30 t0 rfl rfl rfl (hV.ref t0 rfl (by decide)) (by decide) dX11_has_81 ?_
          refine q_getI Ra (x := μ 38 0) f_X11_144 t38 rfl rfl rfl rfl dX11_has_84 ?_
          cases h
          exact r_iret Ra (hV.int t38 rfl) dX11_has_87
        · have hs1_3 := hc
          replace h := ineg hc h
          by_cases hc : x1 = 4
          · replace h := ipos hc h
            refine q_tableC Ra 88 dX11_has_1 hx1 hc rfl rfl rfl ?_
            refine r_aload_n Ra (i := 0) dX11_has_88 rfl rfl ?_
            refine q_getA Ra (b := 38) f_X11_30 t0 rfl rfl rfl (hV.ref t0 rfl (by decide)) (by decide) dX11_has_89 ?_
            refine q_getA Ra (b := 39) f_X11_147 t38 rfl rfl rfl (hV.ref t38 rfl (by decide)) (by decide) dX11_has_92 ?_
            refine r_aload_n Ra (i := 0) dX11_has_95 rfl rfl ?_
            refine q_getA Ra (b := 2) f_X11_16 t0 rfl rfl rfl (hV.ref t0 rfl (by decide)) (by decide) dX11_has_96 ?_
            refine q_getI Ra (x := μ 2 2) f_X11_150 t2 rfl rfl rfl rfl dX11_has_99 ?_
            obtain ⟨r102, hr102, h⟩ := bd h
            refine q_callSI Ra (c_pD_total hV t39 (hV.int t2 rfl) hr102) mw_X11_total ms_X11_total rfl rfl k_X11_153 rfl rfl dX11_has_102 (fun ok102 => ?_)
            cases h
            exact r_iret Ra ok102 dX11_has_105
          · have hs1_4 := hc
            replace h := ineg hc h
            by_cases hc : x1 = 5
            · replace h := ipos hc h
              refine q_tableC Ra 106 dX11_has_1 hx1 hc rfl rfl rfl ?_
              refine r_aload_n Ra (i := 0) dX11_has_106 rfl rfl ?_
              refine q_getA Ra (b := 38) f_X11_30 t0 rfl rfl rfl (hV.ref t0 rfl (by decide)) (by decide) dX11_has_107 ?_
              refine q_getA Ra (b := 43) f_X11_157 t38 rfl rfl rfl (hV.ref t38 rfl (by decide)) (by decide) dX11_has_110 ?_
              refine r_aload_n Ra (i := 0) dX11_has_113 rfl rfl ?_
              refine q_getA Ra (b := 2) f_X11_16 t0 rfl rfl rfl (hV.ref t0 rfl (by decide)) (by decide) dX11_has_114 ?_
              refine q_getI Ra (x := μ 2 3) f_X11_141 t2 rfl rfl rfl rfl dX11_has_117 ?_
              obtain ⟨r120, hr120, h⟩ := bd h
              refine q_callSI Ra (c_pD_total hV t43 (hV.int t2 rfl) hr120) mw_X11_total ms_X11_total rfl rfl k_X11_153 rfl rfl dX11_has_120 (fun ok120 => ?_)
              cases h
              exact r_iret Ra ok120 dX11_has_123
            · have hs1_5 := hc
              replace h := ineg hc h
              by_cases hc : x1 = 6
              · replace h := ipos hc h
                refine q_tableC Ra 124 dX11_has_1 hx1 hc rfl rfl rfl ?_
                refine r_aload_n Ra (i := 0) dX11_has_124 rfl rfl ?_
                refine q_getA Ra (b := 38) f_X11_30 t0 rfl rfl rfl (hV.ref t0 rfl (by decide)) (by decide) dX11_has_125 ?_
                refine q_getI Ra (x := μ 38 7) f_X11_160 t38 rfl rfl rfl rfl dX11_has_128 ?_
                cases h
                exact r_iret Ra (hV.int t38 rfl) dX11_has_131
              · have hs1_6 := hc
                replace h := ineg hc h
                by_cases hc : x1 = 7
                · replace h := ipos hc h
                  refine q_tableC Ra 132 dX11_has_1 hx1 hc rfl rfl rfl ?_
                  refine r_aload_n Ra (i := 0) dX11_has_132 rfl rfl ?_
                  refine q_getA Ra (b := 396) f_X11_77 t0 rfl rfl rfl (hV.ref t0 rfl (by decide)) (by decide) dX11_has_133 ?_
                  refine q_getI Ra (x := μ 396 3) f_X11_163 t396 rfl rfl rfl rfl dX11_has_136 ?_
                  cases h
                  exact r_iret Ra (hV.int t396 rfl) dX11_has_139
                · have hs1_7 := hc
                  replace h := ineg hc h
                  by_cases hc : x1 = 8
                  · replace h := ipos hc h
                    refine q_tableC Ra 140 dX11_has_1 hx1 hc rfl rfl rfl ?_
                    refine r_aload_n Ra (i := 0) dX11_has_140 rfl rfl ?_
                    refine q_getA Ra (b := 52) f_X11_40 t0 rfl rfl rfl (hV.ref t0 rfl (by decide)) (by decide) dX11_has_141 ?_
                    refine q_getI Ra (x := μ 52 2) f_X11_166 t52 rfl rfl rfl rfl dX11_has_144 ?_
                    cases h
                    exact r_iret Ra (hV.int t52 rfl) dX11_has_147
                  · have hs1_8 := hc
                    replace h := ineg hc h
                    by_cases hc : x1 = 9
                    · replace h := ipos hc h
                      refine q_tableC Ra 148 dX11_has_1 hx1 hc rfl rfl rfl ?_
                      refine r_aload_n Ra (i := 0) dX11_has_148 rfl rfl ?_
                      refine q_getI Ra (x := μ 0 14) f_X11_91 t0 rfl rfl rfl rfl dX11_has_149 ?_
                      cases h
                      exact r_iret Ra (hV.int t0 rfl) dX11_has_152
                    · have hs1_9 := hc
                      replace h := ineg hc h
                      refine q_tableD Ra 153 dX11_has_1 hx1 [0, 1, 2, 3, 4, 5, 6, 7, 8, 9] (List.forall_mem_cons.mpr ⟨hs1_0, (List.forall_mem_cons.mpr ⟨hs1_1, (List.forall_mem_cons.mpr ⟨hs1_2, (List.forall_mem_cons.mpr ⟨hs1_3, (List.forall_mem_cons.mpr ⟨hs1_4, (List.forall_mem_cons.mpr ⟨hs1_5, (List.forall_mem_cons.mpr ⟨hs1_6, (List.forall_mem_cons.mpr ⟨hs1_7, (List.forall_mem_cons.mpr ⟨hs1_8, (List.forall_mem_cons.mpr ⟨hs1_9, (fun _ h9 => absurd h9 List.not_mem_nil)⟩)⟩)⟩)⟩)⟩)⟩)⟩)⟩)⟩)⟩) rfl rfl ?_
                      refine r_iconst Ra dX11_has_153 ?_
                      cases h
                      exact r_iret Ra (Rk rfl) dX11_has_154
noncomputable def pD_letter (μ : Mem) (x1 : Int) (x2 : Int) : Option (Int) := (pP_hasPerson μ 2 x1).bind fun r5 => if r5 = 0 then some ((-1)) else if x2 < 0 then some ((-1)) else if x2 < 6 then if 0 ≤ w32 ((w32 (x1 * 6)) + x2) ∧ w32 ((w32 (x1 * 6)) + x2) < 36 then some (μ 4 (w32 ((w32 (x1 * 6)) + x2))) else none else some ((-1))
set_option maxHeartbeats 4000000 in
theorem c_pD_letter {l : Launch} {en : En} {μ : Mem} {x1 : Int} {x2 : Int} {re : Int} (hV : VT μ) (hx1 : inR x1) (hx2 : inR x2) (h : pD_letter μ x1 x2 = some re) : CtI l en yX11_letter cX11_letter 3 1 81 [vA en 0, vI x1, vI x2] μ .int re μ (inR re) := by
  refine Tr.of false (fun h => by cases h) (by decide) (Nat.le_of_ble_eq_true rfl) (fun K Ra => ?_)
  unfold pD_letter at h
  refine r_aload_n Ra (i := 0) dX11_letter_0 rfl rfl ?_
  refine q_getA Ra (b := 2) f_X11_16 t0 rfl rfl rfl (hV.ref t0 rfl (by decide)) (by decide) dX11_letter_1 ?_
  refine r_iload_n Ra (i := 1) dX11_letter_4 rfl rfl ?_
  obtain ⟨r5, hr5, h⟩ := bd h
  refine q_callVI Ra (c_pP_hasPerson hV t2 hx1 hr5) mw_X3_hasPerson mi_X3_hasPerson t2 rfl rfl rfl rfl rfl k_X11_169 rfl rfl dX11_letter_5 (fun ok5 => ?_)
  refine r_if_eq Ra 21 dX11_letter_8 (inR_01 ok5) rfl (fun hc => ?_) (fun hc => ?_)
  · replace h := ipos hc h
    refine r_iconst Ra dX11_letter_21 ?_
    cases h
    exact r_iret Ra (Rk rfl) dX11_letter_22
  · replace h := ineg hc h
    refine r_iload_n Ra (i := 2) dX11_letter_11 rfl rfl ?_
    refine r_if_lt Ra 21 dX11_letter_12 hx2 rfl (fun hc => ?_) (fun hc => ?_)
    · replace h := ipos hc h
      refine r_iconst Ra dX11_letter_21 ?_
      cases h
      exact r_iret Ra (Rk rfl) dX11_letter_22
    · replace h := ineg hc h
      refine r_iload_n Ra (i := 2) dX11_letter_15 rfl rfl ?_
      refine r_bipush Ra dX11_letter_16 rfl ?_
      refine r_icmp_lt Ra 23 dX11_letter_18 hx2 (Rk rfl) rfl (fun hc => ?_) (fun hc => ?_)
      · replace h := ipos hc h
        refine r_aload_n Ra (i := 0) dX11_letter_23 rfl rfl ?_
        refine q_getA Ra (b := 2) f_X11_16 t0 rfl rfl rfl (hV.ref t0 rfl (by decide)) (by decide) dX11_letter_24 ?_
        refine q_getA Ra (b := 4) f_X11_173 t2 rfl rfl rfl (hV.ref t2 rfl (by decide)) (by decide) dX11_letter_27 ?_
        refine r_iload_n Ra (i := 1) dX11_letter_30 rfl rfl ?_
        refine r_bipush Ra dX11_letter_31 rfl ?_
        refine r_imul Ra dX11_letter_33 ?_
        refine r_iload_n Ra (i := 2) dX11_letter_34 rfl rfl ?_
        refine r_iadd Ra dX11_letter_35 ?_
        obtain ⟨gu36, h⟩ := gd h
        refine q_iald Ra t4 l4 gu36 dX11_letter_36 ?_
        cases h
        exact r_iret Ra (hV.int t4 (kd20 _)) dX11_letter_37
      · replace h := ineg hc h
        refine r_iconst Ra dX11_letter_21 ?_
        cases h
        exact r_iret Ra (Rk rfl) dX11_letter_22
noncomputable def pD_cell (μ : Mem) (x1 : Int) (x2 : Int) : Option (Int) := (pP_cellAt μ 2 x1 x2).bind fun r6 => if r6 = (-1) then some ((-1)) else if 0 ≤ r6 ∧ r6 < 64 then some (μ 39 r6) else none
set_option maxHeartbeats 4000000 in
theorem c_pD_cell {l : Launch} {en : En} {μ : Mem} {x1 : Int} {x2 : Int} {re : Int} (hV : VT μ) (hx1 : inR x1) (hx2 : inR x2) (h : pD_cell μ x1 x2 = some re) : CtI l en yX11_cell cX11_cell 4 1 82 [vA en 0, vI x1, vI x2] μ .int re μ (inR re) := by
  refine Tr.of false (fun h => by cases h) (by decide) (Nat.le_of_ble_eq_true rfl) (fun K Ra => ?_)
  unfold pD_cell at h
  refine r_aload_n Ra (i := 0) dX11_cell_0 rfl rfl ?_
  refine q_getA Ra (b := 2) f_X11_16 t0 rfl rfl rfl (hV.ref t0 rfl (by decide)) (by decide) dX11_cell_1 ?_
  refine r_iload_n Ra (i := 1) dX11_cell_4 rfl rfl ?_
  refine r_iload_n Ra (i := 2) dX11_cell_5 rfl rfl ?_
  obtain ⟨r6, hr6, h⟩ := bd h
  refine q_callVI Ra (c_pP_cellAt hV t2 hx1 hx2 hr6) mw_X3_cellAt mi_X3_cellAt t2 rfl rfl rfl rfl rfl k_X11_176 rfl rfl dX11_cell_6 (fun ok6 => ?_)
  refine q_istore_n Ra 3 dX11_cell_9 rfl rfl rfl ?_
  refine r_iload_n Ra (i := 3) dX11_cell_10 rfl rfl ?_
  refine r_iconst Ra dX11_cell_11 ?_
  refine r_icmp_ne Ra 19 dX11_cell_12 ok6 (Rk rfl) rfl (fun hc => ?_) (fun hc => ?_)
  · replace h := ineg hc h
    refine r_aload_n Ra (i := 0) dX11_cell_19 rfl rfl ?_
    refine q_getA Ra (b := 38) f_X11_30 t0 rfl rfl rfl (hV.ref t0 rfl (by decide)) (by decide) dX11_cell_20 ?_
    refine q_getA Ra (b := 39) f_X11_147 t38 rfl rfl rfl (hV.ref t38 rfl (by decide)) (by decide) dX11_cell_23 ?_
    refine r_iload_n Ra (i := 3) dX11_cell_26 rfl rfl ?_
    obtain ⟨gu27, h⟩ := gd h
    refine q_iald Ra t39 l39 gu27 dX11_cell_27 ?_
    cases h
    exact r_iret Ra (hV.int t39 (kd20 _)) dX11_cell_28
  · replace h := ipos hc h
    refine r_iconst Ra dX11_cell_15 ?_
    refine r_goto Ra 28 dX11_cell_16 rfl ?_
    cases h
    exact r_iret Ra (Rk rfl) dX11_cell_28
noncomputable def pD_person (μ : Mem) (x1 : Int) (x2 : Int) : Option (Int) := (pP_hasPerson μ 2 x1).bind fun r5 => if r5 = 0 then some ((-1)) else if x2 = 0 then if 0 ≤ x1 ∧ x1 < 6 then (pP_columnOf μ 2 (μ 40 x1)).bind fun r65 => some (r65) else none else if x2 = 1 then if 0 ≤ x1 ∧ x1 < 6 then (pP_rowOf μ 2 (μ 40 x1)).bind fun r82 => some (r82) else none else if x2 = 2 then if 0 ≤ x1 ∧ x1 < 6 then some (μ 41 x1) else none else if x2 = 3 then if 0 ≤ x1 ∧ x1 < 6 then some (μ 42 x1) else none else if x2 = 4 then if 0 ≤ x1 ∧ x1 < 6 then some (μ 8 x1) else none else if x2 = 5 then if 0 ≤ x1 ∧ x1 < 6 then some (μ 43 x1) else none else some ((-1))
set_option maxHeartbeats 4000000 in
theorem c_pD_person {l : Launch} {en : En} {μ : Mem} {x1 : Int} {x2 : Int} {re : Int} (hV : VT μ) (hx1 : inR x1) (hx2 : inR x2) (h : pD_person μ x1 x2 = some re) : CtI l en yX11_person cX11_person 3 1 81 [vA en 0, vI x1, vI x2] μ .int re μ (inR re) := by
  refine Tr.of false (fun h => by cases h) (by decide) (Nat.le_of_ble_eq_true rfl) (fun K Ra => ?_)
  unfold pD_person at h
  refine r_aload_n Ra (i := 0) dX11_person_0 rfl rfl ?_
  refine q_getA Ra (b := 2) f_X11_16 t0 rfl rfl rfl (hV.ref t0 rfl (by decide)) (by decide) dX11_person_1 ?_
  refine r_iload_n Ra (i := 1) dX11_person_4 rfl rfl ?_
  obtain ⟨r5, hr5, h⟩ := bd h
  refine q_callVI Ra (c_pP_hasPerson hV t2 hx1 hr5) mw_X3_hasPerson mi_X3_hasPerson t2 rfl rfl rfl rfl rfl k_X11_169 rfl rfl dX11_person_5 (fun ok5 => ?_)
  refine r_if_ne Ra 13 dX11_person_8 (inR_01 ok5) rfl (fun hc => ?_) (fun hc => ?_)
  · replace h := ineg hc h
    refine r_iload_n Ra (i := 2) dX11_person_13 rfl rfl ?_
    by_cases hc : x2 = 0
    · replace h := ipos hc h
      refine q_tableC Ra 52 dX11_person_14 hx2 hc rfl rfl rfl ?_
      refine r_aload_n Ra (i := 0) dX11_person_52 rfl rfl ?_
      refine q_getA Ra (b := 2) f_X11_16 t0 rfl rfl rfl (hV.ref t0 rfl (by decide)) (by decide) dX11_person_53 ?_
      refine r_aload_n Ra (i := 0) dX11_person_56 rfl rfl ?_
      refine q_getA Ra (b := 38) f_X11_30 t0 rfl rfl rfl (hV.ref t0 rfl (by decide)) (by decide) dX11_person_57 ?_
      refine q_getA Ra (b := 40) f_X11_180 t38 rfl rfl rfl (hV.ref t38 rfl (by decide)) (by decide) dX11_person_60 ?_
      refine r_iload_n Ra (i := 1) dX11_person_63 rfl rfl ?_
      obtain ⟨gu64, h⟩ := gd h
      refine q_iald Ra t40 l40 gu64 dX11_person_64 ?_
      obtain ⟨r65, hr65, h⟩ := bd h
      refine q_callVI Ra (c_pP_columnOf hV t2 (hV.int t40 (kd20 _)) hr65) mw_X3_columnOf mi_X3_columnOf t2 rfl rfl rfl rfl rfl k_X11_183 rfl rfl dX11_person_65 (fun ok65 => ?_)
      cases h
      exact r_iret Ra ok65 dX11_person_68
    · have hs14_0 := hc
      replace h := ineg hc h
      by_cases hc : x2 = 1
      · replace h := ipos hc h
        refine q_tableC Ra 69 dX11_person_14 hx2 hc rfl rfl rfl ?_
        refine r_aload_n Ra (i := 0) dX11_person_69 rfl rfl ?_
        refine q_getA Ra (b := 2) f_X11_16 t0 rfl rfl rfl (hV.ref t0 rfl (by decide)) (by decide) dX11_person_70 ?_
        refine r_aload_n Ra (i := 0) dX11_person_73 rfl rfl ?_
        refine q_getA Ra (b := 38) f_X11_30 t0 rfl rfl rfl (hV.ref t0 rfl (by decide)) (by decide) dX11_person_74 ?_
        refine q_getA Ra (b := 40) f_X11_180 t38 rfl rfl rfl (hV.ref t38 rfl (by decide)) (by decide) dX11_person_77 ?_
        refine r_iload_n Ra (i := 1) dX11_person_80 rfl rfl ?_
        obtain ⟨gu81, h⟩ := gd h
        refine q_iald Ra t40 l40 gu81 dX11_person_81 ?_
        obtain ⟨r82, hr82, h⟩ := bd h
        refine q_callVI Ra (c_pP_rowOf hV t2 (hV.int t40 (kd20 _)) hr82) mw_X3_rowOf mi_X3_rowOf t2 rfl rfl rfl rfl rfl k_X11_186 rfl rfl dX11_person_82 (fun ok82 => ?_)
        cases h
        exact r_iret Ra ok82 dX11_person_85
      · have hs14_1 := hc
        replace h := ineg hc h
        by_cases hc : x2 = 2
        · replace h := ipos hc h
          refine q_tableC Ra 86 dX11_person_14 hx2 hc rfl rfl rfl ?_
          refine r_aload_n Ra (i := 0) dX11_person_86 rfl rfl ?_
          refine q_getA Ra (b := 38) f_X11_30 t0 rfl rfl rfl (hV.ref t0 rfl (by decide)) (by decide) dX11_person_87 ?_
          refine q_getA Ra (b := 41) f_X11_189 t38 rfl rfl rfl (hV.ref t38 rfl (by decide)) (by decide) dX11_person_90 ?_
          refine r_iload_n Ra (i := 1) dX11_person_93 rfl rfl ?_
          obtain ⟨gu94, h⟩ := gd h
          refine q_iald Ra t41 l41 gu94 dX11_person_94 ?_
          cases h
          exact r_iret Ra (hV.int t41 (kd20 _)) dX11_person_95
        · have hs14_2 := hc
          replace h := ineg hc h
          by_cases hc : x2 = 3
          · replace h := ipos hc h
            refine q_tableC Ra 96 dX11_person_14 hx2 hc rfl rfl rfl ?_
            refine r_aload_n Ra (i := 0) dX11_person_96 rfl rfl ?_
            refine q_getA Ra (b := 38) f_X11_30 t0 rfl rfl rfl (hV.ref t0 rfl (by decide)) (by decide) dX11_person_97 ?_
            refine q_getA Ra (b := 42) f_X11_192 t38 rfl rfl rfl (hV.ref t38 rfl (by decide)) (by decide) dX11_person_100 ?_
            refine r_iload_n Ra (i := 1) dX11_person_103 rfl rfl ?_
            obtain ⟨gu104, h⟩ := gd h
            refine q_iald Ra t42 l42 gu104 dX11_person_104 ?_
            cases h
            exact r_iret Ra (hV.int t42 (kd20 _)) dX11_person_105
          · have hs14_3 := hc
            replace h := ineg hc h
            by_cases hc : x2 = 4
            · replace h := ipos hc h
              refine q_tableC Ra 106 dX11_person_14 hx2 hc rfl rfl rfl ?_
              refine r_aload_n Ra (i := 0) dX11_person_106 rfl rfl ?_
              refine q_getA Ra (b := 2) f_X11_16 t0 rfl rfl rfl (hV.ref t0 rfl (by decide)) (by decide) dX11_person_107 ?_
              refine q_getA Ra (b := 8) f_X11_195 t2 rfl rfl rfl (hV.ref t2 rfl (by decide)) (by decide) dX11_person_110 ?_
              refine r_iload_n Ra (i := 1) dX11_person_113 rfl rfl ?_
              obtain ⟨gu114, h⟩ := gd h
              refine q_iald Ra t8 l8 gu114 dX11_person_114 ?_
              cases h
              exact r_iret Ra (hV.int t8 (kd20 _)) dX11_person_115
            · have hs14_4 := hc
              replace h := ineg hc h
              by_cases hc : x2 = 5
              · replace h := ipos hc h
                refine q_tableC Ra 116 dX11_person_14 hx2 hc rfl rfl rfl ?_
                refine r_aload_n Ra (i := 0) dX11_person_116 rfl rfl ?_
                refine q_getA Ra (b := 38) f_X11_30 t0 rfl rfl rfl (hV.ref t0 rfl (by decide)) (by decide) dX11_person_117 ?_
                refine q_getA Ra (b := 43) f_X11_157 t38 rfl rfl rfl (hV.ref t38 rfl (by decide)) (by decide) dX11_person_120 ?_
                refine r_iload_n Ra (i := 1) dX11_person_123 rfl rfl ?_
                obtain ⟨gu124, h⟩ := gd h
                refine q_iald Ra t43 l43 gu124 dX11_person_124 ?_
                cases h
                exact r_iret Ra (hV.int t43 (kd20 _)) dX11_person_125
              · have hs14_5 := hc
                replace h := ineg hc h
                refine q_tableD Ra 126 dX11_person_14 hx2 [0, 1, 2, 3, 4, 5] (List.forall_mem_cons.mpr ⟨hs14_0, (List.forall_mem_cons.mpr ⟨hs14_1, (List.forall_mem_cons.mpr ⟨hs14_2, (List.forall_mem_cons.mpr ⟨hs14_3, (List.forall_mem_cons.mpr ⟨hs14_4, (List.forall_mem_cons.mpr ⟨hs14_5, (fun _ h9 => absurd h9 List.not_mem_nil)⟩)⟩)⟩)⟩)⟩)⟩) rfl rfl ?_
                refine r_iconst Ra dX11_person_126 ?_
                cases h
                exact r_iret Ra (Rk rfl) dX11_person_127
  · replace h := ipos hc h
    refine r_iconst Ra dX11_person_11 ?_
    cases h
    exact r_iret Ra (Rk rfl) dX11_person_12
noncomputable def pD_isHour (μ : Mem) (x0 : Int) : Option (Int) := if x0 < 0 then some (0) else if 8 < x0 then some (0) else some (1)
set_option maxHeartbeats 4000000 in
theorem c_pD_isHour {l : Launch} {en : En} {μ : Mem} {x0 : Int} {re : Int} (hV : VT μ) (hx0 : inR x0) (h : pD_isHour μ x0 = some re) : CtI l en yX11_isHour cX11_isHour 1 0 60 [vI x0] μ .boolean re μ ((re = 0 ∨ re = 1)) := by
  refine Tr.of false (fun h => by cases h) (by decide) (Nat.le_of_ble_eq_true rfl) (fun K Ra => ?_)
  unfold pD_isHour at h
  refine r_iload_n Ra (i := 0) dX11_isHour_0 rfl rfl ?_
  refine r_if_lt Ra 14 dX11_isHour_1 hx0 rfl (fun hc => ?_) (fun hc => ?_)
  · replace h := ipos hc h
    refine r_iconst Ra dX11_isHour_14 ?_
    cases h
    exact r_zret Ra (Or.inl rfl) (Or.inl rfl) dX11_isHour_15
  · replace h := ineg hc h
    refine r_iload_n Ra (i := 0) dX11_isHour_4 rfl rfl ?_
    refine r_bipush Ra dX11_isHour_5 rfl ?_
    refine r_icmp_gt Ra 14 dX11_isHour_7 hx0 (Rk rfl) rfl (fun hc => ?_) (fun hc => ?_)
    · replace h := ipos hc h
      refine r_iconst Ra dX11_isHour_14 ?_
      cases h
      exact r_zret Ra (Or.inl rfl) (Or.inl rfl) dX11_isHour_15
    · replace h := ineg hc h
      refine r_iconst Ra dX11_isHour_10 ?_
      refine r_goto Ra 15 dX11_isHour_11 rfl ?_
      cases h
      exact r_zret Ra (Or.inr rfl) (Or.inr rfl) dX11_isHour_15
noncomputable def pD_today (N : Nat) (μ : Mem) (x1 : Int) (x2 : Int) (x3 : Int) : Option (Int × Mem) := (pP_hasPerson μ 2 x1).bind fun r5 => if r5 = 0 then some ((-1), μ) else (pD_isHour μ x2).bind fun r12 => if r12 = 0 then some ((-1), μ) else if x3 < 0 then some ((-1), μ) else if 2 < x3 then some ((-1), μ) else (pT_learn N μ 38).bind fun m37 => if x3 = 2 then if 0 ≤ x2 ∧ x2 < 9 then if 0 ≤ x1 ∧ x1 < 6 then some (m37 (222 + 1 + x2) x1, m37) else none else none else if 0 ≤ x2 ∧ x2 < 9 then if 0 ≤ x1 ∧ x1 < 6 then (some (m37 (212 + 1 + x2) x1 : Int)).bind fun x4_68 => if x3 = 0 then (pP_columnOf m37 2 x4_68).bind fun r80 => some (r80, m37) else (pP_rowOf m37 2 x4_68).bind fun r92 => some (r92, m37) else none else none
set_option maxHeartbeats 4000000 in
theorem c_pD_today {l : Launch} {en : En} {N : Nat} {μ : Mem} {x1 : Int} {x2 : Int} {x3 : Int} {re : Int} {μe : Mem} (hV : VT μ) (hx1 : inR x1) (hx2 : inR x2) (hx3 : inR x3) (h : pD_today N μ x1 x2 x3 = some (re, μe)) : CtI l en yX11_today cX11_today 5 7 231 [vA en 0, vI x1, vI x2, vI x3] μ .int re μe (VT μe ∧ inR re) := by
  refine Tr.of false (fun h => by cases h) (by decide) (Nat.le_of_ble_eq_true rfl) (fun K Ra => ?_)
  unfold pD_today at h
  refine r_aload_n Ra (i := 0) dX11_today_0 rfl rfl ?_
  refine q_getA Ra (b := 2) f_X11_16 t0 rfl rfl rfl (hV.ref t0 rfl (by decide)) (by decide) dX11_today_1 ?_
  refine r_iload_n Ra (i := 1) dX11_today_4 rfl rfl ?_
  obtain ⟨r5, hr5, h⟩ := bd h
  refine q_callVI Ra (c_pP_hasPerson hV t2 hx1 hr5) mw_X3_hasPerson mi_X3_hasPerson t2 rfl rfl rfl rfl rfl k_X11_169 rfl rfl dX11_today_5 (fun ok5 => ?_)
  refine r_if_eq Ra 27 dX11_today_8 (inR_01 ok5) rfl (fun hc => ?_) (fun hc => ?_)
  · replace h := ipos hc h
    refine r_iconst Ra dX11_today_27 ?_
    cases h
    exact r_iret Ra ⟨hV, (Rk rfl)⟩ dX11_today_28
  · replace h := ineg hc h
    refine r_iload_n Ra (i := 2) dX11_today_11 rfl rfl ?_
    obtain ⟨r12, hr12, h⟩ := bd h
    refine q_callSI Ra (c_pD_isHour hV hx2 hr12) mw_X11_isHour ms_X11_isHour rfl rfl k_X11_198 rfl rfl dX11_today_12 (fun ok12 => ?_)
    refine r_if_eq Ra 27 dX11_today_15 (inR_01 ok12) rfl (fun hc => ?_) (fun hc => ?_)
    · replace h := ipos hc h
      refine r_iconst Ra dX11_today_27 ?_
      cases h
      exact r_iret Ra ⟨hV, (Rk rfl)⟩ dX11_today_28
    · replace h := ineg hc h
      refine r_iload_n Ra (i := 3) dX11_today_18 rfl rfl ?_
      refine r_if_lt Ra 27 dX11_today_19 hx3 rfl (fun hc => ?_) (fun hc => ?_)
      · replace h := ipos hc h
        refine r_iconst Ra dX11_today_27 ?_
        cases h
        exact r_iret Ra ⟨hV, (Rk rfl)⟩ dX11_today_28
      · replace h := ineg hc h
        refine r_iload_n Ra (i := 3) dX11_today_22 rfl rfl ?_
        refine r_iconst Ra dX11_today_23 ?_
        refine r_icmp_le Ra 29 dX11_today_24 hx3 (Rk rfl) rfl (fun hc => ?_) (fun hc => ?_)
        · replace h := ineg hc h
          refine r_aload_n Ra (i := 0) dX11_today_29 rfl rfl ?_
          refine q_getA Ra (b := 201) f_X11_56 t0 rfl rfl rfl (hV.ref t0 rfl (by decide)) (by decide) dX11_today_30 ?_
          refine r_aload_n Ra (i := 0) dX11_today_33 rfl rfl ?_
          refine q_getA Ra (b := 38) f_X11_30 t0 rfl rfl rfl (hV.ref t0 rfl (by decide)) (by decide) dX11_today_34 ?_
          obtain ⟨m37, hr37, h⟩ := bd h
          refine q_callVV Ra (c_pT_learn hV t38 hr37) mw_X7_learn mi_X7_learn t201 rfl rfl rfl rfl rfl k_X11_201 rfl rfl dX11_today_37 (fun ok37 => ?_)
          refine r_iload_n Ra (i := 3) dX11_today_40 rfl rfl ?_
          refine r_iconst Ra dX11_today_41 ?_
          refine r_icmp_ne Ra 57 dX11_today_42 hx3 (Rk rfl) rfl (fun hc => ?_) (fun hc => ?_)
          · replace h := ineg hc h
            refine r_aload_n Ra (i := 0) dX11_today_57 rfl rfl ?_
            refine q_getA Ra (b := 201) f_X11_56 t0 rfl rfl rfl (ok37.ref t0 rfl (by decide)) (by decide) dX11_today_58 ?_
            refine q_getA Ra (b := 212) f_X11_209 t201 rfl rfl rfl (ok37.ref t201 rfl (by decide)) (by decide) dX11_today_61 ?_
            refine r_iload_n Ra (i := 2) dX11_today_64 rfl rfl ?_
            obtain ⟨gu65, h⟩ := gd h
            have hg1 := g212 gu65
            refine q_aald Ra (b := (212 + 1 + x2)) t212 (by decide) l212 gu65 (ok37.ref t212 rfl gu65.1) (tin hg1.1 rfl).1 dX11_today_65 ?_
            refine r_iload_n Ra (i := 1) dX11_today_66 rfl rfl ?_
            obtain ⟨gu67, h⟩ := gd h
            refine q_iald Ra hg1.1 hg1.2 gu67 dX11_today_67 ?_
            obtain ⟨x4_68, ex4_68, h⟩ := bv h
            have ix4_68 : inR x4_68 := eqR ex4_68 (ok37.int hg1.1 (kd20 _))
            refine q_istore Ra dX11_today_68 rfl ex4_68 ?_
            refine r_iload_n Ra (i := 3) dX11_today_70 rfl rfl ?_
            refine r_if_ne Ra 86 dX11_today_71 hx3 rfl (fun hc => ?_) (fun hc => ?_)
            · replace h := ineg hc h
              refine r_aload_n Ra (i := 0) dX11_today_86 rfl rfl ?_
              refine q_getA Ra (b := 2) f_X11_16 t0 rfl rfl rfl (ok37.ref t0 rfl (by decide)) (by decide) dX11_today_87 ?_
              refine r_iload Ra dX11_today_90 rfl ?_
              obtain ⟨r92, hr92, h⟩ := bd h
              refine q_callVI Ra (c_pP_rowOf ok37 t2 ix4_68 hr92) mw_X3_rowOf mi_X3_rowOf t2 rfl rfl rfl rfl rfl k_X11_186 rfl rfl dX11_today_92 (fun ok92 => ?_)
              cases h
              exact r_iret Ra ⟨ok37, ok92⟩ dX11_today_95
            · replace h := ipos hc h
              refine r_aload_n Ra (i := 0) dX11_today_74 rfl rfl ?_
              refine q_getA Ra (b := 2) f_X11_16 t0 rfl rfl rfl (ok37.ref t0 rfl (by decide)) (by decide) dX11_today_75 ?_
              refine r_iload Ra dX11_today_78 rfl ?_
              obtain ⟨r80, hr80, h⟩ := bd h
              refine q_callVI Ra (c_pP_columnOf ok37 t2 ix4_68 hr80) mw_X3_columnOf mi_X3_columnOf t2 rfl rfl rfl rfl rfl k_X11_183 rfl rfl dX11_today_80 (fun ok80 => ?_)
              refine r_goto Ra 95 dX11_today_83 rfl ?_
              cases h
              exact r_iret Ra ⟨ok37, ok80⟩ dX11_today_95
          · replace h := ipos hc h
            refine r_aload_n Ra (i := 0) dX11_today_45 rfl rfl ?_
            refine q_getA Ra (b := 201) f_X11_56 t0 rfl rfl rfl (ok37.ref t0 rfl (by decide)) (by decide) dX11_today_46 ?_
            refine q_getA Ra (b := 222) f_X11_205 t201 rfl rfl rfl (ok37.ref t201 rfl (by decide)) (by decide) dX11_today_49 ?_
            refine r_iload_n Ra (i := 2) dX11_today_52 rfl rfl ?_
            obtain ⟨gu53, h⟩ := gd h
            have hg2 := g222 gu53
            refine q_aald Ra (b := (222 + 1 + x2)) t222 (by decide) l222 gu53 (ok37.ref t222 rfl gu53.1) (tin hg2.1 rfl).1 dX11_today_53 ?_
            refine r_iload_n Ra (i := 1) dX11_today_54 rfl rfl ?_
            obtain ⟨gu55, h⟩ := gd h
            refine q_iald Ra hg2.1 hg2.2 gu55 dX11_today_55 ?_
            cases h
            exact r_iret Ra ⟨ok37, (ok37.int hg2.1 (kd20 _))⟩ dX11_today_56
        · replace h := ipos hc h
          refine r_iconst Ra dX11_today_27 ?_
          cases h
          exact r_iret Ra ⟨hV, (Rk rfl)⟩ dX11_today_28
noncomputable def pD_dew (N : Nat) (μ : Mem) (x1 : Int) (x2 : Int) (x3 : Int) : Option (Int × Mem) := (pP_cellAt μ 2 x1 x2).bind fun r6 => if r6 = (-1) then some ((-1), μ) else if x3 < (-1) then some ((-1), μ) else if 8 < x3 then some ((-1), μ) else (pT_learn N μ 38).bind fun m38 => if x3 = (-1) then if 0 ≤ r6 ∧ r6 < 64 then some (m38 237 r6, m38) else none else if 0 ≤ x3 ∧ x3 < 9 then if 0 ≤ r6 ∧ r6 < 64 then some (m38 (202 + 1 + x3) r6, m38) else none else none
set_option maxHeartbeats 4000000 in
theorem c_pD_dew {l : Launch} {en : En} {N : Nat} {μ : Mem} {x1 : Int} {x2 : Int} {x3 : Int} {re : Int} {μe : Mem} (hV : VT μ) (hx1 : inR x1) (hx2 : inR x2) (hx3 : inR x3) (h : pD_dew N μ x1 x2 x3 = some (re, μe)) : CtI l en yX11_dew cX11_dew 5 7 231 [vA en 0, vI x1, vI x2, vI x3] μ .int re μe (VT μe ∧ inR re) := by
  refine Tr.of false (fun h => by cases h) (by decide) (Nat.le_of_ble_eq_true rfl) (fun K Ra => ?_)
  unfold pD_dew at h
  refine r_aload_n Ra (i := 0) dX11_dew_0 rfl rfl ?_
  refine q_getA Ra (b := 2) f_X11_16 t0 rfl rfl rfl (hV.ref t0 rfl (by decide)) (by decide) dX11_dew_1 ?_
  refine r_iload_n Ra (i := 1) dX11_dew_4 rfl rfl ?_
  refine r_iload_n Ra (i := 2) dX11_dew_5 rfl rfl ?_
  obtain ⟨r6, hr6, h⟩ := bd h
  refine q_callVI Ra (c_pP_cellAt hV t2 hx1 hx2 hr6) mw_X3_cellAt mi_X3_cellAt t2 rfl rfl rfl rfl rfl k_X11_176 rfl rfl dX11_dew_6 (fun ok6 => ?_)
  refine q_istore Ra dX11_dew_9 rfl rfl ?_
  refine r_iload Ra dX11_dew_11 rfl ?_
  refine r_iconst Ra dX11_dew_13 ?_
  refine r_icmp_eq Ra 28 dX11_dew_14 ok6 (Rk rfl) rfl (fun hc => ?_) (fun hc => ?_)
  · replace h := ipos hc h
    refine r_iconst Ra dX11_dew_28 ?_
    cases h
    exact r_iret Ra ⟨hV, (Rk rfl)⟩ dX11_dew_29
  · replace h := ineg hc h
    refine r_iload_n Ra (i := 3) dX11_dew_17 rfl rfl ?_
    refine r_iconst Ra dX11_dew_18 ?_
    refine r_icmp_lt Ra 28 dX11_dew_19 hx3 (Rk rfl) rfl (fun hc => ?_) (fun hc => ?_)
    · replace h := ipos hc h
      refine r_iconst Ra dX11_dew_28 ?_
      cases h
      exact r_iret Ra ⟨hV, (Rk rfl)⟩ dX11_dew_29
    · replace h := ineg hc h
      refine r_iload_n Ra (i := 3) dX11_dew_22 rfl rfl ?_
      refine r_bipush Ra dX11_dew_23 rfl ?_
      refine r_icmp_le Ra 30 dX11_dew_25 hx3 (Rk rfl) rfl (fun hc => ?_) (fun hc => ?_)
      · replace h := ineg hc h
        refine r_aload_n Ra (i := 0) dX11_dew_30 rfl rfl ?_
        refine q_getA Ra (b := 201) f_X11_56 t0 rfl rfl rfl (hV.ref t0 rfl (by decide)) (by decide) dX11_dew_31 ?_
        refine r_aload_n Ra (i := 0) dX11_dew_34 rfl rfl ?_
        refine q_getA Ra (b := 38) f_X11_30 t0 rfl rfl rfl (hV.ref t0 rfl (by decide)) (by decide) dX11_dew_35 ?_
        obtain ⟨m38, hr38, h⟩ := bd h
        refine q_callVV Ra (c_pT_learn hV t38 hr38) mw_X7_learn mi_X7_learn t201 rfl rfl rfl rfl rfl k_X11_201 rfl rfl dX11_dew_38 (fun ok38 => ?_)
        refine r_iload_n Ra (i := 3) dX11_dew_41 rfl rfl ?_
        refine r_iconst Ra dX11_dew_42 ?_
        refine r_icmp_ne Ra 62 dX11_dew_43 hx3 (Rk rfl) rfl (fun hc => ?_) (fun hc => ?_)
        · replace h := ineg hc h
          refine r_aload_n Ra (i := 0) dX11_dew_62 rfl rfl ?_
          refine q_getA Ra (b := 201) f_X11_56 t0 rfl rfl rfl (ok38.ref t0 rfl (by decide)) (by decide) dX11_dew_63 ?_
          refine q_getA Ra (b := 202) f_X11_215 t201 rfl rfl rfl (ok38.ref t201 rfl (by decide)) (by decide) dX11_dew_66 ?_
          refine r_iload_n Ra (i := 3) dX11_dew_69 rfl rfl ?_
          obtain ⟨gu70, h⟩ := gd h
          have hg1 := g202 gu70
          refine q_aald Ra (b := (202 + 1 + x3)) t202 (by decide) l202 gu70 (ok38.ref t202 rfl gu70.1) (tin hg1.1 rfl).1 dX11_dew_70 ?_
          refine r_iload Ra dX11_dew_71 rfl ?_
          obtain ⟨gu73, h⟩ := gd h
          refine q_iald Ra hg1.1 hg1.2 gu73 dX11_dew_73 ?_
          cases h
          exact r_iret Ra ⟨ok38, (ok38.int hg1.1 (kd20 _))⟩ dX11_dew_74
        · replace h := ipos hc h
          refine r_aload_n Ra (i := 0) dX11_dew_46 rfl rfl ?_
          refine q_getA Ra (b := 201) f_X11_56 t0 rfl rfl rfl (ok38.ref t0 rfl (by decide)) (by decide) dX11_dew_47 ?_
          refine q_getA Ra (b := 236) f_X11_211 t201 rfl rfl rfl (ok38.ref t201 rfl (by decide)) (by decide) dX11_dew_50 ?_
          refine q_getA Ra (b := 237) f_X11_214 t236 rfl rfl rfl (ok38.ref t236 rfl (by decide)) (by decide) dX11_dew_53 ?_
          refine r_iload Ra dX11_dew_56 rfl ?_
          obtain ⟨gu58, h⟩ := gd h
          refine q_iald Ra t237 l237 gu58 dX11_dew_58 ?_
          refine r_goto Ra 74 dX11_dew_59 rfl ?_
          cases h
          exact r_iret Ra ⟨ok38, (ok38.int t237 (kd20 _))⟩ dX11_dew_74
      · replace h := ipos hc h
        refine r_iconst Ra dX11_dew_28 ?_
        cases h
        exact r_iret Ra ⟨hV, (Rk rfl)⟩ dX11_dew_29
noncomputable def pD_up (N : Nat) (μ : Mem) (x1 : Int) (x2 : Int) : Option (Int × Mem) := (pP_hasPerson μ 2 x1).bind fun r5 => if r5 = 0 then some ((-1), μ) else if x2 < 0 then some ((-1), μ) else if 1 < x2 then some ((-1), μ) else (pT_learn N μ 38).bind fun m30 => (pT_findRise N m30 x1).bind fun m38 => if x2 = 0 then if 0 ≤ x1 ∧ x1 < 6 then some (m38 232 x1, m38) else none else if 0 ≤ x1 ∧ x1 < 6 then some (m38 233 x1, m38) else none
set_option maxHeartbeats 4000000 in
theorem c_pD_up {l : Launch} {en : En} {N : Nat} {μ : Mem} {x1 : Int} {x2 : Int} {re : Int} {μe : Mem} (hV : VT μ) (hx1 : inR x1) (hx2 : inR x2) (h : pD_up N μ x1 x2 = some (re, μe)) : CtI l en yX11_up cX11_up 3 7 231 [vA en 0, vI x1, vI x2] μ .int re μe (VT μe ∧ inR re) := by
  refine Tr.of false (fun h => by cases h) (by decide) (Nat.le_of_ble_eq_true rfl) (fun K Ra => ?_)
  unfold pD_up at h
  refine r_aload_n Ra (i := 0) dX11_up_0 rfl rfl ?_
  refine q_getA Ra (b := 2) f_X11_16 t0 rfl rfl rfl (hV.ref t0 rfl (by decide)) (by decide) dX11_up_1 ?_
  refine r_iload_n Ra (i := 1) dX11_up_4 rfl rfl ?_
  obtain ⟨r5, hr5, h⟩ := bd h
  refine q_callVI Ra (c_pP_hasPerson hV t2 hx1 hr5) mw_X3_hasPerson mi_X3_hasPerson t2 rfl rfl rfl rfl rfl k_X11_169 rfl rfl dX11_up_5 (fun ok5 => ?_)
  refine r_if_eq Ra 20 dX11_up_8 (inR_01 ok5) rfl (fun hc => ?_) (fun hc => ?_)
  · replace h := ipos hc h
    refine r_iconst Ra dX11_up_20 ?_
    cases h
    exact r_iret Ra ⟨hV, (Rk rfl)⟩ dX11_up_21
  · replace h := ineg hc h
    refine r_iload_n Ra (i := 2) dX11_up_11 rfl rfl ?_
    refine r_if_lt Ra 20 dX11_up_12 hx2 rfl (fun hc => ?_) (fun hc => ?_)
    · replace h := ipos hc h
      refine r_iconst Ra dX11_up_20 ?_
      cases h
      exact r_iret Ra ⟨hV, (Rk rfl)⟩ dX11_up_21
    · replace h := ineg hc h
      refine r_iload_n Ra (i := 2) dX11_up_15 rfl rfl ?_
      refine r_iconst Ra dX11_up_16 ?_
      refine r_icmp_le Ra 22 dX11_up_17 hx2 (Rk rfl) rfl (fun hc => ?_) (fun hc => ?_)
      · replace h := ineg hc h
        refine r_aload_n Ra (i := 0) dX11_up_22 rfl rfl ?_
        refine q_getA Ra (b := 201) f_X11_56 t0 rfl rfl rfl (hV.ref t0 rfl (by decide)) (by decide) dX11_up_23 ?_
        refine r_aload_n Ra (i := 0) dX11_up_26 rfl rfl ?_
        refine q_getA Ra (b := 38) f_X11_30 t0 rfl rfl rfl (hV.ref t0 rfl (by decide)) (by decide) dX11_up_27 ?_
        obtain ⟨m30, hr30, h⟩ := bd h
        refine q_callVV Ra (c_pT_learn hV t38 hr30) mw_X7_learn mi_X7_learn t201 rfl rfl rfl rfl rfl k_X11_201 rfl rfl dX11_up_30 (fun ok30 => ?_)
        refine r_aload_n Ra (i := 0) dX11_up_33 rfl rfl ?_
        refine q_getA Ra (b := 201) f_X11_56 t0 rfl rfl rfl (ok30.ref t0 rfl (by decide)) (by decide) dX11_up_34 ?_
        refine r_iload_n Ra (i := 1) dX11_up_37 rfl rfl ?_
        obtain ⟨m38, hr38, h⟩ := bd h
        refine q_callVV Ra (c_pT_findRise ok30 hx1 hr38) mw_X7_findRise mi_X7_findRise t201 rfl rfl rfl rfl rfl k_X11_218 rfl rfl dX11_up_38 (fun ok38 => ?_)
        refine r_iload_n Ra (i := 2) dX11_up_41 rfl rfl ?_
        refine r_if_ne Ra 57 dX11_up_42 hx2 rfl (fun hc => ?_) (fun hc => ?_)
        · replace h := ineg hc h
          refine r_aload_n Ra (i := 0) dX11_up_57 rfl rfl ?_
          refine q_getA Ra (b := 201) f_X11_56 t0 rfl rfl rfl (ok38.ref t0 rfl (by decide)) (by decide) dX11_up_58 ?_
          refine q_getA Ra (b := 233) f_X11_224 t201 rfl rfl rfl (ok38.ref t201 rfl (by decide)) (by decide) dX11_up_61 ?_
          refine r_iload_n Ra (i := 1) dX11_up_64 rfl rfl ?_
          obtain ⟨gu65, h⟩ := gd h
          refine q_iald Ra t233 l233 gu65 dX11_up_65 ?_
          cases h
          exact r_iret Ra ⟨ok38, (ok38.int t233 (kd20 _))⟩ dX11_up_66
        · replace h := ipos hc h
          refine r_aload_n Ra (i := 0) dX11_up_45 rfl rfl ?_
          refine q_getA Ra (b := 201) f_X11_56 t0 rfl rfl rfl (ok38.ref t0 rfl (by decide)) (by decide) dX11_up_46 ?_
          refine q_getA Ra (b := 232) f_X11_221 t201 rfl rfl rfl (ok38.ref t201 rfl (by decide)) (by decide) dX11_up_49 ?_
          refine r_iload_n Ra (i := 1) dX11_up_52 rfl rfl ?_
          obtain ⟨gu53, h⟩ := gd h
          refine q_iald Ra t232 l232 gu53 dX11_up_53 ?_
          refine r_goto Ra 66 dX11_up_54 rfl ?_
          cases h
          exact r_iret Ra ⟨ok38, (ok38.int t232 (kd20 _))⟩ dX11_up_66
      · replace h := ipos hc h
        refine r_iconst Ra dX11_up_20 ?_
        cases h
        exact r_iret Ra ⟨hV, (Rk rfl)⟩ dX11_up_21
noncomputable def pD_home (N : Nat) (μ : Mem) (x1 : Int) (x2 : Int) : Option (Int × Mem) := (pP_hasPerson μ 2 x1).bind fun r5 => if r5 = 0 then some ((-1), μ) else if x2 < 0 then some ((-1), μ) else if 2 < x2 then some ((-1), μ) else (pT_learn N μ 38).bind fun m30 => (pT_findHome N m30 x1).bind fun m38 => if x2 = 2 then if 0 ≤ x1 ∧ x1 < 6 then some (m38 235 x1, m38) else none else if 0 ≤ x1 ∧ x1 < 6 then (some (m38 234 x1 : Int)).bind fun x3_65 => if x2 = 0 then (pP_columnOf m38 2 x3_65).bind fun r75 => some (r75, m38) else (pP_rowOf m38 2 x3_65).bind fun r86 => some (r86, m38) else none
set_option maxHeartbeats 4000000 in
theorem c_pD_home {l : Launch} {en : En} {N : Nat} {μ : Mem} {x1 : Int} {x2 : Int} {re : Int} {μe : Mem} (hV : VT μ) (hx1 : inR x1) (hx2 : inR x2) (h : pD_home N μ x1 x2 = some (re, μe)) : CtI l en yX11_home cX11_home 4 7 231 [vA en 0, vI x1, vI x2] μ .int re μe (VT μe ∧ inR re) := by
  refine Tr.of false (fun h => by cases h) (by decide) (Nat.le_of_ble_eq_true rfl) (fun K Ra => ?_)
  unfold pD_home at h
  refine r_aload_n Ra (i := 0) dX11_home_0 rfl rfl ?_
  refine q_getA Ra (b := 2) f_X11_16 t0 rfl rfl rfl (hV.ref t0 rfl (by decide)) (by decide) dX11_home_1 ?_
  refine r_iload_n Ra (i := 1) dX11_home_4 rfl rfl ?_
  obtain ⟨r5, hr5, h⟩ := bd h
  refine q_callVI Ra (c_pP_hasPerson hV t2 hx1 hr5) mw_X3_hasPerson mi_X3_hasPerson t2 rfl rfl rfl rfl rfl k_X11_169 rfl rfl dX11_home_5 (fun ok5 => ?_)
  refine r_if_eq Ra 20 dX11_home_8 (inR_01 ok5) rfl (fun hc => ?_) (fun hc => ?_)
  · replace h := ipos hc h
    refine r_iconst Ra dX11_home_20 ?_
    cases h
    exact r_iret Ra ⟨hV, (Rk rfl)⟩ dX11_home_21
  · replace h := ineg hc h
    refine r_iload_n Ra (i := 2) dX11_home_11 rfl rfl ?_
    refine r_if_lt Ra 20 dX11_home_12 hx2 rfl (fun hc => ?_) (fun hc => ?_)
    · replace h := ipos hc h
      refine r_iconst Ra dX11_home_20 ?_
      cases h
      exact r_iret Ra ⟨hV, (Rk rfl)⟩ dX11_home_21
    · replace h := ineg hc h
      refine r_iload_n Ra (i := 2) dX11_home_15 rfl rfl ?_
      refine r_iconst Ra dX11_home_16 ?_
      refine r_icmp_le Ra 22 dX11_home_17 hx2 (Rk rfl) rfl (fun hc => ?_) (fun hc => ?_)
      · replace h := ineg hc h
        refine r_aload_n Ra (i := 0) dX11_home_22 rfl rfl ?_
        refine q_getA Ra (b := 201) f_X11_56 t0 rfl rfl rfl (hV.ref t0 rfl (by decide)) (by decide) dX11_home_23 ?_
        refine r_aload_n Ra (i := 0) dX11_home_26 rfl rfl ?_
        refine q_getA Ra (b := 38) f_X11_30 t0 rfl rfl rfl (hV.ref t0 rfl (by decide)) (by decide) dX11_home_27 ?_
        obtain ⟨m30, hr30, h⟩ := bd h
        refine q_callVV Ra (c_pT_learn hV t38 hr30) mw_X7_learn mi_X7_learn t201 rfl rfl rfl rfl rfl k_X11_201 rfl rfl dX11_home_30 (fun ok30 => ?_)
        refine r_aload_n Ra (i := 0) dX11_home_33 rfl rfl ?_
        refine q_getA Ra (b := 201) f_X11_56 t0 rfl rfl rfl (ok30.ref t0 rfl (by decide)) (by decide) dX11_home_34 ?_
        refine r_iload_n Ra (i := 1) dX11_home_37 rfl rfl ?_
        obtain ⟨m38, hr38, h⟩ := bd h
        refine q_callVV Ra (c_pT_findHome ok30 hx1 hr38) mw_X7_findHome mi_X7_findHome t201 rfl rfl rfl rfl rfl k_X11_227 rfl rfl dX11_home_38 (fun ok38 => ?_)
        refine r_iload_n Ra (i := 2) dX11_home_41 rfl rfl ?_
        refine r_iconst Ra dX11_home_42 ?_
        refine r_icmp_ne Ra 56 dX11_home_43 hx2 (Rk rfl) rfl (fun hc => ?_) (fun hc => ?_)
        · replace h := ineg hc h
          refine r_aload_n Ra (i := 0) dX11_home_56 rfl rfl ?_
          refine q_getA Ra (b := 201) f_X11_56 t0 rfl rfl rfl (ok38.ref t0 rfl (by decide)) (by decide) dX11_home_57 ?_
          refine q_getA Ra (b := 234) f_X11_233 t201 rfl rfl rfl (ok38.ref t201 rfl (by decide)) (by decide) dX11_home_60 ?_
          refine r_iload_n Ra (i := 1) dX11_home_63 rfl rfl ?_
          obtain ⟨gu64, h⟩ := gd h
          refine q_iald Ra t234 l234 gu64 dX11_home_64 ?_
          obtain ⟨x3_65, ex3_65, h⟩ := bv h
          have ix3_65 : inR x3_65 := eqR ex3_65 (ok38.int t234 (kd20 _))
          refine q_istore_n Ra 3 dX11_home_65 rfl rfl ex3_65 ?_
          refine r_iload_n Ra (i := 2) dX11_home_66 rfl rfl ?_
          refine r_if_ne Ra 81 dX11_home_67 hx2 rfl (fun hc => ?_) (fun hc => ?_)
          · replace h := ineg hc h
            refine r_aload_n Ra (i := 0) dX11_home_81 rfl rfl ?_
            refine q_getA Ra (b := 2) f_X11_16 t0 rfl rfl rfl (ok38.ref t0 rfl (by decide)) (by decide) dX11_home_82 ?_
            refine r_iload_n Ra (i := 3) dX11_home_85 rfl rfl ?_
            obtain ⟨r86, hr86, h⟩ := bd h
            refine q_callVI Ra (c_pP_rowOf ok38 t2 ix3_65 hr86) mw_X3_rowOf mi_X3_rowOf t2 rfl rfl rfl rfl rfl k_X11_186 rfl rfl dX11_home_86 (fun ok86 => ?_)
            cases h
            exact r_iret Ra ⟨ok38, ok86⟩ dX11_home_89
          · replace h := ipos hc h
            refine r_aload_n Ra (i := 0) dX11_home_70 rfl rfl ?_
            refine q_getA Ra (b := 2) f_X11_16 t0 rfl rfl rfl (ok38.ref t0 rfl (by decide)) (by decide) dX11_home_71 ?_
            refine r_iload_n Ra (i := 3) dX11_home_74 rfl rfl ?_
            obtain ⟨r75, hr75, h⟩ := bd h
            refine q_callVI Ra (c_pP_columnOf ok38 t2 ix3_65 hr75) mw_X3_columnOf mi_X3_columnOf t2 rfl rfl rfl rfl rfl k_X11_183 rfl rfl dX11_home_75 (fun ok75 => ?_)
            refine r_goto Ra 89 dX11_home_78 rfl ?_
            cases h
            exact r_iret Ra ⟨ok38, ok75⟩ dX11_home_89
        · replace h := ipos hc h
          refine r_aload_n Ra (i := 0) dX11_home_46 rfl rfl ?_
          refine q_getA Ra (b := 201) f_X11_56 t0 rfl rfl rfl (ok38.ref t0 rfl (by decide)) (by decide) dX11_home_47 ?_
          refine q_getA Ra (b := 235) f_X11_230 t201 rfl rfl rfl (ok38.ref t201 rfl (by decide)) (by decide) dX11_home_50 ?_
          refine r_iload_n Ra (i := 1) dX11_home_53 rfl rfl ?_
          obtain ⟨gu54, h⟩ := gd h
          refine q_iald Ra t235 l235 gu54 dX11_home_54 ?_
          cases h
          exact r_iret Ra ⟨ok38, (ok38.int t235 (kd20 _))⟩ dX11_home_55
      · replace h := ipos hc h
        refine r_iconst Ra dX11_home_20 ?_
        cases h
        exact r_iret Ra ⟨hV, (Rk rfl)⟩ dX11_home_21
noncomputable def pD_way (N : Nat) (μ : Mem) (x1 : Int) (x2 : Int) (x3 : Int) : Option (Int × Mem) := (pP_hasPerson μ 2 x1).bind fun r5 => if r5 = 0 then some ((-1), μ) else if x2 < 1 then some ((-1), μ) else if 5 < x2 then some ((-1), μ) else if 0 ≤ x1 ∧ x1 < 6 then if 9 < w32 ((μ 41 x1) + x2) then some ((-1), μ) else if x3 < (-1) then some ((-1), μ) else if x3 < x2 then (pT_learn N μ 38).bind fun m59 => (pY_find N m59 236 x1 x2).bind fun m75 => if x3 = (-1) then some (m75 250 4, m75) else if 0 ≤ x3 ∧ x3 < 5 then some (m75 253 x3, m75) else none else some ((-1), μ) else none
set_option maxHeartbeats 4000000 in
theorem c_pD_way {l : Launch} {en : En} {N : Nat} {μ : Mem} {x1 : Int} {x2 : Int} {x3 : Int} {re : Int} {μe : Mem} (hV : VT μ) (hx1 : inR x1) (hx2 : inR x2) (hx3 : inR x3) (h : pD_way N μ x1 x2 x3 = some (re, μe)) : CtI l en yX11_way cX11_way 4 48 1271 [vA en 0, vI x1, vI x2, vI x3] μ .int re μe (VT μe ∧ inR re) := by
  refine Tr.of false (fun h => by cases h) (by decide) (Nat.le_of_ble_eq_true rfl) (fun K Ra => ?_)
  unfold pD_way at h
  refine r_aload_n Ra (i := 0) dX11_way_0 rfl rfl ?_
  refine q_getA Ra (b := 2) f_X11_16 t0 rfl rfl rfl (hV.ref t0 rfl (by decide)) (by decide) dX11_way_1 ?_
  refine r_iload_n Ra (i := 1) dX11_way_4 rfl rfl ?_
  obtain ⟨r5, hr5, h⟩ := bd h
  refine q_callVI Ra (c_pP_hasPerson hV t2 hx1 hr5) mw_X3_hasPerson mi_X3_hasPerson t2 rfl rfl rfl rfl rfl k_X11_169 rfl rfl dX11_way_5 (fun ok5 => ?_)
  refine r_if_eq Ra 37 dX11_way_8 (inR_01 ok5) rfl (fun hc => ?_) (fun hc => ?_)
  · replace h := ipos hc h
    refine r_iconst Ra dX11_way_37 ?_
    cases h
    exact r_iret Ra ⟨hV, (Rk rfl)⟩ dX11_way_38
  · replace h := ineg hc h
    refine r_iload_n Ra (i := 2) dX11_way_11 rfl rfl ?_
    refine r_iconst Ra dX11_way_12 ?_
    refine r_icmp_lt Ra 37 dX11_way_13 hx2 (Rk rfl) rfl (fun hc => ?_) (fun hc => ?_)
    · replace h := ipos hc h
      refine r_iconst Ra dX11_way_37 ?_
      cases h
      exact r_iret Ra ⟨hV, (Rk rfl)⟩ dX11_way_38
    · replace h := ineg hc h
      refine r_iload_n Ra (i := 2) dX11_way_16 rfl rfl ?_
      refine r_iconst Ra dX11_way_17 ?_
      refine r_icmp_gt Ra 37 dX11_way_18 hx2 (Rk rfl) rfl (fun hc => ?_) (fun hc => ?_)
      · replace h := ipos hc h
        refine r_iconst Ra dX11_way_37 ?_
        cases h
        exact r_iret Ra ⟨hV, (Rk rfl)⟩ dX11_way_38
      · replace h := ineg hc h
        refine r_aload_n Ra (i := 0) dX11_way_21 rfl rfl ?_
        refine q_getA Ra (b := 38) f_X11_30 t0 rfl rfl rfl (hV.ref t0 rfl (by decide)) (by decide) dX11_way_22 ?_
        refine q_getA Ra (b := 41) f_X11_189 t38 rfl rfl rfl (hV.ref t38 rfl (by decide)) (by decide) dX11_way_25 ?_
        refine r_iload_n Ra (i := 1) dX11_way_28 rfl rfl ?_
        obtain ⟨gu29, h⟩ := gd h
        refine q_iald Ra t41 l41 gu29 dX11_way_29 ?_
        refine r_iload_n Ra (i := 2) dX11_way_30 rfl rfl ?_
        refine r_iadd Ra dX11_way_31 ?_
        refine r_bipush Ra dX11_way_32 rfl ?_
        refine r_icmp_le Ra 39 dX11_way_34 (inR_32 _) (Rk rfl) rfl (fun hc => ?_) (fun hc => ?_)
        · replace h := ineg hc h
          refine r_iload_n Ra (i := 3) dX11_way_39 rfl rfl ?_
          refine r_iconst Ra dX11_way_40 ?_
          refine r_icmp_lt Ra 49 dX11_way_41 hx3 (Rk rfl) rfl (fun hc => ?_) (fun hc => ?_)
          · replace h := ipos hc h
            refine r_iconst Ra dX11_way_49 ?_
            cases h
            exact r_iret Ra ⟨hV, (Rk rfl)⟩ dX11_way_50
          · replace h := ineg hc h
            refine r_iload_n Ra (i := 3) dX11_way_44 rfl rfl ?_
            refine r_iload_n Ra (i := 2) dX11_way_45 rfl rfl ?_
            refine r_icmp_lt Ra 51 dX11_way_46 hx3 hx2 rfl (fun hc => ?_) (fun hc => ?_)
            · replace h := ipos hc h
              refine r_aload_n Ra (i := 0) dX11_way_51 rfl rfl ?_
              refine q_getA Ra (b := 201) f_X11_56 t0 rfl rfl rfl (hV.ref t0 rfl (by decide)) (by decide) dX11_way_52 ?_
              refine r_aload_n Ra (i := 0) dX11_way_55 rfl rfl ?_
              refine q_getA Ra (b := 38) f_X11_30 t0 rfl rfl rfl (hV.ref t0 rfl (by decide)) (by decide) dX11_way_56 ?_
              obtain ⟨m59, hr59, h⟩ := bd h
              refine q_callVV Ra (c_pT_learn hV t38 hr59) mw_X7_learn mi_X7_learn t201 rfl rfl rfl rfl rfl k_X11_201 rfl rfl dX11_way_59 (fun ok59 => ?_)
              refine r_aload_n Ra (i := 0) dX11_way_62 rfl rfl ?_
              refine q_getA Ra (b := 250) f_X11_63 t0 rfl rfl rfl (ok59.ref t0 rfl (by decide)) (by decide) dX11_way_63 ?_
              refine r_aload_n Ra (i := 0) dX11_way_66 rfl rfl ?_
              refine q_getA Ra (b := 201) f_X11_56 t0 rfl rfl rfl (ok59.ref t0 rfl (by decide)) (by decide) dX11_way_67 ?_
              refine q_getA Ra (b := 236) f_X11_211 t201 rfl rfl rfl (ok59.ref t201 rfl (by decide)) (by decide) dX11_way_70 ?_
              refine r_iload_n Ra (i := 1) dX11_way_73 rfl rfl ?_
              refine r_iload_n Ra (i := 2) dX11_way_74 rfl rfl ?_
              obtain ⟨m75, hr75, h⟩ := bd h
              refine q_callVV Ra (c_pY_find ok59 t236 hx1 hx2 hr75) mw_X10_find mi_X10_find t250 rfl rfl rfl rfl rfl k_X11_236 rfl rfl dX11_way_75 (fun ok75 => ?_)
              refine r_iload_n Ra (i := 3) dX11_way_78 rfl rfl ?_
              refine r_iconst Ra dX11_way_79 ?_
              refine r_icmp_ne Ra 93 dX11_way_80 hx3 (Rk rfl) rfl (fun hc => ?_) (fun hc => ?_)
              · replace h := ineg hc h
                refine r_aload_n Ra (i := 0) dX11_way_93 rfl rfl ?_
                refine q_getA Ra (b := 250) f_X11_63 t0 rfl rfl rfl (ok75.ref t0 rfl (by decide)) (by decide) dX11_way_94 ?_
                refine q_getA Ra (b := 253) f_X11_243 t250 rfl rfl rfl (ok75.ref t250 rfl (by decide)) (by decide) dX11_way_97 ?_
                refine r_iload_n Ra (i := 3) dX11_way_100 rfl rfl ?_
                obtain ⟨gu101, h⟩ := gd h
                refine q_iald Ra t253 l253 gu101 dX11_way_101 ?_
                cases h
                exact r_iret Ra ⟨ok75, (ok75.int t253 (kd20 _))⟩ dX11_way_102
              · replace h := ipos hc h
                refine r_aload_n Ra (i := 0) dX11_way_83 rfl rfl ?_
                refine q_getA Ra (b := 250) f_X11_63 t0 rfl rfl rfl (ok75.ref t0 rfl (by decide)) (by decide) dX11_way_84 ?_
                refine q_getI Ra (x := m75 250 4) f_X11_240 t250 rfl rfl rfl rfl dX11_way_87 ?_
                refine r_goto Ra 102 dX11_way_90 rfl ?_
                cases h
                exact r_iret Ra ⟨ok75, (ok75.int t250 rfl)⟩ dX11_way_102
            · replace h := ineg hc h
              refine r_iconst Ra dX11_way_49 ?_
              cases h
              exact r_iret Ra ⟨hV, (Rk rfl)⟩ dX11_way_50
        · replace h := ipos hc h
          refine r_iconst Ra dX11_way_37 ?_
          cases h
          exact r_iret Ra ⟨hV, (Rk rfl)⟩ dX11_way_38
noncomputable def pD_changed (N : Nat) (μ : Mem) (x1 : Int) : Option (Int × Mem) := if x1 < 0 then some ((-1), μ) else if 2 < x1 then some ((-1), μ) else (pT_learn N μ 38).bind fun m19 => (pT_findChange N m19).bind fun m26 => if m26 201 10 = (-1) then some ((-1), m26) else if x1 = 2 then some (m26 201 12, m26) else if x1 = 0 then some (m26 201 10, m26) else some (m26 201 11, m26)
set_option maxHeartbeats 4000000 in
theorem c_pD_changed {l : Launch} {en : En} {N : Nat} {μ : Mem} {x1 : Int} {re : Int} {μe : Mem} (hV : VT μ) (hx1 : inR x1) (h : pD_changed N μ x1 = some (re, μe)) : CtI l en yX11_changed cX11_changed 2 8 253 [vA en 0, vI x1] μ .int re μe (VT μe ∧ inR re) := by
  refine Tr.of false (fun h => by cases h) (by decide) (Nat.le_of_ble_eq_true rfl) (fun K Ra => ?_)
  unfold pD_changed at h
  refine r_iload_n Ra (i := 1) dX11_changed_0 rfl rfl ?_
  refine r_if_lt Ra 9 dX11_changed_1 hx1 rfl (fun hc => ?_) (fun hc => ?_)
  · replace h := ipos hc h
    refine r_iconst Ra dX11_changed_9 ?_
    cases h
    exact r_iret Ra ⟨hV, (Rk rfl)⟩ dX11_changed_10
  · replace h := ineg hc h
    refine r_iload_n Ra (i := 1) dX11_changed_4 rfl rfl ?_
    refine r_iconst Ra dX11_changed_5 ?_
    refine r_icmp_le Ra 11 dX11_changed_6 hx1 (Rk rfl) rfl (fun hc => ?_) (fun hc => ?_)
    · replace h := ineg hc h
      refine r_aload_n Ra (i := 0) dX11_changed_11 rfl rfl ?_
      refine q_getA Ra (b := 201) f_X11_56 t0 rfl rfl rfl (hV.ref t0 rfl (by decide)) (by decide) dX11_changed_12 ?_
      refine r_aload_n Ra (i := 0) dX11_changed_15 rfl rfl ?_
      refine q_getA Ra (b := 38) f_X11_30 t0 rfl rfl rfl (hV.ref t0 rfl (by decide)) (by decide) dX11_changed_16 ?_
      obtain ⟨m19, hr19, h⟩ := bd h
      refine q_callVV Ra (c_pT_learn hV t38 hr19) mw_X7_learn mi_X7_learn t201 rfl rfl rfl rfl rfl k_X11_201 rfl rfl dX11_changed_19 (fun ok19 => ?_)
      refine r_aload_n Ra (i := 0) dX11_changed_22 rfl rfl ?_
      refine q_getA Ra (b := 201) f_X11_56 t0 rfl rfl rfl (ok19.ref t0 rfl (by decide)) (by decide) dX11_changed_23 ?_
      obtain ⟨m26, hr26, h⟩ := bd h
      refine q_callVV Ra (c_pT_findChange ok19 hr26) mw_X7_findChange mi_X7_findChange t201 rfl rfl rfl rfl rfl k_X11_246 rfl rfl dX11_changed_26 (fun ok26 => ?_)
      refine r_aload_n Ra (i := 0) dX11_changed_29 rfl rfl ?_
      refine q_getA Ra (b := 201) f_X11_56 t0 rfl rfl rfl (ok26.ref t0 rfl (by decide)) (by decide) dX11_changed_30 ?_
      refine q_getI Ra (x := m26 201 10) f_X11_249 t201 rfl rfl rfl rfl dX11_changed_33 ?_
      refine r_iconst Ra dX11_changed_36 ?_
      refine r_icmp_ne Ra 42 dX11_changed_37 (ok26.int t201 rfl) (Rk rfl) rfl (fun hc => ?_) (fun hc => ?_)
      · replace h := ineg hc h
        refine r_iload_n Ra (i := 1) dX11_changed_42 rfl rfl ?_
        refine r_iconst Ra dX11_changed_43 ?_
        refine r_icmp_ne Ra 55 dX11_changed_44 hx1 (Rk rfl) rfl (fun hc => ?_) (fun hc => ?_)
        · replace h := ineg hc h
          refine r_iload_n Ra (i := 1) dX11_changed_55 rfl rfl ?_
          refine r_if_ne Ra 69 dX11_changed_56 hx1 rfl (fun hc => ?_) (fun hc => ?_)
          · replace h := ineg hc h
            refine r_aload_n Ra (i := 0) dX11_changed_69 rfl rfl ?_
            refine q_getA Ra (b := 201) f_X11_56 t0 rfl rfl rfl (ok26.ref t0 rfl (by decide)) (by decide) dX11_changed_70 ?_
            refine q_getI Ra (x := m26 201 11) f_X11_255 t201 rfl rfl rfl rfl dX11_changed_73 ?_
            cases h
            exact r_iret Ra ⟨ok26, (ok26.int t201 rfl)⟩ dX11_changed_76
          · replace h := ipos hc h
            refine r_aload_n Ra (i := 0) dX11_changed_59 rfl rfl ?_
            refine q_getA Ra (b := 201) f_X11_56 t0 rfl rfl rfl (ok26.ref t0 rfl (by decide)) (by decide) dX11_changed_60 ?_
            refine q_getI Ra (x := m26 201 10) f_X11_249 t201 rfl rfl rfl rfl dX11_changed_63 ?_
            refine r_goto Ra 76 dX11_changed_66 rfl ?_
            cases h
            exact r_iret Ra ⟨ok26, (ok26.int t201 rfl)⟩ dX11_changed_76
        · replace h := ipos hc h
          refine r_aload_n Ra (i := 0) dX11_changed_47 rfl rfl ?_
          refine q_getA Ra (b := 201) f_X11_56 t0 rfl rfl rfl (ok26.ref t0 rfl (by decide)) (by decide) dX11_changed_48 ?_
          refine q_getI Ra (x := m26 201 12) f_X11_252 t201 rfl rfl rfl rfl dX11_changed_51 ?_
          cases h
          exact r_iret Ra ⟨ok26, (ok26.int t201 rfl)⟩ dX11_changed_54
      · replace h := ipos hc h
        refine r_iconst Ra dX11_changed_40 ?_
        cases h
        exact r_iret Ra ⟨ok26, (Rk rfl)⟩ dX11_changed_41
    · replace h := ipos hc h
      refine r_iconst Ra dX11_changed_9 ?_
      cases h
      exact r_iret Ra ⟨hV, (Rk rfl)⟩ dX11_changed_10
noncomputable def pD_daysAhead (μ : Mem)  : Option (Int) := some (min 40 (w32 ((w32 (999 - (μ 38 0))) + 1)))
set_option maxHeartbeats 4000000 in
theorem c_pD_daysAhead {l : Launch} {en : En} {μ : Mem}  {re : Int} (hV : VT μ)  (h : pD_daysAhead μ = some re) : CtI l en yX11_daysAhead cX11_daysAhead 1 1 81 [vA en 0] μ .int re μ (inR re) := by
  refine Tr.of false (fun h => by cases h) (by decide) (Nat.le_of_ble_eq_true rfl) (fun K Ra => ?_)
  unfold pD_daysAhead at h
  refine r_bipush Ra dX11_daysAhead_0 rfl ?_
  refine r_sipush Ra dX11_daysAhead_2 rfl ?_
  refine r_aload_n Ra (i := 0) dX11_daysAhead_5 rfl rfl ?_
  refine q_getA Ra (b := 38) f_X11_30 t0 rfl rfl rfl (hV.ref t0 rfl (by decide)) (by decide) dX11_daysAhead_6 ?_
  refine q_getI Ra (x := μ 38 0) f_X11_144 t38 rfl rfl rfl rfl dX11_daysAhead_9 ?_
  refine r_isub Ra dX11_daysAhead_12 ?_
  refine r_iconst Ra dX11_daysAhead_13 ?_
  refine r_iadd Ra dX11_daysAhead_14 ?_
  refine q_mmin Ra (Rk rfl) (inR_32 _) k_X11_339 rfl rfl dX11_daysAhead_15 ?_
  cases h
  exact r_iret Ra (inR_min (Rk rfl) (inR_32 _)) dX11_daysAhead_18
noncomputable def pD_daysLeft (μ : Mem)  : Option (Int) := some (min 40 (w32 (999 - (μ 38 0))))
set_option maxHeartbeats 4000000 in
theorem c_pD_daysLeft {l : Launch} {en : En} {μ : Mem}  {re : Int} (hV : VT μ)  (h : pD_daysLeft μ = some re) : CtI l en yX11_daysLeft cX11_daysLeft 1 1 81 [vA en 0] μ .int re μ (inR re) := by
  refine Tr.of false (fun h => by cases h) (by decide) (Nat.le_of_ble_eq_true rfl) (fun K Ra => ?_)
  unfold pD_daysLeft at h
  refine r_bipush Ra dX11_daysLeft_0 rfl ?_
  refine r_sipush Ra dX11_daysLeft_2 rfl ?_
  refine r_aload_n Ra (i := 0) dX11_daysLeft_5 rfl rfl ?_
  refine q_getA Ra (b := 38) f_X11_30 t0 rfl rfl rfl (hV.ref t0 rfl (by decide)) (by decide) dX11_daysLeft_6 ?_
  refine q_getI Ra (x := μ 38 0) f_X11_144 t38 rfl rfl rfl rfl dX11_daysLeft_9 ?_
  refine r_isub Ra dX11_daysLeft_12 ?_
  refine q_mmin Ra (Rk rfl) (inR_32 _) k_X11_339 rfl rfl dX11_daysLeft_13 ?_
  cases h
  exact r_iret Ra (inR_min (Rk rfl) (inR_32 _)) dX11_daysLeft_16
noncomputable def pD_later (N : Nat) (μ : Mem) (x1 : Int) (x2 : Int) (x3 : Int) : Option (Int × Mem) := (pP_cellAt μ 2 x1 x2).bind fun r6 => if r6 = (-1) then some ((-1), μ) else if x3 < 0 then some ((-1), μ) else (pD_daysLeft μ).bind fun r23 => if r23 < x3 then some ((-1), μ) else (pD_daysAhead μ).bind fun r40 => (pH_learn N μ 38 r40).bind fun m43 => if 0 ≤ x3 ∧ x3 < 41 then if 0 ≤ r6 ∧ r6 < 64 then some (m43 (304 + 1 + x3) r6, m43) else none else none
set_option maxHeartbeats 4000000 in
theorem c_pD_later {l : Launch} {en : En} {N : Nat} {μ : Mem} {x1 : Int} {x2 : Int} {x3 : Int} {re : Int} {μe : Mem} (hV : VT μ) (hx1 : inR x1) (hx2 : inR x2) (hx3 : inR x3) (h : pD_later N μ x1 x2 x3 = some (re, μe)) : CtI l en yX11_later cX11_later 5 8 258 [vA en 0, vI x1, vI x2, vI x3] μ .int re μe (VT μe ∧ inR re) := by
  refine Tr.of false (fun h => by cases h) (by decide) (Nat.le_of_ble_eq_true rfl) (fun K Ra => ?_)
  unfold pD_later at h
  refine r_aload_n Ra (i := 0) dX11_later_0 rfl rfl ?_
  refine q_getA Ra (b := 2) f_X11_16 t0 rfl rfl rfl (hV.ref t0 rfl (by decide)) (by decide) dX11_later_1 ?_
  refine r_iload_n Ra (i := 1) dX11_later_4 rfl rfl ?_
  refine r_iload_n Ra (i := 2) dX11_later_5 rfl rfl ?_
  obtain ⟨r6, hr6, h⟩ := bd h
  refine q_callVI Ra (c_pP_cellAt hV t2 hx1 hx2 hr6) mw_X3_cellAt mi_X3_cellAt t2 rfl rfl rfl rfl rfl k_X11_176 rfl rfl dX11_later_6 (fun ok6 => ?_)
  refine q_istore Ra dX11_later_9 rfl rfl ?_
  refine r_iload Ra dX11_later_11 rfl ?_
  refine r_iconst Ra dX11_later_13 ?_
  refine r_icmp_eq Ra 29 dX11_later_14 ok6 (Rk rfl) rfl (fun hc => ?_) (fun hc => ?_)
  · replace h := ipos hc h
    refine r_iconst Ra dX11_later_29 ?_
    cases h
    exact r_iret Ra ⟨hV, (Rk rfl)⟩ dX11_later_30
  · replace h := ineg hc h
    refine r_iload_n Ra (i := 3) dX11_later_17 rfl rfl ?_
    refine r_if_lt Ra 29 dX11_later_18 hx3 rfl (fun hc => ?_) (fun hc => ?_)
    · replace h := ipos hc h
      refine r_iconst Ra dX11_later_29 ?_
      cases h
      exact r_iret Ra ⟨hV, (Rk rfl)⟩ dX11_later_30
    · replace h := ineg hc h
      refine r_iload_n Ra (i := 3) dX11_later_21 rfl rfl ?_
      refine r_aload_n Ra (i := 0) dX11_later_22 rfl rfl ?_
      obtain ⟨r23, hr23, h⟩ := bd h
      refine q_callVI Ra (c_pD_daysLeft hV hr23) mw_X11_daysLeft mi_X11_daysLeft t0 rfl rfl rfl rfl rfl k_X11_258 rfl rfl dX11_later_23 (fun ok23 => ?_)
      refine r_icmp_le Ra 31 dX11_later_26 hx3 ok23 rfl (fun hc => ?_) (fun hc => ?_)
      · replace h := ineg hc h
        refine r_aload_n Ra (i := 0) dX11_later_31 rfl rfl ?_
        refine q_getA Ra (b := 296) f_X11_70 t0 rfl rfl rfl (hV.ref t0 rfl (by decide)) (by decide) dX11_later_32 ?_
        refine r_aload_n Ra (i := 0) dX11_later_35 rfl rfl ?_
        refine q_getA Ra (b := 38) f_X11_30 t0 rfl rfl rfl (hV.ref t0 rfl (by decide)) (by decide) dX11_later_36 ?_
        refine r_aload_n Ra (i := 0) dX11_later_39 rfl rfl ?_
        obtain ⟨r40, hr40, h⟩ := bd h
        refine q_callVI Ra (c_pD_daysAhead hV hr40) mw_X11_daysAhead mi_X11_daysAhead t0 rfl rfl rfl rfl rfl k_X11_262 rfl rfl dX11_later_40 (fun ok40 => ?_)
        obtain ⟨m43, hr43, h⟩ := bd h
        refine q_callVV Ra (c_pH_learn hV t38 ok40 hr43) mw_X1_learn mi_X1_learn t296 rfl rfl rfl rfl rfl k_X11_265 rfl rfl dX11_later_43 (fun ok43 => ?_)
        refine r_aload_n Ra (i := 0) dX11_later_46 rfl rfl ?_
        refine q_getA Ra (b := 296) f_X11_70 t0 rfl rfl rfl (ok43.ref t0 rfl (by decide)) (by decide) dX11_later_47 ?_
        refine q_getA Ra (b := 304) f_X11_268 t296 rfl rfl rfl (ok43.ref t296 rfl (by decide)) (by decide) dX11_later_50 ?_
        refine r_iload_n Ra (i := 3) dX11_later_53 rfl rfl ?_
        obtain ⟨gu54, h⟩ := gd h
        have hg1 := g304 gu54
        refine q_aald Ra (b := (304 + 1 + x3)) t304 (by decide) l304 gu54 (ok43.ref t304 rfl gu54.1) (tin hg1.1 rfl).1 dX11_later_54 ?_
        refine r_iload Ra dX11_later_55 rfl ?_
        obtain ⟨gu57, h⟩ := gd h
        refine q_iald Ra hg1.1 hg1.2 gu57 dX11_later_57 ?_
        cases h
        exact r_iret Ra ⟨ok43, (ok43.int hg1.1 (kd20 _))⟩ dX11_later_58
      · replace h := ipos hc h
        refine r_iconst Ra dX11_later_29 ?_
        cases h
        exact r_iret Ra ⟨hV, (Rk rfl)⟩ dX11_later_30
noncomputable def pD_purse (N : Nat) (μ : Mem) (x1 : Int) (x2 : Int) : Option (Int × Mem) := (pP_hasPerson μ 2 x1).bind fun r5 => if r5 = 0 then some ((-1), μ) else if x2 < 0 then some ((-1), μ) else (pD_daysLeft μ).bind fun r17 => if r17 < x2 then some ((-1), μ) else (pD_daysAhead μ).bind fun r34 => (pH_learn N μ 38 r34).bind fun m37 => if 0 ≤ x2 ∧ x2 < 41 then if 0 ≤ x1 ∧ x1 < 6 then some (m37 (346 + 1 + x2) x1, m37) else none else none
set_option maxHeartbeats 4000000 in
theorem c_pD_purse {l : Launch} {en : En} {N : Nat} {μ : Mem} {x1 : Int} {x2 : Int} {re : Int} {μe : Mem} (hV : VT μ) (hx1 : inR x1) (hx2 : inR x2) (h : pD_purse N μ x1 x2 = some (re, μe)) : CtI l en yX11_purse cX11_purse 3 8 258 [vA en 0, vI x1, vI x2] μ .int re μe (VT μe ∧ inR re) := by
  refine Tr.of false (fun h => by cases h) (by decide) (Nat.le_of_ble_eq_true rfl) (fun K Ra => ?_)
  unfold pD_purse at h
  refine r_aload_n Ra (i := 0) dX11_purse_0 rfl rfl ?_
  refine q_getA Ra (b := 2) f_X11_16 t0 rfl rfl rfl (hV.ref t0 rfl (by decide)) (by decide) dX11_purse_1 ?_
  refine r_iload_n Ra (i := 1) dX11_purse_4 rfl rfl ?_
  obtain ⟨r5, hr5, h⟩ := bd h
  refine q_callVI Ra (c_pP_hasPerson hV t2 hx1 hr5) mw_X3_hasPerson mi_X3_hasPerson t2 rfl rfl rfl rfl rfl k_X11_169 rfl rfl dX11_purse_5 (fun ok5 => ?_)
  refine r_if_eq Ra 23 dX11_purse_8 (inR_01 ok5) rfl (fun hc => ?_) (fun hc => ?_)
  · replace h := ipos hc h
    refine r_iconst Ra dX11_purse_23 ?_
    cases h
    exact r_iret Ra ⟨hV, (Rk rfl)⟩ dX11_purse_24
  · replace h := ineg hc h
    refine r_iload_n Ra (i := 2) dX11_purse_11 rfl rfl ?_
    refine r_if_lt Ra 23 dX11_purse_12 hx2 rfl (fun hc => ?_) (fun hc => ?_)
    · replace h := ipos hc h
      refine r_iconst Ra dX11_purse_23 ?_
      cases h
      exact r_iret Ra ⟨hV, (Rk rfl)⟩ dX11_purse_24
    · replace h := ineg hc h
      refine r_iload_n Ra (i := 2) dX11_purse_15 rfl rfl ?_
      refine r_aload_n Ra (i := 0) dX11_purse_16 rfl rfl ?_
      obtain ⟨r17, hr17, h⟩ := bd h
      refine q_callVI Ra (c_pD_daysLeft hV hr17) mw_X11_daysLeft mi_X11_daysLeft t0 rfl rfl rfl rfl rfl k_X11_258 rfl rfl dX11_purse_17 (fun ok17 => ?_)
      refine r_icmp_le Ra 25 dX11_purse_20 hx2 ok17 rfl (fun hc => ?_) (fun hc => ?_)
      · replace h := ineg hc h
        refine r_aload_n Ra (i := 0) dX11_purse_25 rfl rfl ?_
        refine q_getA Ra (b := 296) f_X11_70 t0 rfl rfl rfl (hV.ref t0 rfl (by decide)) (by decide) dX11_purse_26 ?_
        refine r_aload_n Ra (i := 0) dX11_purse_29 rfl rfl ?_
        refine q_getA Ra (b := 38) f_X11_30 t0 rfl rfl rfl (hV.ref t0 rfl (by decide)) (by decide) dX11_purse_30 ?_
        refine r_aload_n Ra (i := 0) dX11_purse_33 rfl rfl ?_
        obtain ⟨r34, hr34, h⟩ := bd h
        refine q_callVI Ra (c_pD_daysAhead hV hr34) mw_X11_daysAhead mi_X11_daysAhead t0 rfl rfl rfl rfl rfl k_X11_262 rfl rfl dX11_purse_34 (fun ok34 => ?_)
        obtain ⟨m37, hr37, h⟩ := bd h
        refine q_callVV Ra (c_pH_learn hV t38 ok34 hr37) mw_X1_learn mi_X1_learn t296 rfl rfl rfl rfl rfl k_X11_265 rfl rfl dX11_purse_37 (fun ok37 => ?_)
        refine r_aload_n Ra (i := 0) dX11_purse_40 rfl rfl ?_
        refine q_getA Ra (b := 296) f_X11_70 t0 rfl rfl rfl (ok37.ref t0 rfl (by decide)) (by decide) dX11_purse_41 ?_
        refine q_getA Ra (b := 346) f_X11_270 t296 rfl rfl rfl (ok37.ref t296 rfl (by decide)) (by decide) dX11_purse_44 ?_
        refine r_iload_n Ra (i := 2) dX11_purse_47 rfl rfl ?_
        obtain ⟨gu48, h⟩ := gd h
        have hg1 := g346 gu48
        refine q_aald Ra (b := (346 + 1 + x2)) t346 (by decide) l346 gu48 (ok37.ref t346 rfl gu48.1) (tin hg1.1 rfl).1 dX11_purse_48 ?_
        refine r_iload_n Ra (i := 1) dX11_purse_49 rfl rfl ?_
        obtain ⟨gu50, h⟩ := gd h
        refine q_iald Ra hg1.1 hg1.2 gu50 dX11_purse_50 ?_
        cases h
        exact r_iret Ra ⟨ok37, (ok37.int hg1.1 (kd20 _))⟩ dX11_purse_51
      · replace h := ipos hc h
        refine r_iconst Ra dX11_purse_23 ?_
        cases h
        exact r_iret Ra ⟨hV, (Rk rfl)⟩ dX11_purse_24
noncomputable def pD_dry (N : Nat) (μ : Mem) (x1 : Int) : Option (Int × Mem) := (pP_hasPerson μ 2 x1).bind fun r5 => if r5 = 0 then some ((-1), μ) else (pD_daysAhead μ).bind fun r22 => (pH_learn N μ 38 r22).bind fun m25 => if 0 ≤ x1 ∧ x1 < 6 then some (m25 388 x1, m25) else none
set_option maxHeartbeats 4000000 in
theorem c_pD_dry {l : Launch} {en : En} {N : Nat} {μ : Mem} {x1 : Int} {re : Int} {μe : Mem} (hV : VT μ) (hx1 : inR x1) (h : pD_dry N μ x1 = some (re, μe)) : CtI l en yX11_dry cX11_dry 2 8 258 [vA en 0, vI x1] μ .int re μe (VT μe ∧ inR re) := by
  refine Tr.of false (fun h => by cases h) (by decide) (Nat.le_of_ble_eq_true rfl) (fun K Ra => ?_)
  unfold pD_dry at h
  refine r_aload_n Ra (i := 0) dX11_dry_0 rfl rfl ?_
  refine q_getA Ra (b := 2) f_X11_16 t0 rfl rfl rfl (hV.ref t0 rfl (by decide)) (by decide) dX11_dry_1 ?_
  refine r_iload_n Ra (i := 1) dX11_dry_4 rfl rfl ?_
  obtain ⟨r5, hr5, h⟩ := bd h
  refine q_callVI Ra (c_pP_hasPerson hV t2 hx1 hr5) mw_X3_hasPerson mi_X3_hasPerson t2 rfl rfl rfl rfl rfl k_X11_169 rfl rfl dX11_dry_5 (fun ok5 => ?_)
  refine r_if_ne Ra 13 dX11_dry_8 (inR_01 ok5) rfl (fun hc => ?_) (fun hc => ?_)
  · replace h := ineg hc h
    refine r_aload_n Ra (i := 0) dX11_dry_13 rfl rfl ?_
    refine q_getA Ra (b := 296) f_X11_70 t0 rfl rfl rfl (hV.ref t0 rfl (by decide)) (by decide) dX11_dry_14 ?_
    refine r_aload_n Ra (i := 0) dX11_dry_17 rfl rfl ?_
    refine q_getA Ra (b := 38) f_X11_30 t0 rfl rfl rfl (hV.ref t0 rfl (by decide)) (by decide) dX11_dry_18 ?_
    refine r_aload_n Ra (i := 0) dX11_dry_21 rfl rfl ?_
    obtain ⟨r22, hr22, h⟩ := bd h
    refine q_callVI Ra (c_pD_daysAhead hV hr22) mw_X11_daysAhead mi_X11_daysAhead t0 rfl rfl rfl rfl rfl k_X11_262 rfl rfl dX11_dry_22 (fun ok22 => ?_)
    obtain ⟨m25, hr25, h⟩ := bd h
    refine q_callVV Ra (c_pH_learn hV t38 ok22 hr25) mw_X1_learn mi_X1_learn t296 rfl rfl rfl rfl rfl k_X11_265 rfl rfl dX11_dry_25 (fun ok25 => ?_)
    refine r_aload_n Ra (i := 0) dX11_dry_28 rfl rfl ?_
    refine q_getA Ra (b := 296) f_X11_70 t0 rfl rfl rfl (ok25.ref t0 rfl (by decide)) (by decide) dX11_dry_29 ?_
    refine q_getA Ra (b := 388) f_X11_273 t296 rfl rfl rfl (ok25.ref t296 rfl (by decide)) (by decide) dX11_dry_32 ?_
    refine r_iload_n Ra (i := 1) dX11_dry_35 rfl rfl ?_
    obtain ⟨gu36, h⟩ := gd h
    refine q_iald Ra t388 l388 gu36 dX11_dry_36 ?_
    cases h
    exact r_iret Ra ⟨ok25, (ok25.int t388 (kd20 _))⟩ dX11_dry_37
  · replace h := ipos hc h
    refine r_iconst Ra dX11_dry_11 ?_
    cases h
    exact r_iret Ra ⟨hV, (Rk rfl)⟩ dX11_dry_12
noncomputable def pD_see (N : Nat) (μ : Mem)  : Option (Int × Mem) := (some (μ 0 1 : Int)).bind fun x1_4 => (some (mset μ 0 1 0)).bind fun m7 => (pK_look N m7 x1_4).bind fun (r19, m19) => if r19 = 0 then (pD_refuse m19 5).bind fun (r27, m27) => some (r27, m27) else some (m19 396 3, m19)
set_option maxHeartbeats 4000000 in
theorem c_pD_see {l : Launch} {en : En} {N : Nat} {μ : Mem}  {re : Int} {μe : Mem} (hV : VT μ)  (h : pD_see N μ = some (re, μe)) : CtI l en yX11_see cX11_see 2 2 107 [vA en 0] μ .int re μe (VT μe ∧ inR re) := by
  refine Tr.of false (fun h => by cases h) (by decide) (Nat.le_of_ble_eq_true rfl) (fun K Ra => ?_)
  unfold pD_see at h
  refine r_aload_n Ra (i := 0) dX11_see_0 rfl rfl ?_
  refine q_getI Ra (x := μ 0 1) f_X11_95 t0 rfl rfl rfl rfl dX11_see_1 ?_
  obtain ⟨x1_4, ex1_4, h⟩ := bv h
  have ix1_4 : inR x1_4 := eqR ex1_4 (hV.int t0 rfl)
  refine q_istore_n Ra 1 dX11_see_4 rfl rfl ex1_4 ?_
  refine r_aload_n Ra (i := 0) dX11_see_5 rfl rfl ?_
  refine r_iconst Ra dX11_see_6 ?_
  obtain ⟨m7, em7, h⟩ := bv h
  have hm7 : VT m7 := eqV em7 (hV.setI t0 rfl (Rk rfl))
  refine q_putI Ra f_X11_95 p_X11_1 t0 rfl rfl rfl em7 dX11_see_7 ?_
  refine r_aload_n Ra (i := 0) dX11_see_10 rfl rfl ?_
  refine q_getA Ra (b := 396) f_X11_77 t0 rfl rfl rfl (hm7.ref t0 rfl (by decide)) (by decide) dX11_see_11 ?_
  refine r_aload_n Ra (i := 0) dX11_see_14 rfl rfl ?_
  refine q_getA Ra (b := 1) f_X11_9 t0 rfl rfl rfl (hm7.ref t0 rfl (by decide)) (by decide) dX11_see_15 ?_
  refine r_iload_n Ra (i := 1) dX11_see_18 rfl rfl ?_
  obtain ⟨⟨r19, m19⟩, hr19, h⟩ := bd h
  refine q_callVI Ra (c_pK_look hm7 ix1_4 hr19) mw_X9_look mi_X9_look t396 rfl rfl rfl rfl rfl k_X11_276 rfl rfl dX11_see_19 (fun ok19 => ?_)
  obtain ⟨hV19, ok19⟩ := ok19
  refine r_if_ne Ra 31 dX11_see_22 (inR_01 ok19) rfl (fun hc => ?_) (fun hc => ?_)
  · replace h := ineg hc h
    refine r_aload_n Ra (i := 0) dX11_see_31 rfl rfl ?_
    refine q_getA Ra (b := 396) f_X11_77 t0 rfl rfl rfl (hV19.ref t0 rfl (by decide)) (by decide) dX11_see_32 ?_
    refine q_getI Ra (x := m19 396 3) f_X11_163 t396 rfl rfl rfl rfl dX11_see_35 ?_
    cases h
    exact r_iret Ra ⟨hV19, (hV19.int t396 rfl)⟩ dX11_see_38
  · replace h := ipos hc h
    refine r_aload_n Ra (i := 0) dX11_see_25 rfl rfl ?_
    refine r_iconst Ra dX11_see_26 ?_
    obtain ⟨⟨r27, m27⟩, hr27, h⟩ := bd h
    refine q_callVI Ra (c_pD_refuse hV19 (Rk rfl) hr27) mw_X11_refuse mi_X11_refuse t0 rfl rfl rfl rfl rfl k_X11_98 rfl rfl dX11_see_27 (fun ok27 => ?_)
    obtain ⟨hV27, ok27⟩ := ok27
    cases h
    exact r_iret Ra ⟨hV27, ok27⟩ dX11_see_30
noncomputable def pD_walkers (N : Nat) (μ : Mem) (x1 : Int) : Option (Int × Mem) := if x1 < 0 then some ((-1), μ) else if 1 < x1 then some ((-1), μ) else (pT_learn N μ 38).bind fun m19 => (pK_learn N m19 236).bind fun m33 => if x1 = 0 then some (m33 396 6, m33) else if m33 396 6 = 0 then some ((-1), m33) else some (m33 463 0, m33)
set_option maxHeartbeats 4000000 in
theorem c_pD_walkers {l : Launch} {en : En} {N : Nat} {μ : Mem} {x1 : Int} {re : Int} {μe : Mem} (hV : VT μ) (hx1 : inR x1) (h : pD_walkers N μ x1 = some (re, μe)) : CtI l en yX11_walkers cX11_walkers 2 7 232 [vA en 0, vI x1] μ .int re μe (VT μe ∧ inR re) := by
  refine Tr.of false (fun h => by cases h) (by decide) (Nat.le_of_ble_eq_true rfl) (fun K Ra => ?_)
  unfold pD_walkers at h
  refine r_iload_n Ra (i := 1) dX11_walkers_0 rfl rfl ?_
  refine r_if_lt Ra 9 dX11_walkers_1 hx1 rfl (fun hc => ?_) (fun hc => ?_)
  · replace h := ipos hc h
    refine r_iconst Ra dX11_walkers_9 ?_
    cases h
    exact r_iret Ra ⟨hV, (Rk rfl)⟩ dX11_walkers_10
  · replace h := ineg hc h
    refine r_iload_n Ra (i := 1) dX11_walkers_4 rfl rfl ?_
    refine r_iconst Ra dX11_walkers_5 ?_
    refine r_icmp_le Ra 11 dX11_walkers_6 hx1 (Rk rfl) rfl (fun hc => ?_) (fun hc => ?_)
    · replace h := ineg hc h
      refine r_aload_n Ra (i := 0) dX11_walkers_11 rfl rfl ?_
      refine q_getA Ra (b := 201) f_X11_56 t0 rfl rfl rfl (hV.ref t0 rfl (by decide)) (by decide) dX11_walkers_12 ?_
      refine r_aload_n Ra (i := 0) dX11_walkers_15 rfl rfl ?_
      refine q_getA Ra (b := 38) f_X11_30 t0 rfl rfl rfl (hV.ref t0 rfl (by decide)) (by decide) dX11_walkers_16 ?_
      obtain ⟨m19, hr19, h⟩ := bd h
      refine q_callVV Ra (c_pT_learn hV t38 hr19) mw_X7_learn mi_X7_learn t201 rfl rfl rfl rfl rfl k_X11_201 rfl rfl dX11_walkers_19 (fun ok19 => ?_)
      refine r_aload_n Ra (i := 0) dX11_walkers_22 rfl rfl ?_
      refine q_getA Ra (b := 396) f_X11_77 t0 rfl rfl rfl (ok19.ref t0 rfl (by decide)) (by decide) dX11_walkers_23 ?_
      refine r_aload_n Ra (i := 0) dX11_walkers_26 rfl rfl ?_
      refine q_getA Ra (b := 201) f_X11_56 t0 rfl rfl rfl (ok19.ref t0 rfl (by decide)) (by decide) dX11_walkers_27 ?_
      refine q_getA Ra (b := 236) f_X11_211 t201 rfl rfl rfl (ok19.ref t201 rfl (by decide)) (by decide) dX11_walkers_30 ?_
      obtain ⟨m33, hr33, h⟩ := bd h
      refine q_callVV Ra (c_pK_learn ok19 t236 hr33) mw_X9_learn mi_X9_learn t396 rfl rfl rfl rfl rfl k_X11_279 rfl rfl dX11_walkers_33 (fun ok33 => ?_)
      refine r_iload_n Ra (i := 1) dX11_walkers_36 rfl rfl ?_
      refine r_if_ne Ra 48 dX11_walkers_37 hx1 rfl (fun hc => ?_) (fun hc => ?_)
      · replace h := ineg hc h
        refine r_aload_n Ra (i := 0) dX11_walkers_48 rfl rfl ?_
        refine q_getA Ra (b := 396) f_X11_77 t0 rfl rfl rfl (ok33.ref t0 rfl (by decide)) (by decide) dX11_walkers_49 ?_
        refine q_getI Ra (x := m33 396 6) f_X11_282 t396 rfl rfl rfl rfl dX11_walkers_52 ?_
        refine r_if_ne Ra 62 dX11_walkers_55 (ok33.int t396 rfl) rfl (fun hc => ?_) (fun hc => ?_)
        · replace h := ineg hc h
          refine r_aload_n Ra (i := 0) dX11_walkers_62 rfl rfl ?_
          refine q_getA Ra (b := 396) f_X11_77 t0 rfl rfl rfl (ok33.ref t0 rfl (by decide)) (by decide) dX11_walkers_63 ?_
          refine q_getA Ra (b := 463) f_X11_283 t396 rfl rfl rfl (ok33.ref t396 rfl (by decide)) (by decide) dX11_walkers_66 ?_
          refine r_iconst Ra dX11_walkers_69 ?_
          refine q_iald Ra t463 l463 (by decide) dX11_walkers_70 ?_
          cases h
          exact r_iret Ra ⟨ok33, (ok33.int t463 (kd20 _))⟩ dX11_walkers_71
        · replace h := ipos hc h
          refine r_iconst Ra dX11_walkers_58 ?_
          refine r_goto Ra 71 dX11_walkers_59 rfl ?_
          cases h
          exact r_iret Ra ⟨ok33, (Rk rfl)⟩ dX11_walkers_71
      · replace h := ipos hc h
        refine r_aload_n Ra (i := 0) dX11_walkers_40 rfl rfl ?_
        refine q_getA Ra (b := 396) f_X11_77 t0 rfl rfl rfl (ok33.ref t0 rfl (by decide)) (by decide) dX11_walkers_41 ?_
        refine q_getI Ra (x := m33 396 6) f_X11_282 t396 rfl rfl rfl rfl dX11_walkers_44 ?_
        cases h
        exact r_iret Ra ⟨ok33, (ok33.int t396 rfl)⟩ dX11_walkers_47
    · replace h := ipos hc h
      refine r_iconst Ra dX11_walkers_9 ?_
      cases h
      exact r_iret Ra ⟨hV, (Rk rfl)⟩ dX11_walkers_10
noncomputable def pD_tells (N : Nat) (μ : Mem) (x1 : Int) : Option (Int × Mem) := if x1 < 0 then some ((-1), μ) else if 3 < x1 then some ((-1), μ) else if μ 2 2 = 0 then some ((-1), μ) else (pT_learn N μ 38).bind fun m29 => (pK_learn N m29 236).bind fun m43 => if m43 396 6 = 0 then some ((-1), m43) else (pK_findTelling N m43).bind fun m62 => if x1 = 0 then some (m62 396 8, m62) else if x1 = 1 then (pP_columnOf m62 2 (m62 396 9)).bind fun r111 => some (r111, m62) else if x1 = 2 then (pP_rowOf m62 2 (m62 396 9)).bind fun r126 => some (r126, m62) else some (m62 396 10, m62)
set_option maxHeartbeats 4000000 in
theorem c_pD_tells {l : Launch} {en : En} {N : Nat} {μ : Mem} {x1 : Int} {re : Int} {μe : Mem} (hV : VT μ) (hx1 : inR x1) (h : pD_tells N μ x1 = some (re, μe)) : CtI l en yX11_tells cX11_tells 2 7 232 [vA en 0, vI x1] μ .int re μe (VT μe ∧ inR re) := by
  refine Tr.of false (fun h => by cases h) (by decide) (Nat.le_of_ble_eq_true rfl) (fun K Ra => ?_)
  unfold pD_tells at h
  refine r_iload_n Ra (i := 1) dX11_tells_0 rfl rfl ?_
  refine r_if_lt Ra 19 dX11_tells_1 hx1 rfl (fun hc => ?_) (fun hc => ?_)
  · replace h := ipos hc h
    refine r_iconst Ra dX11_tells_19 ?_
    cases h
    exact r_iret Ra ⟨hV, (Rk rfl)⟩ dX11_tells_20
  · replace h := ineg hc h
    refine r_iload_n Ra (i := 1) dX11_tells_4 rfl rfl ?_
    refine r_iconst Ra dX11_tells_5 ?_
    refine r_icmp_gt Ra 19 dX11_tells_6 hx1 (Rk rfl) rfl (fun hc => ?_) (fun hc => ?_)
    · replace h := ipos hc h
      refine r_iconst Ra dX11_tells_19 ?_
      cases h
      exact r_iret Ra ⟨hV, (Rk rfl)⟩ dX11_tells_20
    · replace h := ineg hc h
      refine r_aload_n Ra (i := 0) dX11_tells_9 rfl rfl ?_
      refine q_getA Ra (b := 2) f_X11_16 t0 rfl rfl rfl (hV.ref t0 rfl (by decide)) (by decide) dX11_tells_10 ?_
      refine q_getI Ra (x := μ 2 2) f_X11_150 t2 rfl rfl rfl rfl dX11_tells_13 ?_
      refine r_if_ne Ra 21 dX11_tells_16 (hV.int t2 rfl) rfl (fun hc => ?_) (fun hc => ?_)
      · replace h := ineg hc h
        refine r_aload_n Ra (i := 0) dX11_tells_21 rfl rfl ?_
        refine q_getA Ra (b := 201) f_X11_56 t0 rfl rfl rfl (hV.ref t0 rfl (by decide)) (by decide) dX11_tells_22 ?_
        refine r_aload_n Ra (i := 0) dX11_tells_25 rfl rfl ?_
        refine q_getA Ra (b := 38) f_X11_30 t0 rfl rfl rfl (hV.ref t0 rfl (by decide)) (by decide) dX11_tells_26 ?_
        obtain ⟨m29, hr29, h⟩ := bd h
        refine q_callVV Ra (c_pT_learn hV t38 hr29) mw_X7_learn mi_X7_learn t201 rfl rfl rfl rfl rfl k_X11_201 rfl rfl dX11_tells_29 (fun ok29 => ?_)
        refine r_aload_n Ra (i := 0) dX11_tells_32 rfl rfl ?_
        refine q_getA Ra (b := 396) f_X11_77 t0 rfl rfl rfl (ok29.ref t0 rfl (by decide)) (by decide) dX11_tells_33 ?_
        refine r_aload_n Ra (i := 0) dX11_tells_36 rfl rfl ?_
        refine q_getA Ra (b := 201) f_X11_56 t0 rfl rfl rfl (ok29.ref t0 rfl (by decide)) (by decide) dX11_tells_37 ?_
        refine q_getA Ra (b := 236) f_X11_211 t201 rfl rfl rfl (ok29.ref t201 rfl (by decide)) (by decide) dX11_tells_40 ?_
        obtain ⟨m43, hr43, h⟩ := bd h
        refine q_callVV Ra (c_pK_learn ok29 t236 hr43) mw_X9_learn mi_X9_learn t396 rfl rfl rfl rfl rfl k_X11_279 rfl rfl dX11_tells_43 (fun ok43 => ?_)
        refine r_aload_n Ra (i := 0) dX11_tells_46 rfl rfl ?_
        refine q_getA Ra (b := 396) f_X11_77 t0 rfl rfl rfl (ok43.ref t0 rfl (by decide)) (by decide) dX11_tells_47 ?_
        refine q_getI Ra (x := m43 396 6) f_X11_282 t396 rfl rfl rfl rfl dX11_tells_50 ?_
        refine r_if_ne Ra 58 dX11_tells_53 (ok43.int t396 rfl) rfl (fun hc => ?_) (fun hc => ?_)
        · replace h := ineg hc h
          refine r_aload_n Ra (i := 0) dX11_tells_58 rfl rfl ?_
          refine q_getA Ra (b := 396) f_X11_77 t0 rfl rfl rfl (ok43.ref t0 rfl (by decide)) (by decide) dX11_tells_59 ?_
          obtain ⟨m62, hr62, h⟩ := bd h
          refine q_callVV Ra (c_pK_findTelling ok43 hr62) mw_X9_findTelling mi_X9_findTelling t396 rfl rfl rfl rfl rfl k_X11_286 rfl rfl dX11_tells_62 (fun ok62 => ?_)
          refine r_iload_n Ra (i := 1) dX11_tells_65 rfl rfl ?_
          by_cases hc : x1 = 0
          · replace h := ipos hc h
            refine q_tableC Ra 92 dX11_tells_66 hx1 hc rfl rfl rfl ?_
            refine r_aload_n Ra (i := 0) dX11_tells_92 rfl rfl ?_
            refine q_getA Ra (b := 396) f_X11_77 t0 rfl rfl rfl (ok62.ref t0 rfl (by decide)) (by decide) dX11_tells_93 ?_
            refine q_getI Ra (x := m62 396 8) f_X11_289 t396 rfl rfl rfl rfl dX11_tells_96 ?_
            cases h
            exact r_iret Ra ⟨ok62, (ok62.int t396 rfl)⟩ dX11_tells_99
          · have hs66_0 := hc
            replace h := ineg hc h
            by_cases hc : x1 = 1
            · replace h := ipos hc h
              refine q_tableC Ra 100 dX11_tells_66 hx1 hc rfl rfl rfl ?_
              refine r_aload_n Ra (i := 0) dX11_tells_100 rfl rfl ?_
              refine q_getA Ra (b := 2) f_X11_16 t0 rfl rfl rfl (ok62.ref t0 rfl (by decide)) (by decide) dX11_tells_101 ?_
              refine r_aload_n Ra (i := 0) dX11_tells_104 rfl rfl ?_
              refine q_getA Ra (b := 396) f_X11_77 t0 rfl rfl rfl (ok62.ref t0 rfl (by decide)) (by decide) dX11_tells_105 ?_
              refine q_getI Ra (x := m62 396 9) f_X11_292 t396 rfl rfl rfl rfl dX11_tells_108 ?_
              obtain ⟨r111, hr111, h⟩ := bd h
              refine q_callVI Ra (c_pP_columnOf ok62 t2 (ok62.int t396 rfl) hr111) mw_X3_columnOf mi_X3_columnOf t2 rfl rfl rfl rfl rfl k_X11_183 rfl rfl dX11_tells_111 (fun ok111 => ?_)
              cases h
              exact r_iret Ra ⟨ok62, ok111⟩ dX11_tells_114
            · have hs66_1 := hc
              replace h := ineg hc h
              by_cases hc : x1 = 2
              · replace h := ipos hc h
                refine q_tableC Ra 115 dX11_tells_66 hx1 hc rfl rfl rfl ?_
                refine r_aload_n Ra (i := 0) dX11_tells_115 rfl rfl ?_
                refine q_getA Ra (b := 2) f_X11_16 t0 rfl rfl rfl (ok62.ref t0 rfl (by decide)) (by decide) dX11_tells_116 ?_
                refine r_aload_n Ra (i := 0) dX11_tells_119 rfl rfl ?_
                refine q_getA Ra (b := 396) f_X11_77 t0 rfl rfl rfl (ok62.ref t0 rfl (by decide)) (by decide) dX11_tells_120 ?_
                refine q_getI Ra (x := m62 396 9) f_X11_292 t396 rfl rfl rfl rfl dX11_tells_123 ?_
                obtain ⟨r126, hr126, h⟩ := bd h
                refine q_callVI Ra (c_pP_rowOf ok62 t2 (ok62.int t396 rfl) hr126) mw_X3_rowOf mi_X3_rowOf t2 rfl rfl rfl rfl rfl k_X11_186 rfl rfl dX11_tells_126 (fun ok126 => ?_)
                cases h
                exact r_iret Ra ⟨ok62, ok126⟩ dX11_tells_129
              · have hs66_2 := hc
                replace h := ineg hc h
                refine q_tableD Ra 130 dX11_tells_66 hx1 [0, 1, 2] (List.forall_mem_cons.mpr ⟨hs66_0, (List.forall_mem_cons.mpr ⟨hs66_1, (List.forall_mem_cons.mpr ⟨hs66_2, (fun _ h9 => absurd h9 List.not_mem_nil)⟩)⟩)⟩) rfl rfl ?_
                refine r_aload_n Ra (i := 0) dX11_tells_130 rfl rfl ?_
                refine q_getA Ra (b := 396) f_X11_77 t0 rfl rfl rfl (ok62.ref t0 rfl (by decide)) (by decide) dX11_tells_131 ?_
                refine q_getI Ra (x := m62 396 10) f_X11_295 t396 rfl rfl rfl rfl dX11_tells_134 ?_
                cases h
                exact r_iret Ra ⟨ok62, (ok62.int t396 rfl)⟩ dX11_tells_137
        · replace h := ipos hc h
          refine r_iconst Ra dX11_tells_56 ?_
          cases h
          exact r_iret Ra ⟨ok43, (Rk rfl)⟩ dX11_tells_57
      · replace h := ipos hc h
        refine r_iconst Ra dX11_tells_19 ?_
        cases h
        exact r_iret Ra ⟨hV, (Rk rfl)⟩ dX11_tells_20
noncomputable def pD_beginAct (μ : Mem)  : Option (Mem) := (pA_keep μ 38).bind fun m8 => (pD_forgetAnswers m8).bind fun m12 => some m12
set_option maxHeartbeats 4000000 in
theorem c_pD_beginAct {l : Launch} {en : En} {μ : Mem}  {μe : Mem} (hV : VT μ)  (h : pD_beginAct μ = some μe) : CtV l en yX11_beginAct cX11_beginAct 1 3 102 [vA en 0] μ μe (VT μe) := by
  refine Tr.of false (fun h => by cases h) (by decide) (Nat.le_of_ble_eq_true rfl) (fun K Ra => ?_)
  unfold pD_beginAct at h
  refine r_aload_n Ra (i := 0) dX11_beginAct_0 rfl rfl ?_
  refine q_getA Ra (b := 52) f_X11_40 t0 rfl rfl rfl (hV.ref t0 rfl (by decide)) (by decide) dX11_beginAct_1 ?_
  refine r_aload_n Ra (i := 0) dX11_beginAct_4 rfl rfl ?_
  refine q_getA Ra (b := 38) f_X11_30 t0 rfl rfl rfl (hV.ref t0 rfl (by decide)) (by decide) dX11_beginAct_5 ?_
  obtain ⟨m8, hr8, h⟩ := bd h
  refine q_callVV Ra (c_pA_keep hV t38 hr8) mw_X0_keep mi_X0_keep t52 rfl rfl rfl rfl rfl k_X11_332 rfl rfl dX11_beginAct_8 (fun ok8 => ?_)
  refine r_aload_n Ra (i := 0) dX11_beginAct_11 rfl rfl ?_
  obtain ⟨m12, hr12, h⟩ := bd h
  refine q_callVV Ra (c_pD_forgetAnswers ok8 hr12) mw_X11_forgetAnswers mi_X11_forgetAnswers t0 rfl rfl rfl rfl rfl k_X11_123 rfl rfl dX11_beginAct_12 (fun ok12 => ?_)
  cases h
  exact r_vret Ra ok12 dX11_beginAct_15
noncomputable def pD_days_L27b (N : Nat) (c1 : Int) (k : Int → Mem → Option (Int × Mem)) (self : Int → Int → Mem → Option (Int × Mem)) (x2 : Int) (x3 : Int) (μ : Mem) : Option (Int × Mem) := if x3 < c1 then (pW_live N μ 194 38 0).bind fun (r42, m42) => (some (w32 (x2 + r42) : Int)).bind fun x2_46 => (some (w32 (x3 + 1) : Int)).bind fun x3_47 => self x2_46 x3_47 m42 else k x2 μ
noncomputable def pD_days_L27 (N : Nat) (c1 : Int) (k : Int → Mem → Option (Int × Mem)) (n : Nat) : Int → Int → Mem → Option (Int × Mem) := lpF (fun _ _ _ => none) (pD_days_L27b N c1 k) n
noncomputable def pD_days (N : Nat) (μ : Mem) (x1 : Int) : Option (Int × Mem) := jn (α := Unit → Option (Int × Mem)) (fun (_ : Unit) => (pD_refuse μ 2).bind fun (r15, m15) => some (r15, m15)) (fun (j13 : Unit → Option (Int × Mem)) => if x1 < 1 then j13 () else (pD_daysLeft μ).bind fun r7 => if r7 < x1 then j13 () else (pD_beginAct μ).bind fun m20 => pD_days_L27 N x1 (fun z2_53 n53 => some (z2_53, n53)) N 0 0 m20)
theorem k_pD_days_L27 {l : Launch} {en : En} {re : Int} {μe : Mem} {N : Nat} {c1 : Int} {k : Int → Mem → Option (Int × Mem)} {K : KT} (Ra : Ru false (some (some .int, some (vI re), nCells, μe, 0, 0, (VT μe ∧ inR re))) l en cX11_days yX11_days.cls 4 (rmN 7 234) K) (hi1 : inR c1) (hk : ∀ (z2 : Int) (μ9 : Mem), k z2 μ9 = some (re, μe) → inR z2 → VT μ9 → ∀ L9 : Lo, L9 2 = some (vI z2) → K ZN 53 L9 [] μ9) : ∀ (n : Nat) (x2 : Int) (x3 : Int) (μ : Mem) (L : Lo), pD_days_L27 N c1 k n x2 x3 μ = some (re, μe) → inR x2 → inR x3 → VT μ → L 0 = some (vA en 0) → L 1 = some (vI c1) → L 2 = some (vI x2) → L 3 = some (vI x3) → K ZN 27 L [] μ := by
  intro n
  induction n with
  | zero => intro x2 x3 μ L h; cases h
  | succ n ih =>
    intro x2 x3 μ L h hx2 hx3 hV hL0 hL1 hL2 hL3
    replace h : pD_days_L27b N c1 k (pD_days_L27 N c1 k n) x2 x3 μ = some (re, μe) := h
    unfold pD_days_L27b at h
    refine r_iload_n Ra (i := 3) dX11_days_27 rfl hL3 ?_
    refine r_iload_n Ra (i := 1) dX11_days_28 rfl hL1 ?_
    refine r_icmp_ge Ra 53 dX11_days_29 hx3 hi1 rfl (fun hc => ?_) (fun hc => ?_)
    · replace h := ineg hc h
      exact hk x2 μ h hx2 hV _ hL2
    · replace h := ipos hc h
      refine r_iload_n Ra (i := 2) dX11_days_32 rfl hL2 ?_
      refine r_aload_n Ra (i := 0) dX11_days_33 rfl hL0 ?_
      refine q_getA Ra (b := 194) f_X11_49 t0 rfl rfl rfl (hV.ref t0 rfl (by decide)) (by decide) dX11_days_34 ?_
      refine r_aload_n Ra (i := 0) dX11_days_37 rfl hL0 ?_
      refine q_getA Ra (b := 38) f_X11_30 t0 rfl rfl rfl (hV.ref t0 rfl (by decide)) (by decide) dX11_days_38 ?_
      refine r_iconst Ra dX11_days_41 ?_
      obtain ⟨⟨r42, m42⟩, hr42, h⟩ := bd h
      refine q_callVI Ra (c_pW_live hV t194 t38 (Or.inl rfl) hr42) mw_X8_live mi_X8_live t194 rfl rfl rfl rfl rfl k_X11_301 rfl rfl dX11_days_42 (fun ok42 => ?_)
      obtain ⟨hV42, ok42⟩ := ok42
      refine r_iadd Ra dX11_days_45 ?_
      obtain ⟨x2_46, ex2_46, h⟩ := bv h
      have ix2_46 : inR x2_46 := eqR ex2_46 (inR_32 _)
      refine q_istore_n Ra 2 dX11_days_46 rfl rfl ex2_46 ?_
      obtain ⟨x3_47, ex3_47, h⟩ := bv h
      have ix3_47 : inR x3_47 := eqR ex3_47 (inR_32 _)
      refine q_iinc Ra dX11_days_47 hL3 ex3_47 ?_
      refine r_goto Ra 27 dX11_days_50 rfl ?_
      exact ih x2_46 x3_47 m42 _ h ix2_46 ix3_47 hV42 hL0 hL1 rfl rfl
set_option maxHeartbeats 4000000 in
theorem c_pD_days {l : Launch} {en : En} {N : Nat} {μ : Mem} {x1 : Int} {re : Int} {μe : Mem} (hV : VT μ) (hx1 : inR x1) (h : pD_days N μ x1 = some (re, μe)) : CtI l en yX11_days cX11_days 4 7 234 [vA en 0, vI x1] μ .int re μe (VT μe ∧ inR re) := by
  refine Tr.of false (fun h => by cases h) (by decide) (Nat.le_of_ble_eq_true rfl) (fun K Ra => ?_)
  unfold pD_days at h
  refine r_iload_n Ra (i := 1) dX11_days_0 rfl rfl ?_
  refine r_iconst Ra dX11_days_1 ?_
  obtain ⟨j13, ej13, h⟩ := jn_elim h
  have hJ13 : j13 () = some (re, μe) → ∀ L9 : Lo, L9 0 = some (vA en 0) → K ZN 13 L9 [] μ := by
    intro h L9 f13_0
    rw [ej13] at h
    refine r_aload_n Ra (i := 0) dX11_days_13 rfl f13_0 ?_
    refine r_iconst Ra dX11_days_14 ?_
    obtain ⟨⟨r15, m15⟩, hr15, h⟩ := bd h
    refine q_callVI Ra (c_pD_refuse hV (Rk rfl) hr15) mw_X11_refuse mi_X11_refuse t0 rfl rfl rfl rfl rfl k_X11_98 rfl rfl dX11_days_15 (fun ok15 => ?_)
    obtain ⟨hV15, ok15⟩ := ok15
    cases h
    exact r_iret Ra ⟨hV15, ok15⟩ dX11_days_18
  refine r_icmp_lt Ra 13 dX11_days_2 hx1 (Rk rfl) rfl (fun hc => ?_) (fun hc => ?_)
  · replace h := ipos hc h
    exact hJ13 h  _ rfl
  · replace h := ineg hc h
    refine r_iload_n Ra (i := 1) dX11_days_5 rfl rfl ?_
    refine r_aload_n Ra (i := 0) dX11_days_6 rfl rfl ?_
    obtain ⟨r7, hr7, h⟩ := bd h
    refine q_callVI Ra (c_pD_daysLeft hV hr7) mw_X11_daysLeft mi_X11_daysLeft t0 rfl rfl rfl rfl rfl k_X11_258 rfl rfl dX11_days_7 (fun ok7 => ?_)
    refine r_icmp_le Ra 19 dX11_days_10 hx1 ok7 rfl (fun hc => ?_) (fun hc => ?_)
    · replace h := ineg hc h
      refine r_aload_n Ra (i := 0) dX11_days_19 rfl rfl ?_
      obtain ⟨m20, hr20, h⟩ := bd h
      refine q_callVV Ra (c_pD_beginAct hV hr20) mw_X11_beginAct mi_X11_beginAct t0 rfl rfl rfl rfl rfl k_X11_298 rfl rfl dX11_days_20 (fun ok20 => ?_)
      refine r_iconst Ra dX11_days_23 ?_
      refine q_istore_n Ra 2 dX11_days_24 rfl rfl rfl ?_
      refine r_iconst Ra dX11_days_25 ?_
      refine q_istore_n Ra 3 dX11_days_26 rfl rfl rfl ?_
      refine k_pD_days_L27 Ra hx1 ?_ _ _ _ _ _ h (Rk rfl) (Rk rfl) ok20 rfl rfl rfl rfl
      intro z2_53 n53 h iz2_53 hn53 L9 f53_2
      refine r_iload_n Ra (i := 2) dX11_days_53 rfl f53_2 ?_
      cases h
      exact r_iret Ra ⟨hn53, iz2_53⟩ dX11_days_54
    · replace h := ipos hc h
      exact hJ13 h  _ rfl
noncomputable def pD_draw (μ : Mem) (x1 : Int) : Option (Int × Mem) := (some (r64 (w64 ((w64 (1103515245 * (μ 0 14))) + 12345)) 2147483648 : Int)).bind fun x2_17 => (some (mset μ 0 14 (w32 x2_17))).bind fun m21 => if x1 < 1 then some (0, m21) else if x1 ≠ 0 then some (w32 (r64 (d64 x2_17 64) x1), m21) else none
set_option maxHeartbeats 4000000 in
theorem c_pD_draw {l : Launch} {en : En} {μ : Mem} {x1 : Int} {re : Int} {μe : Mem} (hV : VT μ) (hx1 : inR x1) (h : pD_draw μ x1 = some (re, μe)) : CtI l en yX11_draw cX11_draw 4 0 60 [vA en 0, vI x1] μ .int re μe (VT μe ∧ inR re) := by
  refine Tr.of false (fun h => by cases h) (by decide) (Nat.le_of_ble_eq_true rfl) (fun K Ra => ?_)
  unfold pD_draw at h
  refine r_ldc2 Ra dX11_draw_0 kc_X11_344 ?_
  refine r_aload_n Ra (i := 0) dX11_draw_3 rfl rfl ?_
  refine q_getI Ra (x := μ 0 14) f_X11_91 t0 rfl rfl rfl rfl dX11_draw_4 ?_
  refine r_i2l Ra dX11_draw_7 (hV.int t0 rfl) ?_
  refine r_lmul Ra dX11_draw_8 ?_
  refine r_ldc2 Ra dX11_draw_9 kc_X11_346 ?_
  refine r_ladd Ra dX11_draw_12 ?_
  refine r_ldc2 Ra dX11_draw_13 kc_X11_348 ?_
  refine r_lrem Ra dX11_draw_16 (Lk rfl) (by decide) ?_
  obtain ⟨x2_17, ex2_17, h⟩ := bv h
  have ix2_17 : inL x2_17 := eqL ex2_17 (inL_64 _)
  refine q_lstore_n Ra 2 dX11_draw_17 rfl rfl ex2_17 ?_
  refine r_aload_n Ra (i := 0) dX11_draw_18 rfl rfl ?_
  refine r_lload_n Ra (i := 2) dX11_draw_19 rfl rfl rfl ?_
  refine r_l2i Ra dX11_draw_20 ?_
  obtain ⟨m21, em21, h⟩ := bv h
  have hm21 : VT m21 := eqV em21 (hV.setI t0 rfl (inR_32 _))
  refine q_putI Ra f_X11_91 p_X11_14 t0 rfl rfl rfl em21 dX11_draw_21 ?_
  refine r_iload_n Ra (i := 1) dX11_draw_24 rfl rfl ?_
  refine r_iconst Ra dX11_draw_25 ?_
  refine r_icmp_ge Ra 33 dX11_draw_26 hx1 (Rk rfl) rfl (fun hc => ?_) (fun hc => ?_)
  · replace h := ineg hc h
    refine r_lload_n Ra (i := 2) dX11_draw_33 rfl rfl rfl ?_
    refine r_ldc2 Ra dX11_draw_34 kc_X11_350 ?_
    refine r_ldiv Ra dX11_draw_37 (Lk rfl) (by decide) ?_
    refine r_iload_n Ra (i := 1) dX11_draw_38 rfl rfl ?_
    refine r_i2l Ra dX11_draw_39 hx1 ?_
    obtain ⟨gu40, h⟩ := gd h
    refine r_lrem Ra dX11_draw_40 (inL_of hx1) gu40 ?_
    refine r_l2i Ra dX11_draw_41 ?_
    cases h
    exact r_iret Ra ⟨hm21, (inR_32 _)⟩ dX11_draw_42
  · replace h := ipos hc h
    refine r_iconst Ra dX11_draw_29 ?_
    refine r_goto Ra 42 dX11_draw_30 rfl ?_
    cases h
    exact r_iret Ra ⟨hm21, (Rk rfl)⟩ dX11_draw_42
noncomputable def pD_chance_L27b (N : Nat) (c1 : Int) (k : Int → Mem → Option (Int × Mem)) (self : Int → Int → Mem → Option (Int × Mem)) (x2 : Int) (x3 : Int) (μ : Mem) : Option (Int × Mem) := if x3 < c1 then (pD_draw μ 100).bind fun (r35, m35) => (some (if r35 < m35 2 4 then 1 else 0 : Int)).bind fun ys0_53 => (some (if ys0_53 = 0 then 0 else 1 : Int)).bind fun ys1_66 => (some (w32 (x2 + ys1_66) : Int)).bind fun x2_67 => (pW_live N m35 194 38 ys0_53).bind fun (r78, m78) => (some (w32 (x3 + 1) : Int)).bind fun x3_82 => self x2_67 x3_82 m78 else k x2 μ
noncomputable def pD_chance_L27 (N : Nat) (c1 : Int) (k : Int → Mem → Option (Int × Mem)) (n : Nat) : Int → Int → Mem → Option (Int × Mem) := lpF (fun _ _ _ => none) (pD_chance_L27b N c1 k) n
noncomputable def pD_chance (N : Nat) (μ : Mem) (x1 : Int) : Option (Int × Mem) := jn (α := Unit → Option (Int × Mem)) (fun (_ : Unit) => (pD_refuse μ 2).bind fun (r15, m15) => some (r15, m15)) (fun (j13 : Unit → Option (Int × Mem)) => if x1 < 1 then j13 () else (pD_daysLeft μ).bind fun r7 => if r7 < x1 then j13 () else (pD_beginAct μ).bind fun m20 => pD_chance_L27 N x1 (fun z2_88 n88 => some (z2_88, n88)) N 0 0 m20)
theorem k_pD_chance_L27 {l : Launch} {en : En} {re : Int} {μe : Mem} {N : Nat} {c1 : Int} {k : Int → Mem → Option (Int × Mem)} {K : KT} (Ra : Ru false (some (some .int, some (vI re), nCells, μe, 0, 0, (VT μe ∧ inR re))) l en cX11_chance yX11_chance.cls 5 (rmN 7 234) K) (hi1 : inR c1) (hk : ∀ (z2 : Int) (μ9 : Mem), k z2 μ9 = some (re, μe) → inR z2 → VT μ9 → ∀ L9 : Lo, L9 2 = some (vI z2) → K ZN 88 L9 [] μ9) : ∀ (n : Nat) (x2 : Int) (x3 : Int) (μ : Mem) (L : Lo), pD_chance_L27 N c1 k n x2 x3 μ = some (re, μe) → inR x2 → inR x3 → VT μ → L 0 = some (vA en 0) → L 1 = some (vI c1) → L 2 = some (vI x2) → L 3 = some (vI x3) → K ZN 27 L [] μ := by
  intro n
  induction n with
  | zero => intro x2 x3 μ L h; cases h
  | succ n ih =>
    intro x2 x3 μ L h hx2 hx3 hV hL0 hL1 hL2 hL3
    replace h : pD_chance_L27b N c1 k (pD_chance_L27 N c1 k n) x2 x3 μ = some (re, μe) := h
    unfold pD_chance_L27b at h
    refine r_iload_n Ra (i := 3) dX11_chance_27 rfl hL3 ?_
    refine r_iload_n Ra (i := 1) dX11_chance_28 rfl hL1 ?_
    refine r_icmp_ge Ra 88 dX11_chance_29 hx3 hi1 rfl (fun hc => ?_) (fun hc => ?_)
    · replace h := ineg hc h
      exact hk x2 μ h hx2 hV _ hL2
    · replace h := ipos hc h
      refine r_aload_n Ra (i := 0) dX11_chance_32 rfl hL0 ?_
      refine r_bipush Ra dX11_chance_33 rfl ?_
      obtain ⟨⟨r35, m35⟩, hr35, h⟩ := bd h
      refine q_callVI Ra (c_pD_draw hV (Rk rfl) hr35) mw_X11_draw mi_X11_draw t0 rfl rfl rfl rfl rfl k_X11_305 rfl rfl dX11_chance_35 (fun ok35 => ?_)
      obtain ⟨hV35, ok35⟩ := ok35
      refine r_aload_n Ra (i := 0) dX11_chance_38 rfl hL0 ?_
      refine q_getA Ra (b := 2) f_X11_16 t0 rfl rfl rfl (hV35.ref t0 rfl (by decide)) (by decide) dX11_chance_39 ?_
      refine q_getI Ra (x := m35 2 4) f_X11_308 t2 rfl rfl rfl rfl dX11_chance_42 ?_
      obtain ⟨ys0_53, eys0_53, h⟩ := bv h
      have hJ : inR ys0_53 → (ys0_53 = 0 ∨ ys0_53 = 1) → ∀ L9 : Lo, L9 0 = some (vA en 0) → L9 1 = some (vI c1) → L9 2 = some (vI x2) → L9 3 = some (vI x3) → K ZN 53 L9 [vI ys0_53] m35 := by
        intro iys0_53 bys0_53 L9 f53_0 f53_1 f53_2 f53_3
        refine q_istore Ra dX11_chance_53 rfl rfl ?_
        refine r_iload_n Ra (i := 2) dX11_chance_55 rfl f53_2 ?_
        refine r_iload Ra dX11_chance_56 rfl ?_
        obtain ⟨ys1_66, eys1_66, h⟩ := bv h
        have hJ : inR ys1_66 → (ys1_66 = 0 ∨ ys1_66 = 1) → ∀ L9 : Lo, L9 0 = some (vA en 0) → L9 1 = some (vI c1) → L9 3 = some (vI x3) → L9 4 = some (vI ys0_53) → K ZN 66 L9 [vI ys1_66, vI x2] m35 := by
          intro iys1_66 bys1_66 L9 f66_0 f66_1 f66_3 f66_4
          refine r_iadd Ra dX11_chance_66 ?_
          obtain ⟨x2_67, ex2_67, h⟩ := bv h
          have ix2_67 : inR x2_67 := eqR ex2_67 (inR_32 _)
          refine q_istore_n Ra 2 dX11_chance_67 rfl rfl ex2_67 ?_
          refine r_aload_n Ra (i := 0) dX11_chance_68 rfl f66_0 ?_
          refine q_getA Ra (b := 194) f_X11_49 t0 rfl rfl rfl (hV35.ref t0 rfl (by decide)) (by decide) dX11_chance_69 ?_
          refine r_aload_n Ra (i := 0) dX11_chance_72 rfl f66_0 ?_
          refine q_getA Ra (b := 38) f_X11_30 t0 rfl rfl rfl (hV35.ref t0 rfl (by decide)) (by decide) dX11_chance_73 ?_
          refine r_iload Ra dX11_chance_76 f66_4 ?_
          obtain ⟨⟨r78, m78⟩, hr78, h⟩ := bd h
          refine q_callVI Ra (c_pW_live hV35 t194 t38 bys0_53 hr78) mw_X8_live mi_X8_live t194 rfl rfl rfl rfl rfl k_X11_301 rfl rfl dX11_chance_78 (fun ok78 => ?_)
          obtain ⟨hV78, ok78⟩ := ok78
          refine r_popI Ra dX11_chance_81 ?_
          obtain ⟨x3_82, ex3_82, h⟩ := bv h
          have ix3_82 : inR x3_82 := eqR ex3_82 (inR_32 _)
          refine q_iinc Ra dX11_chance_82 f66_3 ex3_82 ?_
          refine r_goto Ra 27 dX11_chance_85 rfl ?_
          exact ih x2_67 x3_82 m78 _ h ix2_67 ix3_82 hV78 f66_0 f66_1 rfl rfl
        refine r_if_eq Ra 65 dX11_chance_58 iys0_53 rfl (fun hc => ?_) (fun hc => ?_)
        · replace eys1_66 := eys1_66.trans (if_pos hc)
          refine r_iconst Ra dX11_chance_65 ?_
          subst eys1_66
          exact hJ (Rk rfl) (Or.inl rfl) _ f53_0 f53_1 f53_3 rfl
        · replace eys1_66 := eys1_66.trans (if_neg hc)
          refine r_iconst Ra dX11_chance_61 ?_
          refine r_goto Ra 66 dX11_chance_62 rfl ?_
          subst eys1_66
          exact hJ (Rk rfl) (Or.inr rfl) _ f53_0 f53_1 f53_3 rfl
      refine r_icmp_ge Ra 52 dX11_chance_45 ok35 (hV35.int t2 rfl) rfl (fun hc => ?_) (fun hc => ?_)
      · replace eys0_53 := eys0_53.trans (if_neg hc)
        refine r_iconst Ra dX11_chance_52 ?_
        subst eys0_53
        exact hJ (Rk rfl) (Or.inl rfl) _ hL0 hL1 hL2 hL3
      · replace eys0_53 := eys0_53.trans (if_pos hc)
        refine r_iconst Ra dX11_chance_48 ?_
        refine r_goto Ra 53 dX11_chance_49 rfl ?_
        subst eys0_53
        exact hJ (Rk rfl) (Or.inr rfl) _ hL0 hL1 hL2 hL3
set_option maxHeartbeats 4000000 in
theorem c_pD_chance {l : Launch} {en : En} {N : Nat} {μ : Mem} {x1 : Int} {re : Int} {μe : Mem} (hV : VT μ) (hx1 : inR x1) (h : pD_chance N μ x1 = some (re, μe)) : CtI l en yX11_chance cX11_chance 5 7 234 [vA en 0, vI x1] μ .int re μe (VT μe ∧ inR re) := by
  refine Tr.of false (fun h => by cases h) (by decide) (Nat.le_of_ble_eq_true rfl) (fun K Ra => ?_)
  unfold pD_chance at h
  refine r_iload_n Ra (i := 1) dX11_chance_0 rfl rfl ?_
  refine r_iconst Ra dX11_chance_1 ?_
  obtain ⟨j13, ej13, h⟩ := jn_elim h
  have hJ13 : j13 () = some (re, μe) → ∀ L9 : Lo, L9 0 = some (vA en 0) → K ZN 13 L9 [] μ := by
    intro h L9 f13_0
    rw [ej13] at h
    refine r_aload_n Ra (i := 0) dX11_chance_13 rfl f13_0 ?_
    refine r_iconst Ra dX11_chance_14 ?_
    obtain ⟨⟨r15, m15⟩, hr15, h⟩ := bd h
    refine q_callVI Ra (c_pD_refuse hV (Rk rfl) hr15) mw_X11_refuse mi_X11_refuse t0 rfl rfl rfl rfl rfl k_X11_98 rfl rfl dX11_chance_15 (fun ok15 => ?_)
    obtain ⟨hV15, ok15⟩ := ok15
    cases h
    exact r_iret Ra ⟨hV15, ok15⟩ dX11_chance_18
  refine r_icmp_lt Ra 13 dX11_chance_2 hx1 (Rk rfl) rfl (fun hc => ?_) (fun hc => ?_)
  · replace h := ipos hc h
    exact hJ13 h  _ rfl
  · replace h := ineg hc h
    refine r_iload_n Ra (i := 1) dX11_chance_5 rfl rfl ?_
    refine r_aload_n Ra (i := 0) dX11_chance_6 rfl rfl ?_
    obtain ⟨r7, hr7, h⟩ := bd h
    refine q_callVI Ra (c_pD_daysLeft hV hr7) mw_X11_daysLeft mi_X11_daysLeft t0 rfl rfl rfl rfl rfl k_X11_258 rfl rfl dX11_chance_7 (fun ok7 => ?_)
    refine r_icmp_le Ra 19 dX11_chance_10 hx1 ok7 rfl (fun hc => ?_) (fun hc => ?_)
    · replace h := ineg hc h
      refine r_aload_n Ra (i := 0) dX11_chance_19 rfl rfl ?_
      obtain ⟨m20, hr20, h⟩ := bd h
      refine q_callVV Ra (c_pD_beginAct hV hr20) mw_X11_beginAct mi_X11_beginAct t0 rfl rfl rfl rfl rfl k_X11_298 rfl rfl dX11_chance_20 (fun ok20 => ?_)
      refine r_iconst Ra dX11_chance_23 ?_
      refine q_istore_n Ra 2 dX11_chance_24 rfl rfl rfl ?_
      refine r_iconst Ra dX11_chance_25 ?_
      refine q_istore_n Ra 3 dX11_chance_26 rfl rfl rfl ?_
      refine k_pD_chance_L27 Ra hx1 ?_ _ _ _ _ _ h (Rk rfl) (Rk rfl) ok20 rfl rfl rfl rfl
      intro z2_88 n88 h iz2_88 hn88 L9 f88_2
      refine r_iload_n Ra (i := 2) dX11_chance_88 rfl f88_2 ?_
      cases h
      exact r_iret Ra ⟨hn88, iz2_88⟩ dX11_chance_89
    · replace h := ipos hc h
      exact hJ13 h  _ rfl
noncomputable def pD_rise (μ : Mem) (x1 : Int) (x2 : Int) : Option (Int × Mem) := (pP_hasPerson μ 2 x1).bind fun r5 => jn (α := Unit → Option (Int × Mem)) (fun (_ : Unit) => (pD_refuse μ 3).bind fun (r33, m33) => some (0, m33)) (fun (j31 : Unit → Option (Int × Mem)) => if r5 = 0 then j31 () else (pD_isHour μ x2).bind fun r12 => if r12 = 0 then j31 () else if 0 ≤ x1 ∧ x1 < 6 then if μ 41 x1 = x2 then j31 () else (pD_beginAct μ).bind fun m40 => if 0 ≤ x1 ∧ x1 < 6 then (some (mset m40 41 x1 x2)).bind fun m52 => some (1, m52) else none else none)
set_option maxHeartbeats 4000000 in
theorem c_pD_rise {l : Launch} {en : En} {μ : Mem} {x1 : Int} {x2 : Int} {re : Int} {μe : Mem} (hV : VT μ) (hx1 : inR x1) (hx2 : inR x2) (h : pD_rise μ x1 x2 = some (re, μe)) : CtI l en yX11_rise cX11_rise 3 4 122 [vA en 0, vI x1, vI x2] μ .boolean re μe (VT μe ∧ (re = 0 ∨ re = 1)) := by
  refine Tr.of false (fun h => by cases h) (by decide) (Nat.le_of_ble_eq_true rfl) (fun K Ra => ?_)
  unfold pD_rise at h
  refine r_aload_n Ra (i := 0) dX11_rise_0 rfl rfl ?_
  refine q_getA Ra (b := 2) f_X11_16 t0 rfl rfl rfl (hV.ref t0 rfl (by decide)) (by decide) dX11_rise_1 ?_
  refine r_iload_n Ra (i := 1) dX11_rise_4 rfl rfl ?_
  obtain ⟨r5, hr5, h⟩ := bd h
  refine q_callVI Ra (c_pP_hasPerson hV t2 hx1 hr5) mw_X3_hasPerson mi_X3_hasPerson t2 rfl rfl rfl rfl rfl k_X11_169 rfl rfl dX11_rise_5 (fun ok5 => ?_)
  obtain ⟨j31, ej31, h⟩ := jn_elim h
  have hJ31 : j31 () = some (re, μe) → ∀ L9 : Lo, L9 0 = some (vA en 0) → K ZN 31 L9 [] μ := by
    intro h L9 f31_0
    rw [ej31] at h
    refine r_aload_n Ra (i := 0) dX11_rise_31 rfl f31_0 ?_
    refine r_iconst Ra dX11_rise_32 ?_
    obtain ⟨⟨r33, m33⟩, hr33, h⟩ := bd h
    refine q_callVI Ra (c_pD_refuse hV (Rk rfl) hr33) mw_X11_refuse mi_X11_refuse t0 rfl rfl rfl rfl rfl k_X11_98 rfl rfl dX11_rise_33 (fun ok33 => ?_)
    obtain ⟨hV33, ok33⟩ := ok33
    refine r_popI Ra dX11_rise_36 ?_
    refine r_iconst Ra dX11_rise_37 ?_
    cases h
    exact r_zret Ra (Or.inl rfl) ⟨hV33, (Or.inl rfl)⟩ dX11_rise_38
  refine r_if_eq Ra 31 dX11_rise_8 (inR_01 ok5) rfl (fun hc => ?_) (fun hc => ?_)
  · replace h := ipos hc h
    exact hJ31 h  _ rfl
  · replace h := ineg hc h
    refine r_iload_n Ra (i := 2) dX11_rise_11 rfl rfl ?_
    obtain ⟨r12, hr12, h⟩ := bd h
    refine q_callSI Ra (c_pD_isHour hV hx2 hr12) mw_X11_isHour ms_X11_isHour rfl rfl k_X11_198 rfl rfl dX11_rise_12 (fun ok12 => ?_)
    refine r_if_eq Ra 31 dX11_rise_15 (inR_01 ok12) rfl (fun hc => ?_) (fun hc => ?_)
    · replace h := ipos hc h
      exact hJ31 h  _ rfl
    · replace h := ineg hc h
      refine r_aload_n Ra (i := 0) dX11_rise_18 rfl rfl ?_
      refine q_getA Ra (b := 38) f_X11_30 t0 rfl rfl rfl (hV.ref t0 rfl (by decide)) (by decide) dX11_rise_19 ?_
      refine q_getA Ra (b := 41) f_X11_189 t38 rfl rfl rfl (hV.ref t38 rfl (by decide)) (by decide) dX11_rise_22 ?_
      refine r_iload_n Ra (i := 1) dX11_rise_25 rfl rfl ?_
      obtain ⟨gu26, h⟩ := gd h
      refine q_iald Ra t41 l41 gu26 dX11_rise_26 ?_
      refine r_iload_n Ra (i := 2) dX11_rise_27 rfl rfl ?_
      refine r_icmp_ne Ra 39 dX11_rise_28 (hV.int t41 (kd20 _)) hx2 rfl (fun hc => ?_) (fun hc => ?_)
      · replace h := ineg hc h
        refine r_aload_n Ra (i := 0) dX11_rise_39 rfl rfl ?_
        obtain ⟨m40, hr40, h⟩ := bd h
        refine q_callVV Ra (c_pD_beginAct hV hr40) mw_X11_beginAct mi_X11_beginAct t0 rfl rfl rfl rfl rfl k_X11_298 rfl rfl dX11_rise_40 (fun ok40 => ?_)
        refine r_aload_n Ra (i := 0) dX11_rise_43 rfl rfl ?_
        refine q_getA Ra (b := 38) f_X11_30 t0 rfl rfl rfl (ok40.ref t0 rfl (by decide)) (by decide) dX11_rise_44 ?_
        refine q_getA Ra (b := 41) f_X11_189 t38 rfl rfl rfl (ok40.ref t38 rfl (by decide)) (by decide) dX11_rise_47 ?_
        refine r_iload_n Ra (i := 1) dX11_rise_50 rfl rfl ?_
        refine r_iload_n Ra (i := 2) dX11_rise_51 rfl rfl ?_
        obtain ⟨gu52, h⟩ := gd h
        obtain ⟨m52, em52, h⟩ := bv h
        have hm52 : VT m52 := eqV em52 (ok40.setI t41 (kd20 _) hx2)
        refine q_iast Ra t41 l41 gu52 em52 dX11_rise_52 ?_
        refine r_iconst Ra dX11_rise_53 ?_
        cases h
        exact r_zret Ra (Or.inr rfl) ⟨hm52, (Or.inr rfl)⟩ dX11_rise_54
      · replace h := ipos hc h
        exact hJ31 h  _ rfl
noncomputable def pD_move (μ : Mem) (x1 : Int) (x2 : Int) (x3 : Int) : Option (Int × Mem) := (pP_cellAt μ 2 x2 x3).bind fun r6 => (pP_hasPerson μ 2 x1).bind fun r16 => jn (α := Unit → Option (Int × Mem)) (fun (_ : Unit) => (pD_refuse μ 3).bind fun (r44, m44) => some (0, m44)) (fun (j42 : Unit → Option (Int × Mem)) => if r16 = 0 then j42 () else if r6 = (-1) then j42 () else if 0 ≤ x1 ∧ x1 < 6 then if μ 40 x1 = r6 then j42 () else (pD_beginAct μ).bind fun m51 => if 0 ≤ x1 ∧ x1 < 6 then (some (mset m51 40 x1 r6)).bind fun m64 => some (1, m64) else none else none)
set_option maxHeartbeats 4000000 in
theorem c_pD_move {l : Launch} {en : En} {μ : Mem} {x1 : Int} {x2 : Int} {x3 : Int} {re : Int} {μe : Mem} (hV : VT μ) (hx1 : inR x1) (hx2 : inR x2) (hx3 : inR x3) (h : pD_move μ x1 x2 x3 = some (re, μe)) : CtI l en yX11_move cX11_move 5 4 122 [vA en 0, vI x1, vI x2, vI x3] μ .boolean re μe (VT μe ∧ (re = 0 ∨ re = 1)) := by
  refine Tr.of false (fun h => by cases h) (by decide) (Nat.le_of_ble_eq_true rfl) (fun K Ra => ?_)
  unfold pD_move at h
  refine r_aload_n Ra (i := 0) dX11_move_0 rfl rfl ?_
  refine q_getA Ra (b := 2) f_X11_16 t0 rfl rfl rfl (hV.ref t0 rfl (by decide)) (by decide) dX11_move_1 ?_
  refine r_iload_n Ra (i := 2) dX11_move_4 rfl rfl ?_
  refine r_iload_n Ra (i := 3) dX11_move_5 rfl rfl ?_
  obtain ⟨r6, hr6, h⟩ := bd h
  refine q_callVI Ra (c_pP_cellAt hV t2 hx2 hx3 hr6) mw_X3_cellAt mi_X3_cellAt t2 rfl rfl rfl rfl rfl k_X11_176 rfl rfl dX11_move_6 (fun ok6 => ?_)
  refine q_istore Ra dX11_move_9 rfl rfl ?_
  refine r_aload_n Ra (i := 0) dX11_move_11 rfl rfl ?_
  refine q_getA Ra (b := 2) f_X11_16 t0 rfl rfl rfl (hV.ref t0 rfl (by decide)) (by decide) dX11_move_12 ?_
  refine r_iload_n Ra (i := 1) dX11_move_15 rfl rfl ?_
  obtain ⟨r16, hr16, h⟩ := bd h
  refine q_callVI Ra (c_pP_hasPerson hV t2 hx1 hr16) mw_X3_hasPerson mi_X3_hasPerson t2 rfl rfl rfl rfl rfl k_X11_169 rfl rfl dX11_move_16 (fun ok16 => ?_)
  obtain ⟨j42, ej42, h⟩ := jn_elim h
  have hJ42 : j42 () = some (re, μe) → ∀ L9 : Lo, L9 0 = some (vA en 0) → K ZN 42 L9 [] μ := by
    intro h L9 f42_0
    rw [ej42] at h
    refine r_aload_n Ra (i := 0) dX11_move_42 rfl f42_0 ?_
    refine r_iconst Ra dX11_move_43 ?_
    obtain ⟨⟨r44, m44⟩, hr44, h⟩ := bd h
    refine q_callVI Ra (c_pD_refuse hV (Rk rfl) hr44) mw_X11_refuse mi_X11_refuse t0 rfl rfl rfl rfl rfl k_X11_98 rfl rfl dX11_move_44 (fun ok44 => ?_)
    obtain ⟨hV44, ok44⟩ := ok44
    refine r_popI Ra dX11_move_47 ?_
    refine r_iconst Ra dX11_move_48 ?_
    cases h
    exact r_zret Ra (Or.inl rfl) ⟨hV44, (Or.inl rfl)⟩ dX11_move_49
  refine r_if_eq Ra 42 dX11_move_19 (inR_01 ok16) rfl (fun hc => ?_) (fun hc => ?_)
  · replace h := ipos hc h
    exact hJ42 h  _ rfl
  · replace h := ineg hc h
    refine r_iload Ra dX11_move_22 rfl ?_
    refine r_iconst Ra dX11_move_24 ?_
    refine r_icmp_eq Ra 42 dX11_move_25 ok6 (Rk rfl) rfl (fun hc => ?_) (fun hc => ?_)
    · replace h := ipos hc h
      exact hJ42 h  _ rfl
    · replace h := ineg hc h
      refine r_aload_n Ra (i := 0) dX11_move_28 rfl rfl ?_
      refine q_getA Ra (b := 38) f_X11_30 t0 rfl rfl rfl (hV.ref t0 rfl (by decide)) (by decide) dX11_move_29 ?_
      refine q_getA Ra (b := 40) f_X11_180 t38 rfl rfl rfl (hV.ref t38 rfl (by decide)) (by decide) dX11_move_32 ?_
      refine r_iload_n Ra (i := 1) dX11_move_35 rfl rfl ?_
      obtain ⟨gu36, h⟩ := gd h
      refine q_iald Ra t40 l40 gu36 dX11_move_36 ?_
      refine r_iload Ra dX11_move_37 rfl ?_
      refine r_icmp_ne Ra 50 dX11_move_39 (hV.int t40 (kd20 _)) ok6 rfl (fun hc => ?_) (fun hc => ?_)
      · replace h := ineg hc h
        refine r_aload_n Ra (i := 0) dX11_move_50 rfl rfl ?_
        obtain ⟨m51, hr51, h⟩ := bd h
        refine q_callVV Ra (c_pD_beginAct hV hr51) mw_X11_beginAct mi_X11_beginAct t0 rfl rfl rfl rfl rfl k_X11_298 rfl rfl dX11_move_51 (fun ok51 => ?_)
        refine r_aload_n Ra (i := 0) dX11_move_54 rfl rfl ?_
        refine q_getA Ra (b := 38) f_X11_30 t0 rfl rfl rfl (ok51.ref t0 rfl (by decide)) (by decide) dX11_move_55 ?_
        refine q_getA Ra (b := 40) f_X11_180 t38 rfl rfl rfl (ok51.ref t38 rfl (by decide)) (by decide) dX11_move_58 ?_
        refine r_iload_n Ra (i := 1) dX11_move_61 rfl rfl ?_
        refine r_iload Ra dX11_move_62 rfl ?_
        obtain ⟨gu64, h⟩ := gd h
        obtain ⟨m64, em64, h⟩ := bv h
        have hm64 : VT m64 := eqV em64 (ok51.setI t40 (kd20 _) ok6)
        refine q_iast Ra t40 l40 gu64 em64 dX11_move_64 ?_
        refine r_iconst Ra dX11_move_65 ?_
        cases h
        exact r_zret Ra (Or.inr rfl) ⟨hm64, (Or.inr rfl)⟩ dX11_move_66
      · replace h := ipos hc h
        exact hJ42 h  _ rfl
noncomputable def pD_weave (μ : Mem) (x1 : Int) (x2 : Int) : Option (Int × Mem) := (pP_hasPerson μ 2 x1).bind fun r5 => jn (α := Unit → Option (Int × Mem)) (fun (_ : Unit) => (pD_refuse μ 3).bind fun (r37, m37) => some (0, m37)) (fun (j35 : Unit → Option (Int × Mem)) => if r5 = 0 then j35 () else if x2 < 1 then j35 () else if 99 < x2 then j35 () else if 0 ≤ x1 ∧ x1 < 6 then if μ 42 x1 = x2 then j35 () else (pD_beginAct μ).bind fun m44 => if 0 ≤ x1 ∧ x1 < 6 then (some (mset m44 42 x1 x2)).bind fun m56 => some (1, m56) else none else none)
set_option maxHeartbeats 4000000 in
theorem c_pD_weave {l : Launch} {en : En} {μ : Mem} {x1 : Int} {x2 : Int} {re : Int} {μe : Mem} (hV : VT μ) (hx1 : inR x1) (hx2 : inR x2) (h : pD_weave μ x1 x2 = some (re, μe)) : CtI l en yX11_weave cX11_weave 3 4 122 [vA en 0, vI x1, vI x2] μ .boolean re μe (VT μe ∧ (re = 0 ∨ re = 1)) := by
  refine Tr.of false (fun h => by cases h) (by decide) (Nat.le_of_ble_eq_true rfl) (fun K Ra => ?_)
  unfold pD_weave at h
  refine r_aload_n Ra (i := 0) dX11_weave_0 rfl rfl ?_
  refine q_getA Ra (b := 2) f_X11_16 t0 rfl rfl rfl (hV.ref t0 rfl (by decide)) (by decide) dX11_weave_1 ?_
  refine r_iload_n Ra (i := 1) dX11_weave_4 rfl rfl ?_
  obtain ⟨r5, hr5, h⟩ := bd h
  refine q_callVI Ra (c_pP_hasPerson hV t2 hx1 hr5) mw_X3_hasPerson mi_X3_hasPerson t2 rfl rfl rfl rfl rfl k_X11_169 rfl rfl dX11_weave_5 (fun ok5 => ?_)
  obtain ⟨j35, ej35, h⟩ := jn_elim h
  have hJ35 : j35 () = some (re, μe) → ∀ L9 : Lo, L9 0 = some (vA en 0) → K ZN 35 L9 [] μ := by
    intro h L9 f35_0
    rw [ej35] at h
    refine r_aload_n Ra (i := 0) dX11_weave_35 rfl f35_0 ?_
    refine r_iconst Ra dX11_weave_36 ?_
    obtain ⟨⟨r37, m37⟩, hr37, h⟩ := bd h
    refine q_callVI Ra (c_pD_refuse hV (Rk rfl) hr37) mw_X11_refuse mi_X11_refuse t0 rfl rfl rfl rfl rfl k_X11_98 rfl rfl dX11_weave_37 (fun ok37 => ?_)
    obtain ⟨hV37, ok37⟩ := ok37
    refine r_popI Ra dX11_weave_40 ?_
    refine r_iconst Ra dX11_weave_41 ?_
    cases h
    exact r_zret Ra (Or.inl rfl) ⟨hV37, (Or.inl rfl)⟩ dX11_weave_42
  refine r_if_eq Ra 35 dX11_weave_8 (inR_01 ok5) rfl (fun hc => ?_) (fun hc => ?_)
  · replace h := ipos hc h
    exact hJ35 h  _ rfl
  · replace h := ineg hc h
    refine r_iload_n Ra (i := 2) dX11_weave_11 rfl rfl ?_
    refine r_iconst Ra dX11_weave_12 ?_
    refine r_icmp_lt Ra 35 dX11_weave_13 hx2 (Rk rfl) rfl (fun hc => ?_) (fun hc => ?_)
    · replace h := ipos hc h
      exact hJ35 h  _ rfl
    · replace h := ineg hc h
      refine r_iload_n Ra (i := 2) dX11_weave_16 rfl rfl ?_
      refine r_bipush Ra dX11_weave_17 rfl ?_
      refine r_icmp_gt Ra 35 dX11_weave_19 hx2 (Rk rfl) rfl (fun hc => ?_) (fun hc => ?_)
      · replace h := ipos hc h
        exact hJ35 h  _ rfl
      · replace h := ineg hc h
        refine r_aload_n Ra (i := 0) dX11_weave_22 rfl rfl ?_
        refine q_getA Ra (b := 38) f_X11_30 t0 rfl rfl rfl (hV.ref t0 rfl (by decide)) (by decide) dX11_weave_23 ?_
        refine q_getA Ra (b := 42) f_X11_192 t38 rfl rfl rfl (hV.ref t38 rfl (by decide)) (by decide) dX11_weave_26 ?_
        refine r_iload_n Ra (i := 1) dX11_weave_29 rfl rfl ?_
        obtain ⟨gu30, h⟩ := gd h
        refine q_iald Ra t42 l42 gu30 dX11_weave_30 ?_
        refine r_iload_n Ra (i := 2) dX11_weave_31 rfl rfl ?_
        refine r_icmp_ne Ra 43 dX11_weave_32 (hV.int t42 (kd20 _)) hx2 rfl (fun hc => ?_) (fun hc => ?_)
        · replace h := ineg hc h
          refine r_aload_n Ra (i := 0) dX11_weave_43 rfl rfl ?_
          obtain ⟨m44, hr44, h⟩ := bd h
          refine q_callVV Ra (c_pD_beginAct hV hr44) mw_X11_beginAct mi_X11_beginAct t0 rfl rfl rfl rfl rfl k_X11_298 rfl rfl dX11_weave_44 (fun ok44 => ?_)
          refine r_aload_n Ra (i := 0) dX11_weave_47 rfl rfl ?_
          refine q_getA Ra (b := 38) f_X11_30 t0 rfl rfl rfl (ok44.ref t0 rfl (by decide)) (by decide) dX11_weave_48 ?_
          refine q_getA Ra (b := 42) f_X11_192 t38 rfl rfl rfl (ok44.ref t38 rfl (by decide)) (by decide) dX11_weave_51 ?_
          refine r_iload_n Ra (i := 1) dX11_weave_54 rfl rfl ?_
          refine r_iload_n Ra (i := 2) dX11_weave_55 rfl rfl ?_
          obtain ⟨gu56, h⟩ := gd h
          obtain ⟨m56, em56, h⟩ := bv h
          have hm56 : VT m56 := eqV em56 (ok44.setI t42 (kd20 _) hx2)
          refine q_iast Ra t42 l42 gu56 em56 dX11_weave_56 ?_
          refine r_iconst Ra dX11_weave_57 ?_
          cases h
          exact r_zret Ra (Or.inr rfl) ⟨hm56, (Or.inr rfl)⟩ dX11_weave_58
        · replace h := ipos hc h
          exact hJ35 h  _ rfl
noncomputable def pD_undo (μ : Mem)  : Option (Int × Mem) := (pA_back μ 38).bind fun (r8, m8) => if r8 = 0 then (pD_refuse m8 4).bind fun (r16, m16) => some (0, m16) else (pD_forgetAnswers m8).bind fun m23 => some (1, m23)
set_option maxHeartbeats 4000000 in
theorem c_pD_undo {l : Launch} {en : En} {μ : Mem}  {re : Int} {μe : Mem} (hV : VT μ)  (h : pD_undo μ = some (re, μe)) : CtI l en yX11_undo cX11_undo 1 3 102 [vA en 0] μ .boolean re μe (VT μe ∧ (re = 0 ∨ re = 1)) := by
  refine Tr.of false (fun h => by cases h) (by decide) (Nat.le_of_ble_eq_true rfl) (fun K Ra => ?_)
  unfold pD_undo at h
  refine r_aload_n Ra (i := 0) dX11_undo_0 rfl rfl ?_
  refine q_getA Ra (b := 52) f_X11_40 t0 rfl rfl rfl (hV.ref t0 rfl (by decide)) (by decide) dX11_undo_1 ?_
  refine r_aload_n Ra (i := 0) dX11_undo_4 rfl rfl ?_
  refine q_getA Ra (b := 38) f_X11_30 t0 rfl rfl rfl (hV.ref t0 rfl (by decide)) (by decide) dX11_undo_5 ?_
  obtain ⟨⟨r8, m8⟩, hr8, h⟩ := bd h
  refine q_callVI Ra (c_pA_back hV t38 hr8) mw_X0_back mi_X0_back t52 rfl rfl rfl rfl rfl k_X11_311 rfl rfl dX11_undo_8 (fun ok8 => ?_)
  obtain ⟨hV8, ok8⟩ := ok8
  refine r_if_ne Ra 22 dX11_undo_11 (inR_01 ok8) rfl (fun hc => ?_) (fun hc => ?_)
  · replace h := ineg hc h
    refine r_aload_n Ra (i := 0) dX11_undo_22 rfl rfl ?_
    obtain ⟨m23, hr23, h⟩ := bd h
    refine q_callVV Ra (c_pD_forgetAnswers hV8 hr23) mw_X11_forgetAnswers mi_X11_forgetAnswers t0 rfl rfl rfl rfl rfl k_X11_123 rfl rfl dX11_undo_23 (fun ok23 => ?_)
    refine r_iconst Ra dX11_undo_26 ?_
    cases h
    exact r_zret Ra (Or.inr rfl) ⟨ok23, (Or.inr rfl)⟩ dX11_undo_27
  · replace h := ipos hc h
    refine r_aload_n Ra (i := 0) dX11_undo_14 rfl rfl ?_
    refine r_iconst Ra dX11_undo_15 ?_
    obtain ⟨⟨r16, m16⟩, hr16, h⟩ := bd h
    refine q_callVI Ra (c_pD_refuse hV8 (Rk rfl) hr16) mw_X11_refuse mi_X11_refuse t0 rfl rfl rfl rfl rfl k_X11_98 rfl rfl dX11_undo_16 (fun ok16 => ?_)
    obtain ⟨hV16, ok16⟩ := ok16
    refine r_popI Ra dX11_undo_19 ?_
    refine r_iconst Ra dX11_undo_20 ?_
    cases h
    exact r_zret Ra (Or.inl rfl) ⟨hV16, (Or.inl rfl)⟩ dX11_undo_21
noncomputable def pD_seed (μ : Mem) (x1 : Int) : Option (Int × Mem) := if x1 < 0 then (pD_refuse μ 5).bind fun (r6, m6) => some (0, m6) else (some (mset μ 0 14 x1)).bind fun m14 => some (1, m14)
set_option maxHeartbeats 4000000 in
theorem c_pD_seed {l : Launch} {en : En} {μ : Mem} {x1 : Int} {re : Int} {μe : Mem} (hV : VT μ) (hx1 : inR x1) (h : pD_seed μ x1 = some (re, μe)) : CtI l en yX11_seed cX11_seed 2 1 81 [vA en 0, vI x1] μ .boolean re μe (VT μe ∧ (re = 0 ∨ re = 1)) := by
  refine Tr.of false (fun h => by cases h) (by decide) (Nat.le_of_ble_eq_true rfl) (fun K Ra => ?_)
  unfold pD_seed at h
  refine r_iload_n Ra (i := 1) dX11_seed_0 rfl rfl ?_
  refine r_if_ge Ra 12 dX11_seed_1 hx1 rfl (fun hc => ?_) (fun hc => ?_)
  · replace h := ineg hc h
    refine r_aload_n Ra (i := 0) dX11_seed_12 rfl rfl ?_
    refine r_iload_n Ra (i := 1) dX11_seed_13 rfl rfl ?_
    obtain ⟨m14, em14, h⟩ := bv h
    have hm14 : VT m14 := eqV em14 (hV.setI t0 rfl hx1)
    refine q_putI Ra f_X11_91 p_X11_14 t0 rfl rfl rfl em14 dX11_seed_14 ?_
    refine r_iconst Ra dX11_seed_17 ?_
    cases h
    exact r_zret Ra (Or.inr rfl) ⟨hm14, (Or.inr rfl)⟩ dX11_seed_18
  · replace h := ipos hc h
    refine r_aload_n Ra (i := 0) dX11_seed_4 rfl rfl ?_
    refine r_iconst Ra dX11_seed_5 ?_
    obtain ⟨⟨r6, m6⟩, hr6, h⟩ := bd h
    refine q_callVI Ra (c_pD_refuse hV (Rk rfl) hr6) mw_X11_refuse mi_X11_refuse t0 rfl rfl rfl rfl rfl k_X11_98 rfl rfl dX11_seed_6 (fun ok6 => ?_)
    obtain ⟨hV6, ok6⟩ := ok6
    refine r_popI Ra dX11_seed_9 ?_
    refine r_iconst Ra dX11_seed_10 ?_
    cases h
    exact r_zret Ra (Or.inl rfl) ⟨hV6, (Or.inl rfl)⟩ dX11_seed_11
noncomputable def pD_kept (μ : Mem) (x1 : Int) (x2 : Int) : Option (Int) := if x1 < 0 then some ((-1)) else if x1 < μ 38 7 then if x2 < 0 then some ((-1)) else if x2 < 3 then if 0 ≤ w32 ((w32 (x1 * 3)) + x2) ∧ w32 ((w32 (x1 * 3)) + x2) < 120 then some (μ 44 (w32 ((w32 (x1 * 3)) + x2))) else none else some ((-1)) else some ((-1))
set_option maxHeartbeats 4000000 in
theorem c_pD_kept {l : Launch} {en : En} {μ : Mem} {x1 : Int} {x2 : Int} {re : Int} (hV : VT μ) (hx1 : inR x1) (hx2 : inR x2) (h : pD_kept μ x1 x2 = some re) : CtI l en yX11_kept cX11_kept 3 0 60 [vA en 0, vI x1, vI x2] μ .int re μ (inR re) := by
  refine Tr.of false (fun h => by cases h) (by decide) (Nat.le_of_ble_eq_true rfl) (fun K Ra => ?_)
  unfold pD_kept at h
  refine r_iload_n Ra (i := 1) dX11_kept_0 rfl rfl ?_
  refine r_if_lt Ra 24 dX11_kept_1 hx1 rfl (fun hc => ?_) (fun hc => ?_)
  · replace h := ipos hc h
    refine r_iconst Ra dX11_kept_24 ?_
    cases h
    exact r_iret Ra (Rk rfl) dX11_kept_25
  · replace h := ineg hc h
    refine r_iload_n Ra (i := 1) dX11_kept_4 rfl rfl ?_
    refine r_aload_n Ra (i := 0) dX11_kept_5 rfl rfl ?_
    refine q_getA Ra (b := 38) f_X11_30 t0 rfl rfl rfl (hV.ref t0 rfl (by decide)) (by decide) dX11_kept_6 ?_
    refine q_getI Ra (x := μ 38 7) f_X11_160 t38 rfl rfl rfl rfl dX11_kept_9 ?_
    refine r_icmp_ge Ra 24 dX11_kept_12 hx1 (hV.int t38 rfl) rfl (fun hc => ?_) (fun hc => ?_)
    · replace h := ineg hc h
      refine r_iconst Ra dX11_kept_24 ?_
      cases h
      exact r_iret Ra (Rk rfl) dX11_kept_25
    · replace h := ipos hc h
      refine r_iload_n Ra (i := 2) dX11_kept_15 rfl rfl ?_
      refine r_if_lt Ra 24 dX11_kept_16 hx2 rfl (fun hc => ?_) (fun hc => ?_)
      · replace h := ipos hc h
        refine r_iconst Ra dX11_kept_24 ?_
        cases h
        exact r_iret Ra (Rk rfl) dX11_kept_25
      · replace h := ineg hc h
        refine r_iload_n Ra (i := 2) dX11_kept_19 rfl rfl ?_
        refine r_iconst Ra dX11_kept_20 ?_
        refine r_icmp_lt Ra 26 dX11_kept_21 hx2 (Rk rfl) rfl (fun hc => ?_) (fun hc => ?_)
        · replace h := ipos hc h
          refine r_aload_n Ra (i := 0) dX11_kept_26 rfl rfl ?_
          refine q_getA Ra (b := 38) f_X11_30 t0 rfl rfl rfl (hV.ref t0 rfl (by decide)) (by decide) dX11_kept_27 ?_
          refine q_getA Ra (b := 44) f_X11_315 t38 rfl rfl rfl (hV.ref t38 rfl (by decide)) (by decide) dX11_kept_30 ?_
          refine r_iload_n Ra (i := 1) dX11_kept_33 rfl rfl ?_
          refine r_iconst Ra dX11_kept_34 ?_
          refine r_imul Ra dX11_kept_35 ?_
          refine r_iload_n Ra (i := 2) dX11_kept_36 rfl rfl ?_
          refine r_iadd Ra dX11_kept_37 ?_
          obtain ⟨gu38, h⟩ := gd h
          refine q_iald Ra t44 l44 gu38 dX11_kept_38 ?_
          cases h
          exact r_iret Ra (hV.int t44 (kd20 _)) dX11_kept_39
        · replace h := ineg hc h
          refine r_iconst Ra dX11_kept_24 ?_
          cases h
          exact r_iret Ra (Rk rfl) dX11_kept_25
noncomputable def pD_image (N : Nat) (μ : Mem)  : Option (Int × Mem) := (pI_write N μ 38).bind fun m12 => some (m12 472 1, m12)
set_option maxHeartbeats 4000000 in
theorem c_pD_image {l : Launch} {en : En} {N : Nat} {μ : Mem}  {re : Int} {μe : Mem} (hV : VT μ)  (h : pD_image N μ = some (re, μe)) : CtI l en yX11_image cX11_image 1 2 106 [vA en 0] μ .int re μe (VT μe ∧ inR re) := by
  refine Tr.of false (fun h => by cases h) (by decide) (Nat.le_of_ble_eq_true rfl) (fun K Ra => ?_)
  unfold pD_image at h
  refine r_aload_n Ra (i := 0) dX11_image_0 rfl rfl ?_
  refine q_getA Ra (b := 472) f_X11_84 t0 rfl rfl rfl (hV.ref t0 rfl (by decide)) (by decide) dX11_image_1 ?_
  refine r_aload_n Ra (i := 0) dX11_image_4 rfl rfl ?_
  refine q_getA Ra (b := 2) f_X11_16 t0 rfl rfl rfl (hV.ref t0 rfl (by decide)) (by decide) dX11_image_5 ?_
  refine r_aload_n Ra (i := 0) dX11_image_8 rfl rfl ?_
  refine q_getA Ra (b := 38) f_X11_30 t0 rfl rfl rfl (hV.ref t0 rfl (by decide)) (by decide) dX11_image_9 ?_
  obtain ⟨m12, hr12, h⟩ := bd h
  refine q_callVV Ra (c_pI_write hV t38 hr12) mw_X2_write mi_X2_write t472 rfl rfl rfl rfl rfl k_X11_318 rfl rfl dX11_image_12 (fun ok12 => ?_)
  refine r_aload_n Ra (i := 0) dX11_image_15 rfl rfl ?_
  refine q_getA Ra (b := 472) f_X11_84 t0 rfl rfl rfl (ok12.ref t0 rfl (by decide)) (by decide) dX11_image_16 ?_
  refine q_getI Ra (x := m12 472 1) f_X11_322 t472 rfl rfl rfl rfl dX11_image_19 ?_
  cases h
  exact r_iret Ra ⟨ok12, (ok12.int t472 rfl)⟩ dX11_image_22
noncomputable def pD_octet (μ : Mem) (x1 : Int) : Option (Int) := if x1 < 0 then some ((-1)) else if x1 < μ 472 1 then if 0 ≤ x1 ∧ x1 < 103 then some (μ 473 x1) else none else some ((-1))
set_option maxHeartbeats 4000000 in
theorem c_pD_octet {l : Launch} {en : En} {μ : Mem} {x1 : Int} {re : Int} (hV : VT μ) (hx1 : inR x1) (h : pD_octet μ x1 = some re) : CtI l en yX11_octet cX11_octet 2 0 60 [vA en 0, vI x1] μ .int re μ (inR re) := by
  refine Tr.of false (fun h => by cases h) (by decide) (Nat.le_of_ble_eq_true rfl) (fun K Ra => ?_)
  unfold pD_octet at h
  refine r_iload_n Ra (i := 1) dX11_octet_0 rfl rfl ?_
  refine r_if_lt Ra 15 dX11_octet_1 hx1 rfl (fun hc => ?_) (fun hc => ?_)
  · replace h := ipos hc h
    refine r_iconst Ra dX11_octet_15 ?_
    refine r_goto Ra 28 dX11_octet_16 rfl ?_
    cases h
    exact r_iret Ra (Rk rfl) dX11_octet_28
  · replace h := ineg hc h
    refine r_iload_n Ra (i := 1) dX11_octet_4 rfl rfl ?_
    refine r_aload_n Ra (i := 0) dX11_octet_5 rfl rfl ?_
    refine q_getA Ra (b := 472) f_X11_84 t0 rfl rfl rfl (hV.ref t0 rfl (by decide)) (by decide) dX11_octet_6 ?_
    refine q_getI Ra (x := μ 472 1) f_X11_322 t472 rfl rfl rfl rfl dX11_octet_9 ?_
    refine r_icmp_lt Ra 19 dX11_octet_12 hx1 (hV.int t472 rfl) rfl (fun hc => ?_) (fun hc => ?_)
    · replace h := ipos hc h
      refine r_aload_n Ra (i := 0) dX11_octet_19 rfl rfl ?_
      refine q_getA Ra (b := 472) f_X11_84 t0 rfl rfl rfl (hV.ref t0 rfl (by decide)) (by decide) dX11_octet_20 ?_
      refine q_getA Ra (b := 473) f_X11_323 t472 rfl rfl rfl (hV.ref t472 rfl (by decide)) (by decide) dX11_octet_23 ?_
      refine r_iload_n Ra (i := 1) dX11_octet_26 rfl rfl ?_
      obtain ⟨gu27, h⟩ := gd h
      refine q_iald Ra t473 l473 gu27 dX11_octet_27 ?_
      cases h
      exact r_iret Ra (hV.int t473 (kd20 _)) dX11_octet_28
    · replace h := ineg hc h
      refine r_iconst Ra dX11_octet_15 ?_
      refine r_goto Ra 28 dX11_octet_16 rfl ?_
      cases h
      exact r_iret Ra (Rk rfl) dX11_octet_28
noncomputable def pD_on (N : Nat) (μ : Mem)  : Option (Int × Mem) := (some (μ 0 1 : Int)).bind fun x1_4 => (some (mset μ 0 1 0)).bind fun m7 => (pI_restore N m7 x1_4 45).bind fun (r23, m23) => if r23 = 0 then (pD_refuse m23 5).bind fun (r31, m31) => some (0, m31) else (pS_copyOf m23 38 45).bind fun m45 => (pA_forget m45).bind fun m52 => (pD_forgetAnswers m52).bind fun m56 => some (1, m56)
set_option maxHeartbeats 4000000 in
theorem c_pD_on {l : Launch} {en : En} {N : Nat} {μ : Mem}  {re : Int} {μe : Mem} (hV : VT μ)  (h : pD_on N μ = some (re, μe)) : CtI l en yX11_on cX11_on 2 3 135 [vA en 0] μ .boolean re μe (VT μe ∧ (re = 0 ∨ re = 1)) := by
  refine Tr.of false (fun h => by cases h) (by decide) (Nat.le_of_ble_eq_true rfl) (fun K Ra => ?_)
  unfold pD_on at h
  refine r_aload_n Ra (i := 0) dX11_on_0 rfl rfl ?_
  refine q_getI Ra (x := μ 0 1) f_X11_95 t0 rfl rfl rfl rfl dX11_on_1 ?_
  obtain ⟨x1_4, ex1_4, h⟩ := bv h
  have ix1_4 : inR x1_4 := eqR ex1_4 (hV.int t0 rfl)
  refine q_istore_n Ra 1 dX11_on_4 rfl rfl ex1_4 ?_
  refine r_aload_n Ra (i := 0) dX11_on_5 rfl rfl ?_
  refine r_iconst Ra dX11_on_6 ?_
  obtain ⟨m7, em7, h⟩ := bv h
  have hm7 : VT m7 := eqV em7 (hV.setI t0 rfl (Rk rfl))
  refine q_putI Ra f_X11_95 p_X11_1 t0 rfl rfl rfl em7 dX11_on_7 ?_
  refine r_aload_n Ra (i := 0) dX11_on_10 rfl rfl ?_
  refine q_getA Ra (b := 1) f_X11_9 t0 rfl rfl rfl (hm7.ref t0 rfl (by decide)) (by decide) dX11_on_11 ?_
  refine r_iload_n Ra (i := 1) dX11_on_14 rfl rfl ?_
  refine r_aload_n Ra (i := 0) dX11_on_15 rfl rfl ?_
  refine q_getA Ra (b := 2) f_X11_16 t0 rfl rfl rfl (hm7.ref t0 rfl (by decide)) (by decide) dX11_on_16 ?_
  refine r_aload_n Ra (i := 0) dX11_on_19 rfl rfl ?_
  refine q_getA Ra (b := 45) f_X11_34 t0 rfl rfl rfl (hm7.ref t0 rfl (by decide)) (by decide) dX11_on_20 ?_
  obtain ⟨⟨r23, m23⟩, hr23, h⟩ := bd h
  refine q_callSI Ra (c_pI_restore hm7 ix1_4 t45 hr23) mw_X2_restore ms_X2_restore rfl rfl k_X11_326 rfl rfl dX11_on_23 (fun ok23 => ?_)
  obtain ⟨hV23, ok23⟩ := ok23
  refine r_if_ne Ra 37 dX11_on_26 (inR_01 ok23) rfl (fun hc => ?_) (fun hc => ?_)
  · replace h := ineg hc h
    refine r_aload_n Ra (i := 0) dX11_on_37 rfl rfl ?_
    refine q_getA Ra (b := 38) f_X11_30 t0 rfl rfl rfl (hV23.ref t0 rfl (by decide)) (by decide) dX11_on_38 ?_
    refine r_aload_n Ra (i := 0) dX11_on_41 rfl rfl ?_
    refine q_getA Ra (b := 45) f_X11_34 t0 rfl rfl rfl (hV23.ref t0 rfl (by decide)) (by decide) dX11_on_42 ?_
    obtain ⟨m45, hr45, h⟩ := bd h
    refine q_callVV Ra (c_pS_copyOf hV23 t38 t45 hr45) mw_X5_copyOf mi_X5_copyOf t38 rfl rfl rfl rfl rfl k_X11_330 rfl rfl dX11_on_45 (fun ok45 => ?_)
    refine r_aload_n Ra (i := 0) dX11_on_48 rfl rfl ?_
    refine q_getA Ra (b := 52) f_X11_40 t0 rfl rfl rfl (ok45.ref t0 rfl (by decide)) (by decide) dX11_on_49 ?_
    obtain ⟨m52, hr52, h⟩ := bd h
    refine q_callVV Ra (c_pA_forget ok45 hr52) mw_X0_forget mi_X0_forget t52 rfl rfl rfl rfl rfl k_X11_117 rfl rfl dX11_on_52 (fun ok52 => ?_)
    refine r_aload_n Ra (i := 0) dX11_on_55 rfl rfl ?_
    obtain ⟨m56, hr56, h⟩ := bd h
    refine q_callVV Ra (c_pD_forgetAnswers ok52 hr56) mw_X11_forgetAnswers mi_X11_forgetAnswers t0 rfl rfl rfl rfl rfl k_X11_123 rfl rfl dX11_on_56 (fun ok56 => ?_)
    refine r_iconst Ra dX11_on_59 ?_
    cases h
    exact r_zret Ra (Or.inr rfl) ⟨ok56, (Or.inr rfl)⟩ dX11_on_60
  · replace h := ipos hc h
    refine r_aload_n Ra (i := 0) dX11_on_29 rfl rfl ?_
    refine r_iconst Ra dX11_on_30 ?_
    obtain ⟨⟨r31, m31⟩, hr31, h⟩ := bd h
    refine q_callVI Ra (c_pD_refuse hV23 (Rk rfl) hr31) mw_X11_refuse mi_X11_refuse t0 rfl rfl rfl rfl rfl k_X11_98 rfl rfl dX11_on_31 (fun ok31 => ?_)
    obtain ⟨hV31, ok31⟩ := ok31
    refine r_popI Ra dX11_on_34 ?_
    refine r_iconst Ra dX11_on_35 ?_
    cases h
    exact r_zret Ra (Or.inl rfl) ⟨hV31, (Or.inl rfl)⟩ dX11_on_36
noncomputable def pD_status (μ : Mem) (x1 : Int) : Option (Int) := if x1 < 0 then some ((-1)) else if x1 < 6 then if 0 ≤ x1 ∧ x1 < 6 then some (μ 474 x1) else none else some ((-1))
set_option maxHeartbeats 4000000 in
theorem c_pD_status {l : Launch} {en : En} {μ : Mem} {x1 : Int} {re : Int} (hV : VT μ) (hx1 : inR x1) (h : pD_status μ x1 = some re) : CtI l en yX11_status cX11_status 2 0 60 [vA en 0, vI x1] μ .int re μ (inR re) := by
  refine Tr.of false (fun h => by cases h) (by decide) (Nat.le_of_ble_eq_true rfl) (fun K Ra => ?_)
  unfold pD_status at h
  refine r_iload_n Ra (i := 1) dX11_status_0 rfl rfl ?_
  refine r_if_lt Ra 10 dX11_status_1 hx1 rfl (fun hc => ?_) (fun hc => ?_)
  · replace h := ipos hc h
    refine r_iconst Ra dX11_status_10 ?_
    refine r_goto Ra 20 dX11_status_11 rfl ?_
    cases h
    exact r_iret Ra (Rk rfl) dX11_status_20
  · replace h := ineg hc h
    refine r_iload_n Ra (i := 1) dX11_status_4 rfl rfl ?_
    refine r_bipush Ra dX11_status_5 rfl ?_
    refine r_icmp_lt Ra 14 dX11_status_7 hx1 (Rk rfl) rfl (fun hc => ?_) (fun hc => ?_)
    · replace h := ipos hc h
      refine r_aload_n Ra (i := 0) dX11_status_14 rfl rfl ?_
      refine q_getA Ra (b := 474) f_X11_88 t0 rfl rfl rfl (hV.ref t0 rfl (by decide)) (by decide) dX11_status_15 ?_
      refine r_iload_n Ra (i := 1) dX11_status_18 rfl rfl ?_
      obtain ⟨gu19, h⟩ := gd h
      refine q_iald Ra t474 l474 gu19 dX11_status_19 ?_
      cases h
      exact r_iret Ra (hV.int t474 (kd20 _)) dX11_status_20
    · replace h := ineg hc h
      refine r_iconst Ra dX11_status_10 ?_
      refine r_goto Ra 20 dX11_status_11 rfl ?_
      cases h
      exact r_iret Ra (Rk rfl) dX11_status_20
