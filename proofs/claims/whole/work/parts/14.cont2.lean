noncomputable def pR_astray (μ : Mem)  : Option (Int × Mem) := (some (mset μ 18 1 1)).bind fun m2 => if 0 ≤ m2 18 7 ∧ m2 18 7 < 1601 then if m2 35 (m2 18 7) = 27 then if 0 ≤ m2 18 7 ∧ m2 18 7 < 1601 then (some (mset m2 18 2 (m2 37 (m2 18 7)))).bind fun m41 => some (0, m41) else none else if 0 ≤ m2 18 7 ∧ m2 18 7 < 1601 then (some (mset m2 18 2 (m2 36 (m2 18 7)))).bind fun m41 => some (0, m41) else none else none
set_option maxHeartbeats 4000000 in
theorem c_pR_astray {l : Launch} {en : En} {μ : Mem}  {re : Int} {μe : Mem} (hV : VT μ)  (h : pR_astray μ = some (re, μe)) : CtI l en yX4_astray cX4_astray 1 0 60 [vA en 18] μ .boolean re μe (VT μe ∧ (re = 0 ∨ re = 1)) := by
  refine Tr.of false (fun h => by cases h) (by decide) (Nat.le_of_ble_eq_true rfl) (fun K Ra => ?_)
  unfold pR_astray at h
  refine r_aload_n Ra (i := 0) dX4_astray_0 rfl rfl ?_
  refine r_iconst Ra dX4_astray_1 ?_
  obtain ⟨m2, em2, h⟩ := bv h
  have hm2 : VT m2 := eqV em2 (hV.setI t18 rfl (Rk rfl))
  refine q_putI Ra f_X4_39 p_X4_1 t18 rfl rfl rfl em2 dX4_astray_2 ?_
  refine r_aload_n Ra (i := 0) dX4_astray_5 rfl rfl ?_
  refine r_aload_n Ra (i := 0) dX4_astray_6 rfl rfl ?_
  refine q_getA Ra (b := 35) f_X4_22 t18 rfl rfl rfl (hm2.ref t18 rfl (by decide)) (by decide) dX4_astray_7 ?_
  refine r_aload_n Ra (i := 0) dX4_astray_10 rfl rfl ?_
  refine q_getI Ra (x := m2 18 7) f_X4_42 t18 rfl rfl rfl rfl dX4_astray_11 ?_
  obtain ⟨gu14, h⟩ := gd h
  refine q_iald Ra t35 l35 gu14 dX4_astray_14 ?_
  refine r_bipush Ra dX4_astray_15 rfl ?_
  refine r_icmp_ne Ra 32 dX4_astray_17 (hm2.int t35 (kd20 _)) (Rk rfl) rfl (fun hc => ?_) (fun hc => ?_)
  · replace h := ineg hc h
    refine r_aload_n Ra (i := 0) dX4_astray_32 rfl rfl ?_
    refine q_getA Ra (b := 36) f_X4_26 t18 rfl rfl rfl (hm2.ref t18 rfl (by decide)) (by decide) dX4_astray_33 ?_
    refine r_aload_n Ra (i := 0) dX4_astray_36 rfl rfl ?_
    refine q_getI Ra (x := m2 18 7) f_X4_42 t18 rfl rfl rfl rfl dX4_astray_37 ?_
    obtain ⟨gu40, h⟩ := gd h
    refine q_iald Ra t36 l36 gu40 dX4_astray_40 ?_
    obtain ⟨m41, em41, h⟩ := bv h
    have hm41 : VT m41 := eqV em41 (hm2.setI t18 rfl (hm2.int t36 (kd20 _)))
    refine q_putI Ra f_X4_18 p_X4_2 t18 rfl rfl rfl em41 dX4_astray_41 ?_
    refine r_iconst Ra dX4_astray_44 ?_
    cases h
    exact r_zret Ra (Or.inl rfl) ⟨hm41, (Or.inl rfl)⟩ dX4_astray_45
  · replace h := ipos hc h
    refine r_aload_n Ra (i := 0) dX4_astray_20 rfl rfl ?_
    refine q_getA Ra (b := 37) f_X4_29 t18 rfl rfl rfl (hm2.ref t18 rfl (by decide)) (by decide) dX4_astray_21 ?_
    refine r_aload_n Ra (i := 0) dX4_astray_24 rfl rfl ?_
    refine q_getI Ra (x := m2 18 7) f_X4_42 t18 rfl rfl rfl rfl dX4_astray_25 ?_
    obtain ⟨gu28, h⟩ := gd h
    refine q_iald Ra t37 l37 gu28 dX4_astray_28 ?_
    refine r_goto Ra 41 dX4_astray_29 rfl ?_
    obtain ⟨m41, em41, h⟩ := bv h
    have hm41 : VT m41 := eqV em41 (hm2.setI t18 rfl (hm2.int t37 (kd20 _)))
    refine q_putI Ra f_X4_18 p_X4_2 t18 rfl rfl rfl em41 dX4_astray_41 ?_
    refine r_iconst Ra dX4_astray_44 ?_
    cases h
    exact r_zret Ra (Or.inl rfl) ⟨hm41, (Or.inl rfl)⟩ dX4_astray_45
noncomputable def pR_lastValue (μ : Mem)  : Option (Int) := if 0 < μ 18 7 then if 0 ≤ w32 ((μ 18 7) - 1) ∧ w32 ((μ 18 7) - 1) < 1601 then some (μ 37 (w32 ((μ 18 7) - 1))) else none else some (0)
set_option maxHeartbeats 4000000 in
theorem c_pR_lastValue {l : Launch} {en : En} {μ : Mem}  {re : Int} (hV : VT μ)  (h : pR_lastValue μ = some re) : CtI l en yX4_lastValue cX4_lastValue 1 0 60 [vA en 18] μ .int re μ (inR re) := by
  refine Tr.of false (fun h => by cases h) (by decide) (Nat.le_of_ble_eq_true rfl) (fun K Ra => ?_)
  unfold pR_lastValue at h
  refine r_aload_n Ra (i := 0) dX4_lastValue_0 rfl rfl ?_
  refine q_getI Ra (x := μ 18 7) f_X4_42 t18 rfl rfl rfl rfl dX4_lastValue_1 ?_
  refine r_if_le Ra 21 dX4_lastValue_4 (hV.int t18 rfl) rfl (fun hc => ?_) (fun hc => ?_)
  · replace h := ineg hc h
    refine r_iconst Ra dX4_lastValue_21 ?_
    cases h
    exact r_iret Ra (Rk rfl) dX4_lastValue_22
  · replace h := ipos hc h
    refine r_aload_n Ra (i := 0) dX4_lastValue_7 rfl rfl ?_
    refine q_getA Ra (b := 37) f_X4_29 t18 rfl rfl rfl (hV.ref t18 rfl (by decide)) (by decide) dX4_lastValue_8 ?_
    refine r_aload_n Ra (i := 0) dX4_lastValue_11 rfl rfl ?_
    refine q_getI Ra (x := μ 18 7) f_X4_42 t18 rfl rfl rfl rfl dX4_lastValue_12 ?_
    refine r_iconst Ra dX4_lastValue_15 ?_
    refine r_isub Ra dX4_lastValue_16 ?_
    obtain ⟨gu17, h⟩ := gd h
    refine q_iald Ra t37 l37 gu17 dX4_lastValue_17 ?_
    refine r_goto Ra 22 dX4_lastValue_18 rfl ?_
    cases h
    exact r_iret Ra (hV.int t37 (kd20 _)) dX4_lastValue_22
noncomputable def pR_pass (μ : Mem)  : Option (Mem) := if μ 18 7 < w32 ((μ 18 6) - 1) then (some (mset μ 18 7 (w32 ((μ 18 7) + 1)))).bind fun m20 => some m20 else some μ
set_option maxHeartbeats 4000000 in
theorem c_pR_pass {l : Launch} {en : En} {μ : Mem}  {μe : Mem} (hV : VT μ)  (h : pR_pass μ = some μe) : CtV l en yX4_pass cX4_pass 1 0 60 [vA en 18] μ μe (VT μe) := by
  refine Tr.of false (fun h => by cases h) (by decide) (Nat.le_of_ble_eq_true rfl) (fun K Ra => ?_)
  unfold pR_pass at h
  refine r_aload_n Ra (i := 0) dX4_pass_0 rfl rfl ?_
  refine q_getI Ra (x := μ 18 7) f_X4_42 t18 rfl rfl rfl rfl dX4_pass_1 ?_
  refine r_aload_n Ra (i := 0) dX4_pass_4 rfl rfl ?_
  refine q_getI Ra (x := μ 18 6) f_X4_213 t18 rfl rfl rfl rfl dX4_pass_5 ?_
  refine r_iconst Ra dX4_pass_8 ?_
  refine r_isub Ra dX4_pass_9 ?_
  refine r_icmp_ge Ra 23 dX4_pass_10 (hV.int t18 rfl) (inR_32 _) rfl (fun hc => ?_) (fun hc => ?_)
  · replace h := ineg hc h
    cases h
    exact r_vret Ra hV dX4_pass_23
  · replace h := ipos hc h
    refine r_aload_n Ra (i := 0) dX4_pass_13 rfl rfl ?_
    refine r_dupA Ra dX4_pass_14 ?_
    refine q_getI Ra (x := μ 18 7) f_X4_42 t18 rfl rfl rfl rfl dX4_pass_15 ?_
    refine r_iconst Ra dX4_pass_18 ?_
    refine r_iadd Ra dX4_pass_19 ?_
    obtain ⟨m20, em20, h⟩ := bv h
    have hm20 : VT m20 := eqV em20 (hV.setI t18 rfl (inR_32 _))
    refine q_putI Ra f_X4_42 p_X4_7 t18 rfl rfl rfl em20 dX4_pass_20 ?_
    cases h
    exact r_vret Ra hm20 dX4_pass_23
noncomputable def pR_wrong (μ : Mem) (x1 : Int) : Option (Int × Mem) := (some (mset μ 18 1 x1)).bind fun m2 => if 0 ≤ m2 18 7 ∧ m2 18 7 < 1601 then (some (mset m2 18 2 (m2 36 (m2 18 7)))).bind fun m15 => some (0, m15) else none
set_option maxHeartbeats 4000000 in
theorem c_pR_wrong {l : Launch} {en : En} {μ : Mem} {x1 : Int} {re : Int} {μe : Mem} (hV : VT μ) (hx1 : inR x1) (h : pR_wrong μ x1 = some (re, μe)) : CtI l en yX4_wrong cX4_wrong 2 0 60 [vA en 18, vI x1] μ .boolean re μe (VT μe ∧ (re = 0 ∨ re = 1)) := by
  refine Tr.of false (fun h => by cases h) (by decide) (Nat.le_of_ble_eq_true rfl) (fun K Ra => ?_)
  unfold pR_wrong at h
  refine r_aload_n Ra (i := 0) dX4_wrong_0 rfl rfl ?_
  refine r_iload_n Ra (i := 1) dX4_wrong_1 rfl rfl ?_
  obtain ⟨m2, em2, h⟩ := bv h
  have hm2 : VT m2 := eqV em2 (hV.setI t18 rfl hx1)
  refine q_putI Ra f_X4_39 p_X4_1 t18 rfl rfl rfl em2 dX4_wrong_2 ?_
  refine r_aload_n Ra (i := 0) dX4_wrong_5 rfl rfl ?_
  refine r_aload_n Ra (i := 0) dX4_wrong_6 rfl rfl ?_
  refine q_getA Ra (b := 36) f_X4_26 t18 rfl rfl rfl (hm2.ref t18 rfl (by decide)) (by decide) dX4_wrong_7 ?_
  refine r_aload_n Ra (i := 0) dX4_wrong_10 rfl rfl ?_
  refine q_getI Ra (x := m2 18 7) f_X4_42 t18 rfl rfl rfl rfl dX4_wrong_11 ?_
  obtain ⟨gu14, h⟩ := gd h
  refine q_iald Ra t36 l36 gu14 dX4_wrong_14 ?_
  obtain ⟨m15, em15, h⟩ := bv h
  have hm15 : VT m15 := eqV em15 (hm2.setI t18 rfl (hm2.int t36 (kd20 _)))
  refine q_putI Ra f_X4_18 p_X4_2 t18 rfl rfl rfl em15 dX4_wrong_15 ?_
  refine r_iconst Ra dX4_wrong_18 ?_
  cases h
  exact r_zret Ra (Or.inl rfl) ⟨hm15, (Or.inl rfl)⟩ dX4_wrong_19
noncomputable def pR_takeNumber (μ : Mem) (x1 : Int) (x2 : Int) : Option (Int × Mem) := if 0 ≤ μ 18 7 ∧ μ 18 7 < 1601 then if μ 35 (μ 18 7) = 25 then if 0 ≤ μ 18 7 ∧ μ 18 7 < 1601 then jn (α := Unit → Option (Int × Mem)) (fun (_ : Unit) => (pR_wrong μ 4).bind fun (r47, m47) => some (r47, m47)) (fun (j45 : Unit → Option (Int × Mem)) => if μ 37 (μ 18 7) < x1 then j45 () else if 0 ≤ μ 18 7 ∧ μ 18 7 < 1601 then if x2 < μ 37 (μ 18 7) then j45 () else (pR_pass μ).bind fun m52 => some (1, m52) else none) else none else (pR_astray μ).bind fun (r15, m15) => some (r15, m15) else none
set_option maxHeartbeats 4000000 in
theorem c_pR_takeNumber {l : Launch} {en : En} {μ : Mem} {x1 : Int} {x2 : Int} {re : Int} {μe : Mem} (hV : VT μ) (hx1 : inR x1) (hx2 : inR x2) (h : pR_takeNumber μ x1 x2 = some (re, μe)) : CtI l en yX4_takeNumber cX4_takeNumber 3 1 81 [vA en 18, vI x1, vI x2] μ .boolean re μe (VT μe ∧ (re = 0 ∨ re = 1)) := by
  refine Tr.of false (fun h => by cases h) (by decide) (Nat.le_of_ble_eq_true rfl) (fun K Ra => ?_)
  unfold pR_takeNumber at h
  refine r_aload_n Ra (i := 0) dX4_takeNumber_0 rfl rfl ?_
  refine q_getA Ra (b := 35) f_X4_22 t18 rfl rfl rfl (hV.ref t18 rfl (by decide)) (by decide) dX4_takeNumber_1 ?_
  refine r_aload_n Ra (i := 0) dX4_takeNumber_4 rfl rfl ?_
  refine q_getI Ra (x := μ 18 7) f_X4_42 t18 rfl rfl rfl rfl dX4_takeNumber_5 ?_
  obtain ⟨gu8, h⟩ := gd h
  refine q_iald Ra t35 l35 gu8 dX4_takeNumber_8 ?_
  refine r_bipush Ra dX4_takeNumber_9 rfl ?_
  refine r_icmp_eq Ra 19 dX4_takeNumber_11 (hV.int t35 (kd20 _)) (Rk rfl) rfl (fun hc => ?_) (fun hc => ?_)
  · replace h := ipos hc h
    refine r_aload_n Ra (i := 0) dX4_takeNumber_19 rfl rfl ?_
    refine q_getA Ra (b := 37) f_X4_29 t18 rfl rfl rfl (hV.ref t18 rfl (by decide)) (by decide) dX4_takeNumber_20 ?_
    refine r_aload_n Ra (i := 0) dX4_takeNumber_23 rfl rfl ?_
    refine q_getI Ra (x := μ 18 7) f_X4_42 t18 rfl rfl rfl rfl dX4_takeNumber_24 ?_
    obtain ⟨gu27, h⟩ := gd h
    refine q_iald Ra t37 l37 gu27 dX4_takeNumber_27 ?_
    refine r_iload_n Ra (i := 1) dX4_takeNumber_28 rfl rfl ?_
    obtain ⟨j45, ej45, h⟩ := jn_elim h
    have hJ45 : j45 () = some (re, μe) → ∀ L9 : Lo, L9 0 = some (vA en 18) → K ZN 45 L9 [] μ := by
      intro h L9 f45_0
      rw [ej45] at h
      refine r_aload_n Ra (i := 0) dX4_takeNumber_45 rfl f45_0 ?_
      refine r_iconst Ra dX4_takeNumber_46 ?_
      obtain ⟨⟨r47, m47⟩, hr47, h⟩ := bd h
      refine q_callVI Ra (c_pR_wrong hV (Rk rfl) hr47) mw_X4_wrong mi_X4_wrong t18 rfl rfl rfl rfl rfl k_X4_64 rfl rfl dX4_takeNumber_47 (fun ok47 => ?_)
      obtain ⟨hV47, ok47⟩ := ok47
      cases h
      exact r_zret Ra ok47 ⟨hV47, ok47⟩ dX4_takeNumber_50
    refine r_icmp_lt Ra 45 dX4_takeNumber_29 (hV.int t37 (kd20 _)) hx1 rfl (fun hc => ?_) (fun hc => ?_)
    · replace h := ipos hc h
      exact hJ45 h  _ rfl
    · replace h := ineg hc h
      refine r_aload_n Ra (i := 0) dX4_takeNumber_32 rfl rfl ?_
      refine q_getA Ra (b := 37) f_X4_29 t18 rfl rfl rfl (hV.ref t18 rfl (by decide)) (by decide) dX4_takeNumber_33 ?_
      refine r_aload_n Ra (i := 0) dX4_takeNumber_36 rfl rfl ?_
      refine q_getI Ra (x := μ 18 7) f_X4_42 t18 rfl rfl rfl rfl dX4_takeNumber_37 ?_
      obtain ⟨gu40, h⟩ := gd h
      refine q_iald Ra t37 l37 gu40 dX4_takeNumber_40 ?_
      refine r_iload_n Ra (i := 2) dX4_takeNumber_41 rfl rfl ?_
      refine r_icmp_le Ra 51 dX4_takeNumber_42 (hV.int t37 (kd20 _)) hx2 rfl (fun hc => ?_) (fun hc => ?_)
      · replace h := ineg hc h
        refine r_aload_n Ra (i := 0) dX4_takeNumber_51 rfl rfl ?_
        obtain ⟨m52, hr52, h⟩ := bd h
        refine q_callVV Ra (c_pR_pass hV hr52) mw_X4_pass mi_X4_pass t18 rfl rfl rfl rfl rfl k_X4_102 rfl rfl dX4_takeNumber_52 (fun ok52 => ?_)
        refine r_iconst Ra dX4_takeNumber_55 ?_
        cases h
        exact r_zret Ra (Or.inr rfl) ⟨ok52, (Or.inr rfl)⟩ dX4_takeNumber_56
      · replace h := ipos hc h
        exact hJ45 h  _ rfl
  · replace h := ineg hc h
    refine r_aload_n Ra (i := 0) dX4_takeNumber_14 rfl rfl ?_
    obtain ⟨⟨r15, m15⟩, hr15, h⟩ := bd h
    refine q_callVI Ra (c_pR_astray hV hr15) mw_X4_astray mi_X4_astray t18 rfl rfl rfl rfl rfl k_X4_75 rfl rfl dX4_takeNumber_15 (fun ok15 => ?_)
    obtain ⟨hV15, ok15⟩ := ok15
    cases h
    exact r_zret Ra ok15 ⟨hV15, ok15⟩ dX4_takeNumber_18
noncomputable def pR_takeCell (μ : Mem)  : Option (Int × Mem) := (pR_takeNumber μ 0 (w32 ((μ 19 0) - 1))).bind fun (r11, m11) => if r11 = 0 then some ((-1), m11) else (pR_lastValue m11).bind fun r20 => (pR_takeNumber m11 0 (w32 ((m11 19 1) - 1))).bind fun (r35, m35) => if r35 = 0 then some ((-1), m35) else (pR_lastValue m35).bind fun r47 => (pP_cellAt m35 19 r20 r47).bind fun r50 => some (r50, m35)
set_option maxHeartbeats 4000000 in
theorem c_pR_takeCell {l : Launch} {en : En} {μ : Mem}  {re : Int} {μe : Mem} (hV : VT μ)  (h : pR_takeCell μ = some (re, μe)) : CtI l en yX4_takeCell cX4_takeCell 2 2 103 [vA en 18] μ .int re μe (VT μe ∧ inR re) := by
  refine Tr.of false (fun h => by cases h) (by decide) (Nat.le_of_ble_eq_true rfl) (fun K Ra => ?_)
  unfold pR_takeCell at h
  refine r_aload_n Ra (i := 0) dX4_takeCell_0 rfl rfl ?_
  refine r_iconst Ra dX4_takeCell_1 ?_
  refine r_aload_n Ra (i := 0) dX4_takeCell_2 rfl rfl ?_
  refine q_getA Ra (b := 19) f_X4_12 t18 rfl rfl rfl (hV.ref t18 rfl (by decide)) (by decide) dX4_takeCell_3 ?_
  refine q_getI Ra (x := μ 19 0) f_X4_113 t19 rfl rfl rfl rfl dX4_takeCell_6 ?_
  refine r_iconst Ra dX4_takeCell_9 ?_
  refine r_isub Ra dX4_takeCell_10 ?_
  obtain ⟨⟨r11, m11⟩, hr11, h⟩ := bd h
  refine q_callVI Ra (c_pR_takeNumber hV (Rk rfl) (inR_32 _) hr11) mw_X4_takeNumber mi_X4_takeNumber t18 rfl rfl rfl rfl rfl k_X4_105 rfl rfl dX4_takeCell_11 (fun ok11 => ?_)
  obtain ⟨hV11, ok11⟩ := ok11
  refine r_if_ne Ra 19 dX4_takeCell_14 (inR_01 ok11) rfl (fun hc => ?_) (fun hc => ?_)
  · replace h := ineg hc h
    refine r_aload_n Ra (i := 0) dX4_takeCell_19 rfl rfl ?_
    obtain ⟨r20, hr20, h⟩ := bd h
    refine q_callVI Ra (c_pR_lastValue hV11 hr20) mw_X4_lastValue mi_X4_lastValue t18 rfl rfl rfl rfl rfl k_X4_109 rfl rfl dX4_takeCell_20 (fun ok20 => ?_)
    refine q_istore_n Ra 1 dX4_takeCell_23 rfl rfl rfl ?_
    refine r_aload_n Ra (i := 0) dX4_takeCell_24 rfl rfl ?_
    refine r_iconst Ra dX4_takeCell_25 ?_
    refine r_aload_n Ra (i := 0) dX4_takeCell_26 rfl rfl ?_
    refine q_getA Ra (b := 19) f_X4_12 t18 rfl rfl rfl (hV11.ref t18 rfl (by decide)) (by decide) dX4_takeCell_27 ?_
    refine q_getI Ra (x := m11 19 1) f_X4_116 t19 rfl rfl rfl rfl dX4_takeCell_30 ?_
    refine r_iconst Ra dX4_takeCell_33 ?_
    refine r_isub Ra dX4_takeCell_34 ?_
    obtain ⟨⟨r35, m35⟩, hr35, h⟩ := bd h
    refine q_callVI Ra (c_pR_takeNumber hV11 (Rk rfl) (inR_32 _) hr35) mw_X4_takeNumber mi_X4_takeNumber t18 rfl rfl rfl rfl rfl k_X4_105 rfl rfl dX4_takeCell_35 (fun ok35 => ?_)
    obtain ⟨hV35, ok35⟩ := ok35
    refine r_if_eq Ra 56 dX4_takeCell_38 (inR_01 ok35) rfl (fun hc => ?_) (fun hc => ?_)
    · replace h := ipos hc h
      refine r_iconst Ra dX4_takeCell_56 ?_
      cases h
      exact r_iret Ra ⟨hV35, (Rk rfl)⟩ dX4_takeCell_57
    · replace h := ineg hc h
      refine r_aload_n Ra (i := 0) dX4_takeCell_41 rfl rfl ?_
      refine q_getA Ra (b := 19) f_X4_12 t18 rfl rfl rfl (hV35.ref t18 rfl (by decide)) (by decide) dX4_takeCell_42 ?_
      refine r_iload_n Ra (i := 1) dX4_takeCell_45 rfl rfl ?_
      refine r_aload_n Ra (i := 0) dX4_takeCell_46 rfl rfl ?_
      obtain ⟨r47, hr47, h⟩ := bd h
      refine q_callVI Ra (c_pR_lastValue hV35 hr47) mw_X4_lastValue mi_X4_lastValue t18 rfl rfl rfl rfl rfl k_X4_109 rfl rfl dX4_takeCell_47 (fun ok47 => ?_)
      obtain ⟨r50, hr50, h⟩ := bd h
      refine q_callVI Ra (c_pP_cellAt hV35 t19 ok20 ok47 hr50) mw_X3_cellAt mi_X3_cellAt t19 rfl rfl rfl rfl rfl k_X4_128 rfl rfl dX4_takeCell_50 (fun ok50 => ?_)
      refine r_goto Ra 57 dX4_takeCell_53 rfl ?_
      cases h
      exact r_iret Ra ⟨hV35, ok50⟩ dX4_takeCell_57
  · replace h := ipos hc h
    refine r_iconst Ra dX4_takeCell_17 ?_
    cases h
    exact r_iret Ra ⟨hV11, (Rk rfl)⟩ dX4_takeCell_18
noncomputable def pR_readDew (μ : Mem)  : Option (Int × Mem) := (pR_pass μ).bind fun m1 => (pR_takeCell m1).bind fun (r5, m5) => if r5 = (-1) then some (0, m5) else (pR_takeNumber m5 0 99).bind fun (r18, m18) => if r18 = 0 then some (0, m18) else (pR_lastValue m18).bind fun r35 => if 0 ≤ r5 ∧ r5 < 64 then (some (mset m18 20 r5 r35)).bind fun m38 => some (1, m38) else none
set_option maxHeartbeats 4000000 in
theorem c_pR_readDew {l : Launch} {en : En} {μ : Mem}  {re : Int} {μe : Mem} (hV : VT μ)  (h : pR_readDew μ = some (re, μe)) : CtI l en yX4_readDew cX4_readDew 2 3 124 [vA en 18] μ .boolean re μe (VT μe ∧ (re = 0 ∨ re = 1)) := by
  refine Tr.of false (fun h => by cases h) (by decide) (Nat.le_of_ble_eq_true rfl) (fun K Ra => ?_)
  unfold pR_readDew at h
  refine r_aload_n Ra (i := 0) dX4_readDew_0 rfl rfl ?_
  obtain ⟨m1, hr1, h⟩ := bd h
  refine q_callVV Ra (c_pR_pass hV hr1) mw_X4_pass mi_X4_pass t18 rfl rfl rfl rfl rfl k_X4_102 rfl rfl dX4_readDew_1 (fun ok1 => ?_)
  refine r_aload_n Ra (i := 0) dX4_readDew_4 rfl rfl ?_
  obtain ⟨⟨r5, m5⟩, hr5, h⟩ := bd h
  refine q_callVI Ra (c_pR_takeCell ok1 hr5) mw_X4_takeCell mi_X4_takeCell t18 rfl rfl rfl rfl rfl k_X4_122 rfl rfl dX4_readDew_5 (fun ok5 => ?_)
  obtain ⟨hV5, ok5⟩ := ok5
  refine q_istore_n Ra 1 dX4_readDew_8 rfl rfl rfl ?_
  refine r_iload_n Ra (i := 1) dX4_readDew_9 rfl rfl ?_
  refine r_iconst Ra dX4_readDew_10 ?_
  refine r_icmp_eq Ra 24 dX4_readDew_11 ok5 (Rk rfl) rfl (fun hc => ?_) (fun hc => ?_)
  · replace h := ipos hc h
    refine r_iconst Ra dX4_readDew_24 ?_
    cases h
    exact r_zret Ra (Or.inl rfl) ⟨hV5, (Or.inl rfl)⟩ dX4_readDew_25
  · replace h := ineg hc h
    refine r_aload_n Ra (i := 0) dX4_readDew_14 rfl rfl ?_
    refine r_iconst Ra dX4_readDew_15 ?_
    refine r_bipush Ra dX4_readDew_16 rfl ?_
    obtain ⟨⟨r18, m18⟩, hr18, h⟩ := bd h
    refine q_callVI Ra (c_pR_takeNumber hV5 (Rk rfl) (Rk rfl) hr18) mw_X4_takeNumber mi_X4_takeNumber t18 rfl rfl rfl rfl rfl k_X4_105 rfl rfl dX4_readDew_18 (fun ok18 => ?_)
    obtain ⟨hV18, ok18⟩ := ok18
    refine r_if_ne Ra 26 dX4_readDew_21 (inR_01 ok18) rfl (fun hc => ?_) (fun hc => ?_)
    · replace h := ineg hc h
      refine r_aload_n Ra (i := 0) dX4_readDew_26 rfl rfl ?_
      refine q_getA Ra (b := 19) f_X4_12 t18 rfl rfl rfl (hV18.ref t18 rfl (by decide)) (by decide) dX4_readDew_27 ?_
      refine q_getA Ra (b := 20) f_X4_125 t19 rfl rfl rfl (hV18.ref t19 rfl (by decide)) (by decide) dX4_readDew_30 ?_
      refine r_iload_n Ra (i := 1) dX4_readDew_33 rfl rfl ?_
      refine r_aload_n Ra (i := 0) dX4_readDew_34 rfl rfl ?_
      obtain ⟨r35, hr35, h⟩ := bd h
      refine q_callVI Ra (c_pR_lastValue hV18 hr35) mw_X4_lastValue mi_X4_lastValue t18 rfl rfl rfl rfl rfl k_X4_109 rfl rfl dX4_readDew_35 (fun ok35 => ?_)
      obtain ⟨gu38, h⟩ := gd h
      obtain ⟨m38, em38, h⟩ := bv h
      have hm38 : VT m38 := eqV em38 (hV18.setI t20 (kd20 _) ok35)
      refine q_iast Ra t20 l20 gu38 em38 dX4_readDew_38 ?_
      refine r_iconst Ra dX4_readDew_39 ?_
      cases h
      exact r_zret Ra (Or.inr rfl) ⟨hm38, (Or.inr rfl)⟩ dX4_readDew_40
    · replace h := ipos hc h
      refine r_iconst Ra dX4_readDew_24 ?_
      cases h
      exact r_zret Ra (Or.inl rfl) ⟨hV18, (Or.inl rfl)⟩ dX4_readDew_25
noncomputable def pR_take (μ : Mem) (x1 : Int) : Option (Int × Mem) := if 0 ≤ μ 18 7 ∧ μ 18 7 < 1601 then if μ 35 (μ 18 7) = x1 then (pR_pass μ).bind fun m19 => some (1, m19) else (pR_astray μ).bind fun (r14, m14) => some (r14, m14) else none
set_option maxHeartbeats 4000000 in
theorem c_pR_take {l : Launch} {en : En} {μ : Mem} {x1 : Int} {re : Int} {μe : Mem} (hV : VT μ) (hx1 : inR x1) (h : pR_take μ x1 = some (re, μe)) : CtI l en yX4_take cX4_take 2 1 80 [vA en 18, vI x1] μ .boolean re μe (VT μe ∧ (re = 0 ∨ re = 1)) := by
  refine Tr.of false (fun h => by cases h) (by decide) (Nat.le_of_ble_eq_true rfl) (fun K Ra => ?_)
  unfold pR_take at h
  refine r_aload_n Ra (i := 0) dX4_take_0 rfl rfl ?_
  refine q_getA Ra (b := 35) f_X4_22 t18 rfl rfl rfl (hV.ref t18 rfl (by decide)) (by decide) dX4_take_1 ?_
  refine r_aload_n Ra (i := 0) dX4_take_4 rfl rfl ?_
  refine q_getI Ra (x := μ 18 7) f_X4_42 t18 rfl rfl rfl rfl dX4_take_5 ?_
  obtain ⟨gu8, h⟩ := gd h
  refine q_iald Ra t35 l35 gu8 dX4_take_8 ?_
  refine r_iload_n Ra (i := 1) dX4_take_9 rfl rfl ?_
  refine r_icmp_eq Ra 18 dX4_take_10 (hV.int t35 (kd20 _)) hx1 rfl (fun hc => ?_) (fun hc => ?_)
  · replace h := ipos hc h
    refine r_aload_n Ra (i := 0) dX4_take_18 rfl rfl ?_
    obtain ⟨m19, hr19, h⟩ := bd h
    refine q_callVV Ra (c_pR_pass hV hr19) mw_X4_pass mi_X4_pass t18 rfl rfl rfl rfl rfl k_X4_102 rfl rfl dX4_take_19 (fun ok19 => ?_)
    refine r_iconst Ra dX4_take_22 ?_
    cases h
    exact r_zret Ra (Or.inr rfl) ⟨ok19, (Or.inr rfl)⟩ dX4_take_23
  · replace h := ineg hc h
    refine r_aload_n Ra (i := 0) dX4_take_13 rfl rfl ?_
    obtain ⟨⟨r14, m14⟩, hr14, h⟩ := bd h
    refine q_callVI Ra (c_pR_astray hV hr14) mw_X4_astray mi_X4_astray t18 rfl rfl rfl rfl rfl k_X4_75 rfl rfl dX4_take_14 (fun ok14 => ?_)
    obtain ⟨hV14, ok14⟩ := ok14
    cases h
    exact r_zret Ra ok14 ⟨hV14, ok14⟩ dX4_take_17
noncomputable def pR_readField (μ : Mem)  : Option (Int × Mem) := (pR_pass μ).bind fun m1 => (pR_takeNumber m1 2 8).bind fun (r8, m8) => if r8 = 0 then some (0, m8) else (pR_lastValue m8).bind fun r21 => (some (mset m8 19 0 r21)).bind fun m24 => (pR_take m24 1).bind fun (r29, m29) => if r29 = 0 then some (0, m29) else (pR_takeNumber m29 2 8).bind fun (r39, m39) => if r39 = 0 then some (0, m39) else (pR_lastValue m39).bind fun r52 => (some (mset m39 19 1 r52)).bind fun m55 => (some (mset m55 19 2 (w32 ((m55 19 0) * (m55 19 1))))).bind fun m77 => some (1, m77)
set_option maxHeartbeats 4000000 in
theorem c_pR_readField {l : Launch} {en : En} {μ : Mem}  {re : Int} {μe : Mem} (hV : VT μ)  (h : pR_readField μ = some (re, μe)) : CtI l en yX4_readField cX4_readField 1 2 103 [vA en 18] μ .boolean re μe (VT μe ∧ (re = 0 ∨ re = 1)) := by
  refine Tr.of false (fun h => by cases h) (by decide) (Nat.le_of_ble_eq_true rfl) (fun K Ra => ?_)
  unfold pR_readField at h
  refine r_aload_n Ra (i := 0) dX4_readField_0 rfl rfl ?_
  obtain ⟨m1, hr1, h⟩ := bd h
  refine q_callVV Ra (c_pR_pass hV hr1) mw_X4_pass mi_X4_pass t18 rfl rfl rfl rfl rfl k_X4_102 rfl rfl dX4_readField_1 (fun ok1 => ?_)
  refine r_aload_n Ra (i := 0) dX4_readField_4 rfl rfl ?_
  refine r_iconst Ra dX4_readField_5 ?_
  refine r_bipush Ra dX4_readField_6 rfl ?_
  obtain ⟨⟨r8, m8⟩, hr8, h⟩ := bd h
  refine q_callVI Ra (c_pR_takeNumber ok1 (Rk rfl) (Rk rfl) hr8) mw_X4_takeNumber mi_X4_takeNumber t18 rfl rfl rfl rfl rfl k_X4_105 rfl rfl dX4_readField_8 (fun ok8 => ?_)
  obtain ⟨hV8, ok8⟩ := ok8
  refine r_if_ne Ra 16 dX4_readField_11 (inR_01 ok8) rfl (fun hc => ?_) (fun hc => ?_)
  · replace h := ineg hc h
    refine r_aload_n Ra (i := 0) dX4_readField_16 rfl rfl ?_
    refine q_getA Ra (b := 19) f_X4_12 t18 rfl rfl rfl (hV8.ref t18 rfl (by decide)) (by decide) dX4_readField_17 ?_
    refine r_aload_n Ra (i := 0) dX4_readField_20 rfl rfl ?_
    obtain ⟨r21, hr21, h⟩ := bd h
    refine q_callVI Ra (c_pR_lastValue hV8 hr21) mw_X4_lastValue mi_X4_lastValue t18 rfl rfl rfl rfl rfl k_X4_109 rfl rfl dX4_readField_21 (fun ok21 => ?_)
    obtain ⟨m24, em24, h⟩ := bv h
    have hm24 : VT m24 := eqV em24 (hV8.setI t19 rfl ok21)
    refine q_putI Ra f_X4_113 p_X3_0 t19 rfl rfl rfl em24 dX4_readField_24 ?_
    refine r_aload_n Ra (i := 0) dX4_readField_27 rfl rfl ?_
    refine r_iconst Ra dX4_readField_28 ?_
    obtain ⟨⟨r29, m29⟩, hr29, h⟩ := bd h
    refine q_callVI Ra (c_pR_take hm24 (Rk rfl) hr29) mw_X4_take mi_X4_take t18 rfl rfl rfl rfl rfl k_X4_72 rfl rfl dX4_readField_29 (fun ok29 => ?_)
    obtain ⟨hV29, ok29⟩ := ok29
    refine r_if_eq Ra 45 dX4_readField_32 (inR_01 ok29) rfl (fun hc => ?_) (fun hc => ?_)
    · replace h := ipos hc h
      refine r_iconst Ra dX4_readField_45 ?_
      cases h
      exact r_zret Ra (Or.inl rfl) ⟨hV29, (Or.inl rfl)⟩ dX4_readField_46
    · replace h := ineg hc h
      refine r_aload_n Ra (i := 0) dX4_readField_35 rfl rfl ?_
      refine r_iconst Ra dX4_readField_36 ?_
      refine r_bipush Ra dX4_readField_37 rfl ?_
      obtain ⟨⟨r39, m39⟩, hr39, h⟩ := bd h
      refine q_callVI Ra (c_pR_takeNumber hV29 (Rk rfl) (Rk rfl) hr39) mw_X4_takeNumber mi_X4_takeNumber t18 rfl rfl rfl rfl rfl k_X4_105 rfl rfl dX4_readField_39 (fun ok39 => ?_)
      obtain ⟨hV39, ok39⟩ := ok39
      refine r_if_ne Ra 47 dX4_readField_42 (inR_01 ok39) rfl (fun hc => ?_) (fun hc => ?_)
      · replace h := ineg hc h
        refine r_aload_n Ra (i := 0) dX4_readField_47 rfl rfl ?_
        refine q_getA Ra (b := 19) f_X4_12 t18 rfl rfl rfl (hV39.ref t18 rfl (by decide)) (by decide) dX4_readField_48 ?_
        refine r_aload_n Ra (i := 0) dX4_readField_51 rfl rfl ?_
        obtain ⟨r52, hr52, h⟩ := bd h
        refine q_callVI Ra (c_pR_lastValue hV39 hr52) mw_X4_lastValue mi_X4_lastValue t18 rfl rfl rfl rfl rfl k_X4_109 rfl rfl dX4_readField_52 (fun ok52 => ?_)
        obtain ⟨m55, em55, h⟩ := bv h
        have hm55 : VT m55 := eqV em55 (hV39.setI t19 rfl ok52)
        refine q_putI Ra f_X4_116 p_X3_1 t19 rfl rfl rfl em55 dX4_readField_55 ?_
        refine r_aload_n Ra (i := 0) dX4_readField_58 rfl rfl ?_
        refine q_getA Ra (b := 19) f_X4_12 t18 rfl rfl rfl (hm55.ref t18 rfl (by decide)) (by decide) dX4_readField_59 ?_
        refine r_aload_n Ra (i := 0) dX4_readField_62 rfl rfl ?_
        refine q_getA Ra (b := 19) f_X4_12 t18 rfl rfl rfl (hm55.ref t18 rfl (by decide)) (by decide) dX4_readField_63 ?_
        refine q_getI Ra (x := m55 19 0) f_X4_113 t19 rfl rfl rfl rfl dX4_readField_66 ?_
        refine r_aload_n Ra (i := 0) dX4_readField_69 rfl rfl ?_
        refine q_getA Ra (b := 19) f_X4_12 t18 rfl rfl rfl (hm55.ref t18 rfl (by decide)) (by decide) dX4_readField_70 ?_
        refine q_getI Ra (x := m55 19 1) f_X4_116 t19 rfl rfl rfl rfl dX4_readField_73 ?_
        refine r_imul Ra dX4_readField_76 ?_
        obtain ⟨m77, em77, h⟩ := bv h
        have hm77 : VT m77 := eqV em77 (hm55.setI t19 rfl (inR_32 _))
        refine q_putI Ra f_X4_119 p_X3_2 t19 rfl rfl rfl em77 dX4_readField_77 ?_
        refine r_iconst Ra dX4_readField_80 ?_
        cases h
        exact r_zret Ra (Or.inr rfl) ⟨hm77, (Or.inr rfl)⟩ dX4_readField_81
      · replace h := ipos hc h
        refine r_iconst Ra dX4_readField_45 ?_
        cases h
        exact r_zret Ra (Or.inl rfl) ⟨hV39, (Or.inl rfl)⟩ dX4_readField_46
  · replace h := ipos hc h
    refine r_iconst Ra dX4_readField_14 ?_
    cases h
    exact r_zret Ra (Or.inl rfl) ⟨hV8, (Or.inl rfl)⟩ dX4_readField_15
noncomputable def pR_isTimes (μ : Mem) (x0 : Int) : Option (Int) := if x0 = 42 then some (1) else if x0 = 47 then some (1) else if x0 = 37 then some (1) else some (0)
set_option maxHeartbeats 4000000 in
theorem c_pR_isTimes {l : Launch} {en : En} {μ : Mem} {x0 : Int} {re : Int} (hV : VT μ) (hx0 : inR x0) (h : pR_isTimes μ x0 = some re) : CtI l en yX4_isTimes cX4_isTimes 1 0 60 [vI x0] μ .boolean re μ ((re = 0 ∨ re = 1)) := by
  refine Tr.of false (fun h => by cases h) (by decide) (Nat.le_of_ble_eq_true rfl) (fun K Ra => ?_)
  unfold pR_isTimes at h
  refine r_iload_n Ra (i := 0) dX4_isTimes_0 rfl rfl ?_
  refine r_bipush Ra dX4_isTimes_1 rfl ?_
  refine r_icmp_eq Ra 18 dX4_isTimes_3 hx0 (Rk rfl) rfl (fun hc => ?_) (fun hc => ?_)
  · replace h := ipos hc h
    refine r_iconst Ra dX4_isTimes_18 ?_
    refine r_goto Ra 23 dX4_isTimes_19 rfl ?_
    cases h
    exact r_zret Ra (Or.inr rfl) (Or.inr rfl) dX4_isTimes_23
  · replace h := ineg hc h
    refine r_iload_n Ra (i := 0) dX4_isTimes_6 rfl rfl ?_
    refine r_bipush Ra dX4_isTimes_7 rfl ?_
    refine r_icmp_eq Ra 18 dX4_isTimes_9 hx0 (Rk rfl) rfl (fun hc => ?_) (fun hc => ?_)
    · replace h := ipos hc h
      refine r_iconst Ra dX4_isTimes_18 ?_
      refine r_goto Ra 23 dX4_isTimes_19 rfl ?_
      cases h
      exact r_zret Ra (Or.inr rfl) (Or.inr rfl) dX4_isTimes_23
    · replace h := ineg hc h
      refine r_iload_n Ra (i := 0) dX4_isTimes_12 rfl rfl ?_
      refine r_bipush Ra dX4_isTimes_13 rfl ?_
      refine r_icmp_ne Ra 22 dX4_isTimes_15 hx0 (Rk rfl) rfl (fun hc => ?_) (fun hc => ?_)
      · replace h := ineg hc h
        refine r_iconst Ra dX4_isTimes_22 ?_
        cases h
        exact r_zret Ra (Or.inl rfl) (Or.inl rfl) dX4_isTimes_23
      · replace h := ipos hc h
        refine r_iconst Ra dX4_isTimes_18 ?_
        refine r_goto Ra 23 dX4_isTimes_19 rfl ?_
        cases h
        exact r_zret Ra (Or.inr rfl) (Or.inr rfl) dX4_isTimes_23
noncomputable def pR_closes (μ : Mem) (x1 : Int) : Option (Int × Mem) := if 0 ≤ μ 18 7 ∧ μ 18 7 < 1601 then if μ 35 (μ 18 7) = x1 then (some (mset μ 18 8 (w32 ((μ 18 8) - 1)))).bind fun m25 => (pR_pass m25).bind fun m29 => some (1, m29) else (pR_astray μ).bind fun (r14, m14) => some (r14, m14) else none
set_option maxHeartbeats 4000000 in
theorem c_pR_closes {l : Launch} {en : En} {μ : Mem} {x1 : Int} {re : Int} {μe : Mem} (hV : VT μ) (hx1 : inR x1) (h : pR_closes μ x1 = some (re, μe)) : CtI l en yX4_closes cX4_closes 2 1 80 [vA en 18, vI x1] μ .boolean re μe (VT μe ∧ (re = 0 ∨ re = 1)) := by
  refine Tr.of false (fun h => by cases h) (by decide) (Nat.le_of_ble_eq_true rfl) (fun K Ra => ?_)
  unfold pR_closes at h
  refine r_aload_n Ra (i := 0) dX4_closes_0 rfl rfl ?_
  refine q_getA Ra (b := 35) f_X4_22 t18 rfl rfl rfl (hV.ref t18 rfl (by decide)) (by decide) dX4_closes_1 ?_
  refine r_aload_n Ra (i := 0) dX4_closes_4 rfl rfl ?_
  refine q_getI Ra (x := μ 18 7) f_X4_42 t18 rfl rfl rfl rfl dX4_closes_5 ?_
  obtain ⟨gu8, h⟩ := gd h
  refine q_iald Ra t35 l35 gu8 dX4_closes_8 ?_
  refine r_iload_n Ra (i := 1) dX4_closes_9 rfl rfl ?_
  refine r_icmp_eq Ra 18 dX4_closes_10 (hV.int t35 (kd20 _)) hx1 rfl (fun hc => ?_) (fun hc => ?_)
  · replace h := ipos hc h
    refine r_aload_n Ra (i := 0) dX4_closes_18 rfl rfl ?_
    refine r_dupA Ra dX4_closes_19 ?_
    refine q_getI Ra (x := μ 18 8) f_X4_45 t18 rfl rfl rfl rfl dX4_closes_20 ?_
    refine r_iconst Ra dX4_closes_23 ?_
    refine r_isub Ra dX4_closes_24 ?_
    obtain ⟨m25, em25, h⟩ := bv h
    have hm25 : VT m25 := eqV em25 (hV.setI t18 rfl (inR_32 _))
    refine q_putI Ra f_X4_45 p_X4_8 t18 rfl rfl rfl em25 dX4_closes_25 ?_
    refine r_aload_n Ra (i := 0) dX4_closes_28 rfl rfl ?_
    obtain ⟨m29, hr29, h⟩ := bd h
    refine q_callVV Ra (c_pR_pass hm25 hr29) mw_X4_pass mi_X4_pass t18 rfl rfl rfl rfl rfl k_X4_102 rfl rfl dX4_closes_29 (fun ok29 => ?_)
    refine r_iconst Ra dX4_closes_32 ?_
    cases h
    exact r_zret Ra (Or.inr rfl) ⟨ok29, (Or.inr rfl)⟩ dX4_closes_33
  · replace h := ineg hc h
    refine r_aload_n Ra (i := 0) dX4_closes_13 rfl rfl ?_
    obtain ⟨⟨r14, m14⟩, hr14, h⟩ := bd h
    refine q_callVI Ra (c_pR_astray hV hr14) mw_X4_astray mi_X4_astray t18 rfl rfl rfl rfl rfl k_X4_75 rfl rfl dX4_closes_14 (fun ok14 => ?_)
    obtain ⟨hV14, ok14⟩ := ok14
    cases h
    exact r_zret Ra ok14 ⟨hV14, ok14⟩ dX4_closes_17
noncomputable def pR_opens (μ : Mem) (x1 : Int) : Option (Int × Mem) := if 0 ≤ μ 18 7 ∧ μ 18 7 < 1601 then if μ 35 (μ 18 7) = x1 then if μ 18 8 < 7 then (some (mset μ 18 8 (w32 ((μ 18 8) + 1)))).bind fun m40 => (pR_pass m40).bind fun m44 => some (1, m44) else (pR_wrong μ 5).bind fun (r29, m29) => some (r29, m29) else (pR_astray μ).bind fun (r14, m14) => some (r14, m14) else none
set_option maxHeartbeats 4000000 in
theorem c_pR_opens {l : Launch} {en : En} {μ : Mem} {x1 : Int} {re : Int} {μe : Mem} (hV : VT μ) (hx1 : inR x1) (h : pR_opens μ x1 = some (re, μe)) : CtI l en yX4_opens cX4_opens 2 1 81 [vA en 18, vI x1] μ .boolean re μe (VT μe ∧ (re = 0 ∨ re = 1)) := by
  refine Tr.of false (fun h => by cases h) (by decide) (Nat.le_of_ble_eq_true rfl) (fun K Ra => ?_)
  unfold pR_opens at h
  refine r_aload_n Ra (i := 0) dX4_opens_0 rfl rfl ?_
  refine q_getA Ra (b := 35) f_X4_22 t18 rfl rfl rfl (hV.ref t18 rfl (by decide)) (by decide) dX4_opens_1 ?_
  refine r_aload_n Ra (i := 0) dX4_opens_4 rfl rfl ?_
  refine q_getI Ra (x := μ 18 7) f_X4_42 t18 rfl rfl rfl rfl dX4_opens_5 ?_
  obtain ⟨gu8, h⟩ := gd h
  refine q_iald Ra t35 l35 gu8 dX4_opens_8 ?_
  refine r_iload_n Ra (i := 1) dX4_opens_9 rfl rfl ?_
  refine r_icmp_eq Ra 18 dX4_opens_10 (hV.int t35 (kd20 _)) hx1 rfl (fun hc => ?_) (fun hc => ?_)
  · replace h := ipos hc h
    refine r_aload_n Ra (i := 0) dX4_opens_18 rfl rfl ?_
    refine q_getI Ra (x := μ 18 8) f_X4_45 t18 rfl rfl rfl rfl dX4_opens_19 ?_
    refine r_bipush Ra dX4_opens_22 rfl ?_
    refine r_icmp_lt Ra 33 dX4_opens_24 (hV.int t18 rfl) (Rk rfl) rfl (fun hc => ?_) (fun hc => ?_)
    · replace h := ipos hc h
      refine r_aload_n Ra (i := 0) dX4_opens_33 rfl rfl ?_
      refine r_dupA Ra dX4_opens_34 ?_
      refine q_getI Ra (x := μ 18 8) f_X4_45 t18 rfl rfl rfl rfl dX4_opens_35 ?_
      refine r_iconst Ra dX4_opens_38 ?_
      refine r_iadd Ra dX4_opens_39 ?_
      obtain ⟨m40, em40, h⟩ := bv h
      have hm40 : VT m40 := eqV em40 (hV.setI t18 rfl (inR_32 _))
      refine q_putI Ra f_X4_45 p_X4_8 t18 rfl rfl rfl em40 dX4_opens_40 ?_
      refine r_aload_n Ra (i := 0) dX4_opens_43 rfl rfl ?_
      obtain ⟨m44, hr44, h⟩ := bd h
      refine q_callVV Ra (c_pR_pass hm40 hr44) mw_X4_pass mi_X4_pass t18 rfl rfl rfl rfl rfl k_X4_102 rfl rfl dX4_opens_44 (fun ok44 => ?_)
      refine r_iconst Ra dX4_opens_47 ?_
      cases h
      exact r_zret Ra (Or.inr rfl) ⟨ok44, (Or.inr rfl)⟩ dX4_opens_48
    · replace h := ineg hc h
      refine r_aload_n Ra (i := 0) dX4_opens_27 rfl rfl ?_
      refine r_iconst Ra dX4_opens_28 ?_
      obtain ⟨⟨r29, m29⟩, hr29, h⟩ := bd h
      refine q_callVI Ra (c_pR_wrong hV (Rk rfl) hr29) mw_X4_wrong mi_X4_wrong t18 rfl rfl rfl rfl rfl k_X4_64 rfl rfl dX4_opens_29 (fun ok29 => ?_)
      obtain ⟨hV29, ok29⟩ := ok29
      cases h
      exact r_zret Ra ok29 ⟨hV29, ok29⟩ dX4_opens_32
  · replace h := ineg hc h
    refine r_aload_n Ra (i := 0) dX4_opens_13 rfl rfl ?_
    obtain ⟨⟨r14, m14⟩, hr14, h⟩ := bd h
    refine q_callVI Ra (c_pR_astray hV hr14) mw_X4_astray mi_X4_astray t18 rfl rfl rfl rfl rfl k_X4_75 rfl rfl dX4_opens_14 (fun ok14 => ?_)
    obtain ⟨hV14, ok14⟩ := ok14
    cases h
    exact r_zret Ra ok14 ⟨hV14, ok14⟩ dX4_opens_17
noncomputable def pR_tell (μ : Mem) (x1 : Int) (x2 : Int) : Option (Int × Mem) := (pU_add μ (μ 18 10) x1 x2).bind fun m6 => (pR_pass m6).bind fun m10 => some (1, m10)
set_option maxHeartbeats 4000000 in
theorem c_pR_tell {l : Launch} {en : En} {μ : Mem} {x1 : Int} {x2 : Int} {re : Int} {μe : Mem} (hV : VT μ) (hx1 : inR x1) (hx2 : inR x2) (h : pR_tell μ x1 x2 = some (re, μe)) : CtI l en yX4_tell cX4_tell 3 1 82 [vA en 18, vI x1, vI x2] μ .boolean re μe (VT μe ∧ (re = 0 ∨ re = 1)) := by
  refine Tr.of false (fun h => by cases h) (by decide) (Nat.le_of_ble_eq_true rfl) (fun K Ra => ?_)
  unfold pR_tell at h
  refine r_aload_n Ra (i := 0) dX4_tell_0 rfl rfl ?_
  refine q_getS Ra (b := μ 18 10) f_X4_36 t18 rfl rfl rfl rfl (hV.sum t18 rfl) dX4_tell_1 ?_
  refine r_iload_n Ra (i := 1) dX4_tell_4 rfl rfl ?_
  refine r_iload_n Ra (i := 2) dX4_tell_5 rfl rfl ?_
  obtain ⟨m6, hr6, h⟩ := bd h
  refine q_callVV Ra (c_pU_add hV (hV.sum t18 rfl) hx1 hx2 hr6) mw_X6_add mi_X6_add (hV.sum t18 rfl) rfl rfl rfl rfl rfl k_X4_173 rfl rfl dX4_tell_6 (fun ok6 => ?_)
  refine r_aload_n Ra (i := 0) dX4_tell_9 rfl rfl ?_
  obtain ⟨m10, hr10, h⟩ := bd h
  refine q_callVV Ra (c_pR_pass ok6 hr10) mw_X4_pass mi_X4_pass t18 rfl rfl rfl rfl rfl k_X4_102 rfl rfl dX4_tell_10 (fun ok10 => ?_)
  refine r_iconst Ra dX4_tell_13 ?_
  cases h
  exact r_zret Ra (Or.inr rfl) ⟨ok10, (Or.inr rfl)⟩ dX4_tell_14
def IHR (l : Launch) (en : En) (gs : Nat → Int → Mem → Option (Int × Mem)) (d : Nat) : Prop := (∀ (μ : Mem) (re : Int) (μe : Mem), VT μ → gs 0 0 μ = some (re, μe) → CtI l en yX4_readSum cX4_readSum 3 (3 + d) (104 + 22 * d) [vA en 18] μ .boolean re μe (VT μe ∧ (re = 0 ∨ re = 1))) ∧ (∀ (μ : Mem) (re : Int) (μe : Mem), VT μ → gs 1 0 μ = some (re, μe) → CtI l en yX4_readProduct cX4_readProduct 3 (3 + d) (104 + 22 * d) [vA en 18] μ .boolean re μe (VT μe ∧ (re = 0 ∨ re = 1))) ∧ (∀ (μ : Mem) (re : Int) (μe : Mem), VT μ → gs 2 0 μ = some (re, μe) → CtI l en yX4_readPart cX4_readPart 1 (3 + d) (104 + 22 * d) [vA en 18] μ .boolean re μe (VT μe ∧ (re = 0 ∨ re = 1))) ∧ (∀ (μ : Mem) (x1 : Int) (re : Int) (μe : Mem), VT μ → (inR x1) → gs 3 x1 μ = some (re, μe) → CtI l en yX4_readPair cX4_readPair 2 (3 + d) (104 + 22 * d) [vA en 18, vI x1] μ .boolean re μe (VT μe ∧ (re = 0 ∨ re = 1))) ∧ (∀ (μ : Mem) (re : Int) (μe : Mem), VT μ → gs 4 0 μ = some (re, μe) → CtI l en yX4_readChoice cX4_readChoice 1 (3 + d) (104 + 22 * d) [vA en 18] μ .boolean re μe (VT μe ∧ (re = 0 ∨ re = 1))) ∧ (∀ (μ : Mem) (re : Int) (μe : Mem), VT μ → gs 5 0 μ = some (re, μe) → CtI l en yX4_readTest cX4_readTest 2 (3 + d) (104 + 22 * d) [vA en 18] μ .boolean re μe (VT μe ∧ (re = 0 ∨ re = 1))) ∧ (∀ (μ : Mem) (re : Int) (μe : Mem), VT μ → gs 6 0 μ = some (re, μe) → CtI l en yX4_readBoth cX4_readBoth 2 (3 + d) (104 + 22 * d) [vA en 18] μ .boolean re μe (VT μe ∧ (re = 0 ∨ re = 1))) ∧ (∀ (μ : Mem) (re : Int) (μe : Mem), VT μ → gs 7 0 μ = some (re, μe) → CtI l en yX4_readFact cX4_readFact 1 (3 + d) (104 + 22 * d) [vA en 18] μ .boolean re μe (VT μe ∧ (re = 0 ∨ re = 1))) ∧ (∀ (μ : Mem) (re : Int) (μe : Mem), VT μ → gs 8 0 μ = some (re, μe) → CtI l en yX4_readNot cX4_readNot 1 (3 + d) (104 + 22 * d) [vA en 18] μ .boolean re μe (VT μe ∧ (re = 0 ∨ re = 1))) ∧ (∀ (μ : Mem) (re : Int) (μe : Mem), VT μ → gs 9 0 μ = some (re, μe) → CtI l en yX4_readComparison cX4_readComparison 2 (3 + d) (104 + 22 * d) [vA en 18] μ .boolean re μe (VT μe ∧ (re = 0 ∨ re = 1)))
noncomputable def pR_readSum_L11b (N : Nat) (gs : Nat → Int → Mem → Option (Int × Mem))  (k : Mem → Option (Int × Mem)) (self : Int → Mem → Option (Int × Mem)) (x1 : Int) (μ : Mem) : Option (Int × Mem) := if x1 < 1600 then if 0 ≤ μ 18 7 ∧ μ 18 7 < 1601 then jn (α := Unit → Option (Int × Mem)) (fun (_ : Unit) => if 0 ≤ μ 18 7 ∧ μ 18 7 < 1601 then (some (if μ 35 (μ 18 7) = 43 then 4 else 5 : Int)).bind fun ys0_65 => (pR_pass μ).bind fun m67 => (gs 1 0 m67).bind fun (r71, m71) => if r71 = 0 then some (0, m71) else (pU_add m71 (m71 18 10) ys0_65 0).bind fun m85 => (some (w32 (x1 + 1) : Int)).bind fun x1_88 => self x1_88 m85 else none) (fun (j46 : Unit → Option (Int × Mem)) => if μ 35 (μ 18 7) = 43 then j46 () else if 0 ≤ μ 18 7 ∧ μ 18 7 < 1601 then if μ 35 (μ 18 7) = 45 then j46 () else k μ else none) else none else k μ
noncomputable def pR_readSum_L11 (N : Nat) (gs : Nat → Int → Mem → Option (Int × Mem))  (k : Mem → Option (Int × Mem)) (n : Nat) : Int → Mem → Option (Int × Mem) := lpF (fun _ _ => none) (pR_readSum_L11b N gs k) n
noncomputable def pR_readSum_b (N : Nat) (gs : Nat → Int → Mem → Option (Int × Mem)) (μ : Mem)  : Option (Int × Mem) := (gs 1 0 μ).bind fun (r1, m1) => if r1 = 0 then some (0, m1) else pR_readSum_L11 N gs (fun n94 => some (1, n94)) N 0 m1
theorem k_pR_readSum_L11 {l : Launch} {en : En} {re : Int} {μe : Mem} {N : Nat} {gs : Nat → Int → Mem → Option (Int × Mem)} {d : Nat} (IH : IHR l en gs d)  {k : Mem → Option (Int × Mem)} {K : KT} (Ra : Ru false (some (some .boolean, some (vI re), nCells, μe, 0, 0, (VT μe ∧ (re = 0 ∨ re = 1)))) l en cX4_readSum yX4_readSum.cls 3 (rmN (3 + (d + 1)) (104 + 22 * (d + 1))) K)  (hk : ∀  (μ9 : Mem), k μ9 = some (re, μe) → VT μ9 → ∀ L9 : Lo, K ZN 94 L9 [] μ9) : ∀ (n : Nat) (x1 : Int) (μ : Mem) (L : Lo), pR_readSum_L11 N gs k n x1 μ = some (re, μe) → inR x1 → VT μ → L 0 = some (vA en 18) → L 1 = some (vI x1) → K ZN 11 L [] μ := by
  intro n
  induction n with
  | zero => intro x1 μ L h; cases h
  | succ n ih =>
    intro x1 μ L h hx1 hV hL0 hL1
    replace h : pR_readSum_L11b N gs k (pR_readSum_L11 N gs k n) x1 μ = some (re, μe) := h
    unfold pR_readSum_L11b at h
    refine r_iload_n Ra (i := 1) dX4_readSum_11 rfl hL1 ?_
    refine r_sipush Ra dX4_readSum_12 rfl ?_
    refine r_icmp_ge Ra 94 dX4_readSum_15 hx1 (Rk rfl) rfl (fun hc => ?_) (fun hc => ?_)
    · replace h := ineg hc h
      exact hk μ h  hV _ 
    · replace h := ipos hc h
      refine r_aload_n Ra (i := 0) dX4_readSum_18 rfl hL0 ?_
      refine q_getA Ra (b := 35) f_X4_22 t18 rfl rfl rfl (hV.ref t18 rfl (by decide)) (by decide) dX4_readSum_19 ?_
      refine r_aload_n Ra (i := 0) dX4_readSum_22 rfl hL0 ?_
      refine q_getI Ra (x := μ 18 7) f_X4_42 t18 rfl rfl rfl rfl dX4_readSum_23 ?_
      obtain ⟨gu26, h⟩ := gd h
      refine q_iald Ra t35 l35 gu26 dX4_readSum_26 ?_
      refine r_bipush Ra dX4_readSum_27 rfl ?_
      obtain ⟨j46, ej46, h⟩ := jn_elim h
      have hJ46 : j46 () = some (re, μe) → ∀ L9 : Lo, L9 0 = some (vA en 18) → L9 1 = some (vI x1) → K ZN 46 L9 [] μ := by
        intro h L9 f46_0 f46_1
        rw [ej46] at h
        refine r_aload_n Ra (i := 0) dX4_readSum_46 rfl f46_0 ?_
        refine q_getA Ra (b := 35) f_X4_22 t18 rfl rfl rfl (hV.ref t18 rfl (by decide)) (by decide) dX4_readSum_47 ?_
        refine r_aload_n Ra (i := 0) dX4_readSum_50 rfl f46_0 ?_
        refine q_getI Ra (x := μ 18 7) f_X4_42 t18 rfl rfl rfl rfl dX4_readSum_51 ?_
        obtain ⟨gu54, h⟩ := gd h
        refine q_iald Ra t35 l35 gu54 dX4_readSum_54 ?_
        refine r_bipush Ra dX4_readSum_55 rfl ?_
        obtain ⟨ys0_65, eys0_65, h⟩ := bv h
        have hJ : inR ys0_65 → ∀ L9 : Lo, L9 0 = some (vA en 18) → L9 1 = some (vI x1) → K ZN 65 L9 [vI ys0_65] μ := by
          intro iys0_65 L9 f65_0 f65_1
          refine q_istore_n Ra 2 dX4_readSum_65 rfl rfl rfl ?_
          refine r_aload_n Ra (i := 0) dX4_readSum_66 rfl f65_0 ?_
          obtain ⟨m67, hr67, h⟩ := bd h
          refine q_callVV_g Ra (c_pR_pass hV hr67) mw_X4_pass mi_X4_pass t18 rfl rfl rfl rfl rfl k_X4_102 (by omega) (by omega) rfl dX4_readSum_67 (fun ok67 => ?_)
          refine r_aload_n Ra (i := 0) dX4_readSum_70 rfl f65_0 ?_
          obtain ⟨⟨r71, m71⟩, hr71, h⟩ := bd h
          refine q_callVI_g Ra (IH.2.1 _ _ _ ok67 hr71) mw_X4_readProduct mi_X4_readProduct t18 rfl rfl rfl rfl rfl k_X4_170 (by omega) (by omega) rfl dX4_readSum_71 (fun ok71 => ?_)
          obtain ⟨hV71, ok71⟩ := ok71
          refine r_if_ne Ra 79 dX4_readSum_74 (inR_01 ok71) rfl (fun hc => ?_) (fun hc => ?_)
          · replace h := ineg hc h
            refine r_aload_n Ra (i := 0) dX4_readSum_79 rfl f65_0 ?_
            refine q_getS Ra (b := m71 18 10) f_X4_36 t18 rfl rfl rfl rfl (hV71.sum t18 rfl) dX4_readSum_80 ?_
            refine r_iload_n Ra (i := 2) dX4_readSum_83 rfl rfl ?_
            refine r_iconst Ra dX4_readSum_84 ?_
            obtain ⟨m85, hr85, h⟩ := bd h
            refine q_callVV_g Ra (c_pU_add hV71 (hV71.sum t18 rfl) iys0_65 (Rk rfl) hr85) mw_X6_add mi_X6_add (hV71.sum t18 rfl) rfl rfl rfl rfl rfl k_X4_173 (by omega) (by omega) rfl dX4_readSum_85 (fun ok85 => ?_)
            obtain ⟨x1_88, ex1_88, h⟩ := bv h
            have ix1_88 : inR x1_88 := eqR ex1_88 (inR_32 _)
            refine q_iinc Ra dX4_readSum_88 f65_1 ex1_88 ?_
            refine r_goto Ra 11 dX4_readSum_91 rfl ?_
            exact ih x1_88 m85 _ h ix1_88 ok85 f65_0 rfl
          · replace h := ipos hc h
            refine r_iconst Ra dX4_readSum_77 ?_
            cases h
            exact r_zret Ra (Or.inl rfl) ⟨hV71, (Or.inl rfl)⟩ dX4_readSum_78
        refine r_icmp_ne Ra 64 dX4_readSum_57 (hV.int t35 (kd20 _)) (Rk rfl) rfl (fun hc => ?_) (fun hc => ?_)
        · replace eys0_65 := eys0_65.trans (if_neg hc)
          refine r_iconst Ra dX4_readSum_64 ?_
          subst eys0_65
          exact hJ (Rk rfl) _ f46_0 f46_1
        · replace eys0_65 := eys0_65.trans (if_pos hc)
          refine r_iconst Ra dX4_readSum_60 ?_
          refine r_goto Ra 65 dX4_readSum_61 rfl ?_
          subst eys0_65
          exact hJ (Rk rfl) _ f46_0 f46_1
      refine r_icmp_eq Ra 46 dX4_readSum_29 (hV.int t35 (kd20 _)) (Rk rfl) rfl (fun hc => ?_) (fun hc => ?_)
      · replace h := ipos hc h
        exact hJ46 h  _ hL0 hL1
      · replace h := ineg hc h
        refine r_aload_n Ra (i := 0) dX4_readSum_32 rfl hL0 ?_
        refine q_getA Ra (b := 35) f_X4_22 t18 rfl rfl rfl (hV.ref t18 rfl (by decide)) (by decide) dX4_readSum_33 ?_
        refine r_aload_n Ra (i := 0) dX4_readSum_36 rfl hL0 ?_
        refine q_getI Ra (x := μ 18 7) f_X4_42 t18 rfl rfl rfl rfl dX4_readSum_37 ?_
        obtain ⟨gu40, h⟩ := gd h
        refine q_iald Ra t35 l35 gu40 dX4_readSum_40 ?_
        refine r_bipush Ra dX4_readSum_41 rfl ?_
        refine r_icmp_ne Ra 94 dX4_readSum_43 (hV.int t35 (kd20 _)) (Rk rfl) rfl (fun hc => ?_) (fun hc => ?_)
        · replace h := ineg hc h
          exact hk μ h  hV _ 
        · replace h := ipos hc h
          exact hJ46 h  _ hL0 hL1
set_option maxHeartbeats 4000000 in
theorem b_pR_readSum {l : Launch} {en : En} {N d : Nat} {gs : Nat → Int → Mem → Option (Int × Mem)} (IH : IHR l en gs d) {μ : Mem}  {re : Int} {μe : Mem} (hV : VT μ)  (h : pR_readSum_b N gs μ  = some (re, μe)) : CtI l en yX4_readSum cX4_readSum 3 (3 + (d + 1)) (104 + 22 * (d + 1)) [vA en 18] μ .boolean re μe (VT μe ∧ (re = 0 ∨ re = 1)) := by
  refine Tr.of false (fun h => by cases h) (by decide) (Nat.le_of_ble_eq_true rfl) (fun K Ra => ?_)
  unfold pR_readSum_b at h
  refine r_aload_n Ra (i := 0) dX4_readSum_0 rfl rfl ?_
  obtain ⟨⟨r1, m1⟩, hr1, h⟩ := bd h
  refine q_callVI_g Ra (IH.2.1 _ _ _ hV hr1) mw_X4_readProduct mi_X4_readProduct t18 rfl rfl rfl rfl rfl k_X4_170 (by omega) (by omega) rfl dX4_readSum_1 (fun ok1 => ?_)
  obtain ⟨hV1, ok1⟩ := ok1
  refine r_if_ne Ra 9 dX4_readSum_4 (inR_01 ok1) rfl (fun hc => ?_) (fun hc => ?_)
  · replace h := ineg hc h
    refine r_iconst Ra dX4_readSum_9 ?_
    refine q_istore_n Ra 1 dX4_readSum_10 rfl rfl rfl ?_
    refine k_pR_readSum_L11 IH Ra ?_ _ _ _ _ h (Rk rfl) hV1 rfl rfl
    intro n94 h hn94 L9 
    refine r_iconst Ra dX4_readSum_94 ?_
    cases h
    exact r_zret Ra (Or.inr rfl) ⟨hn94, (Or.inr rfl)⟩ dX4_readSum_95
  · replace h := ipos hc h
    refine r_iconst Ra dX4_readSum_7 ?_
    cases h
    exact r_zret Ra (Or.inl rfl) ⟨hV1, (Or.inl rfl)⟩ dX4_readSum_8
noncomputable def pR_readProduct_L11b (N : Nat) (gs : Nat → Int → Mem → Option (Int × Mem))  (k : Mem → Option (Int × Mem)) (self : Int → Mem → Option (Int × Mem)) (x1 : Int) (μ : Mem) : Option (Int × Mem) := if x1 < 1600 then if 0 ≤ μ 18 7 ∧ μ 18 7 < 1601 then (pR_isTimes μ (μ 35 (μ 18 7))).bind fun r27 => if r27 = 0 then k μ else if 0 ≤ μ 18 7 ∧ μ 18 7 < 1601 then (if μ 35 (μ 18 7) = 42 then some ((6 : Int)) else if 0 ≤ μ 18 7 ∧ μ 18 7 < 1601 then if μ 35 (μ 18 7) = 47 then some ((7 : Int)) else some ((8 : Int)) else none).bind fun ys0_73 => (pR_pass μ).bind fun m75 => (gs 2 0 m75).bind fun (r79, m79) => if r79 = 0 then some (0, m79) else (pU_add m79 (m79 18 10) ys0_73 0).bind fun m93 => (some (w32 (x1 + 1) : Int)).bind fun x1_96 => self x1_96 m93 else none else none else k μ
noncomputable def pR_readProduct_L11 (N : Nat) (gs : Nat → Int → Mem → Option (Int × Mem))  (k : Mem → Option (Int × Mem)) (n : Nat) : Int → Mem → Option (Int × Mem) := lpF (fun _ _ => none) (pR_readProduct_L11b N gs k) n
noncomputable def pR_readProduct_b (N : Nat) (gs : Nat → Int → Mem → Option (Int × Mem)) (μ : Mem)  : Option (Int × Mem) := (gs 2 0 μ).bind fun (r1, m1) => if r1 = 0 then some (0, m1) else pR_readProduct_L11 N gs (fun n102 => some (1, n102)) N 0 m1
theorem k_pR_readProduct_L11 {l : Launch} {en : En} {re : Int} {μe : Mem} {N : Nat} {gs : Nat → Int → Mem → Option (Int × Mem)} {d : Nat} (IH : IHR l en gs d)  {k : Mem → Option (Int × Mem)} {K : KT} (Ra : Ru false (some (some .boolean, some (vI re), nCells, μe, 0, 0, (VT μe ∧ (re = 0 ∨ re = 1)))) l en cX4_readProduct yX4_readProduct.cls 3 (rmN (3 + (d + 1)) (104 + 22 * (d + 1))) K)  (hk : ∀  (μ9 : Mem), k μ9 = some (re, μe) → VT μ9 → ∀ L9 : Lo, K ZN 102 L9 [] μ9) : ∀ (n : Nat) (x1 : Int) (μ : Mem) (L : Lo), pR_readProduct_L11 N gs k n x1 μ = some (re, μe) → inR x1 → VT μ → L 0 = some (vA en 18) → L 1 = some (vI x1) → K ZN 11 L [] μ := by
  intro n
  induction n with
  | zero => intro x1 μ L h; cases h
  | succ n ih =>
    intro x1 μ L h hx1 hV hL0 hL1
    replace h : pR_readProduct_L11b N gs k (pR_readProduct_L11 N gs k n) x1 μ = some (re, μe) := h
    unfold pR_readProduct_L11b at h
    refine r_iload_n Ra (i := 1) dX4_readProduct_11 rfl hL1 ?_
    refine r_sipush Ra dX4_readProduct_12 rfl ?_
    refine r_icmp_ge Ra 102 dX4_readProduct_15 hx1 (Rk rfl) rfl (fun hc => ?_) (fun hc => ?_)
    · replace h := ineg hc h
      exact hk μ h  hV _ 
    · replace h := ipos hc h
      refine r_aload_n Ra (i := 0) dX4_readProduct_18 rfl hL0 ?_
      refine q_getA Ra (b := 35) f_X4_22 t18 rfl rfl rfl (hV.ref t18 rfl (by decide)) (by decide) dX4_readProduct_19 ?_
      refine r_aload_n Ra (i := 0) dX4_readProduct_22 rfl hL0 ?_
      refine q_getI Ra (x := μ 18 7) f_X4_42 t18 rfl rfl rfl rfl dX4_readProduct_23 ?_
      obtain ⟨gu26, h⟩ := gd h
      refine q_iald Ra t35 l35 gu26 dX4_readProduct_26 ?_
      obtain ⟨r27, hr27, h⟩ := bd h
      refine q_callSI_g Ra (c_pR_isTimes hV (hV.int t35 (kd20 _)) hr27) mw_X4_isTimes ms_X4_isTimes rfl rfl k_X4_180 (by omega) (by omega) rfl dX4_readProduct_27 (fun ok27 => ?_)
      refine r_if_eq Ra 102 dX4_readProduct_30 (inR_01 ok27) rfl (fun hc => ?_) (fun hc => ?_)
      · replace h := ipos hc h
        exact hk μ h  hV _ 
      · replace h := ineg hc h
        refine r_aload_n Ra (i := 0) dX4_readProduct_33 rfl hL0 ?_
        refine q_getA Ra (b := 35) f_X4_22 t18 rfl rfl rfl (hV.ref t18 rfl (by decide)) (by decide) dX4_readProduct_34 ?_
        refine r_aload_n Ra (i := 0) dX4_readProduct_37 rfl hL0 ?_
        refine q_getI Ra (x := μ 18 7) f_X4_42 t18 rfl rfl rfl rfl dX4_readProduct_38 ?_
        obtain ⟨gu41, h⟩ := gd h
        refine q_iald Ra t35 l35 gu41 dX4_readProduct_41 ?_
        refine r_bipush Ra dX4_readProduct_42 rfl ?_
        obtain ⟨ys0_73, hj73, h⟩ := bd h
        have hJ : inR ys0_73 → ∀ L9 : Lo, L9 0 = some (vA en 18) → L9 1 = some (vI x1) → K ZN 73 L9 [vI ys0_73] μ := by
          intro iys0_73 L9 f73_0 f73_1
          refine q_istore_n Ra 2 dX4_readProduct_73 rfl rfl rfl ?_
          refine r_aload_n Ra (i := 0) dX4_readProduct_74 rfl f73_0 ?_
          obtain ⟨m75, hr75, h⟩ := bd h
          refine q_callVV_g Ra (c_pR_pass hV hr75) mw_X4_pass mi_X4_pass t18 rfl rfl rfl rfl rfl k_X4_102 (by omega) (by omega) rfl dX4_readProduct_75 (fun ok75 => ?_)
          refine r_aload_n Ra (i := 0) dX4_readProduct_78 rfl f73_0 ?_
          obtain ⟨⟨r79, m79⟩, hr79, h⟩ := bd h
          refine q_callVI_g Ra (IH.2.2.1 _ _ _ ok75 hr79) mw_X4_readPart mi_X4_readPart t18 rfl rfl rfl rfl rfl k_X4_177 (by omega) (by omega) rfl dX4_readProduct_79 (fun ok79 => ?_)
          obtain ⟨hV79, ok79⟩ := ok79
          refine r_if_ne Ra 87 dX4_readProduct_82 (inR_01 ok79) rfl (fun hc => ?_) (fun hc => ?_)
          · replace h := ineg hc h
            refine r_aload_n Ra (i := 0) dX4_readProduct_87 rfl f73_0 ?_
            refine q_getS Ra (b := m79 18 10) f_X4_36 t18 rfl rfl rfl rfl (hV79.sum t18 rfl) dX4_readProduct_88 ?_
            refine r_iload_n Ra (i := 2) dX4_readProduct_91 rfl rfl ?_
            refine r_iconst Ra dX4_readProduct_92 ?_
            obtain ⟨m93, hr93, h⟩ := bd h
            refine q_callVV_g Ra (c_pU_add hV79 (hV79.sum t18 rfl) iys0_73 (Rk rfl) hr93) mw_X6_add mi_X6_add (hV79.sum t18 rfl) rfl rfl rfl rfl rfl k_X4_173 (by omega) (by omega) rfl dX4_readProduct_93 (fun ok93 => ?_)
            obtain ⟨x1_96, ex1_96, h⟩ := bv h
            have ix1_96 : inR x1_96 := eqR ex1_96 (inR_32 _)
            refine q_iinc Ra dX4_readProduct_96 f73_1 ex1_96 ?_
            refine r_goto Ra 11 dX4_readProduct_99 rfl ?_
            exact ih x1_96 m93 _ h ix1_96 ok93 f73_0 rfl
          · replace h := ipos hc h
            refine r_iconst Ra dX4_readProduct_85 ?_
            cases h
            exact r_zret Ra (Or.inl rfl) ⟨hV79, (Or.inl rfl)⟩ dX4_readProduct_86
        replace h := hj73
        refine r_icmp_ne Ra 52 dX4_readProduct_44 (hV.int t35 (kd20 _)) (Rk rfl) rfl (fun hc => ?_) (fun hc => ?_)
        · replace h := ineg hc h
          refine r_aload_n Ra (i := 0) dX4_readProduct_52 rfl hL0 ?_
          refine q_getA Ra (b := 35) f_X4_22 t18 rfl rfl rfl (hV.ref t18 rfl (by decide)) (by decide) dX4_readProduct_53 ?_
          refine r_aload_n Ra (i := 0) dX4_readProduct_56 rfl hL0 ?_
          refine q_getI Ra (x := μ 18 7) f_X4_42 t18 rfl rfl rfl rfl dX4_readProduct_57 ?_
          obtain ⟨gu60, h⟩ := gd h
          refine q_iald Ra t35 l35 gu60 dX4_readProduct_60 ?_
          refine r_bipush Ra dX4_readProduct_61 rfl ?_
          refine r_icmp_ne Ra 71 dX4_readProduct_63 (hV.int t35 (kd20 _)) (Rk rfl) rfl (fun hc => ?_) (fun hc => ?_)
          · replace h := ineg hc h
            refine r_bipush Ra dX4_readProduct_71 rfl ?_
            cases h
            exact hJ (Rk rfl) _ hL0 hL1
          · replace h := ipos hc h
            refine r_bipush Ra dX4_readProduct_66 rfl ?_
            refine r_goto Ra 73 dX4_readProduct_68 rfl ?_
            cases h
            exact hJ (Rk rfl) _ hL0 hL1
        · replace h := ipos hc h
          refine r_bipush Ra dX4_readProduct_47 rfl ?_
          refine r_goto Ra 73 dX4_readProduct_49 rfl ?_
          cases h
          exact hJ (Rk rfl) _ hL0 hL1
set_option maxHeartbeats 4000000 in
theorem b_pR_readProduct {l : Launch} {en : En} {N d : Nat} {gs : Nat → Int → Mem → Option (Int × Mem)} (IH : IHR l en gs d) {μ : Mem}  {re : Int} {μe : Mem} (hV : VT μ)  (h : pR_readProduct_b N gs μ  = some (re, μe)) : CtI l en yX4_readProduct cX4_readProduct 3 (3 + (d + 1)) (104 + 22 * (d + 1)) [vA en 18] μ .boolean re μe (VT μe ∧ (re = 0 ∨ re = 1)) := by
  refine Tr.of false (fun h => by cases h) (by decide) (Nat.le_of_ble_eq_true rfl) (fun K Ra => ?_)
  unfold pR_readProduct_b at h
  refine r_aload_n Ra (i := 0) dX4_readProduct_0 rfl rfl ?_
  obtain ⟨⟨r1, m1⟩, hr1, h⟩ := bd h
  refine q_callVI_g Ra (IH.2.2.1 _ _ _ hV hr1) mw_X4_readPart mi_X4_readPart t18 rfl rfl rfl rfl rfl k_X4_177 (by omega) (by omega) rfl dX4_readProduct_1 (fun ok1 => ?_)
  obtain ⟨hV1, ok1⟩ := ok1
  refine r_if_ne Ra 9 dX4_readProduct_4 (inR_01 ok1) rfl (fun hc => ?_) (fun hc => ?_)
  · replace h := ineg hc h
    refine r_iconst Ra dX4_readProduct_9 ?_
    refine q_istore_n Ra 1 dX4_readProduct_10 rfl rfl rfl ?_
    refine k_pR_readProduct_L11 IH Ra ?_ _ _ _ _ h (Rk rfl) hV1 rfl rfl
    intro n102 h hn102 L9 
    refine r_iconst Ra dX4_readProduct_102 ?_
    cases h
    exact r_zret Ra (Or.inr rfl) ⟨hn102, (Or.inr rfl)⟩ dX4_readProduct_103
  · replace h := ipos hc h
    refine r_iconst Ra dX4_readProduct_7 ?_
    cases h
    exact r_zret Ra (Or.inl rfl) ⟨hV1, (Or.inl rfl)⟩ dX4_readProduct_8
noncomputable def pR_readPart_b (N : Nat) (gs : Nat → Int → Mem → Option (Int × Mem)) (μ : Mem)  : Option (Int × Mem) := if 0 ≤ μ 18 7 ∧ μ 18 7 < 1601 then if μ 35 (μ 18 7) = 2 then (pR_tell μ 1 2).bind fun (r212, m212) => some (r212, m212) else if μ 35 (μ 18 7) = 6 then if μ 18 9 = 10 then (pR_tell μ 1 6).bind fun (r282, m282) => some (r282, m282) else (pR_astray μ).bind fun (r289, m289) => some (r289, m289) else if μ 35 (μ 18 7) = 12 then (pR_tell μ 1 0).bind fun (r198, m198) => some (r198, m198) else if μ 35 (μ 18 7) = 13 then (pR_tell μ 1 1).bind fun (r205, m205) => some (r205, m205) else if μ 35 (μ 18 7) = 14 then (pR_tell μ 1 3).bind fun (r219, m219) => some (r219, m219) else if μ 35 (μ 18 7) = 15 then if μ 18 9 = 8 then (pR_astray μ).bind fun (r233, m233) => some (r233, m233) else (pR_tell μ 1 4).bind fun (r242, m242) => some (r242, m242) else if μ 35 (μ 18 7) = 16 then if μ 18 9 = 10 then (pR_tell μ 1 5).bind fun (r258, m258) => some (r258, m258) else (pR_astray μ).bind fun (r265, m265) => some (r265, m265) else if μ 35 (μ 18 7) = 17 then (gs 4 0 μ).bind fun (r339, m339) => some (r339, m339) else if μ 35 (μ 18 7) = 22 then (gs 3 9 μ).bind fun (r327, m327) => some (r327, m327) else if μ 35 (μ 18 7) = 23 then (gs 3 10 μ).bind fun (r334, m334) => some (r334, m334) else if μ 35 (μ 18 7) = 25 then if 0 ≤ μ 18 7 ∧ μ 18 7 < 1601 then (pR_tell μ 0 (μ 37 (μ 18 7))).bind fun (r191, m191) => some (r191, m191) else none else if μ 35 (μ 18 7) = 40 then (pR_opens μ 40).bind fun (r296, m296) => if r296 = 0 then some (0, m296) else (gs 0 0 m296).bind fun (r303, m303) => if r303 = 0 then some (0, m303) else (pR_closes m303 41).bind fun (r312, m312) => if r312 = 0 then some (0, m312) else some (1, m312) else (pR_astray μ).bind fun (r344, m344) => some (r344, m344) else none
set_option maxHeartbeats 4000000 in
theorem b_pR_readPart {l : Launch} {en : En} {N d : Nat} {gs : Nat → Int → Mem → Option (Int × Mem)} (IH : IHR l en gs d) {μ : Mem}  {re : Int} {μe : Mem} (hV : VT μ)  (h : pR_readPart_b N gs μ  = some (re, μe)) : CtI l en yX4_readPart cX4_readPart 1 (3 + (d + 1)) (104 + 22 * (d + 1)) [vA en 18] μ .boolean re μe (VT μe ∧ (re = 0 ∨ re = 1)) := by
  refine Tr.of false (fun h => by cases h) (by decide) (Nat.le_of_ble_eq_true rfl) (fun K Ra => ?_)
  unfold pR_readPart_b at h
  refine r_aload_n Ra (i := 0) dX4_readPart_0 rfl rfl ?_
  refine q_getA Ra (b := 35) f_X4_22 t18 rfl rfl rfl (hV.ref t18 rfl (by decide)) (by decide) dX4_readPart_1 ?_
  refine r_aload_n Ra (i := 0) dX4_readPart_4 rfl rfl ?_
  refine q_getI Ra (x := μ 18 7) f_X4_42 t18 rfl rfl rfl rfl dX4_readPart_5 ?_
  obtain ⟨gu8, h⟩ := gd h
  refine q_iald Ra t35 l35 gu8 dX4_readPart_8 ?_
  by_cases hc : μ 35 (μ 18 7) = 2
  · replace h := ipos hc h
    refine q_tableC Ra 209 dX4_readPart_9 (hV.int t35 (kd20 _)) hc rfl rfl rfl ?_
    refine r_aload_n Ra (i := 0) dX4_readPart_209 rfl rfl ?_
    refine r_iconst Ra dX4_readPart_210 ?_
    refine r_iconst Ra dX4_readPart_211 ?_
    obtain ⟨⟨r212, m212⟩, hr212, h⟩ := bd h
    refine q_callVI_g Ra (c_pR_tell hV (Rk rfl) (Rk rfl) hr212) mw_X4_tell mi_X4_tell t18 rfl rfl rfl rfl rfl k_X4_183 (by omega) (by omega) rfl dX4_readPart_212 (fun ok212 => ?_)
    obtain ⟨hV212, ok212⟩ := ok212
    cases h
    exact r_zret Ra ok212 ⟨hV212, ok212⟩ dX4_readPart_215
  · have hs9_0 := hc
    replace h := ineg hc h
    by_cases hc : μ 35 (μ 18 7) = 6
    · replace h := ipos hc h
      refine q_tableC Ra 269 dX4_readPart_9 (hV.int t35 (kd20 _)) hc rfl rfl rfl ?_
      refine r_aload_n Ra (i := 0) dX4_readPart_269 rfl rfl ?_
      refine q_getI Ra (x := μ 18 9) f_X4_161 t18 rfl rfl rfl rfl dX4_readPart_270 ?_
      refine r_bipush Ra dX4_readPart_273 rfl ?_
      refine r_icmp_ne Ra 288 dX4_readPart_275 (hV.int t18 rfl) (Rk rfl) rfl (fun hc => ?_) (fun hc => ?_)
      · replace h := ineg hc h
        refine r_aload_n Ra (i := 0) dX4_readPart_288 rfl rfl ?_
        obtain ⟨⟨r289, m289⟩, hr289, h⟩ := bd h
        refine q_callVI_g Ra (c_pR_astray hV hr289) mw_X4_astray mi_X4_astray t18 rfl rfl rfl rfl rfl k_X4_75 (by omega) (by omega) rfl dX4_readPart_289 (fun ok289 => ?_)
        obtain ⟨hV289, ok289⟩ := ok289
        cases h
        exact r_zret Ra ok289 ⟨hV289, ok289⟩ dX4_readPart_292
      · replace h := ipos hc h
        refine r_aload_n Ra (i := 0) dX4_readPart_278 rfl rfl ?_
        refine r_iconst Ra dX4_readPart_279 ?_
        refine r_bipush Ra dX4_readPart_280 rfl ?_
        obtain ⟨⟨r282, m282⟩, hr282, h⟩ := bd h
        refine q_callVI_g Ra (c_pR_tell hV (Rk rfl) (Rk rfl) hr282) mw_X4_tell mi_X4_tell t18 rfl rfl rfl rfl rfl k_X4_183 (by omega) (by omega) rfl dX4_readPart_282 (fun ok282 => ?_)
        obtain ⟨hV282, ok282⟩ := ok282
        refine r_goto Ra 292 dX4_readPart_285 rfl ?_
        cases h
        exact r_zret Ra ok282 ⟨hV282, ok282⟩ dX4_readPart_292
    · have hs9_1 := hc
      replace h := ineg hc h
      by_cases hc : μ 35 (μ 18 7) = 12
      · replace h := ipos hc h
        refine q_tableC Ra 195 dX4_readPart_9 (hV.int t35 (kd20 _)) hc rfl rfl rfl ?_
        refine r_aload_n Ra (i := 0) dX4_readPart_195 rfl rfl ?_
        refine r_iconst Ra dX4_readPart_196 ?_
        refine r_iconst Ra dX4_readPart_197 ?_
        obtain ⟨⟨r198, m198⟩, hr198, h⟩ := bd h
        refine q_callVI_g Ra (c_pR_tell hV (Rk rfl) (Rk rfl) hr198) mw_X4_tell mi_X4_tell t18 rfl rfl rfl rfl rfl k_X4_183 (by omega) (by omega) rfl dX4_readPart_198 (fun ok198 => ?_)
        obtain ⟨hV198, ok198⟩ := ok198
        cases h
        exact r_zret Ra ok198 ⟨hV198, ok198⟩ dX4_readPart_201
      · have hs9_2 := hc
        replace h := ineg hc h
        by_cases hc : μ 35 (μ 18 7) = 13
        · replace h := ipos hc h
          refine q_tableC Ra 202 dX4_readPart_9 (hV.int t35 (kd20 _)) hc rfl rfl rfl ?_
          refine r_aload_n Ra (i := 0) dX4_readPart_202 rfl rfl ?_
          refine r_iconst Ra dX4_readPart_203 ?_
          refine r_iconst Ra dX4_readPart_204 ?_
          obtain ⟨⟨r205, m205⟩, hr205, h⟩ := bd h
          refine q_callVI_g Ra (c_pR_tell hV (Rk rfl) (Rk rfl) hr205) mw_X4_tell mi_X4_tell t18 rfl rfl rfl rfl rfl k_X4_183 (by omega) (by omega) rfl dX4_readPart_205 (fun ok205 => ?_)
          obtain ⟨hV205, ok205⟩ := ok205
          cases h
          exact r_zret Ra ok205 ⟨hV205, ok205⟩ dX4_readPart_208
        · have hs9_3 := hc
          replace h := ineg hc h
          by_cases hc : μ 35 (μ 18 7) = 14
          · replace h := ipos hc h
            refine q_tableC Ra 216 dX4_readPart_9 (hV.int t35 (kd20 _)) hc rfl rfl rfl ?_
            refine r_aload_n Ra (i := 0) dX4_readPart_216 rfl rfl ?_
            refine r_iconst Ra dX4_readPart_217 ?_
            refine r_iconst Ra dX4_readPart_218 ?_
            obtain ⟨⟨r219, m219⟩, hr219, h⟩ := bd h
            refine q_callVI_g Ra (c_pR_tell hV (Rk rfl) (Rk rfl) hr219) mw_X4_tell mi_X4_tell t18 rfl rfl rfl rfl rfl k_X4_183 (by omega) (by omega) rfl dX4_readPart_219 (fun ok219 => ?_)
            obtain ⟨hV219, ok219⟩ := ok219
            cases h
            exact r_zret Ra ok219 ⟨hV219, ok219⟩ dX4_readPart_222
          · have hs9_4 := hc
            replace h := ineg hc h
            by_cases hc : μ 35 (μ 18 7) = 15
            · replace h := ipos hc h
              refine q_tableC Ra 223 dX4_readPart_9 (hV.int t35 (kd20 _)) hc rfl rfl rfl ?_
              refine r_aload_n Ra (i := 0) dX4_readPart_223 rfl rfl ?_
              refine q_getI Ra (x := μ 18 9) f_X4_161 t18 rfl rfl rfl rfl dX4_readPart_224 ?_
              refine r_bipush Ra dX4_readPart_227 rfl ?_
              refine r_icmp_ne Ra 239 dX4_readPart_229 (hV.int t18 rfl) (Rk rfl) rfl (fun hc => ?_) (fun hc => ?_)
              · replace h := ineg hc h
                refine r_aload_n Ra (i := 0) dX4_readPart_239 rfl rfl ?_
                refine r_iconst Ra dX4_readPart_240 ?_
                refine r_iconst Ra dX4_readPart_241 ?_
                obtain ⟨⟨r242, m242⟩, hr242, h⟩ := bd h
                refine q_callVI_g Ra (c_pR_tell hV (Rk rfl) (Rk rfl) hr242) mw_X4_tell mi_X4_tell t18 rfl rfl rfl rfl rfl k_X4_183 (by omega) (by omega) rfl dX4_readPart_242 (fun ok242 => ?_)
                obtain ⟨hV242, ok242⟩ := ok242
                cases h
                exact r_zret Ra ok242 ⟨hV242, ok242⟩ dX4_readPart_245
              · replace h := ipos hc h
                refine r_aload_n Ra (i := 0) dX4_readPart_232 rfl rfl ?_
                obtain ⟨⟨r233, m233⟩, hr233, h⟩ := bd h
                refine q_callVI_g Ra (c_pR_astray hV hr233) mw_X4_astray mi_X4_astray t18 rfl rfl rfl rfl rfl k_X4_75 (by omega) (by omega) rfl dX4_readPart_233 (fun ok233 => ?_)
                obtain ⟨hV233, ok233⟩ := ok233
                refine r_goto Ra 245 dX4_readPart_236 rfl ?_
                cases h
                exact r_zret Ra ok233 ⟨hV233, ok233⟩ dX4_readPart_245
            · have hs9_5 := hc
              replace h := ineg hc h
              by_cases hc : μ 35 (μ 18 7) = 16
              · replace h := ipos hc h
                refine q_tableC Ra 246 dX4_readPart_9 (hV.int t35 (kd20 _)) hc rfl rfl rfl ?_
                refine r_aload_n Ra (i := 0) dX4_readPart_246 rfl rfl ?_
                refine q_getI Ra (x := μ 18 9) f_X4_161 t18 rfl rfl rfl rfl dX4_readPart_247 ?_
                refine r_bipush Ra dX4_readPart_250 rfl ?_
                refine r_icmp_ne Ra 264 dX4_readPart_252 (hV.int t18 rfl) (Rk rfl) rfl (fun hc => ?_) (fun hc => ?_)
                · replace h := ineg hc h
                  refine r_aload_n Ra (i := 0) dX4_readPart_264 rfl rfl ?_
                  obtain ⟨⟨r265, m265⟩, hr265, h⟩ := bd h
                  refine q_callVI_g Ra (c_pR_astray hV hr265) mw_X4_astray mi_X4_astray t18 rfl rfl rfl rfl rfl k_X4_75 (by omega) (by omega) rfl dX4_readPart_265 (fun ok265 => ?_)
                  obtain ⟨hV265, ok265⟩ := ok265
                  cases h
                  exact r_zret Ra ok265 ⟨hV265, ok265⟩ dX4_readPart_268
                · replace h := ipos hc h
                  refine r_aload_n Ra (i := 0) dX4_readPart_255 rfl rfl ?_
                  refine r_iconst Ra dX4_readPart_256 ?_
                  refine r_iconst Ra dX4_readPart_257 ?_
                  obtain ⟨⟨r258, m258⟩, hr258, h⟩ := bd h
                  refine q_callVI_g Ra (c_pR_tell hV (Rk rfl) (Rk rfl) hr258) mw_X4_tell mi_X4_tell t18 rfl rfl rfl rfl rfl k_X4_183 (by omega) (by omega) rfl dX4_readPart_258 (fun ok258 => ?_)
                  obtain ⟨hV258, ok258⟩ := ok258
                  refine r_goto Ra 268 dX4_readPart_261 rfl ?_
                  cases h
                  exact r_zret Ra ok258 ⟨hV258, ok258⟩ dX4_readPart_268
              · have hs9_6 := hc
                replace h := ineg hc h
                by_cases hc : μ 35 (μ 18 7) = 17
                · replace h := ipos hc h
                  refine q_tableC Ra 338 dX4_readPart_9 (hV.int t35 (kd20 _)) hc rfl rfl rfl ?_
                  refine r_aload_n Ra (i := 0) dX4_readPart_338 rfl rfl ?_
                  obtain ⟨⟨r339, m339⟩, hr339, h⟩ := bd h
                  refine q_callVI_g Ra (IH.2.2.2.2.1 _ _ _ hV hr339) mw_X4_readChoice mi_X4_readChoice t18 rfl rfl rfl rfl rfl k_X4_195 (by omega) (by omega) rfl dX4_readPart_339 (fun ok339 => ?_)
                  obtain ⟨hV339, ok339⟩ := ok339
                  cases h
                  exact r_zret Ra ok339 ⟨hV339, ok339⟩ dX4_readPart_342
                · have hs9_7 := hc
                  replace h := ineg hc h
                  by_cases hc : μ 35 (μ 18 7) = 22
                  · replace h := ipos hc h
                    refine q_tableC Ra 324 dX4_readPart_9 (hV.int t35 (kd20 _)) hc rfl rfl rfl ?_
                    refine r_aload_n Ra (i := 0) dX4_readPart_324 rfl rfl ?_
                    refine r_bipush Ra dX4_readPart_325 rfl ?_
                    obtain ⟨⟨r327, m327⟩, hr327, h⟩ := bd h
                    refine q_callVI_g Ra (IH.2.2.2.1 _ _ _ _ hV (Rk rfl) hr327) mw_X4_readPair mi_X4_readPair t18 rfl rfl rfl rfl rfl k_X4_192 (by omega) (by omega) rfl dX4_readPart_327 (fun ok327 => ?_)
                    obtain ⟨hV327, ok327⟩ := ok327
                    cases h
                    exact r_zret Ra ok327 ⟨hV327, ok327⟩ dX4_readPart_330
                  · have hs9_8 := hc
                    replace h := ineg hc h
                    by_cases hc : μ 35 (μ 18 7) = 23
                    · replace h := ipos hc h
                      refine q_tableC Ra 331 dX4_readPart_9 (hV.int t35 (kd20 _)) hc rfl rfl rfl ?_
                      refine r_aload_n Ra (i := 0) dX4_readPart_331 rfl rfl ?_
                      refine r_bipush Ra dX4_readPart_332 rfl ?_
                      obtain ⟨⟨r334, m334⟩, hr334, h⟩ := bd h
                      refine q_callVI_g Ra (IH.2.2.2.1 _ _ _ _ hV (Rk rfl) hr334) mw_X4_readPair mi_X4_readPair t18 rfl rfl rfl rfl rfl k_X4_192 (by omega) (by omega) rfl dX4_readPart_334 (fun ok334 => ?_)
                      obtain ⟨hV334, ok334⟩ := ok334
                      cases h
                      exact r_zret Ra ok334 ⟨hV334, ok334⟩ dX4_readPart_337
                    · have hs9_9 := hc
                      replace h := ineg hc h
                      by_cases hc : μ 35 (μ 18 7) = 25
                      · replace h := ipos hc h
                        refine q_tableC Ra 180 dX4_readPart_9 (hV.int t35 (kd20 _)) hc rfl rfl rfl ?_
                        refine r_aload_n Ra (i := 0) dX4_readPart_180 rfl rfl ?_
                        refine r_iconst Ra dX4_readPart_181 ?_
                        refine r_aload_n Ra (i := 0) dX4_readPart_182 rfl rfl ?_
                        refine q_getA Ra (b := 37) f_X4_29 t18 rfl rfl rfl (hV.ref t18 rfl (by decide)) (by decide) dX4_readPart_183 ?_
                        refine r_aload_n Ra (i := 0) dX4_readPart_186 rfl rfl ?_
                        refine q_getI Ra (x := μ 18 7) f_X4_42 t18 rfl rfl rfl rfl dX4_readPart_187 ?_
                        obtain ⟨gu190, h⟩ := gd h
                        refine q_iald Ra t37 l37 gu190 dX4_readPart_190 ?_
                        obtain ⟨⟨r191, m191⟩, hr191, h⟩ := bd h
                        refine q_callVI_g Ra (c_pR_tell hV (Rk rfl) (hV.int t37 (kd20 _)) hr191) mw_X4_tell mi_X4_tell t18 rfl rfl rfl rfl rfl k_X4_183 (by omega) (by omega) rfl dX4_readPart_191 (fun ok191 => ?_)
                        obtain ⟨hV191, ok191⟩ := ok191
                        cases h
                        exact r_zret Ra ok191 ⟨hV191, ok191⟩ dX4_readPart_194
                      · have hs9_10 := hc
                        replace h := ineg hc h
                        by_cases hc : μ 35 (μ 18 7) = 40
                        · replace h := ipos hc h
                          refine q_tableC Ra 293 dX4_readPart_9 (hV.int t35 (kd20 _)) hc rfl rfl rfl ?_
                          refine r_aload_n Ra (i := 0) dX4_readPart_293 rfl rfl ?_
                          refine r_bipush Ra dX4_readPart_294 rfl ?_
                          obtain ⟨⟨r296, m296⟩, hr296, h⟩ := bd h
                          refine q_callVI_g Ra (c_pR_opens hV (Rk rfl) hr296) mw_X4_opens mi_X4_opens t18 rfl rfl rfl rfl rfl k_X4_186 (by omega) (by omega) rfl dX4_readPart_296 (fun ok296 => ?_)
                          obtain ⟨hV296, ok296⟩ := ok296
                          refine r_if_eq Ra 322 dX4_readPart_299 (inR_01 ok296) rfl (fun hc => ?_) (fun hc => ?_)
                          · replace h := ipos hc h
                            refine r_iconst Ra dX4_readPart_322 ?_
                            cases h
                            exact r_zret Ra (Or.inl rfl) ⟨hV296, (Or.inl rfl)⟩ dX4_readPart_323
                          · replace h := ineg hc h
                            refine r_aload_n Ra (i := 0) dX4_readPart_302 rfl rfl ?_
                            obtain ⟨⟨r303, m303⟩, hr303, h⟩ := bd h
                            refine q_callVI_g Ra (IH.1 _ _ _ hV296 hr303) mw_X4_readSum mi_X4_readSum t18 rfl rfl rfl rfl rfl k_X4_164 (by omega) (by omega) rfl dX4_readPart_303 (fun ok303 => ?_)
                            obtain ⟨hV303, ok303⟩ := ok303
                            refine r_if_eq Ra 322 dX4_readPart_306 (inR_01 ok303) rfl (fun hc => ?_) (fun hc => ?_)
                            · replace h := ipos hc h
                              refine r_iconst Ra dX4_readPart_322 ?_
                              cases h
                              exact r_zret Ra (Or.inl rfl) ⟨hV303, (Or.inl rfl)⟩ dX4_readPart_323
                            · replace h := ineg hc h
                              refine r_aload_n Ra (i := 0) dX4_readPart_309 rfl rfl ?_
                              refine r_bipush Ra dX4_readPart_310 rfl ?_
                              obtain ⟨⟨r312, m312⟩, hr312, h⟩ := bd h
                              refine q_callVI_g Ra (c_pR_closes hV303 (Rk rfl) hr312) mw_X4_closes mi_X4_closes t18 rfl rfl rfl rfl rfl k_X4_189 (by omega) (by omega) rfl dX4_readPart_312 (fun ok312 => ?_)
                              obtain ⟨hV312, ok312⟩ := ok312
                              refine r_if_eq Ra 322 dX4_readPart_315 (inR_01 ok312) rfl (fun hc => ?_) (fun hc => ?_)
                              · replace h := ipos hc h
                                refine r_iconst Ra dX4_readPart_322 ?_
                                cases h
                                exact r_zret Ra (Or.inl rfl) ⟨hV312, (Or.inl rfl)⟩ dX4_readPart_323
                              · replace h := ineg hc h
                                refine r_iconst Ra dX4_readPart_318 ?_
                                refine r_goto Ra 323 dX4_readPart_319 rfl ?_
                                cases h
                                exact r_zret Ra (Or.inr rfl) ⟨hV312, (Or.inr rfl)⟩ dX4_readPart_323
                        · have hs9_11 := hc
                          replace h := ineg hc h
                          refine q_tableD Ra 343 dX4_readPart_9 (hV.int t35 (kd20 _)) [2, 6, 12, 13, 14, 15, 16, 17, 22, 23, 25, 40] (List.forall_mem_cons.mpr ⟨hs9_0, (List.forall_mem_cons.mpr ⟨hs9_1, (List.forall_mem_cons.mpr ⟨hs9_2, (List.forall_mem_cons.mpr ⟨hs9_3, (List.forall_mem_cons.mpr ⟨hs9_4, (List.forall_mem_cons.mpr ⟨hs9_5, (List.forall_mem_cons.mpr ⟨hs9_6, (List.forall_mem_cons.mpr ⟨hs9_7, (List.forall_mem_cons.mpr ⟨hs9_8, (List.forall_mem_cons.mpr ⟨hs9_9, (List.forall_mem_cons.mpr ⟨hs9_10, (List.forall_mem_cons.mpr ⟨hs9_11, (fun _ h9 => absurd h9 List.not_mem_nil)⟩)⟩)⟩)⟩)⟩)⟩)⟩)⟩)⟩)⟩)⟩)⟩) rfl rfl ?_
                          refine r_aload_n Ra (i := 0) dX4_readPart_343 rfl rfl ?_
                          obtain ⟨⟨r344, m344⟩, hr344, h⟩ := bd h
                          refine q_callVI_g Ra (c_pR_astray hV hr344) mw_X4_astray mi_X4_astray t18 rfl rfl rfl rfl rfl k_X4_75 (by omega) (by omega) rfl dX4_readPart_344 (fun ok344 => ?_)
                          obtain ⟨hV344, ok344⟩ := ok344
                          cases h
                          exact r_zret Ra ok344 ⟨hV344, ok344⟩ dX4_readPart_347
noncomputable def pR_readPair_b (N : Nat) (gs : Nat → Int → Mem → Option (Int × Mem)) (μ : Mem) (x1 : Int) : Option (Int × Mem) := (pR_pass μ).bind fun m1 => (pR_opens m1 40).bind fun (r7, m7) => if r7 = 0 then some (0, m7) else (gs 0 0 m7).bind fun (r14, m14) => if r14 = 0 then some (0, m14) else (pR_take m14 44).bind fun (r23, m23) => if r23 = 0 then some (0, m23) else (gs 0 0 m23).bind fun (r30, m30) => if r30 = 0 then some (0, m30) else (pR_closes m30 41).bind fun (r39, m39) => if r39 = 0 then some (0, m39) else (pU_add m39 (m39 18 10) x1 0).bind fun m53 => some (1, m53)
set_option maxHeartbeats 4000000 in
theorem b_pR_readPair {l : Launch} {en : En} {N d : Nat} {gs : Nat → Int → Mem → Option (Int × Mem)} (IH : IHR l en gs d) {μ : Mem} {x1 : Int} {re : Int} {μe : Mem} (hV : VT μ) (hx1 : inR x1) (h : pR_readPair_b N gs μ x1 = some (re, μe)) : CtI l en yX4_readPair cX4_readPair 2 (3 + (d + 1)) (104 + 22 * (d + 1)) [vA en 18, vI x1] μ .boolean re μe (VT μe ∧ (re = 0 ∨ re = 1)) := by
  refine Tr.of false (fun h => by cases h) (by decide) (Nat.le_of_ble_eq_true rfl) (fun K Ra => ?_)
  unfold pR_readPair_b at h
  refine r_aload_n Ra (i := 0) dX4_readPair_0 rfl rfl ?_
  obtain ⟨m1, hr1, h⟩ := bd h
  refine q_callVV_g Ra (c_pR_pass hV hr1) mw_X4_pass mi_X4_pass t18 rfl rfl rfl rfl rfl k_X4_102 (by omega) (by omega) rfl dX4_readPair_1 (fun ok1 => ?_)
  refine r_aload_n Ra (i := 0) dX4_readPair_4 rfl rfl ?_
  refine r_bipush Ra dX4_readPair_5 rfl ?_
  obtain ⟨⟨r7, m7⟩, hr7, h⟩ := bd h
  refine q_callVI_g Ra (c_pR_opens ok1 (Rk rfl) hr7) mw_X4_opens mi_X4_opens t18 rfl rfl rfl rfl rfl k_X4_186 (by omega) (by omega) rfl dX4_readPair_7 (fun ok7 => ?_)
  obtain ⟨hV7, ok7⟩ := ok7
  refine r_if_eq Ra 45 dX4_readPair_10 (inR_01 ok7) rfl (fun hc => ?_) (fun hc => ?_)
  · replace h := ipos hc h
    refine r_iconst Ra dX4_readPair_45 ?_
    cases h
    exact r_zret Ra (Or.inl rfl) ⟨hV7, (Or.inl rfl)⟩ dX4_readPair_46
  · replace h := ineg hc h
    refine r_aload_n Ra (i := 0) dX4_readPair_13 rfl rfl ?_
    obtain ⟨⟨r14, m14⟩, hr14, h⟩ := bd h
    refine q_callVI_g Ra (IH.1 _ _ _ hV7 hr14) mw_X4_readSum mi_X4_readSum t18 rfl rfl rfl rfl rfl k_X4_164 (by omega) (by omega) rfl dX4_readPair_14 (fun ok14 => ?_)
    obtain ⟨hV14, ok14⟩ := ok14
    refine r_if_eq Ra 45 dX4_readPair_17 (inR_01 ok14) rfl (fun hc => ?_) (fun hc => ?_)
    · replace h := ipos hc h
      refine r_iconst Ra dX4_readPair_45 ?_
      cases h
      exact r_zret Ra (Or.inl rfl) ⟨hV14, (Or.inl rfl)⟩ dX4_readPair_46
    · replace h := ineg hc h
      refine r_aload_n Ra (i := 0) dX4_readPair_20 rfl rfl ?_
      refine r_bipush Ra dX4_readPair_21 rfl ?_
      obtain ⟨⟨r23, m23⟩, hr23, h⟩ := bd h
      refine q_callVI_g Ra (c_pR_take hV14 (Rk rfl) hr23) mw_X4_take mi_X4_take t18 rfl rfl rfl rfl rfl k_X4_72 (by omega) (by omega) rfl dX4_readPair_23 (fun ok23 => ?_)
      obtain ⟨hV23, ok23⟩ := ok23
      refine r_if_eq Ra 45 dX4_readPair_26 (inR_01 ok23) rfl (fun hc => ?_) (fun hc => ?_)
      · replace h := ipos hc h
        refine r_iconst Ra dX4_readPair_45 ?_
        cases h
        exact r_zret Ra (Or.inl rfl) ⟨hV23, (Or.inl rfl)⟩ dX4_readPair_46
      · replace h := ineg hc h
        refine r_aload_n Ra (i := 0) dX4_readPair_29 rfl rfl ?_
        obtain ⟨⟨r30, m30⟩, hr30, h⟩ := bd h
        refine q_callVI_g Ra (IH.1 _ _ _ hV23 hr30) mw_X4_readSum mi_X4_readSum t18 rfl rfl rfl rfl rfl k_X4_164 (by omega) (by omega) rfl dX4_readPair_30 (fun ok30 => ?_)
        obtain ⟨hV30, ok30⟩ := ok30
        refine r_if_eq Ra 45 dX4_readPair_33 (inR_01 ok30) rfl (fun hc => ?_) (fun hc => ?_)
        · replace h := ipos hc h
          refine r_iconst Ra dX4_readPair_45 ?_
          cases h
          exact r_zret Ra (Or.inl rfl) ⟨hV30, (Or.inl rfl)⟩ dX4_readPair_46
        · replace h := ineg hc h
          refine r_aload_n Ra (i := 0) dX4_readPair_36 rfl rfl ?_
          refine r_bipush Ra dX4_readPair_37 rfl ?_
          obtain ⟨⟨r39, m39⟩, hr39, h⟩ := bd h
          refine q_callVI_g Ra (c_pR_closes hV30 (Rk rfl) hr39) mw_X4_closes mi_X4_closes t18 rfl rfl rfl rfl rfl k_X4_189 (by omega) (by omega) rfl dX4_readPair_39 (fun ok39 => ?_)
          obtain ⟨hV39, ok39⟩ := ok39
          refine r_if_ne Ra 47 dX4_readPair_42 (inR_01 ok39) rfl (fun hc => ?_) (fun hc => ?_)
          · replace h := ineg hc h
            refine r_aload_n Ra (i := 0) dX4_readPair_47 rfl rfl ?_
            refine q_getS Ra (b := m39 18 10) f_X4_36 t18 rfl rfl rfl rfl (hV39.sum t18 rfl) dX4_readPair_48 ?_
            refine r_iload_n Ra (i := 1) dX4_readPair_51 rfl rfl ?_
            refine r_iconst Ra dX4_readPair_52 ?_
            obtain ⟨m53, hr53, h⟩ := bd h
            refine q_callVV_g Ra (c_pU_add hV39 (hV39.sum t18 rfl) hx1 (Rk rfl) hr53) mw_X6_add mi_X6_add (hV39.sum t18 rfl) rfl rfl rfl rfl rfl k_X4_173 (by omega) (by omega) rfl dX4_readPair_53 (fun ok53 => ?_)
            refine r_iconst Ra dX4_readPair_56 ?_
            cases h
            exact r_zret Ra (Or.inr rfl) ⟨ok53, (Or.inr rfl)⟩ dX4_readPair_57
          · replace h := ipos hc h
            refine r_iconst Ra dX4_readPair_45 ?_
            cases h
            exact r_zret Ra (Or.inl rfl) ⟨hV39, (Or.inl rfl)⟩ dX4_readPair_46
noncomputable def pR_readChoice_b (N : Nat) (gs : Nat → Int → Mem → Option (Int × Mem)) (μ : Mem)  : Option (Int × Mem) := (pR_pass μ).bind fun m1 => (pR_opens m1 40).bind fun (r7, m7) => if r7 = 0 then some (0, m7) else (gs 5 0 m7).bind fun (r14, m14) => if r14 = 0 then some (0, m14) else (pR_take m14 44).bind fun (r23, m23) => if r23 = 0 then some (0, m23) else (gs 0 0 m23).bind fun (r30, m30) => if r30 = 0 then some (0, m30) else (pR_take m30 44).bind fun (r39, m39) => if r39 = 0 then some (0, m39) else (gs 0 0 m39).bind fun (r46, m46) => if r46 = 0 then some (0, m46) else (pR_closes m46 41).bind fun (r55, m55) => if r55 = 0 then some (0, m55) else (pU_add m55 (m55 18 10) 3 0).bind fun m69 => some (1, m69)
set_option maxHeartbeats 4000000 in
theorem b_pR_readChoice {l : Launch} {en : En} {N d : Nat} {gs : Nat → Int → Mem → Option (Int × Mem)} (IH : IHR l en gs d) {μ : Mem}  {re : Int} {μe : Mem} (hV : VT μ)  (h : pR_readChoice_b N gs μ  = some (re, μe)) : CtI l en yX4_readChoice cX4_readChoice 1 (3 + (d + 1)) (104 + 22 * (d + 1)) [vA en 18] μ .boolean re μe (VT μe ∧ (re = 0 ∨ re = 1)) := by
  refine Tr.of false (fun h => by cases h) (by decide) (Nat.le_of_ble_eq_true rfl) (fun K Ra => ?_)
  unfold pR_readChoice_b at h
  refine r_aload_n Ra (i := 0) dX4_readChoice_0 rfl rfl ?_
  obtain ⟨m1, hr1, h⟩ := bd h
  refine q_callVV_g Ra (c_pR_pass hV hr1) mw_X4_pass mi_X4_pass t18 rfl rfl rfl rfl rfl k_X4_102 (by omega) (by omega) rfl dX4_readChoice_1 (fun ok1 => ?_)
  refine r_aload_n Ra (i := 0) dX4_readChoice_4 rfl rfl ?_
  refine r_bipush Ra dX4_readChoice_5 rfl ?_
  obtain ⟨⟨r7, m7⟩, hr7, h⟩ := bd h
  refine q_callVI_g Ra (c_pR_opens ok1 (Rk rfl) hr7) mw_X4_opens mi_X4_opens t18 rfl rfl rfl rfl rfl k_X4_186 (by omega) (by omega) rfl dX4_readChoice_7 (fun ok7 => ?_)
  obtain ⟨hV7, ok7⟩ := ok7
  refine r_if_eq Ra 61 dX4_readChoice_10 (inR_01 ok7) rfl (fun hc => ?_) (fun hc => ?_)
  · replace h := ipos hc h
    refine r_iconst Ra dX4_readChoice_61 ?_
    cases h
    exact r_zret Ra (Or.inl rfl) ⟨hV7, (Or.inl rfl)⟩ dX4_readChoice_62
  · replace h := ineg hc h
    refine r_aload_n Ra (i := 0) dX4_readChoice_13 rfl rfl ?_
    obtain ⟨⟨r14, m14⟩, hr14, h⟩ := bd h
    refine q_callVI_g Ra (IH.2.2.2.2.2.1 _ _ _ hV7 hr14) mw_X4_readTest mi_X4_readTest t18 rfl rfl rfl rfl rfl k_X4_198 (by omega) (by omega) rfl dX4_readChoice_14 (fun ok14 => ?_)
    obtain ⟨hV14, ok14⟩ := ok14
    refine r_if_eq Ra 61 dX4_readChoice_17 (inR_01 ok14) rfl (fun hc => ?_) (fun hc => ?_)
    · replace h := ipos hc h
      refine r_iconst Ra dX4_readChoice_61 ?_
      cases h
      exact r_zret Ra (Or.inl rfl) ⟨hV14, (Or.inl rfl)⟩ dX4_readChoice_62
    · replace h := ineg hc h
      refine r_aload_n Ra (i := 0) dX4_readChoice_20 rfl rfl ?_
      refine r_bipush Ra dX4_readChoice_21 rfl ?_
      obtain ⟨⟨r23, m23⟩, hr23, h⟩ := bd h
      refine q_callVI_g Ra (c_pR_take hV14 (Rk rfl) hr23) mw_X4_take mi_X4_take t18 rfl rfl rfl rfl rfl k_X4_72 (by omega) (by omega) rfl dX4_readChoice_23 (fun ok23 => ?_)
      obtain ⟨hV23, ok23⟩ := ok23
      refine r_if_eq Ra 61 dX4_readChoice_26 (inR_01 ok23) rfl (fun hc => ?_) (fun hc => ?_)
      · replace h := ipos hc h
        refine r_iconst Ra dX4_readChoice_61 ?_
        cases h
        exact r_zret Ra (Or.inl rfl) ⟨hV23, (Or.inl rfl)⟩ dX4_readChoice_62
      · replace h := ineg hc h
        refine r_aload_n Ra (i := 0) dX4_readChoice_29 rfl rfl ?_
        obtain ⟨⟨r30, m30⟩, hr30, h⟩ := bd h
        refine q_callVI_g Ra (IH.1 _ _ _ hV23 hr30) mw_X4_readSum mi_X4_readSum t18 rfl rfl rfl rfl rfl k_X4_164 (by omega) (by omega) rfl dX4_readChoice_30 (fun ok30 => ?_)
        obtain ⟨hV30, ok30⟩ := ok30
        refine r_if_eq Ra 61 dX4_readChoice_33 (inR_01 ok30) rfl (fun hc => ?_) (fun hc => ?_)
        · replace h := ipos hc h
          refine r_iconst Ra dX4_readChoice_61 ?_
          cases h
          exact r_zret Ra (Or.inl rfl) ⟨hV30, (Or.inl rfl)⟩ dX4_readChoice_62
        · replace h := ineg hc h
          refine r_aload_n Ra (i := 0) dX4_readChoice_36 rfl rfl ?_
          refine r_bipush Ra dX4_readChoice_37 rfl ?_
          obtain ⟨⟨r39, m39⟩, hr39, h⟩ := bd h
          refine q_callVI_g Ra (c_pR_take hV30 (Rk rfl) hr39) mw_X4_take mi_X4_take t18 rfl rfl rfl rfl rfl k_X4_72 (by omega) (by omega) rfl dX4_readChoice_39 (fun ok39 => ?_)
          obtain ⟨hV39, ok39⟩ := ok39
          refine r_if_eq Ra 61 dX4_readChoice_42 (inR_01 ok39) rfl (fun hc => ?_) (fun hc => ?_)
          · replace h := ipos hc h
            refine r_iconst Ra dX4_readChoice_61 ?_
            cases h
            exact r_zret Ra (Or.inl rfl) ⟨hV39, (Or.inl rfl)⟩ dX4_readChoice_62
          · replace h := ineg hc h
            refine r_aload_n Ra (i := 0) dX4_readChoice_45 rfl rfl ?_
            obtain ⟨⟨r46, m46⟩, hr46, h⟩ := bd h
            refine q_callVI_g Ra (IH.1 _ _ _ hV39 hr46) mw_X4_readSum mi_X4_readSum t18 rfl rfl rfl rfl rfl k_X4_164 (by omega) (by omega) rfl dX4_readChoice_46 (fun ok46 => ?_)
            obtain ⟨hV46, ok46⟩ := ok46
            refine r_if_eq Ra 61 dX4_readChoice_49 (inR_01 ok46) rfl (fun hc => ?_) (fun hc => ?_)
            · replace h := ipos hc h
              refine r_iconst Ra dX4_readChoice_61 ?_
              cases h
              exact r_zret Ra (Or.inl rfl) ⟨hV46, (Or.inl rfl)⟩ dX4_readChoice_62
            · replace h := ineg hc h
              refine r_aload_n Ra (i := 0) dX4_readChoice_52 rfl rfl ?_
              refine r_bipush Ra dX4_readChoice_53 rfl ?_
              obtain ⟨⟨r55, m55⟩, hr55, h⟩ := bd h
              refine q_callVI_g Ra (c_pR_closes hV46 (Rk rfl) hr55) mw_X4_closes mi_X4_closes t18 rfl rfl rfl rfl rfl k_X4_189 (by omega) (by omega) rfl dX4_readChoice_55 (fun ok55 => ?_)
              obtain ⟨hV55, ok55⟩ := ok55
              refine r_if_ne Ra 63 dX4_readChoice_58 (inR_01 ok55) rfl (fun hc => ?_) (fun hc => ?_)
              · replace h := ineg hc h
                refine r_aload_n Ra (i := 0) dX4_readChoice_63 rfl rfl ?_
                refine q_getS Ra (b := m55 18 10) f_X4_36 t18 rfl rfl rfl rfl (hV55.sum t18 rfl) dX4_readChoice_64 ?_
                refine r_iconst Ra dX4_readChoice_67 ?_
                refine r_iconst Ra dX4_readChoice_68 ?_
                obtain ⟨m69, hr69, h⟩ := bd h
                refine q_callVV_g Ra (c_pU_add hV55 (hV55.sum t18 rfl) (Rk rfl) (Rk rfl) hr69) mw_X6_add mi_X6_add (hV55.sum t18 rfl) rfl rfl rfl rfl rfl k_X4_173 (by omega) (by omega) rfl dX4_readChoice_69 (fun ok69 => ?_)
                refine r_iconst Ra dX4_readChoice_72 ?_
                cases h
                exact r_zret Ra (Or.inr rfl) ⟨ok69, (Or.inr rfl)⟩ dX4_readChoice_73
              · replace h := ipos hc h
                refine r_iconst Ra dX4_readChoice_61 ?_
                cases h
                exact r_zret Ra (Or.inl rfl) ⟨hV55, (Or.inl rfl)⟩ dX4_readChoice_62
noncomputable def pR_readTest_L11b (N : Nat) (gs : Nat → Int → Mem → Option (Int × Mem))  (k : Mem → Option (Int × Mem)) (self : Int → Mem → Option (Int × Mem)) (x1 : Int) (μ : Mem) : Option (Int × Mem) := if x1 < 1600 then if 0 ≤ μ 18 7 ∧ μ 18 7 < 1601 then if μ 35 (μ 18 7) = 18 then (pR_pass μ).bind fun m33 => (gs 6 0 m33).bind fun (r37, m37) => if r37 = 0 then some (0, m37) else (pU_add m37 (m37 18 10) 15 0).bind fun m52 => (some (w32 (x1 + 1) : Int)).bind fun x1_55 => self x1_55 m52 else k μ else none else k μ
noncomputable def pR_readTest_L11 (N : Nat) (gs : Nat → Int → Mem → Option (Int × Mem))  (k : Mem → Option (Int × Mem)) (n : Nat) : Int → Mem → Option (Int × Mem) := lpF (fun _ _ => none) (pR_readTest_L11b N gs k) n
noncomputable def pR_readTest_b (N : Nat) (gs : Nat → Int → Mem → Option (Int × Mem)) (μ : Mem)  : Option (Int × Mem) := (gs 6 0 μ).bind fun (r1, m1) => if r1 = 0 then some (0, m1) else pR_readTest_L11 N gs (fun n61 => some (1, n61)) N 0 m1
theorem k_pR_readTest_L11 {l : Launch} {en : En} {re : Int} {μe : Mem} {N : Nat} {gs : Nat → Int → Mem → Option (Int × Mem)} {d : Nat} (IH : IHR l en gs d)  {k : Mem → Option (Int × Mem)} {K : KT} (Ra : Ru false (some (some .boolean, some (vI re), nCells, μe, 0, 0, (VT μe ∧ (re = 0 ∨ re = 1)))) l en cX4_readTest yX4_readTest.cls 2 (rmN (3 + (d + 1)) (104 + 22 * (d + 1))) K)  (hk : ∀  (μ9 : Mem), k μ9 = some (re, μe) → VT μ9 → ∀ L9 : Lo, K ZN 61 L9 [] μ9) : ∀ (n : Nat) (x1 : Int) (μ : Mem) (L : Lo), pR_readTest_L11 N gs k n x1 μ = some (re, μe) → inR x1 → VT μ → L 0 = some (vA en 18) → L 1 = some (vI x1) → K ZN 11 L [] μ := by
  intro n
  induction n with
  | zero => intro x1 μ L h; cases h
  | succ n ih =>
    intro x1 μ L h hx1 hV hL0 hL1
    replace h : pR_readTest_L11b N gs k (pR_readTest_L11 N gs k n) x1 μ = some (re, μe) := h
    unfold pR_readTest_L11b at h
    refine r_iload_n Ra (i := 1) dX4_readTest_11 rfl hL1 ?_
    refine r_sipush Ra dX4_readTest_12 rfl ?_
    refine r_icmp_ge Ra 61 dX4_readTest_15 hx1 (Rk rfl) rfl (fun hc => ?_) (fun hc => ?_)
    · replace h := ineg hc h
      exact hk μ h  hV _ 
    · replace h := ipos hc h
      refine r_aload_n Ra (i := 0) dX4_readTest_18 rfl hL0 ?_
      refine q_getA Ra (b := 35) f_X4_22 t18 rfl rfl rfl (hV.ref t18 rfl (by decide)) (by decide) dX4_readTest_19 ?_
      refine r_aload_n Ra (i := 0) dX4_readTest_22 rfl hL0 ?_
      refine q_getI Ra (x := μ 18 7) f_X4_42 t18 rfl rfl rfl rfl dX4_readTest_23 ?_
      obtain ⟨gu26, h⟩ := gd h
      refine q_iald Ra t35 l35 gu26 dX4_readTest_26 ?_
      refine r_bipush Ra dX4_readTest_27 rfl ?_
      refine r_icmp_ne Ra 61 dX4_readTest_29 (hV.int t35 (kd20 _)) (Rk rfl) rfl (fun hc => ?_) (fun hc => ?_)
      · replace h := ineg hc h
        exact hk μ h  hV _ 
      · replace h := ipos hc h
        refine r_aload_n Ra (i := 0) dX4_readTest_32 rfl hL0 ?_
        obtain ⟨m33, hr33, h⟩ := bd h
        refine q_callVV_g Ra (c_pR_pass hV hr33) mw_X4_pass mi_X4_pass t18 rfl rfl rfl rfl rfl k_X4_102 (by omega) (by omega) rfl dX4_readTest_33 (fun ok33 => ?_)
        refine r_aload_n Ra (i := 0) dX4_readTest_36 rfl hL0 ?_
        obtain ⟨⟨r37, m37⟩, hr37, h⟩ := bd h
        refine q_callVI_g Ra (IH.2.2.2.2.2.2.1 _ _ _ ok33 hr37) mw_X4_readBoth mi_X4_readBoth t18 rfl rfl rfl rfl rfl k_X4_201 (by omega) (by omega) rfl dX4_readTest_37 (fun ok37 => ?_)
        obtain ⟨hV37, ok37⟩ := ok37
        refine r_if_ne Ra 45 dX4_readTest_40 (inR_01 ok37) rfl (fun hc => ?_) (fun hc => ?_)
        · replace h := ineg hc h
          refine r_aload_n Ra (i := 0) dX4_readTest_45 rfl hL0 ?_
          refine q_getS Ra (b := m37 18 10) f_X4_36 t18 rfl rfl rfl rfl (hV37.sum t18 rfl) dX4_readTest_46 ?_
          refine r_bipush Ra dX4_readTest_49 rfl ?_
          refine r_iconst Ra dX4_readTest_51 ?_
          obtain ⟨m52, hr52, h⟩ := bd h
          refine q_callVV_g Ra (c_pU_add hV37 (hV37.sum t18 rfl) (Rk rfl) (Rk rfl) hr52) mw_X6_add mi_X6_add (hV37.sum t18 rfl) rfl rfl rfl rfl rfl k_X4_173 (by omega) (by omega) rfl dX4_readTest_52 (fun ok52 => ?_)
          obtain ⟨x1_55, ex1_55, h⟩ := bv h
          have ix1_55 : inR x1_55 := eqR ex1_55 (inR_32 _)
          refine q_iinc Ra dX4_readTest_55 hL1 ex1_55 ?_
          refine r_goto Ra 11 dX4_readTest_58 rfl ?_
          exact ih x1_55 m52 _ h ix1_55 ok52 hL0 rfl
        · replace h := ipos hc h
          refine r_iconst Ra dX4_readTest_43 ?_
          cases h
          exact r_zret Ra (Or.inl rfl) ⟨hV37, (Or.inl rfl)⟩ dX4_readTest_44
set_option maxHeartbeats 4000000 in
theorem b_pR_readTest {l : Launch} {en : En} {N d : Nat} {gs : Nat → Int → Mem → Option (Int × Mem)} (IH : IHR l en gs d) {μ : Mem}  {re : Int} {μe : Mem} (hV : VT μ)  (h : pR_readTest_b N gs μ  = some (re, μe)) : CtI l en yX4_readTest cX4_readTest 2 (3 + (d + 1)) (104 + 22 * (d + 1)) [vA en 18] μ .boolean re μe (VT μe ∧ (re = 0 ∨ re = 1)) := by
  refine Tr.of false (fun h => by cases h) (by decide) (Nat.le_of_ble_eq_true rfl) (fun K Ra => ?_)
  unfold pR_readTest_b at h
  refine r_aload_n Ra (i := 0) dX4_readTest_0 rfl rfl ?_
  obtain ⟨⟨r1, m1⟩, hr1, h⟩ := bd h
  refine q_callVI_g Ra (IH.2.2.2.2.2.2.1 _ _ _ hV hr1) mw_X4_readBoth mi_X4_readBoth t18 rfl rfl rfl rfl rfl k_X4_201 (by omega) (by omega) rfl dX4_readTest_1 (fun ok1 => ?_)
  obtain ⟨hV1, ok1⟩ := ok1
  refine r_if_ne Ra 9 dX4_readTest_4 (inR_01 ok1) rfl (fun hc => ?_) (fun hc => ?_)
  · replace h := ineg hc h
    refine r_iconst Ra dX4_readTest_9 ?_
    refine q_istore_n Ra 1 dX4_readTest_10 rfl rfl rfl ?_
    refine k_pR_readTest_L11 IH Ra ?_ _ _ _ _ h (Rk rfl) hV1 rfl rfl
    intro n61 h hn61 L9 
    refine r_iconst Ra dX4_readTest_61 ?_
    cases h
    exact r_zret Ra (Or.inr rfl) ⟨hn61, (Or.inr rfl)⟩ dX4_readTest_62
  · replace h := ipos hc h
    refine r_iconst Ra dX4_readTest_7 ?_
    cases h
    exact r_zret Ra (Or.inl rfl) ⟨hV1, (Or.inl rfl)⟩ dX4_readTest_8
noncomputable def pR_readBoth_L11b (N : Nat) (gs : Nat → Int → Mem → Option (Int × Mem))  (k : Mem → Option (Int × Mem)) (self : Int → Mem → Option (Int × Mem)) (x1 : Int) (μ : Mem) : Option (Int × Mem) := if x1 < 1600 then if 0 ≤ μ 18 7 ∧ μ 18 7 < 1601 then if μ 35 (μ 18 7) = 19 then (pR_pass μ).bind fun m33 => (gs 7 0 m33).bind fun (r37, m37) => if r37 = 0 then some (0, m37) else (pU_add m37 (m37 18 10) 14 0).bind fun m52 => (some (w32 (x1 + 1) : Int)).bind fun x1_55 => self x1_55 m52 else k μ else none else k μ
noncomputable def pR_readBoth_L11 (N : Nat) (gs : Nat → Int → Mem → Option (Int × Mem))  (k : Mem → Option (Int × Mem)) (n : Nat) : Int → Mem → Option (Int × Mem) := lpF (fun _ _ => none) (pR_readBoth_L11b N gs k) n
noncomputable def pR_readBoth_b (N : Nat) (gs : Nat → Int → Mem → Option (Int × Mem)) (μ : Mem)  : Option (Int × Mem) := (gs 7 0 μ).bind fun (r1, m1) => if r1 = 0 then some (0, m1) else pR_readBoth_L11 N gs (fun n61 => some (1, n61)) N 0 m1
theorem k_pR_readBoth_L11 {l : Launch} {en : En} {re : Int} {μe : Mem} {N : Nat} {gs : Nat → Int → Mem → Option (Int × Mem)} {d : Nat} (IH : IHR l en gs d)  {k : Mem → Option (Int × Mem)} {K : KT} (Ra : Ru false (some (some .boolean, some (vI re), nCells, μe, 0, 0, (VT μe ∧ (re = 0 ∨ re = 1)))) l en cX4_readBoth yX4_readBoth.cls 2 (rmN (3 + (d + 1)) (104 + 22 * (d + 1))) K)  (hk : ∀  (μ9 : Mem), k μ9 = some (re, μe) → VT μ9 → ∀ L9 : Lo, K ZN 61 L9 [] μ9) : ∀ (n : Nat) (x1 : Int) (μ : Mem) (L : Lo), pR_readBoth_L11 N gs k n x1 μ = some (re, μe) → inR x1 → VT μ → L 0 = some (vA en 18) → L 1 = some (vI x1) → K ZN 11 L [] μ := by
  intro n
  induction n with
  | zero => intro x1 μ L h; cases h
  | succ n ih =>
    intro x1 μ L h hx1 hV hL0 hL1
    replace h : pR_readBoth_L11b N gs k (pR_readBoth_L11 N gs k n) x1 μ = some (re, μe) := h
    unfold pR_readBoth_L11b at h
    refine r_iload_n Ra (i := 1) dX4_readBoth_11 rfl hL1 ?_
    refine r_sipush Ra dX4_readBoth_12 rfl ?_
    refine r_icmp_ge Ra 61 dX4_readBoth_15 hx1 (Rk rfl) rfl (fun hc => ?_) (fun hc => ?_)
    · replace h := ineg hc h
      exact hk μ h  hV _ 
    · replace h := ipos hc h
      refine r_aload_n Ra (i := 0) dX4_readBoth_18 rfl hL0 ?_
      refine q_getA Ra (b := 35) f_X4_22 t18 rfl rfl rfl (hV.ref t18 rfl (by decide)) (by decide) dX4_readBoth_19 ?_
      refine r_aload_n Ra (i := 0) dX4_readBoth_22 rfl hL0 ?_
      refine q_getI Ra (x := μ 18 7) f_X4_42 t18 rfl rfl rfl rfl dX4_readBoth_23 ?_
      obtain ⟨gu26, h⟩ := gd h
      refine q_iald Ra t35 l35 gu26 dX4_readBoth_26 ?_
      refine r_bipush Ra dX4_readBoth_27 rfl ?_
      refine r_icmp_ne Ra 61 dX4_readBoth_29 (hV.int t35 (kd20 _)) (Rk rfl) rfl (fun hc => ?_) (fun hc => ?_)
      · replace h := ineg hc h
        exact hk μ h  hV _ 
      · replace h := ipos hc h
        refine r_aload_n Ra (i := 0) dX4_readBoth_32 rfl hL0 ?_
        obtain ⟨m33, hr33, h⟩ := bd h
        refine q_callVV_g Ra (c_pR_pass hV hr33) mw_X4_pass mi_X4_pass t18 rfl rfl rfl rfl rfl k_X4_102 (by omega) (by omega) rfl dX4_readBoth_33 (fun ok33 => ?_)
        refine r_aload_n Ra (i := 0) dX4_readBoth_36 rfl hL0 ?_
        obtain ⟨⟨r37, m37⟩, hr37, h⟩ := bd h
        refine q_callVI_g Ra (IH.2.2.2.2.2.2.2.1 _ _ _ ok33 hr37) mw_X4_readFact mi_X4_readFact t18 rfl rfl rfl rfl rfl k_X4_204 (by omega) (by omega) rfl dX4_readBoth_37 (fun ok37 => ?_)
        obtain ⟨hV37, ok37⟩ := ok37
        refine r_if_ne Ra 45 dX4_readBoth_40 (inR_01 ok37) rfl (fun hc => ?_) (fun hc => ?_)
        · replace h := ineg hc h
          refine r_aload_n Ra (i := 0) dX4_readBoth_45 rfl hL0 ?_
          refine q_getS Ra (b := m37 18 10) f_X4_36 t18 rfl rfl rfl rfl (hV37.sum t18 rfl) dX4_readBoth_46 ?_
          refine r_bipush Ra dX4_readBoth_49 rfl ?_
          refine r_iconst Ra dX4_readBoth_51 ?_
          obtain ⟨m52, hr52, h⟩ := bd h
          refine q_callVV_g Ra (c_pU_add hV37 (hV37.sum t18 rfl) (Rk rfl) (Rk rfl) hr52) mw_X6_add mi_X6_add (hV37.sum t18 rfl) rfl rfl rfl rfl rfl k_X4_173 (by omega) (by omega) rfl dX4_readBoth_52 (fun ok52 => ?_)
          obtain ⟨x1_55, ex1_55, h⟩ := bv h
          have ix1_55 : inR x1_55 := eqR ex1_55 (inR_32 _)
          refine q_iinc Ra dX4_readBoth_55 hL1 ex1_55 ?_
          refine r_goto Ra 11 dX4_readBoth_58 rfl ?_
          exact ih x1_55 m52 _ h ix1_55 ok52 hL0 rfl
        · replace h := ipos hc h
          refine r_iconst Ra dX4_readBoth_43 ?_
          cases h
          exact r_zret Ra (Or.inl rfl) ⟨hV37, (Or.inl rfl)⟩ dX4_readBoth_44
set_option maxHeartbeats 4000000 in
theorem b_pR_readBoth {l : Launch} {en : En} {N d : Nat} {gs : Nat → Int → Mem → Option (Int × Mem)} (IH : IHR l en gs d) {μ : Mem}  {re : Int} {μe : Mem} (hV : VT μ)  (h : pR_readBoth_b N gs μ  = some (re, μe)) : CtI l en yX4_readBoth cX4_readBoth 2 (3 + (d + 1)) (104 + 22 * (d + 1)) [vA en 18] μ .boolean re μe (VT μe ∧ (re = 0 ∨ re = 1)) := by
  refine Tr.of false (fun h => by cases h) (by decide) (Nat.le_of_ble_eq_true rfl) (fun K Ra => ?_)
  unfold pR_readBoth_b at h
  refine r_aload_n Ra (i := 0) dX4_readBoth_0 rfl rfl ?_
  obtain ⟨⟨r1, m1⟩, hr1, h⟩ := bd h
  refine q_callVI_g Ra (IH.2.2.2.2.2.2.2.1 _ _ _ hV hr1) mw_X4_readFact mi_X4_readFact t18 rfl rfl rfl rfl rfl k_X4_204 (by omega) (by omega) rfl dX4_readBoth_1 (fun ok1 => ?_)
  obtain ⟨hV1, ok1⟩ := ok1
  refine r_if_ne Ra 9 dX4_readBoth_4 (inR_01 ok1) rfl (fun hc => ?_) (fun hc => ?_)
  · replace h := ineg hc h
    refine r_iconst Ra dX4_readBoth_9 ?_
    refine q_istore_n Ra 1 dX4_readBoth_10 rfl rfl rfl ?_
    refine k_pR_readBoth_L11 IH Ra ?_ _ _ _ _ h (Rk rfl) hV1 rfl rfl
    intro n61 h hn61 L9 
    refine r_iconst Ra dX4_readBoth_61 ?_
    cases h
    exact r_zret Ra (Or.inr rfl) ⟨hn61, (Or.inr rfl)⟩ dX4_readBoth_62
  · replace h := ipos hc h
    refine r_iconst Ra dX4_readBoth_7 ?_
    cases h
    exact r_zret Ra (Or.inl rfl) ⟨hV1, (Or.inl rfl)⟩ dX4_readBoth_8
noncomputable def pR_readFact_b (N : Nat) (gs : Nat → Int → Mem → Option (Int × Mem)) (μ : Mem)  : Option (Int × Mem) := if 0 ≤ μ 18 7 ∧ μ 18 7 < 1601 then if μ 35 (μ 18 7) = 20 then (gs 8 0 μ).bind fun (r45, m45) => some (r45, m45) else if μ 35 (μ 18 7) = 21 then (pR_tell μ 0 1).bind fun (r83, m83) => some (r83, m83) else if μ 35 (μ 18 7) = 91 then (pR_opens μ 91).bind fun (r52, m52) => if r52 = 0 then some (0, m52) else (gs 5 0 m52).bind fun (r59, m59) => if r59 = 0 then some (0, m59) else (pR_closes m59 93).bind fun (r68, m68) => if r68 = 0 then some (0, m68) else some (1, m68) else (gs 9 0 μ).bind fun (r88, m88) => some (r88, m88) else none
set_option maxHeartbeats 4000000 in
theorem b_pR_readFact {l : Launch} {en : En} {N d : Nat} {gs : Nat → Int → Mem → Option (Int × Mem)} (IH : IHR l en gs d) {μ : Mem}  {re : Int} {μe : Mem} (hV : VT μ)  (h : pR_readFact_b N gs μ  = some (re, μe)) : CtI l en yX4_readFact cX4_readFact 1 (3 + (d + 1)) (104 + 22 * (d + 1)) [vA en 18] μ .boolean re μe (VT μe ∧ (re = 0 ∨ re = 1)) := by
  refine Tr.of false (fun h => by cases h) (by decide) (Nat.le_of_ble_eq_true rfl) (fun K Ra => ?_)
  unfold pR_readFact_b at h
  refine r_aload_n Ra (i := 0) dX4_readFact_0 rfl rfl ?_
  refine q_getA Ra (b := 35) f_X4_22 t18 rfl rfl rfl (hV.ref t18 rfl (by decide)) (by decide) dX4_readFact_1 ?_
  refine r_aload_n Ra (i := 0) dX4_readFact_4 rfl rfl ?_
  refine q_getI Ra (x := μ 18 7) f_X4_42 t18 rfl rfl rfl rfl dX4_readFact_5 ?_
  obtain ⟨gu8, h⟩ := gd h
  refine q_iald Ra t35 l35 gu8 dX4_readFact_8 ?_
  by_cases hc : μ 35 (μ 18 7) = 20
  · replace h := ipos hc h
    refine r_lookup Ra 44 dX4_readFact_9 (hV.int t35 (kd20 _)) rfl (by rw [hc]; try rfl) rfl ?_
    refine r_aload_n Ra (i := 0) dX4_readFact_44 rfl rfl ?_
    obtain ⟨⟨r45, m45⟩, hr45, h⟩ := bd h
    refine q_callVI_g Ra (IH.2.2.2.2.2.2.2.2.1 _ _ _ hV hr45) mw_X4_readNot mi_X4_readNot t18 rfl rfl rfl rfl rfl k_X4_207 (by omega) (by omega) rfl dX4_readFact_45 (fun ok45 => ?_)
    obtain ⟨hV45, ok45⟩ := ok45
    cases h
    exact r_zret Ra ok45 ⟨hV45, ok45⟩ dX4_readFact_48
  · have hs9_0 := hc
    replace h := ineg hc h
    by_cases hc : μ 35 (μ 18 7) = 21
    · replace h := ipos hc h
      refine r_lookup Ra 80 dX4_readFact_9 (hV.int t35 (kd20 _)) rfl (by rw [hc]; try rfl) rfl ?_
      refine r_aload_n Ra (i := 0) dX4_readFact_80 rfl rfl ?_
      refine r_iconst Ra dX4_readFact_81 ?_
      refine r_iconst Ra dX4_readFact_82 ?_
      obtain ⟨⟨r83, m83⟩, hr83, h⟩ := bd h
      refine q_callVI_g Ra (c_pR_tell hV (Rk rfl) (Rk rfl) hr83) mw_X4_tell mi_X4_tell t18 rfl rfl rfl rfl rfl k_X4_183 (by omega) (by omega) rfl dX4_readFact_83 (fun ok83 => ?_)
      obtain ⟨hV83, ok83⟩ := ok83
      cases h
      exact r_zret Ra ok83 ⟨hV83, ok83⟩ dX4_readFact_86
    · have hs9_1 := hc
      replace h := ineg hc h
      by_cases hc : μ 35 (μ 18 7) = 91
      · replace h := ipos hc h
        refine r_lookup Ra 49 dX4_readFact_9 (hV.int t35 (kd20 _)) rfl (by rw [hc]; try rfl) rfl ?_
        refine r_aload_n Ra (i := 0) dX4_readFact_49 rfl rfl ?_
        refine r_bipush Ra dX4_readFact_50 rfl ?_
        obtain ⟨⟨r52, m52⟩, hr52, h⟩ := bd h
        refine q_callVI_g Ra (c_pR_opens hV (Rk rfl) hr52) mw_X4_opens mi_X4_opens t18 rfl rfl rfl rfl rfl k_X4_186 (by omega) (by omega) rfl dX4_readFact_52 (fun ok52 => ?_)
        obtain ⟨hV52, ok52⟩ := ok52
        refine r_if_eq Ra 78 dX4_readFact_55 (inR_01 ok52) rfl (fun hc => ?_) (fun hc => ?_)
        · replace h := ipos hc h
          refine r_iconst Ra dX4_readFact_78 ?_
          cases h
          exact r_zret Ra (Or.inl rfl) ⟨hV52, (Or.inl rfl)⟩ dX4_readFact_79
        · replace h := ineg hc h
          refine r_aload_n Ra (i := 0) dX4_readFact_58 rfl rfl ?_
          obtain ⟨⟨r59, m59⟩, hr59, h⟩ := bd h
          refine q_callVI_g Ra (IH.2.2.2.2.2.1 _ _ _ hV52 hr59) mw_X4_readTest mi_X4_readTest t18 rfl rfl rfl rfl rfl k_X4_198 (by omega) (by omega) rfl dX4_readFact_59 (fun ok59 => ?_)
          obtain ⟨hV59, ok59⟩ := ok59
          refine r_if_eq Ra 78 dX4_readFact_62 (inR_01 ok59) rfl (fun hc => ?_) (fun hc => ?_)
          · replace h := ipos hc h
            refine r_iconst Ra dX4_readFact_78 ?_
            cases h
            exact r_zret Ra (Or.inl rfl) ⟨hV59, (Or.inl rfl)⟩ dX4_readFact_79
          · replace h := ineg hc h
            refine r_aload_n Ra (i := 0) dX4_readFact_65 rfl rfl ?_
            refine r_bipush Ra dX4_readFact_66 rfl ?_
            obtain ⟨⟨r68, m68⟩, hr68, h⟩ := bd h
            refine q_callVI_g Ra (c_pR_closes hV59 (Rk rfl) hr68) mw_X4_closes mi_X4_closes t18 rfl rfl rfl rfl rfl k_X4_189 (by omega) (by omega) rfl dX4_readFact_68 (fun ok68 => ?_)
            obtain ⟨hV68, ok68⟩ := ok68
            refine r_if_eq Ra 78 dX4_readFact_71 (inR_01 ok68) rfl (fun hc => ?_) (fun hc => ?_)
            · replace h := ipos hc h
              refine r_iconst Ra dX4_readFact_78 ?_
              cases h
              exact r_zret Ra (Or.inl rfl) ⟨hV68, (Or.inl rfl)⟩ dX4_readFact_79
            · replace h := ineg hc h
              refine r_iconst Ra dX4_readFact_74 ?_
              refine r_goto Ra 79 dX4_readFact_75 rfl ?_
              cases h
              exact r_zret Ra (Or.inr rfl) ⟨hV68, (Or.inr rfl)⟩ dX4_readFact_79
      · have hs9_2 := hc
        replace h := ineg hc h
        refine r_lookup Ra (off := 78) 87 dX4_readFact_9 (hV.int t35 (kd20 _)) rfl ((if_neg (fun q => hs9_0 q.symm)).trans ((if_neg (fun q => hs9_1 q.symm)).trans (if_neg (fun q => hs9_2 q.symm)))) rfl ?_
        refine r_aload_n Ra (i := 0) dX4_readFact_87 rfl rfl ?_
        obtain ⟨⟨r88, m88⟩, hr88, h⟩ := bd h
        refine q_callVI_g Ra (IH.2.2.2.2.2.2.2.2.2 _ _ _ hV hr88) mw_X4_readComparison mi_X4_readComparison t18 rfl rfl rfl rfl rfl k_X4_210 (by omega) (by omega) rfl dX4_readFact_88 (fun ok88 => ?_)
        obtain ⟨hV88, ok88⟩ := ok88
        cases h
        exact r_zret Ra ok88 ⟨hV88, ok88⟩ dX4_readFact_91
noncomputable def pR_readNot_b (N : Nat) (gs : Nat → Int → Mem → Option (Int × Mem)) (μ : Mem)  : Option (Int × Mem) := (pR_opens μ 20).bind fun (r3, m3) => if r3 = 0 then some (0, m3) else (gs 7 0 m3).bind fun (r10, m10) => if r10 = 0 then some (0, m10) else (some (mset m10 18 8 (w32 ((m10 18 8) - 1)))).bind fun m25 => (pU_add m25 (m25 18 10) 2 0).bind fun m34 => some (1, m34)
set_option maxHeartbeats 4000000 in
theorem b_pR_readNot {l : Launch} {en : En} {N d : Nat} {gs : Nat → Int → Mem → Option (Int × Mem)} (IH : IHR l en gs d) {μ : Mem}  {re : Int} {μe : Mem} (hV : VT μ)  (h : pR_readNot_b N gs μ  = some (re, μe)) : CtI l en yX4_readNot cX4_readNot 1 (3 + (d + 1)) (104 + 22 * (d + 1)) [vA en 18] μ .boolean re μe (VT μe ∧ (re = 0 ∨ re = 1)) := by
  refine Tr.of false (fun h => by cases h) (by decide) (Nat.le_of_ble_eq_true rfl) (fun K Ra => ?_)
  unfold pR_readNot_b at h
  refine r_aload_n Ra (i := 0) dX4_readNot_0 rfl rfl ?_
  refine r_bipush Ra dX4_readNot_1 rfl ?_
  obtain ⟨⟨r3, m3⟩, hr3, h⟩ := bd h
  refine q_callVI_g Ra (c_pR_opens hV (Rk rfl) hr3) mw_X4_opens mi_X4_opens t18 rfl rfl rfl rfl rfl k_X4_186 (by omega) (by omega) rfl dX4_readNot_3 (fun ok3 => ?_)
  obtain ⟨hV3, ok3⟩ := ok3
  refine r_if_eq Ra 16 dX4_readNot_6 (inR_01 ok3) rfl (fun hc => ?_) (fun hc => ?_)
  · replace h := ipos hc h
    refine r_iconst Ra dX4_readNot_16 ?_
    cases h
    exact r_zret Ra (Or.inl rfl) ⟨hV3, (Or.inl rfl)⟩ dX4_readNot_17
  · replace h := ineg hc h
    refine r_aload_n Ra (i := 0) dX4_readNot_9 rfl rfl ?_
    obtain ⟨⟨r10, m10⟩, hr10, h⟩ := bd h
    refine q_callVI_g Ra (IH.2.2.2.2.2.2.2.1 _ _ _ hV3 hr10) mw_X4_readFact mi_X4_readFact t18 rfl rfl rfl rfl rfl k_X4_204 (by omega) (by omega) rfl dX4_readNot_10 (fun ok10 => ?_)
    obtain ⟨hV10, ok10⟩ := ok10
    refine r_if_ne Ra 18 dX4_readNot_13 (inR_01 ok10) rfl (fun hc => ?_) (fun hc => ?_)
    · replace h := ineg hc h
      refine r_aload_n Ra (i := 0) dX4_readNot_18 rfl rfl ?_
      refine r_dupA Ra dX4_readNot_19 ?_
      refine q_getI Ra (x := m10 18 8) f_X4_45 t18 rfl rfl rfl rfl dX4_readNot_20 ?_
      refine r_iconst Ra dX4_readNot_23 ?_
      refine r_isub Ra dX4_readNot_24 ?_
      obtain ⟨m25, em25, h⟩ := bv h
      have hm25 : VT m25 := eqV em25 (hV10.setI t18 rfl (inR_32 _))
      refine q_putI Ra f_X4_45 p_X4_8 t18 rfl rfl rfl em25 dX4_readNot_25 ?_
      refine r_aload_n Ra (i := 0) dX4_readNot_28 rfl rfl ?_
      refine q_getS Ra (b := m25 18 10) f_X4_36 t18 rfl rfl rfl rfl (hm25.sum t18 rfl) dX4_readNot_29 ?_
      refine r_iconst Ra dX4_readNot_32 ?_
      refine r_iconst Ra dX4_readNot_33 ?_
      obtain ⟨m34, hr34, h⟩ := bd h
      refine q_callVV_g Ra (c_pU_add hm25 (hm25.sum t18 rfl) (Rk rfl) (Rk rfl) hr34) mw_X6_add mi_X6_add (hm25.sum t18 rfl) rfl rfl rfl rfl rfl k_X4_173 (by omega) (by omega) rfl dX4_readNot_34 (fun ok34 => ?_)
      refine r_iconst Ra dX4_readNot_37 ?_
      cases h
      exact r_zret Ra (Or.inr rfl) ⟨ok34, (Or.inr rfl)⟩ dX4_readNot_38
    · replace h := ipos hc h
      refine r_iconst Ra dX4_readNot_16 ?_
      cases h
      exact r_zret Ra (Or.inl rfl) ⟨hV10, (Or.inl rfl)⟩ dX4_readNot_17
noncomputable def pR_readComparison_b (N : Nat) (gs : Nat → Int → Mem → Option (Int × Mem)) (μ : Mem)  : Option (Int × Mem) := (gs 0 0 μ).bind fun (r1, m1) => if r1 = 0 then some (0, m1) else if 0 ≤ m1 18 7 ∧ m1 18 7 < 1601 then jn (α := Int → Option (Int × Mem)) (fun (yl1_67 : Int) => (pR_pass m1).bind fun m68 => (gs 0 0 m68).bind fun (r72, m72) => if r72 = 0 then some (0, m72) else (pU_add m72 (m72 18 10) yl1_67 0).bind fun m86 => some (1, m86)) (fun (j67 : Int → Option (Int × Mem)) => if m1 35 (m1 18 7) = 60 then j67 (11 : Int) else if m1 35 (m1 18 7) = 61 then j67 (13 : Int) else if m1 35 (m1 18 7) = 62 then j67 (12 : Int) else (pR_astray m1).bind fun (r63, m63) => some (r63, m63)) else none
set_option maxHeartbeats 4000000 in
theorem b_pR_readComparison {l : Launch} {en : En} {N d : Nat} {gs : Nat → Int → Mem → Option (Int × Mem)} (IH : IHR l en gs d) {μ : Mem}  {re : Int} {μe : Mem} (hV : VT μ)  (h : pR_readComparison_b N gs μ  = some (re, μe)) : CtI l en yX4_readComparison cX4_readComparison 2 (3 + (d + 1)) (104 + 22 * (d + 1)) [vA en 18] μ .boolean re μe (VT μe ∧ (re = 0 ∨ re = 1)) := by
  refine Tr.of false (fun h => by cases h) (by decide) (Nat.le_of_ble_eq_true rfl) (fun K Ra => ?_)
  unfold pR_readComparison_b at h
  refine r_aload_n Ra (i := 0) dX4_readComparison_0 rfl rfl ?_
  obtain ⟨⟨r1, m1⟩, hr1, h⟩ := bd h
  refine q_callVI_g Ra (IH.1 _ _ _ hV hr1) mw_X4_readSum mi_X4_readSum t18 rfl rfl rfl rfl rfl k_X4_164 (by omega) (by omega) rfl dX4_readComparison_1 (fun ok1 => ?_)
  obtain ⟨hV1, ok1⟩ := ok1
  refine r_if_ne Ra 9 dX4_readComparison_4 (inR_01 ok1) rfl (fun hc => ?_) (fun hc => ?_)
  · replace h := ineg hc h
    refine r_aload_n Ra (i := 0) dX4_readComparison_9 rfl rfl ?_
    refine q_getA Ra (b := 35) f_X4_22 t18 rfl rfl rfl (hV1.ref t18 rfl (by decide)) (by decide) dX4_readComparison_10 ?_
    refine r_aload_n Ra (i := 0) dX4_readComparison_13 rfl rfl ?_
    refine q_getI Ra (x := m1 18 7) f_X4_42 t18 rfl rfl rfl rfl dX4_readComparison_14 ?_
    obtain ⟨gu17, h⟩ := gd h
    refine q_iald Ra t35 l35 gu17 dX4_readComparison_17 ?_
    obtain ⟨j67, ej67, h⟩ := jn_elim h
    have hJ67 : ∀ (yl1_67 : Int), j67 yl1_67 = some (re, μe) → inR yl1_67 → ∀ L9 : Lo, L9 0 = some (vA en 18) → L9 1 = some (vI yl1_67) → K ZN 67 L9 [] m1 := by
      intro yl1_67 h iyl1_67 L9 f67_0 f67_1
      rw [ej67] at h
      refine r_aload_n Ra (i := 0) dX4_readComparison_67 rfl f67_0 ?_
      obtain ⟨m68, hr68, h⟩ := bd h
      refine q_callVV_g Ra (c_pR_pass hV1 hr68) mw_X4_pass mi_X4_pass t18 rfl rfl rfl rfl rfl k_X4_102 (by omega) (by omega) rfl dX4_readComparison_68 (fun ok68 => ?_)
      refine r_aload_n Ra (i := 0) dX4_readComparison_71 rfl f67_0 ?_
      obtain ⟨⟨r72, m72⟩, hr72, h⟩ := bd h
      refine q_callVI_g Ra (IH.1 _ _ _ ok68 hr72) mw_X4_readSum mi_X4_readSum t18 rfl rfl rfl rfl rfl k_X4_164 (by omega) (by omega) rfl dX4_readComparison_72 (fun ok72 => ?_)
      obtain ⟨hV72, ok72⟩ := ok72
      refine r_if_ne Ra 80 dX4_readComparison_75 (inR_01 ok72) rfl (fun hc => ?_) (fun hc => ?_)
      · replace h := ineg hc h
        refine r_aload_n Ra (i := 0) dX4_readComparison_80 rfl f67_0 ?_
        refine q_getS Ra (b := m72 18 10) f_X4_36 t18 rfl rfl rfl rfl (hV72.sum t18 rfl) dX4_readComparison_81 ?_
        refine r_iload_n Ra (i := 1) dX4_readComparison_84 rfl f67_1 ?_
        refine r_iconst Ra dX4_readComparison_85 ?_
        obtain ⟨m86, hr86, h⟩ := bd h
        refine q_callVV_g Ra (c_pU_add hV72 (hV72.sum t18 rfl) iyl1_67 (Rk rfl) hr86) mw_X6_add mi_X6_add (hV72.sum t18 rfl) rfl rfl rfl rfl rfl k_X4_173 (by omega) (by omega) rfl dX4_readComparison_86 (fun ok86 => ?_)
        refine r_iconst Ra dX4_readComparison_89 ?_
        cases h
        exact r_zret Ra (Or.inr rfl) ⟨ok86, (Or.inr rfl)⟩ dX4_readComparison_90
      · replace h := ipos hc h
        refine r_iconst Ra dX4_readComparison_78 ?_
        cases h
        exact r_zret Ra (Or.inl rfl) ⟨hV72, (Or.inl rfl)⟩ dX4_readComparison_79
    by_cases hc : m1 35 (m1 18 7) = 60
    · replace h := ipos hc h
      refine q_tableC Ra 44 dX4_readComparison_18 (hV1.int t35 (kd20 _)) hc rfl rfl rfl ?_
      refine r_bipush Ra dX4_readComparison_44 rfl ?_
      refine q_istore_n Ra 1 dX4_readComparison_46 rfl rfl rfl ?_
      refine r_goto Ra 67 dX4_readComparison_47 rfl ?_
      exact hJ67 (11 : Int) h (Rk rfl) _ rfl rfl
    · have hs18_0 := hc
      replace h := ineg hc h
      by_cases hc : m1 35 (m1 18 7) = 61
      · replace h := ipos hc h
        refine q_tableC Ra 56 dX4_readComparison_18 (hV1.int t35 (kd20 _)) hc rfl rfl rfl ?_
        refine r_bipush Ra dX4_readComparison_56 rfl ?_
        refine q_istore_n Ra 1 dX4_readComparison_58 rfl rfl rfl ?_
        refine r_goto Ra 67 dX4_readComparison_59 rfl ?_
        exact hJ67 (13 : Int) h (Rk rfl) _ rfl rfl
      · have hs18_1 := hc
        replace h := ineg hc h
        by_cases hc : m1 35 (m1 18 7) = 62
        · replace h := ipos hc h
          refine q_tableC Ra 50 dX4_readComparison_18 (hV1.int t35 (kd20 _)) hc rfl rfl rfl ?_
          refine r_bipush Ra dX4_readComparison_50 rfl ?_
          refine q_istore_n Ra 1 dX4_readComparison_52 rfl rfl rfl ?_
          refine r_goto Ra 67 dX4_readComparison_53 rfl ?_
          exact hJ67 (12 : Int) h (Rk rfl) _ rfl rfl
        · have hs18_2 := hc
          replace h := ineg hc h
          refine q_tableD Ra 62 dX4_readComparison_18 (hV1.int t35 (kd20 _)) [60, 61, 62] (List.forall_mem_cons.mpr ⟨hs18_0, (List.forall_mem_cons.mpr ⟨hs18_1, (List.forall_mem_cons.mpr ⟨hs18_2, (fun _ h9 => absurd h9 List.not_mem_nil)⟩)⟩)⟩) rfl rfl ?_
          refine r_aload_n Ra (i := 0) dX4_readComparison_62 rfl rfl ?_
          obtain ⟨⟨r63, m63⟩, hr63, h⟩ := bd h
          refine q_callVI_g Ra (c_pR_astray hV1 hr63) mw_X4_astray mi_X4_astray t18 rfl rfl rfl rfl rfl k_X4_75 (by omega) (by omega) rfl dX4_readComparison_63 (fun ok63 => ?_)
          obtain ⟨hV63, ok63⟩ := ok63
          cases h
          exact r_zret Ra ok63 ⟨hV63, ok63⟩ dX4_readComparison_66
  · replace h := ipos hc h
    refine r_iconst Ra dX4_readComparison_7 ?_
    cases h
    exact r_zret Ra (Or.inl rfl) ⟨hV1, (Or.inl rfl)⟩ dX4_readComparison_8
noncomputable def pgR (N : Nat) (d : Nat) : Nat → Int → Mem → Option (Int × Mem) := lpF (fun _ _ _ => none) (fun gs w x0 μ => match w with
  | 0 => pR_readSum_b N gs μ 
  | 1 => pR_readProduct_b N gs μ 
  | 2 => pR_readPart_b N gs μ 
  | 3 => pR_readPair_b N gs μ x0
  | 4 => pR_readChoice_b N gs μ 
  | 5 => pR_readTest_b N gs μ 
  | 6 => pR_readBoth_b N gs μ 
  | 7 => pR_readFact_b N gs μ 
  | 8 => pR_readNot_b N gs μ 
  | 9 => pR_readComparison_b N gs μ 
  | _ => none) d
theorem cgR {l : Launch} {en : En} (N : Nat) : ∀ d : Nat, IHR l en (pgR N d) d := by
  intro d
  induction d with
  | zero => exact ⟨(fun _ _ _ _  h => by cases h), (fun _ _ _ _  h => by cases h), (fun _ _ _ _  h => by cases h), (fun _ _ _ _ _ _ h => by cases h), (fun _ _ _ _  h => by cases h), (fun _ _ _ _  h => by cases h), (fun _ _ _ _  h => by cases h), (fun _ _ _ _  h => by cases h), (fun _ _ _ _  h => by cases h), (fun _ _ _ _  h => by cases h)⟩
  | succ d ih => exact ⟨(fun _ _ _ hV  h => b_pR_readSum (N := N) ih hV  h), (fun _ _ _ hV  h => b_pR_readProduct (N := N) ih hV  h), (fun _ _ _ hV  h => b_pR_readPart (N := N) ih hV  h), (fun _ _ _ _ hV h0 h => b_pR_readPair (N := N) ih hV h0 h), (fun _ _ _ hV  h => b_pR_readChoice (N := N) ih hV  h), (fun _ _ _ hV  h => b_pR_readTest (N := N) ih hV  h), (fun _ _ _ hV  h => b_pR_readBoth (N := N) ih hV  h), (fun _ _ _ hV  h => b_pR_readFact (N := N) ih hV  h), (fun _ _ _ hV  h => b_pR_readNot (N := N) ih hV  h), (fun _ _ _ hV  h => b_pR_readComparison (N := N) ih hV  h)⟩
noncomputable def pR_readSum (N : Nat) (μ : Mem)  : Option (Int × Mem) := pgR N 200 0 0 μ
theorem c_pR_readSum {l : Launch} {en : En} {N : Nat} {μ : Mem}  {re : Int} {μe : Mem} (hV : VT μ)  (h : pR_readSum N μ  = some (re, μe)) : CtI l en yX4_readSum cX4_readSum 3 (3 + 200) (104 + 22 * 200) [vA en 18] μ .boolean re μe (VT μe ∧ (re = 0 ∨ re = 1)) := (cgR N 200).1 _ _ _ hV  h
noncomputable def pR_readProduct (N : Nat) (μ : Mem)  : Option (Int × Mem) := pgR N 200 1 0 μ
theorem c_pR_readProduct {l : Launch} {en : En} {N : Nat} {μ : Mem}  {re : Int} {μe : Mem} (hV : VT μ)  (h : pR_readProduct N μ  = some (re, μe)) : CtI l en yX4_readProduct cX4_readProduct 3 (3 + 200) (104 + 22 * 200) [vA en 18] μ .boolean re μe (VT μe ∧ (re = 0 ∨ re = 1)) := (cgR N 200).2.1 _ _ _ hV  h
noncomputable def pR_readPart (N : Nat) (μ : Mem)  : Option (Int × Mem) := pgR N 200 2 0 μ
theorem c_pR_readPart {l : Launch} {en : En} {N : Nat} {μ : Mem}  {re : Int} {μe : Mem} (hV : VT μ)  (h : pR_readPart N μ  = some (re, μe)) : CtI l en yX4_readPart cX4_readPart 1 (3 + 200) (104 + 22 * 200) [vA en 18] μ .boolean re μe (VT μe ∧ (re = 0 ∨ re = 1)) := (cgR N 200).2.2.1 _ _ _ hV  h
noncomputable def pR_readPair (N : Nat) (μ : Mem) (x1 : Int) : Option (Int × Mem) := pgR N 200 3 x1 μ
theorem c_pR_readPair {l : Launch} {en : En} {N : Nat} {μ : Mem} {x1 : Int} {re : Int} {μe : Mem} (hV : VT μ) (hx1 : inR x1) (h : pR_readPair N μ x1 = some (re, μe)) : CtI l en yX4_readPair cX4_readPair 2 (3 + 200) (104 + 22 * 200) [vA en 18, vI x1] μ .boolean re μe (VT μe ∧ (re = 0 ∨ re = 1)) := (cgR N 200).2.2.2.1 _ _ _ _ hV hx1 h
noncomputable def pR_readChoice (N : Nat) (μ : Mem)  : Option (Int × Mem) := pgR N 200 4 0 μ
theorem c_pR_readChoice {l : Launch} {en : En} {N : Nat} {μ : Mem}  {re : Int} {μe : Mem} (hV : VT μ)  (h : pR_readChoice N μ  = some (re, μe)) : CtI l en yX4_readChoice cX4_readChoice 1 (3 + 200) (104 + 22 * 200) [vA en 18] μ .boolean re μe (VT μe ∧ (re = 0 ∨ re = 1)) := (cgR N 200).2.2.2.2.1 _ _ _ hV  h
noncomputable def pR_readTest (N : Nat) (μ : Mem)  : Option (Int × Mem) := pgR N 200 5 0 μ
theorem c_pR_readTest {l : Launch} {en : En} {N : Nat} {μ : Mem}  {re : Int} {μe : Mem} (hV : VT μ)  (h : pR_readTest N μ  = some (re, μe)) : CtI l en yX4_readTest cX4_readTest 2 (3 + 200) (104 + 22 * 200) [vA en 18] μ .boolean re μe (VT μe ∧ (re = 0 ∨ re = 1)) := (cgR N 200).2.2.2.2.2.1 _ _ _ hV  h
noncomputable def pR_readBoth (N : Nat) (μ : Mem)  : Option (Int × Mem) := pgR N 200 6 0 μ
theorem c_pR_readBoth {l : Launch} {en : En} {N : Nat} {μ : Mem}  {re : Int} {μe : Mem} (hV : VT μ)  (h : pR_readBoth N μ  = some (re, μe)) : CtI l en yX4_readBoth cX4_readBoth 2 (3 + 200) (104 + 22 * 200) [vA en 18] μ .boolean re μe (VT μe ∧ (re = 0 ∨ re = 1)) := (cgR N 200).2.2.2.2.2.2.1 _ _ _ hV  h
noncomputable def pR_readFact (N : Nat) (μ : Mem)  : Option (Int × Mem) := pgR N 200 7 0 μ
theorem c_pR_readFact {l : Launch} {en : En} {N : Nat} {μ : Mem}  {re : Int} {μe : Mem} (hV : VT μ)  (h : pR_readFact N μ  = some (re, μe)) : CtI l en yX4_readFact cX4_readFact 1 (3 + 200) (104 + 22 * 200) [vA en 18] μ .boolean re μe (VT μe ∧ (re = 0 ∨ re = 1)) := (cgR N 200).2.2.2.2.2.2.2.1 _ _ _ hV  h
noncomputable def pR_readNot (N : Nat) (μ : Mem)  : Option (Int × Mem) := pgR N 200 8 0 μ
theorem c_pR_readNot {l : Launch} {en : En} {N : Nat} {μ : Mem}  {re : Int} {μe : Mem} (hV : VT μ)  (h : pR_readNot N μ  = some (re, μe)) : CtI l en yX4_readNot cX4_readNot 1 (3 + 200) (104 + 22 * 200) [vA en 18] μ .boolean re μe (VT μe ∧ (re = 0 ∨ re = 1)) := (cgR N 200).2.2.2.2.2.2.2.2.1 _ _ _ hV  h
noncomputable def pR_readComparison (N : Nat) (μ : Mem)  : Option (Int × Mem) := pgR N 200 9 0 μ
theorem c_pR_readComparison {l : Launch} {en : En} {N : Nat} {μ : Mem}  {re : Int} {μe : Mem} (hV : VT μ)  (h : pR_readComparison N μ  = some (re, μe)) : CtI l en yX4_readComparison cX4_readComparison 2 (3 + 200) (104 + 22 * 200) [vA en 18] μ .boolean re μe (VT μe ∧ (re = 0 ∨ re = 1)) := (cgR N 200).2.2.2.2.2.2.2.2.2 _ _ _ hV  h
noncomputable def pR_readLaw (N : Nat) (μ : Mem) (x1 : Int) (a2 : Int) : Option (Int × Mem) := (pU_isTold μ a2).bind fun r1 => if r1 = 0 then (some (mset μ 18 9 x1)).bind fun m16 => (some (mset m16 18 10 a2)).bind fun m21 => (pR_pass m21).bind fun m25 => (pR_readSum N m25).bind fun (r29, m29) => some (r29, m29) else (pR_wrong μ 6).bind fun (r10, m10) => some (r10, m10)
set_option maxHeartbeats 4000000 in
theorem c_pR_readLaw {l : Launch} {en : En} {N : Nat} {μ : Mem} {x1 : Int} {a2 : Int} {re : Int} {μe : Mem} (hV : VT μ) (hx1 : inR x1) (ha2 : ty a2 = 7) (h : pR_readLaw N μ x1 a2 = some (re, μe)) : CtI l en yX4_readLaw cX4_readLaw 3 204 4526 [vA en 18, vI x1, vA en a2] μ .boolean re μe (VT μe ∧ (re = 0 ∨ re = 1)) := by
  refine Tr.of false (fun h => by cases h) (by decide) (Nat.le_of_ble_eq_true rfl) (fun K Ra => ?_)
  unfold pR_readLaw at h
  refine r_aload_n Ra (i := 2) dX4_readLaw_0 rfl rfl ?_
  obtain ⟨r1, hr1, h⟩ := bd h
  refine q_callVI Ra (c_pU_isTold hV ha2 hr1) mw_X6_isTold mi_X6_isTold ha2 rfl rfl rfl rfl rfl k_X4_156 rfl rfl dX4_readLaw_1 (fun ok1 => ?_)
  refine r_if_eq Ra 14 dX4_readLaw_4 (inR_01 ok1) rfl (fun hc => ?_) (fun hc => ?_)
  · replace h := ipos hc h
    refine r_aload_n Ra (i := 0) dX4_readLaw_14 rfl rfl ?_
    refine r_iload_n Ra (i := 1) dX4_readLaw_15 rfl rfl ?_
    obtain ⟨m16, em16, h⟩ := bv h
    have hm16 : VT m16 := eqV em16 (hV.setI t18 rfl hx1)
    refine q_putI Ra f_X4_161 p_X4_9 t18 rfl rfl rfl em16 dX4_readLaw_16 ?_
    refine r_aload_n Ra (i := 0) dX4_readLaw_19 rfl rfl ?_
    refine r_aload_n Ra (i := 2) dX4_readLaw_20 rfl rfl ?_
    obtain ⟨m21, em21, h⟩ := bv h
    have hm21 : VT m21 := eqV em21 (hm16.setS t18 rfl ha2)
    refine q_putS Ra f_X4_36 p_X4_10 t18 rfl rfl rfl em21 ha2 dX4_readLaw_21 ?_
    refine r_aload_n Ra (i := 0) dX4_readLaw_24 rfl rfl ?_
    obtain ⟨m25, hr25, h⟩ := bd h
    refine q_callVV Ra (c_pR_pass hm21 hr25) mw_X4_pass mi_X4_pass t18 rfl rfl rfl rfl rfl k_X4_102 rfl rfl dX4_readLaw_25 (fun ok25 => ?_)
    refine r_aload_n Ra (i := 0) dX4_readLaw_28 rfl rfl ?_
    obtain ⟨⟨r29, m29⟩, hr29, h⟩ := bd h
    refine q_callVI Ra (c_pR_readSum ok25 hr29) mw_X4_readSum mi_X4_readSum t18 rfl rfl rfl rfl rfl k_X4_164 rfl rfl dX4_readLaw_29 (fun ok29 => ?_)
    obtain ⟨hV29, ok29⟩ := ok29
    cases h
    exact r_zret Ra ok29 ⟨hV29, ok29⟩ dX4_readLaw_32
  · replace h := ineg hc h
    refine r_aload_n Ra (i := 0) dX4_readLaw_7 rfl rfl ?_
    refine r_bipush Ra dX4_readLaw_8 rfl ?_
    obtain ⟨⟨r10, m10⟩, hr10, h⟩ := bd h
    refine q_callVI Ra (c_pR_wrong hV (Rk rfl) hr10) mw_X4_wrong mi_X4_wrong t18 rfl rfl rfl rfl rfl k_X4_64 rfl rfl dX4_readLaw_10 (fun ok10 => ?_)
    obtain ⟨hV10, ok10⟩ := ok10
    cases h
    exact r_zret Ra ok10 ⟨hV10, ok10⟩ dX4_readLaw_13
noncomputable def pR_readMist (μ : Mem)  : Option (Int × Mem) := (pR_pass μ).bind fun m1 => (pR_takeNumber m1 0 100).bind fun (r8, m8) => if r8 = 0 then some (0, m8) else (pR_lastValue m8).bind fun r21 => (some (mset m8 19 4 r21)).bind fun m24 => some (1, m24)
set_option maxHeartbeats 4000000 in
theorem c_pR_readMist {l : Launch} {en : En} {μ : Mem}  {re : Int} {μe : Mem} (hV : VT μ)  (h : pR_readMist μ = some (re, μe)) : CtI l en yX4_readMist cX4_readMist 1 2 103 [vA en 18] μ .boolean re μe (VT μe ∧ (re = 0 ∨ re = 1)) := by
  refine Tr.of false (fun h => by cases h) (by decide) (Nat.le_of_ble_eq_true rfl) (fun K Ra => ?_)
  unfold pR_readMist at h
  refine r_aload_n Ra (i := 0) dX4_readMist_0 rfl rfl ?_
  obtain ⟨m1, hr1, h⟩ := bd h
  refine q_callVV Ra (c_pR_pass hV hr1) mw_X4_pass mi_X4_pass t18 rfl rfl rfl rfl rfl k_X4_102 rfl rfl dX4_readMist_1 (fun ok1 => ?_)
  refine r_aload_n Ra (i := 0) dX4_readMist_4 rfl rfl ?_
  refine r_iconst Ra dX4_readMist_5 ?_
  refine r_bipush Ra dX4_readMist_6 rfl ?_
  obtain ⟨⟨r8, m8⟩, hr8, h⟩ := bd h
  refine q_callVI Ra (c_pR_takeNumber ok1 (Rk rfl) (Rk rfl) hr8) mw_X4_takeNumber mi_X4_takeNumber t18 rfl rfl rfl rfl rfl k_X4_105 rfl rfl dX4_readMist_8 (fun ok8 => ?_)
  obtain ⟨hV8, ok8⟩ := ok8
  refine r_if_ne Ra 16 dX4_readMist_11 (inR_01 ok8) rfl (fun hc => ?_) (fun hc => ?_)
  · replace h := ineg hc h
    refine r_aload_n Ra (i := 0) dX4_readMist_16 rfl rfl ?_
    refine q_getA Ra (b := 19) f_X4_12 t18 rfl rfl rfl (hV8.ref t18 rfl (by decide)) (by decide) dX4_readMist_17 ?_
    refine r_aload_n Ra (i := 0) dX4_readMist_20 rfl rfl ?_
    obtain ⟨r21, hr21, h⟩ := bd h
    refine q_callVI Ra (c_pR_lastValue hV8 hr21) mw_X4_lastValue mi_X4_lastValue t18 rfl rfl rfl rfl rfl k_X4_109 rfl rfl dX4_readMist_21 (fun ok21 => ?_)
    obtain ⟨m24, em24, h⟩ := bv h
    have hm24 : VT m24 := eqV em24 (hV8.setI t19 rfl ok21)
    refine q_putI Ra f_X4_167 p_X3_4 t19 rfl rfl rfl em24 dX4_readMist_24 ?_
    refine r_iconst Ra dX4_readMist_27 ?_
    cases h
    exact r_zret Ra (Or.inr rfl) ⟨hm24, (Or.inr rfl)⟩ dX4_readMist_28
  · replace h := ipos hc h
    refine r_iconst Ra dX4_readMist_14 ?_
    cases h
    exact r_zret Ra (Or.inl rfl) ⟨hV8, (Or.inl rfl)⟩ dX4_readMist_15
noncomputable def pR_isThereAlready_L12b (N : Nat) (μ : Mem) (c1 : Int) (c2 : Int) (k : Int → Option (Int)) (self : Int → Int → Option (Int)) (x3 : Int) (x4 : Int) : Option (Int) := if x4 < 6 then if x3 = 0 then (some (w32 (x4 + 1) : Int)).bind fun x4_62 => self 0 x4_62 else if 0 ≤ w32 ((w32 (c2 * 6)) + x4) ∧ w32 ((w32 (c2 * 6)) + x4) < 36 then if 0 ≤ w32 ((w32 (c1 * 6)) + x4) ∧ w32 ((w32 (c1 * 6)) + x4) < 36 then if μ 21 (w32 ((w32 (c2 * 6)) + x4)) = μ 21 (w32 ((w32 (c1 * 6)) + x4)) then (some (w32 (x4 + 1) : Int)).bind fun x4_62 => self 1 x4_62 else (some (w32 (x4 + 1) : Int)).bind fun x4_62 => self 0 x4_62 else none else none else k x3
noncomputable def pR_isThereAlready_L12 (N : Nat) (μ : Mem) (c1 : Int) (c2 : Int) (k : Int → Option (Int)) (n : Nat) : Int → Int → Option (Int) := lpF (fun _ _ => none) (pR_isThereAlready_L12b N μ c1 c2 k) n
noncomputable def pR_isThereAlready_L2b (N : Nat) (μ : Mem) (c1 : Int) (k : Unit → Option (Int)) (self : Int → Option (Int)) (x2 : Int) : Option (Int) := if x2 < c1 then pR_isThereAlready_L12 N μ c1 x2 (fun z3_68 => if z3_68 = 0 then (some (w32 (x2 + 1) : Int)).bind fun x2_74 => self x2_74 else some (1)) N 1 0 else k ()
noncomputable def pR_isThereAlready_L2 (N : Nat) (μ : Mem) (c1 : Int) (k : Unit → Option (Int)) (n : Nat) : Int → Option (Int) := lpF (fun _ => none) (pR_isThereAlready_L2b N μ c1 k) n
noncomputable def pR_isThereAlready (N : Nat) (μ : Mem) (x1 : Int) : Option (Int) := pR_isThereAlready_L2 N μ x1 (fun (_ : Unit) => some (0)) N 0
theorem k_pR_isThereAlready_L12 {l : Launch} {en : En} {re : Int} {N : Nat} {μ : Mem} (hV : VT μ) {c1 : Int} {c2 : Int} {k : Int → Option (Int)} {K : KT} (Ra : Ru false (some (some .boolean, some (vI re), nCells, μ, 0, 0, ((re = 0 ∨ re = 1)))) l en cX4_isThereAlready yX4_isThereAlready.cls 5 (rmN 0 60) K) (hi1 : inR c1) (hi2 : inR c2) (hk : ∀ (z3 : Int), k z3 = some re → inR z3 → ∀ L9 : Lo, L9 0 = some (vA en 18) → L9 1 = some (vI c1) → L9 2 = some (vI c2) → L9 3 = some (vI z3) → K ZN 68 L9 [] μ) : ∀ (n : Nat) (x3 : Int) (x4 : Int) (L : Lo), pR_isThereAlready_L12 N μ c1 c2 k n x3 x4 = some re → inR x3 → inR x4 → L 0 = some (vA en 18) → L 1 = some (vI c1) → L 2 = some (vI c2) → L 3 = some (vI x3) → L 4 = some (vI x4) → K ZN 12 L [] μ := by
  intro n
  induction n with
  | zero => intro x3 x4 L h; cases h
  | succ n ih =>
    intro x3 x4 L h hx3 hx4 hL0 hL1 hL2 hL3 hL4
    replace h : pR_isThereAlready_L12b N μ c1 c2 k (pR_isThereAlready_L12 N μ c1 c2 k n) x3 x4 = some re := h
    unfold pR_isThereAlready_L12b at h
    refine r_iload Ra dX4_isThereAlready_12 hL4 ?_
    refine r_bipush Ra dX4_isThereAlready_14 rfl ?_
    refine r_icmp_ge Ra 68 dX4_isThereAlready_16 hx4 (Rk rfl) rfl (fun hc => ?_) (fun hc => ?_)
    · replace h := ineg hc h
      exact hk x3 h hx3 _ hL0 hL1 hL2 hL3
    · replace h := ipos hc h
      refine r_iload_n Ra (i := 3) dX4_isThereAlready_19 rfl hL3 ?_
      refine r_if_eq Ra 60 dX4_isThereAlready_20 hx3 rfl (fun hc => ?_) (fun hc => ?_)
      · replace h := ipos hc h
        refine r_iconst Ra dX4_isThereAlready_60 ?_
        refine q_istore_n Ra 3 dX4_isThereAlready_61 rfl rfl rfl ?_
        obtain ⟨x4_62, ex4_62, h⟩ := bv h
        have ix4_62 : inR x4_62 := eqR ex4_62 (inR_32 _)
        refine q_iinc Ra dX4_isThereAlready_62 hL4 ex4_62 ?_
        refine r_goto Ra 12 dX4_isThereAlready_65 rfl ?_
        exact ih 0 x4_62 _ h (Rk rfl) ix4_62 hL0 hL1 hL2 rfl rfl
      · replace h := ineg hc h
        refine r_aload_n Ra (i := 0) dX4_isThereAlready_23 rfl hL0 ?_
        refine q_getA Ra (b := 19) f_X4_12 t18 rfl rfl rfl (hV.ref t18 rfl (by decide)) (by decide) dX4_isThereAlready_24 ?_
        refine q_getA Ra (b := 21) f_X4_153 t19 rfl rfl rfl (hV.ref t19 rfl (by decide)) (by decide) dX4_isThereAlready_27 ?_
        refine r_iload_n Ra (i := 2) dX4_isThereAlready_30 rfl hL2 ?_
        refine r_bipush Ra dX4_isThereAlready_31 rfl ?_
        refine r_imul Ra dX4_isThereAlready_33 ?_
        refine r_iload Ra dX4_isThereAlready_34 hL4 ?_
        refine r_iadd Ra dX4_isThereAlready_36 ?_
        obtain ⟨gu37, h⟩ := gd h
        refine q_iald Ra t21 l21 gu37 dX4_isThereAlready_37 ?_
        refine r_aload_n Ra (i := 0) dX4_isThereAlready_38 rfl hL0 ?_
        refine q_getA Ra (b := 19) f_X4_12 t18 rfl rfl rfl (hV.ref t18 rfl (by decide)) (by decide) dX4_isThereAlready_39 ?_
        refine q_getA Ra (b := 21) f_X4_153 t19 rfl rfl rfl (hV.ref t19 rfl (by decide)) (by decide) dX4_isThereAlready_42 ?_
        refine r_iload_n Ra (i := 1) dX4_isThereAlready_45 rfl hL1 ?_
        refine r_bipush Ra dX4_isThereAlready_46 rfl ?_
        refine r_imul Ra dX4_isThereAlready_48 ?_
        refine r_iload Ra dX4_isThereAlready_49 hL4 ?_
        refine r_iadd Ra dX4_isThereAlready_51 ?_
        obtain ⟨gu52, h⟩ := gd h
        refine q_iald Ra t21 l21 gu52 dX4_isThereAlready_52 ?_
        refine r_icmp_ne Ra 60 dX4_isThereAlready_53 (hV.int t21 (kd20 _)) (hV.int t21 (kd20 _)) rfl (fun hc => ?_) (fun hc => ?_)
        · replace h := ineg hc h
          refine r_iconst Ra dX4_isThereAlready_60 ?_
          refine q_istore_n Ra 3 dX4_isThereAlready_61 rfl rfl rfl ?_
          obtain ⟨x4_62, ex4_62, h⟩ := bv h
          have ix4_62 : inR x4_62 := eqR ex4_62 (inR_32 _)
          refine q_iinc Ra dX4_isThereAlready_62 hL4 ex4_62 ?_
          refine r_goto Ra 12 dX4_isThereAlready_65 rfl ?_
          exact ih 0 x4_62 _ h (Rk rfl) ix4_62 hL0 hL1 hL2 rfl rfl
        · replace h := ipos hc h
          refine r_iconst Ra dX4_isThereAlready_56 ?_
          refine r_goto Ra 61 dX4_isThereAlready_57 rfl ?_
          refine q_istore_n Ra 3 dX4_isThereAlready_61 rfl rfl rfl ?_
          obtain ⟨x4_62, ex4_62, h⟩ := bv h
          have ix4_62 : inR x4_62 := eqR ex4_62 (inR_32 _)
          refine q_iinc Ra dX4_isThereAlready_62 hL4 ex4_62 ?_
          refine r_goto Ra 12 dX4_isThereAlready_65 rfl ?_
          exact ih 1 x4_62 _ h (Rk rfl) ix4_62 hL0 hL1 hL2 rfl rfl
theorem k_pR_isThereAlready_L2 {l : Launch} {en : En} {re : Int} {N : Nat} {μ : Mem} (hV : VT μ) {c1 : Int} {k : Unit → Option (Int)} {K : KT} (Ra : Ru false (some (some .boolean, some (vI re), nCells, μ, 0, 0, ((re = 0 ∨ re = 1)))) l en cX4_isThereAlready yX4_isThereAlready.cls 5 (rmN 0 60) K) (hi1 : inR c1) (hk : k () = some re → ∀ L9 : Lo, K ZN 80 L9 [] μ) : ∀ (n : Nat) (x2 : Int) (L : Lo), pR_isThereAlready_L2 N μ c1 k n x2 = some re → inR x2 → L 0 = some (vA en 18) → L 1 = some (vI c1) → L 2 = some (vI x2) → K ZN 2 L [] μ := by
  intro n
  induction n with
  | zero => intro x2 L h; cases h
  | succ n ih =>
    intro x2 L h hx2 hL0 hL1 hL2
    replace h : pR_isThereAlready_L2b N μ c1 k (pR_isThereAlready_L2 N μ c1 k n) x2 = some re := h
    unfold pR_isThereAlready_L2b at h
    refine r_iload_n Ra (i := 2) dX4_isThereAlready_2 rfl hL2 ?_
    refine r_iload_n Ra (i := 1) dX4_isThereAlready_3 rfl hL1 ?_
    refine r_icmp_ge Ra 80 dX4_isThereAlready_4 hx2 hi1 rfl (fun hc => ?_) (fun hc => ?_)
    · replace h := ineg hc h
      exact hk h  _ 
    · replace h := ipos hc h
      refine r_iconst Ra dX4_isThereAlready_7 ?_
      refine q_istore_n Ra 3 dX4_isThereAlready_8 rfl rfl rfl ?_
      refine r_iconst Ra dX4_isThereAlready_9 ?_
      refine q_istore Ra dX4_isThereAlready_10 rfl rfl ?_
      refine k_pR_isThereAlready_L12 hV Ra hi1 hx2 ?_ _ _ _ _ h (Rk rfl) (Rk rfl) hL0 hL1 hL2 rfl rfl
      intro z3_68 h iz3_68 L9 f68_0 f68_1 f68_2 f68_3
      refine r_iload_n Ra (i := 3) dX4_isThereAlready_68 rfl f68_3 ?_
      refine r_if_eq Ra 74 dX4_isThereAlready_69 iz3_68 rfl (fun hc => ?_) (fun hc => ?_)
      · replace h := ipos hc h
        obtain ⟨x2_74, ex2_74, h⟩ := bv h
        have ix2_74 : inR x2_74 := eqR ex2_74 (inR_32 _)
        refine q_iinc Ra dX4_isThereAlready_74 f68_2 ex2_74 ?_
        refine r_goto Ra 2 dX4_isThereAlready_77 rfl ?_
        exact ih x2_74 _ h ix2_74 f68_0 f68_1 rfl
      · replace h := ineg hc h
        refine r_iconst Ra dX4_isThereAlready_72 ?_
        cases h
        exact r_zret Ra (Or.inr rfl) (Or.inr rfl) dX4_isThereAlready_73
set_option maxHeartbeats 4000000 in
theorem c_pR_isThereAlready {l : Launch} {en : En} {N : Nat} {μ : Mem} {x1 : Int} {re : Int} (hV : VT μ) (hx1 : inR x1) (h : pR_isThereAlready N μ x1 = some re) : CtI l en yX4_isThereAlready cX4_isThereAlready 5 0 60 [vA en 18, vI x1] μ .boolean re μ ((re = 0 ∨ re = 1)) := by
  refine Tr.of false (fun h => by cases h) (by decide) (Nat.le_of_ble_eq_true rfl) (fun K Ra => ?_)
  unfold pR_isThereAlready at h
  refine r_iconst Ra dX4_isThereAlready_0 ?_
  refine q_istore_n Ra 2 dX4_isThereAlready_1 rfl rfl rfl ?_
  refine k_pR_isThereAlready_L2 hV Ra hx1 ?_ _ _ _ h (Rk rfl) rfl rfl rfl
  intro h L9 
  refine r_iconst Ra dX4_isThereAlready_80 ?_
  cases h
  exact r_zret Ra (Or.inl rfl) (Or.inl rfl) dX4_isThereAlready_81
noncomputable def pR_writeName_L24b (N : Nat) (c1 : Int) (c3 : Int) (c4 : Int) (k : Mem → Option (Mem)) (self : Int → Mem → Option (Mem)) (x5 : Int) (μ : Mem) : Option (Mem) := if x5 < 6 then (some (if x5 < c4 then if w32 (c3 + x5) < 1600 then 1 else 0 else 0 : Int)).bind fun ys0_52 => if ys0_52 = 0 then if 0 ≤ w32 ((w32 (c1 * 6)) + x5) ∧ w32 ((w32 (c1 * 6)) + x5) < 36 then (some (mset μ 21 (w32 ((w32 (c1 * 6)) + x5)) 0)).bind fun m88 => (some (w32 (x5 + 1) : Int)).bind fun x5_89 => self x5_89 m88 else none else if 0 ≤ w32 (c3 + x5) ∧ w32 (c3 + x5) < 1600 then if 0 ≤ w32 ((w32 (c1 * 6)) + x5) ∧ w32 ((w32 (c1 * 6)) + x5) < 36 then (some (mset μ 21 (w32 ((w32 (c1 * 6)) + x5)) (w32 ((w32 ((μ 1 (w32 (c3 + x5))) - 97)) + 1)))).bind fun m88 => (some (w32 (x5 + 1) : Int)).bind fun x5_89 => self x5_89 m88 else none else none else k μ
noncomputable def pR_writeName_L24 (N : Nat) (c1 : Int) (c3 : Int) (c4 : Int) (k : Mem → Option (Mem)) (n : Nat) : Int → Mem → Option (Mem) := lpF (fun _ _ => none) (pR_writeName_L24b N c1 c3 c4 k) n
noncomputable def pR_writeName (N : Nat) (μ : Mem) (x1 : Int) : Option (Mem) := if 0 ≤ μ 18 7 ∧ μ 18 7 < 1601 then (some (μ 36 (μ 18 7) : Int)).bind fun x3_9 => if 0 ≤ μ 18 7 ∧ μ 18 7 < 1601 then (some (μ 37 (μ 18 7) : Int)).bind fun x4_19 => pR_writeName_L24 N x1 x3_9 x4_19 (fun n95 => some n95) N 0 μ else none else none
theorem k_pR_writeName_L24 {l : Launch} {en : En} {μe : Mem} {N : Nat} {c1 : Int} {c3 : Int} {c4 : Int} {k : Mem → Option (Mem)} {K : KT} (Ra : Ru false (some (none, none, nCells, μe, 0, 0, (VT μe))) l en cX4_writeName yX4_writeName.cls 7 (rmN 0 60) K) (hi1 : inR c1) (hi3 : inR c3) (hi4 : inR c4) (hk : ∀  (μ9 : Mem), k μ9 = some μe → VT μ9 → ∀ L9 : Lo, K ZN 95 L9 [] μ9) : ∀ (n : Nat) (x5 : Int) (μ : Mem) (L : Lo), pR_writeName_L24 N c1 c3 c4 k n x5 μ = some μe → inR x5 → VT μ → L 0 = some (vA en 18) → L 1 = some (vI c1) → L 2 = some (vA en 1) → L 3 = some (vI c3) → L 4 = some (vI c4) → L 5 = some (vI x5) → K ZN 24 L [] μ := by
  intro n
  induction n with
  | zero => intro x5 μ L h; cases h
  | succ n ih =>
    intro x5 μ L h hx5 hV hL0 hL1 hL2 hL3 hL4 hL5
    replace h : pR_writeName_L24b N c1 c3 c4 k (pR_writeName_L24 N c1 c3 c4 k n) x5 μ = some μe := h
    unfold pR_writeName_L24b at h
    refine r_iload Ra dX4_writeName_24 hL5 ?_
    refine r_bipush Ra dX4_writeName_26 rfl ?_
    refine r_icmp_ge Ra 95 dX4_writeName_28 hx5 (Rk rfl) rfl (fun hc => ?_) (fun hc => ?_)
    · replace h := ineg hc h
      exact hk μ h  hV _ 
    · replace h := ipos hc h
      refine r_iload Ra dX4_writeName_31 hL5 ?_
      refine r_iload Ra dX4_writeName_33 hL4 ?_
      obtain ⟨ys0_52, eys0_52, h⟩ := bv h
      have hJ : inR ys0_52 → (ys0_52 = 0 ∨ ys0_52 = 1) → ∀ L9 : Lo, L9 0 = some (vA en 18) → L9 1 = some (vI c1) → L9 2 = some (vA en 1) → L9 3 = some (vI c3) → L9 4 = some (vI c4) → L9 5 = some (vI x5) → K ZN 52 L9 [vI ys0_52] μ := by
        intro iys0_52 bys0_52 L9 f52_0 f52_1 f52_2 f52_3 f52_4 f52_5
        refine q_istore Ra dX4_writeName_52 rfl rfl ?_
        refine r_aload_n Ra (i := 0) dX4_writeName_54 rfl f52_0 ?_
        refine q_getA Ra (b := 19) f_X4_12 t18 rfl rfl rfl (hV.ref t18 rfl (by decide)) (by decide) dX4_writeName_55 ?_
        refine q_getA Ra (b := 21) f_X4_153 t19 rfl rfl rfl (hV.ref t19 rfl (by decide)) (by decide) dX4_writeName_58 ?_
        refine r_iload_n Ra (i := 1) dX4_writeName_61 rfl f52_1 ?_
        refine r_bipush Ra dX4_writeName_62 rfl ?_
        refine r_imul Ra dX4_writeName_64 ?_
        refine r_iload Ra dX4_writeName_65 f52_5 ?_
        refine r_iadd Ra dX4_writeName_67 ?_
        refine r_iload Ra dX4_writeName_68 rfl ?_
        refine r_if_eq Ra 87 dX4_writeName_70 iys0_52 rfl (fun hc => ?_) (fun hc => ?_)
        · replace h := ipos hc h
          refine r_iconst Ra dX4_writeName_87 ?_
          obtain ⟨gu88, h⟩ := gd h
          obtain ⟨m88, em88, h⟩ := bv h
          have hm88 : VT m88 := eqV em88 (hV.setI t21 (kd20 _) (Rk rfl))
          refine q_iast Ra t21 l21 gu88 em88 dX4_writeName_88 ?_
          obtain ⟨x5_89, ex5_89, h⟩ := bv h
          have ix5_89 : inR x5_89 := eqR ex5_89 (inR_32 _)
          refine q_iinc Ra dX4_writeName_89 f52_5 ex5_89 ?_
          refine r_goto Ra 24 dX4_writeName_92 rfl ?_
          exact ih x5_89 m88 _ h ix5_89 hm88 f52_0 f52_1 f52_2 f52_3 f52_4 rfl
        · replace h := ineg hc h
          refine r_aload_n Ra (i := 2) dX4_writeName_73 rfl f52_2 ?_
          refine r_iload_n Ra (i := 3) dX4_writeName_74 rfl f52_3 ?_
          refine r_iload Ra dX4_writeName_75 f52_5 ?_
          refine r_iadd Ra dX4_writeName_77 ?_
          obtain ⟨gu78, h⟩ := gd h
          refine q_iald Ra t1 l1 gu78 dX4_writeName_78 ?_
          refine r_bipush Ra dX4_writeName_79 rfl ?_
          refine r_isub Ra dX4_writeName_81 ?_
          refine r_iconst Ra dX4_writeName_82 ?_
          refine r_iadd Ra dX4_writeName_83 ?_
          refine r_goto Ra 88 dX4_writeName_84 rfl ?_
          obtain ⟨gu88, h⟩ := gd h
          obtain ⟨m88, em88, h⟩ := bv h
          have hm88 : VT m88 := eqV em88 (hV.setI t21 (kd20 _) (inR_32 _))
          refine q_iast Ra t21 l21 gu88 em88 dX4_writeName_88 ?_
          obtain ⟨x5_89, ex5_89, h⟩ := bv h
          have ix5_89 : inR x5_89 := eqR ex5_89 (inR_32 _)
          refine q_iinc Ra dX4_writeName_89 f52_5 ex5_89 ?_
          refine r_goto Ra 24 dX4_writeName_92 rfl ?_
          exact ih x5_89 m88 _ h ix5_89 hm88 f52_0 f52_1 f52_2 f52_3 f52_4 rfl
      refine r_icmp_ge Ra 51 dX4_writeName_35 hx5 hi4 rfl (fun hc => ?_) (fun hc => ?_)
      · replace eys0_52 := eys0_52.trans (if_neg hc)
        refine r_iconst Ra dX4_writeName_51 ?_
        subst eys0_52
        exact hJ (Rk rfl) (Or.inl rfl) _ hL0 hL1 hL2 hL3 hL4 hL5
      · replace eys0_52 := eys0_52.trans (if_pos hc)
        refine r_iload_n Ra (i := 3) dX4_writeName_38 rfl hL3 ?_
        refine r_iload Ra dX4_writeName_39 hL5 ?_
        refine r_iadd Ra dX4_writeName_41 ?_
        refine r_aload_n Ra (i := 2) dX4_writeName_42 rfl hL2 ?_
        refine q_alen Ra t1 l1 dX4_writeName_43 ?_
        refine r_icmp_ge Ra 51 dX4_writeName_44 (inR_32 _) (Rk rfl) rfl (fun hc => ?_) (fun hc => ?_)
        · replace eys0_52 := eys0_52.trans (if_neg hc)
          refine r_iconst Ra dX4_writeName_51 ?_
          subst eys0_52
          exact hJ (Rk rfl) (Or.inl rfl) _ hL0 hL1 hL2 hL3 hL4 hL5
        · replace eys0_52 := eys0_52.trans (if_pos hc)
          refine r_iconst Ra dX4_writeName_47 ?_
          refine r_goto Ra 52 dX4_writeName_48 rfl ?_
          subst eys0_52
          exact hJ (Rk rfl) (Or.inr rfl) _ hL0 hL1 hL2 hL3 hL4 hL5
set_option maxHeartbeats 4000000 in
theorem c_pR_writeName {l : Launch} {en : En} {N : Nat} {μ : Mem} {x1 : Int} {μe : Mem} (hV : VT μ) (hx1 : inR x1) (h : pR_writeName N μ x1 = some μe) : CtV l en yX4_writeName cX4_writeName 7 0 60 [vA en 18, vI x1, vA en 1] μ μe (VT μe) := by
  refine Tr.of false (fun h => by cases h) (by decide) (Nat.le_of_ble_eq_true rfl) (fun K Ra => ?_)
  unfold pR_writeName at h
  refine r_aload_n Ra (i := 0) dX4_writeName_0 rfl rfl ?_
  refine q_getA Ra (b := 36) f_X4_26 t18 rfl rfl rfl (hV.ref t18 rfl (by decide)) (by decide) dX4_writeName_1 ?_
  refine r_aload_n Ra (i := 0) dX4_writeName_4 rfl rfl ?_
  refine q_getI Ra (x := μ 18 7) f_X4_42 t18 rfl rfl rfl rfl dX4_writeName_5 ?_
  obtain ⟨gu8, h⟩ := gd h
  refine q_iald Ra t36 l36 gu8 dX4_writeName_8 ?_
  obtain ⟨x3_9, ex3_9, h⟩ := bv h
  have ix3_9 : inR x3_9 := eqR ex3_9 (hV.int t36 (kd20 _))
  refine q_istore_n Ra 3 dX4_writeName_9 rfl rfl ex3_9 ?_
  refine r_aload_n Ra (i := 0) dX4_writeName_10 rfl rfl ?_
  refine q_getA Ra (b := 37) f_X4_29 t18 rfl rfl rfl (hV.ref t18 rfl (by decide)) (by decide) dX4_writeName_11 ?_
  refine r_aload_n Ra (i := 0) dX4_writeName_14 rfl rfl ?_
  refine q_getI Ra (x := μ 18 7) f_X4_42 t18 rfl rfl rfl rfl dX4_writeName_15 ?_
  obtain ⟨gu18, h⟩ := gd h
  refine q_iald Ra t37 l37 gu18 dX4_writeName_18 ?_
  obtain ⟨x4_19, ex4_19, h⟩ := bv h
  have ix4_19 : inR x4_19 := eqR ex4_19 (hV.int t37 (kd20 _))
  refine q_istore Ra dX4_writeName_19 rfl ex4_19 ?_
  refine r_iconst Ra dX4_writeName_21 ?_
  refine q_istore Ra dX4_writeName_22 rfl rfl ?_
  refine k_pR_writeName_L24 Ra hx1 ix3_9 ix4_19 ?_ _ _ _ _ h (Rk rfl) hV rfl rfl rfl rfl rfl rfl
  intro n95 h hn95 L9 
  cases h
  exact r_vret Ra hn95 dX4_writeName_95
noncomputable def pR_readPerson (N : Nat) (μ : Mem)  : Option (Int × Mem) := (some (μ 19 3 : Int)).bind fun x2_7 => if x2_7 < 6 then (pR_pass μ).bind fun m22 => if 0 ≤ m22 18 7 ∧ m22 18 7 < 1601 then if m22 35 (m22 18 7) = 24 then (pR_writeName N m22 x2_7).bind fun m47 => (pR_isThereAlready N m47 x2_7).bind fun r52 => if r52 = 0 then (pR_pass m47).bind fun m65 => (pR_take m65 4).bind fun (r70, m70) => if r70 = 0 then some (0, m70) else (pR_takeCell m70).bind fun (r87, m87) => if 0 ≤ x2_7 ∧ x2_7 < 6 then (some (mset m87 22 x2_7 r87)).bind fun m90 => if 0 ≤ x2_7 ∧ x2_7 < 6 then if m90 22 x2_7 = (-1) then some (0, m90) else (pR_take m90 5).bind fun (r106, m106) => if r106 = 0 then some (0, m106) else (pR_takeNumber m106 0 8).bind fun (r116, m116) => if r116 = 0 then some (0, m116) else (pR_lastValue m116).bind fun r133 => if 0 ≤ x2_7 ∧ x2_7 < 6 then (some (mset m116 23 x2_7 r133)).bind fun m136 => (pR_take m136 6).bind fun (r140, m140) => if r140 = 0 then some (0, m140) else (pR_takeNumber m140 1 99).bind fun (r150, m150) => if r150 = 0 then some (0, m150) else (pR_lastValue m150).bind fun r167 => if 0 ≤ x2_7 ∧ x2_7 < 6 then (some (mset m150 24 x2_7 r167)).bind fun m170 => (pR_take m170 7).bind fun (r174, m174) => if r174 = 0 then some (0, m174) else (pR_takeNumber m174 0 99).bind fun (r184, m184) => if r184 = 0 then some (0, m184) else (pR_lastValue m184).bind fun r201 => if 0 ≤ x2_7 ∧ x2_7 < 6 then (some (mset m184 25 x2_7 r201)).bind fun m204 => (some (mset m204 19 3 (w32 ((m204 19 3) + 1)))).bind fun m215 => some (1, m215) else none else none else none else none else none else (pR_wrong m47 2).bind fun (r60, m60) => some (r60, m60) else (pR_astray m22).bind fun (r40, m40) => some (r40, m40) else none else (pR_wrong μ 6).bind fun (r17, m17) => some (r17, m17)
set_option maxHeartbeats 4000000 in
theorem c_pR_readPerson {l : Launch} {en : En} {N : Nat} {μ : Mem}  {re : Int} {μe : Mem} (hV : VT μ)  (h : pR_readPerson N μ = some (re, μe)) : CtI l en yX4_readPerson cX4_readPerson 3 3 124 [vA en 18, vA en 1] μ .boolean re μe (VT μe ∧ (re = 0 ∨ re = 1)) := by
  refine Tr.of false (fun h => by cases h) (by decide) (Nat.le_of_ble_eq_true rfl) (fun K Ra => ?_)
  unfold pR_readPerson at h
  refine r_aload_n Ra (i := 0) dX4_readPerson_0 rfl rfl ?_
  refine q_getA Ra (b := 19) f_X4_12 t18 rfl rfl rfl (hV.ref t18 rfl (by decide)) (by decide) dX4_readPerson_1 ?_
  refine q_getI Ra (x := μ 19 3) f_X4_131 t19 rfl rfl rfl rfl dX4_readPerson_4 ?_
  obtain ⟨x2_7, ex2_7, h⟩ := bv h
  have ix2_7 : inR x2_7 := eqR ex2_7 (hV.int t19 rfl)
  refine q_istore_n Ra 2 dX4_readPerson_7 rfl rfl ex2_7 ?_
  refine r_iload_n Ra (i := 2) dX4_readPerson_8 rfl rfl ?_
  refine r_bipush Ra dX4_readPerson_9 rfl ?_
  refine r_icmp_lt Ra 21 dX4_readPerson_11 ix2_7 (Rk rfl) rfl (fun hc => ?_) (fun hc => ?_)
  · replace h := ipos hc h
    refine r_aload_n Ra (i := 0) dX4_readPerson_21 rfl rfl ?_
    obtain ⟨m22, hr22, h⟩ := bd h
    refine q_callVV Ra (c_pR_pass hV hr22) mw_X4_pass mi_X4_pass t18 rfl rfl rfl rfl rfl k_X4_102 rfl rfl dX4_readPerson_22 (fun ok22 => ?_)
    refine r_aload_n Ra (i := 0) dX4_readPerson_25 rfl rfl ?_
    refine q_getA Ra (b := 35) f_X4_22 t18 rfl rfl rfl (ok22.ref t18 rfl (by decide)) (by decide) dX4_readPerson_26 ?_
    refine r_aload_n Ra (i := 0) dX4_readPerson_29 rfl rfl ?_
    refine q_getI Ra (x := m22 18 7) f_X4_42 t18 rfl rfl rfl rfl dX4_readPerson_30 ?_
    obtain ⟨gu33, h⟩ := gd h
    refine q_iald Ra t35 l35 gu33 dX4_readPerson_33 ?_
    refine r_bipush Ra dX4_readPerson_34 rfl ?_
    refine r_icmp_eq Ra 44 dX4_readPerson_36 (ok22.int t35 (kd20 _)) (Rk rfl) rfl (fun hc => ?_) (fun hc => ?_)
    · replace h := ipos hc h
      refine r_aload_n Ra (i := 0) dX4_readPerson_44 rfl rfl ?_
      refine r_iload_n Ra (i := 2) dX4_readPerson_45 rfl rfl ?_
      refine r_aload_n Ra (i := 1) dX4_readPerson_46 rfl rfl ?_
      obtain ⟨m47, hr47, h⟩ := bd h
      refine q_callVV Ra (c_pR_writeName ok22 ix2_7 hr47) mw_X4_writeName mi_X4_writeName t18 rfl rfl rfl rfl rfl k_X4_134 rfl rfl dX4_readPerson_47 (fun ok47 => ?_)
      refine r_aload_n Ra (i := 0) dX4_readPerson_50 rfl rfl ?_
      refine r_iload_n Ra (i := 2) dX4_readPerson_51 rfl rfl ?_
      obtain ⟨r52, hr52, h⟩ := bd h
      refine q_callVI Ra (c_pR_isThereAlready ok47 ix2_7 hr52) mw_X4_isThereAlready mi_X4_isThereAlready t18 rfl rfl rfl rfl rfl k_X4_138 rfl rfl dX4_readPerson_52 (fun ok52 => ?_)
      refine r_if_eq Ra 64 dX4_readPerson_55 (inR_01 ok52) rfl (fun hc => ?_) (fun hc => ?_)
      · replace h := ipos hc h
        refine r_aload_n Ra (i := 0) dX4_readPerson_64 rfl rfl ?_
        obtain ⟨m65, hr65, h⟩ := bd h
        refine q_callVV Ra (c_pR_pass ok47 hr65) mw_X4_pass mi_X4_pass t18 rfl rfl rfl rfl rfl k_X4_102 rfl rfl dX4_readPerson_65 (fun ok65 => ?_)
        refine r_aload_n Ra (i := 0) dX4_readPerson_68 rfl rfl ?_
        refine r_iconst Ra dX4_readPerson_69 ?_
        obtain ⟨⟨r70, m70⟩, hr70, h⟩ := bd h
        refine q_callVI Ra (c_pR_take ok65 (Rk rfl) hr70) mw_X4_take mi_X4_take t18 rfl rfl rfl rfl rfl k_X4_72 rfl rfl dX4_readPerson_70 (fun ok70 => ?_)
        obtain ⟨hV70, ok70⟩ := ok70
        refine r_if_ne Ra 78 dX4_readPerson_73 (inR_01 ok70) rfl (fun hc => ?_) (fun hc => ?_)
        · replace h := ineg hc h
          refine r_aload_n Ra (i := 0) dX4_readPerson_78 rfl rfl ?_
          refine q_getA Ra (b := 19) f_X4_12 t18 rfl rfl rfl (hV70.ref t18 rfl (by decide)) (by decide) dX4_readPerson_79 ?_
          refine q_getA Ra (b := 22) f_X4_141 t19 rfl rfl rfl (hV70.ref t19 rfl (by decide)) (by decide) dX4_readPerson_82 ?_
          refine r_iload_n Ra (i := 2) dX4_readPerson_85 rfl rfl ?_
          refine r_aload_n Ra (i := 0) dX4_readPerson_86 rfl rfl ?_
          obtain ⟨⟨r87, m87⟩, hr87, h⟩ := bd h
          refine q_callVI Ra (c_pR_takeCell hV70 hr87) mw_X4_takeCell mi_X4_takeCell t18 rfl rfl rfl rfl rfl k_X4_122 rfl rfl dX4_readPerson_87 (fun ok87 => ?_)
          obtain ⟨hV87, ok87⟩ := ok87
          obtain ⟨gu90, h⟩ := gd h
          obtain ⟨m90, em90, h⟩ := bv h
          have hm90 : VT m90 := eqV em90 (hV87.setI t22 (kd20 _) ok87)
          refine q_iast Ra t22 l22 gu90 em90 dX4_readPerson_90 ?_
          refine r_aload_n Ra (i := 0) dX4_readPerson_91 rfl rfl ?_
          refine q_getA Ra (b := 19) f_X4_12 t18 rfl rfl rfl (hm90.ref t18 rfl (by decide)) (by decide) dX4_readPerson_92 ?_
          refine q_getA Ra (b := 22) f_X4_141 t19 rfl rfl rfl (hm90.ref t19 rfl (by decide)) (by decide) dX4_readPerson_95 ?_
          refine r_iload_n Ra (i := 2) dX4_readPerson_98 rfl rfl ?_
          obtain ⟨gu99, h⟩ := gd h
          refine q_iald Ra t22 l22 gu99 dX4_readPerson_99 ?_
          refine r_iconst Ra dX4_readPerson_100 ?_
          refine r_icmp_eq Ra 122 dX4_readPerson_101 (hm90.int t22 (kd20 _)) (Rk rfl) rfl (fun hc => ?_) (fun hc => ?_)
          · replace h := ipos hc h
            refine r_iconst Ra dX4_readPerson_122 ?_
            cases h
            exact r_zret Ra (Or.inl rfl) ⟨hm90, (Or.inl rfl)⟩ dX4_readPerson_123
          · replace h := ineg hc h
            refine r_aload_n Ra (i := 0) dX4_readPerson_104 rfl rfl ?_
            refine r_iconst Ra dX4_readPerson_105 ?_
            obtain ⟨⟨r106, m106⟩, hr106, h⟩ := bd h
            refine q_callVI Ra (c_pR_take hm90 (Rk rfl) hr106) mw_X4_take mi_X4_take t18 rfl rfl rfl rfl rfl k_X4_72 rfl rfl dX4_readPerson_106 (fun ok106 => ?_)
            obtain ⟨hV106, ok106⟩ := ok106
            refine r_if_eq Ra 122 dX4_readPerson_109 (inR_01 ok106) rfl (fun hc => ?_) (fun hc => ?_)
            · replace h := ipos hc h
              refine r_iconst Ra dX4_readPerson_122 ?_
              cases h
              exact r_zret Ra (Or.inl rfl) ⟨hV106, (Or.inl rfl)⟩ dX4_readPerson_123
            · replace h := ineg hc h
              refine r_aload_n Ra (i := 0) dX4_readPerson_112 rfl rfl ?_
              refine r_iconst Ra dX4_readPerson_113 ?_
              refine r_bipush Ra dX4_readPerson_114 rfl ?_
              obtain ⟨⟨r116, m116⟩, hr116, h⟩ := bd h
              refine q_callVI Ra (c_pR_takeNumber hV106 (Rk rfl) (Rk rfl) hr116) mw_X4_takeNumber mi_X4_takeNumber t18 rfl rfl rfl rfl rfl k_X4_105 rfl rfl dX4_readPerson_116 (fun ok116 => ?_)
              obtain ⟨hV116, ok116⟩ := ok116
              refine r_if_ne Ra 124 dX4_readPerson_119 (inR_01 ok116) rfl (fun hc => ?_) (fun hc => ?_)
              · replace h := ineg hc h
                refine r_aload_n Ra (i := 0) dX4_readPerson_124 rfl rfl ?_
                refine q_getA Ra (b := 19) f_X4_12 t18 rfl rfl rfl (hV116.ref t18 rfl (by decide)) (by decide) dX4_readPerson_125 ?_
                refine q_getA Ra (b := 23) f_X4_144 t19 rfl rfl rfl (hV116.ref t19 rfl (by decide)) (by decide) dX4_readPerson_128 ?_
                refine r_iload_n Ra (i := 2) dX4_readPerson_131 rfl rfl ?_
                refine r_aload_n Ra (i := 0) dX4_readPerson_132 rfl rfl ?_
                obtain ⟨r133, hr133, h⟩ := bd h
                refine q_callVI Ra (c_pR_lastValue hV116 hr133) mw_X4_lastValue mi_X4_lastValue t18 rfl rfl rfl rfl rfl k_X4_109 rfl rfl dX4_readPerson_133 (fun ok133 => ?_)
                obtain ⟨gu136, h⟩ := gd h
                obtain ⟨m136, em136, h⟩ := bv h
                have hm136 : VT m136 := eqV em136 (hV116.setI t23 (kd20 _) ok133)
                refine q_iast Ra t23 l23 gu136 em136 dX4_readPerson_136 ?_
                refine r_aload_n Ra (i := 0) dX4_readPerson_137 rfl rfl ?_
                refine r_bipush Ra dX4_readPerson_138 rfl ?_
                obtain ⟨⟨r140, m140⟩, hr140, h⟩ := bd h
                refine q_callVI Ra (c_pR_take hm136 (Rk rfl) hr140) mw_X4_take mi_X4_take t18 rfl rfl rfl rfl rfl k_X4_72 rfl rfl dX4_readPerson_140 (fun ok140 => ?_)
                obtain ⟨hV140, ok140⟩ := ok140
                refine r_if_eq Ra 156 dX4_readPerson_143 (inR_01 ok140) rfl (fun hc => ?_) (fun hc => ?_)
                · replace h := ipos hc h
                  refine r_iconst Ra dX4_readPerson_156 ?_
                  cases h
                  exact r_zret Ra (Or.inl rfl) ⟨hV140, (Or.inl rfl)⟩ dX4_readPerson_157
                · replace h := ineg hc h
                  refine r_aload_n Ra (i := 0) dX4_readPerson_146 rfl rfl ?_
                  refine r_iconst Ra dX4_readPerson_147 ?_
                  refine r_bipush Ra dX4_readPerson_148 rfl ?_
                  obtain ⟨⟨r150, m150⟩, hr150, h⟩ := bd h
                  refine q_callVI Ra (c_pR_takeNumber hV140 (Rk rfl) (Rk rfl) hr150) mw_X4_takeNumber mi_X4_takeNumber t18 rfl rfl rfl rfl rfl k_X4_105 rfl rfl dX4_readPerson_150 (fun ok150 => ?_)
                  obtain ⟨hV150, ok150⟩ := ok150
                  refine r_if_ne Ra 158 dX4_readPerson_153 (inR_01 ok150) rfl (fun hc => ?_) (fun hc => ?_)
                  · replace h := ineg hc h
                    refine r_aload_n Ra (i := 0) dX4_readPerson_158 rfl rfl ?_
                    refine q_getA Ra (b := 19) f_X4_12 t18 rfl rfl rfl (hV150.ref t18 rfl (by decide)) (by decide) dX4_readPerson_159 ?_
                    refine q_getA Ra (b := 24) f_X4_147 t19 rfl rfl rfl (hV150.ref t19 rfl (by decide)) (by decide) dX4_readPerson_162 ?_
                    refine r_iload_n Ra (i := 2) dX4_readPerson_165 rfl rfl ?_
                    refine r_aload_n Ra (i := 0) dX4_readPerson_166 rfl rfl ?_
                    obtain ⟨r167, hr167, h⟩ := bd h
                    refine q_callVI Ra (c_pR_lastValue hV150 hr167) mw_X4_lastValue mi_X4_lastValue t18 rfl rfl rfl rfl rfl k_X4_109 rfl rfl dX4_readPerson_167 (fun ok167 => ?_)
                    obtain ⟨gu170, h⟩ := gd h
                    obtain ⟨m170, em170, h⟩ := bv h
                    have hm170 : VT m170 := eqV em170 (hV150.setI t24 (kd20 _) ok167)
                    refine q_iast Ra t24 l24 gu170 em170 dX4_readPerson_170 ?_
                    refine r_aload_n Ra (i := 0) dX4_readPerson_171 rfl rfl ?_
                    refine r_bipush Ra dX4_readPerson_172 rfl ?_
                    obtain ⟨⟨r174, m174⟩, hr174, h⟩ := bd h
                    refine q_callVI Ra (c_pR_take hm170 (Rk rfl) hr174) mw_X4_take mi_X4_take t18 rfl rfl rfl rfl rfl k_X4_72 rfl rfl dX4_readPerson_174 (fun ok174 => ?_)
                    obtain ⟨hV174, ok174⟩ := ok174
                    refine r_if_eq Ra 190 dX4_readPerson_177 (inR_01 ok174) rfl (fun hc => ?_) (fun hc => ?_)
                    · replace h := ipos hc h
                      refine r_iconst Ra dX4_readPerson_190 ?_
                      cases h
                      exact r_zret Ra (Or.inl rfl) ⟨hV174, (Or.inl rfl)⟩ dX4_readPerson_191
                    · replace h := ineg hc h
                      refine r_aload_n Ra (i := 0) dX4_readPerson_180 rfl rfl ?_
                      refine r_iconst Ra dX4_readPerson_181 ?_
                      refine r_bipush Ra dX4_readPerson_182 rfl ?_
                      obtain ⟨⟨r184, m184⟩, hr184, h⟩ := bd h
                      refine q_callVI Ra (c_pR_takeNumber hV174 (Rk rfl) (Rk rfl) hr184) mw_X4_takeNumber mi_X4_takeNumber t18 rfl rfl rfl rfl rfl k_X4_105 rfl rfl dX4_readPerson_184 (fun ok184 => ?_)
                      obtain ⟨hV184, ok184⟩ := ok184
                      refine r_if_ne Ra 192 dX4_readPerson_187 (inR_01 ok184) rfl (fun hc => ?_) (fun hc => ?_)
                      · replace h := ineg hc h
                        refine r_aload_n Ra (i := 0) dX4_readPerson_192 rfl rfl ?_
                        refine q_getA Ra (b := 19) f_X4_12 t18 rfl rfl rfl (hV184.ref t18 rfl (by decide)) (by decide) dX4_readPerson_193 ?_
                        refine q_getA Ra (b := 25) f_X4_150 t19 rfl rfl rfl (hV184.ref t19 rfl (by decide)) (by decide) dX4_readPerson_196 ?_
                        refine r_iload_n Ra (i := 2) dX4_readPerson_199 rfl rfl ?_
                        refine r_aload_n Ra (i := 0) dX4_readPerson_200 rfl rfl ?_
                        obtain ⟨r201, hr201, h⟩ := bd h
                        refine q_callVI Ra (c_pR_lastValue hV184 hr201) mw_X4_lastValue mi_X4_lastValue t18 rfl rfl rfl rfl rfl k_X4_109 rfl rfl dX4_readPerson_201 (fun ok201 => ?_)
                        obtain ⟨gu204, h⟩ := gd h
                        obtain ⟨m204, em204, h⟩ := bv h
                        have hm204 : VT m204 := eqV em204 (hV184.setI t25 (kd20 _) ok201)
                        refine q_iast Ra t25 l25 gu204 em204 dX4_readPerson_204 ?_
                        refine r_aload_n Ra (i := 0) dX4_readPerson_205 rfl rfl ?_
                        refine q_getA Ra (b := 19) f_X4_12 t18 rfl rfl rfl (hm204.ref t18 rfl (by decide)) (by decide) dX4_readPerson_206 ?_
                        refine r_dupA Ra dX4_readPerson_209 ?_
                        refine q_getI Ra (x := m204 19 3) f_X4_131 t19 rfl rfl rfl rfl dX4_readPerson_210 ?_
                        refine r_iconst Ra dX4_readPerson_213 ?_
                        refine r_iadd Ra dX4_readPerson_214 ?_
                        obtain ⟨m215, em215, h⟩ := bv h
                        have hm215 : VT m215 := eqV em215 (hm204.setI t19 rfl (inR_32 _))
                        refine q_putI Ra f_X4_131 p_X3_3 t19 rfl rfl rfl em215 dX4_readPerson_215 ?_
                        refine r_iconst Ra dX4_readPerson_218 ?_
                        cases h
                        exact r_zret Ra (Or.inr rfl) ⟨hm215, (Or.inr rfl)⟩ dX4_readPerson_219
                      · replace h := ipos hc h
                        refine r_iconst Ra dX4_readPerson_190 ?_
                        cases h
                        exact r_zret Ra (Or.inl rfl) ⟨hV184, (Or.inl rfl)⟩ dX4_readPerson_191
                  · replace h := ipos hc h
                    refine r_iconst Ra dX4_readPerson_156 ?_
                    cases h
                    exact r_zret Ra (Or.inl rfl) ⟨hV150, (Or.inl rfl)⟩ dX4_readPerson_157
              · replace h := ipos hc h
                refine r_iconst Ra dX4_readPerson_122 ?_
                cases h
                exact r_zret Ra (Or.inl rfl) ⟨hV116, (Or.inl rfl)⟩ dX4_readPerson_123
        · replace h := ipos hc h
          refine r_iconst Ra dX4_readPerson_76 ?_
          cases h
          exact r_zret Ra (Or.inl rfl) ⟨hV70, (Or.inl rfl)⟩ dX4_readPerson_77
      · replace h := ineg hc h
        refine r_aload_n Ra (i := 0) dX4_readPerson_58 rfl rfl ?_
        refine r_iconst Ra dX4_readPerson_59 ?_
        obtain ⟨⟨r60, m60⟩, hr60, h⟩ := bd h
        refine q_callVI Ra (c_pR_wrong ok47 (Rk rfl) hr60) mw_X4_wrong mi_X4_wrong t18 rfl rfl rfl rfl rfl k_X4_64 rfl rfl dX4_readPerson_60 (fun ok60 => ?_)
        obtain ⟨hV60, ok60⟩ := ok60
        cases h
        exact r_zret Ra ok60 ⟨hV60, ok60⟩ dX4_readPerson_63
    · replace h := ineg hc h
      refine r_aload_n Ra (i := 0) dX4_readPerson_39 rfl rfl ?_
      obtain ⟨⟨r40, m40⟩, hr40, h⟩ := bd h
      refine q_callVI Ra (c_pR_astray ok22 hr40) mw_X4_astray mi_X4_astray t18 rfl rfl rfl rfl rfl k_X4_75 rfl rfl dX4_readPerson_40 (fun ok40 => ?_)
      obtain ⟨hV40, ok40⟩ := ok40
      cases h
      exact r_zret Ra ok40 ⟨hV40, ok40⟩ dX4_readPerson_43
  · replace h := ineg hc h
    refine r_aload_n Ra (i := 0) dX4_readPerson_14 rfl rfl ?_
    refine r_bipush Ra dX4_readPerson_15 rfl ?_
    obtain ⟨⟨r17, m17⟩, hr17, h⟩ := bd h
    refine q_callVI Ra (c_pR_wrong hV (Rk rfl) hr17) mw_X4_wrong mi_X4_wrong t18 rfl rfl rfl rfl rfl k_X4_64 rfl rfl dX4_readPerson_17 (fun ok17 => ?_)
    obtain ⟨hV17, ok17⟩ := ok17
    cases h
    exact r_zret Ra ok17 ⟨hV17, ok17⟩ dX4_readPerson_20
noncomputable def pR_readStatement (N : Nat) (μ : Mem) (x1 : Int) : Option (Int × Mem) := if 0 ≤ μ 18 7 ∧ μ 18 7 < 1601 then (some (if μ 35 (μ 18 7) = 0 then 1 else 0 : Int)).bind fun ys1_18 => if x1 = ys1_18 then if 0 ≤ μ 18 7 ∧ μ 18 7 < 1601 then if μ 35 (μ 18 7) = 0 then (pR_readField μ).bind fun (r97, m97) => some (r97, m97) else if μ 35 (μ 18 7) = 2 then (pR_readDew μ).bind fun (r102, m102) => some (r102, m102) else if μ 35 (μ 18 7) = 3 then (pR_readPerson N μ).bind fun (r108, m108) => some (r108, m108) else if μ 35 (μ 18 7) = 8 then (pR_readLaw N μ 8 26).bind fun (r122, m122) => some (r122, m122) else if μ 35 (μ 18 7) = 9 then (pR_readLaw N μ 9 29).bind fun (r136, m136) => some (r136, m136) else if μ 35 (μ 18 7) = 10 then (pR_readLaw N μ 10 32).bind fun (r150, m150) => some (r150, m150) else if μ 35 (μ 18 7) = 11 then (pR_readMist μ).bind fun (r155, m155) => some (r155, m155) else (pR_astray μ).bind fun (r160, m160) => some (r160, m160) else none else (pR_astray μ).bind fun (r22, m22) => some (r22, m22) else none
set_option maxHeartbeats 4000000 in
theorem c_pR_readStatement {l : Launch} {en : En} {N : Nat} {μ : Mem} {x1 : Int} {re : Int} {μe : Mem} (hV : VT μ) (hx1 : x1 = 0 ∨ x1 = 1) (h : pR_readStatement N μ x1 = some (re, μe)) : CtI l en yX4_readStatement cX4_readStatement 3 205 4548 [vA en 18, vI x1, vA en 1] μ .boolean re μe (VT μe ∧ (re = 0 ∨ re = 1)) := by
  refine Tr.of false (fun h => by cases h) (by decide) (Nat.le_of_ble_eq_true rfl) (fun K Ra => ?_)
  unfold pR_readStatement at h
  refine r_iload_n Ra (i := 1) dX4_readStatement_0 rfl rfl ?_
  refine r_aload_n Ra (i := 0) dX4_readStatement_1 rfl rfl ?_
  refine q_getA Ra (b := 35) f_X4_22 t18 rfl rfl rfl (hV.ref t18 rfl (by decide)) (by decide) dX4_readStatement_2 ?_
  refine r_aload_n Ra (i := 0) dX4_readStatement_5 rfl rfl ?_
  refine q_getI Ra (x := μ 18 7) f_X4_42 t18 rfl rfl rfl rfl dX4_readStatement_6 ?_
  obtain ⟨gu9, h⟩ := gd h
  refine q_iald Ra t35 l35 gu9 dX4_readStatement_9 ?_
  obtain ⟨ys1_18, eys1_18, h⟩ := bv h
  have hJ : inR ys1_18 → (ys1_18 = 0 ∨ ys1_18 = 1) → ∀ L9 : Lo, L9 0 = some (vA en 18) → L9 2 = some (vA en 1) → K ZN 18 L9 [vI ys1_18, vI x1] μ := by
    intro iys1_18 bys1_18 L9 f18_0 f18_2
    refine r_icmp_eq Ra 26 dX4_readStatement_18 (inR_01 hx1) iys1_18 rfl (fun hc => ?_) (fun hc => ?_)
    · replace h := ipos hc h
      refine r_aload_n Ra (i := 0) dX4_readStatement_26 rfl f18_0 ?_
      refine q_getA Ra (b := 35) f_X4_22 t18 rfl rfl rfl (hV.ref t18 rfl (by decide)) (by decide) dX4_readStatement_27 ?_
      refine r_aload_n Ra (i := 0) dX4_readStatement_30 rfl f18_0 ?_
      refine q_getI Ra (x := μ 18 7) f_X4_42 t18 rfl rfl rfl rfl dX4_readStatement_31 ?_
      obtain ⟨gu34, h⟩ := gd h
      refine q_iald Ra t35 l35 gu34 dX4_readStatement_34 ?_
      by_cases hc : μ 35 (μ 18 7) = 0
      · replace h := ipos hc h
        refine q_tableC Ra 96 dX4_readStatement_35 (hV.int t35 (kd20 _)) hc rfl rfl rfl ?_
        refine r_aload_n Ra (i := 0) dX4_readStatement_96 rfl f18_0 ?_
        obtain ⟨⟨r97, m97⟩, hr97, h⟩ := bd h
        refine q_callVI Ra (c_pR_readField hV hr97) mw_X4_readField mi_X4_readField t18 rfl rfl rfl rfl rfl k_X4_79 rfl rfl dX4_readStatement_97 (fun ok97 => ?_)
        obtain ⟨hV97, ok97⟩ := ok97
        cases h
        exact r_zret Ra ok97 ⟨hV97, ok97⟩ dX4_readStatement_100
      · have hs35_0 := hc
        replace h := ineg hc h
        by_cases hc : μ 35 (μ 18 7) = 2
        · replace h := ipos hc h
          refine q_tableC Ra 101 dX4_readStatement_35 (hV.int t35 (kd20 _)) hc rfl rfl rfl ?_
          refine r_aload_n Ra (i := 0) dX4_readStatement_101 rfl f18_0 ?_
          obtain ⟨⟨r102, m102⟩, hr102, h⟩ := bd h
          refine q_callVI Ra (c_pR_readDew hV hr102) mw_X4_readDew mi_X4_readDew t18 rfl rfl rfl rfl rfl k_X4_82 rfl rfl dX4_readStatement_102 (fun ok102 => ?_)
          obtain ⟨hV102, ok102⟩ := ok102
          cases h
          exact r_zret Ra ok102 ⟨hV102, ok102⟩ dX4_readStatement_105
        · have hs35_1 := hc
          replace h := ineg hc h
          by_cases hc : μ 35 (μ 18 7) = 3
          · replace h := ipos hc h
            refine q_tableC Ra 106 dX4_readStatement_35 (hV.int t35 (kd20 _)) hc rfl rfl rfl ?_
            refine r_aload_n Ra (i := 0) dX4_readStatement_106 rfl f18_0 ?_
            refine r_aload_n Ra (i := 2) dX4_readStatement_107 rfl f18_2 ?_
            obtain ⟨⟨r108, m108⟩, hr108, h⟩ := bd h
            refine q_callVI Ra (c_pR_readPerson hV hr108) mw_X4_readPerson mi_X4_readPerson t18 rfl rfl rfl rfl rfl k_X4_85 rfl rfl dX4_readStatement_108 (fun ok108 => ?_)
            obtain ⟨hV108, ok108⟩ := ok108
            cases h
            exact r_zret Ra ok108 ⟨hV108, ok108⟩ dX4_readStatement_111
          · have hs35_2 := hc
            replace h := ineg hc h
            by_cases hc : μ 35 (μ 18 7) = 8
            · replace h := ipos hc h
              refine q_tableC Ra 112 dX4_readStatement_35 (hV.int t35 (kd20 _)) hc rfl rfl rfl ?_
              refine r_aload_n Ra (i := 0) dX4_readStatement_112 rfl f18_0 ?_
              refine r_bipush Ra dX4_readStatement_113 rfl ?_
              refine r_aload_n Ra (i := 0) dX4_readStatement_115 rfl f18_0 ?_
              refine q_getA Ra (b := 19) f_X4_12 t18 rfl rfl rfl (hV.ref t18 rfl (by decide)) (by decide) dX4_readStatement_116 ?_
              refine q_getA Ra (b := 26) f_X4_32 t19 rfl rfl rfl (hV.ref t19 rfl (by decide)) (by decide) dX4_readStatement_119 ?_
              obtain ⟨⟨r122, m122⟩, hr122, h⟩ := bd h
              refine q_callVI Ra (c_pR_readLaw hV (Rk rfl) t26 hr122) mw_X4_readLaw mi_X4_readLaw t18 rfl rfl rfl rfl rfl k_X4_89 rfl rfl dX4_readStatement_122 (fun ok122 => ?_)
              obtain ⟨hV122, ok122⟩ := ok122
              cases h
              exact r_zret Ra ok122 ⟨hV122, ok122⟩ dX4_readStatement_125
            · have hs35_3 := hc
              replace h := ineg hc h
              by_cases hc : μ 35 (μ 18 7) = 9
              · replace h := ipos hc h
                refine q_tableC Ra 126 dX4_readStatement_35 (hV.int t35 (kd20 _)) hc rfl rfl rfl ?_
                refine r_aload_n Ra (i := 0) dX4_readStatement_126 rfl f18_0 ?_
                refine r_bipush Ra dX4_readStatement_127 rfl ?_
                refine r_aload_n Ra (i := 0) dX4_readStatement_129 rfl f18_0 ?_
                refine q_getA Ra (b := 19) f_X4_12 t18 rfl rfl rfl (hV.ref t18 rfl (by decide)) (by decide) dX4_readStatement_130 ?_
                refine q_getA Ra (b := 29) f_X4_93 t19 rfl rfl rfl (hV.ref t19 rfl (by decide)) (by decide) dX4_readStatement_133 ?_
                obtain ⟨⟨r136, m136⟩, hr136, h⟩ := bd h
                refine q_callVI Ra (c_pR_readLaw hV (Rk rfl) t29 hr136) mw_X4_readLaw mi_X4_readLaw t18 rfl rfl rfl rfl rfl k_X4_89 rfl rfl dX4_readStatement_136 (fun ok136 => ?_)
                obtain ⟨hV136, ok136⟩ := ok136
                cases h
                exact r_zret Ra ok136 ⟨hV136, ok136⟩ dX4_readStatement_139
              · have hs35_4 := hc
                replace h := ineg hc h
                by_cases hc : μ 35 (μ 18 7) = 10
                · replace h := ipos hc h
                  refine q_tableC Ra 140 dX4_readStatement_35 (hV.int t35 (kd20 _)) hc rfl rfl rfl ?_
                  refine r_aload_n Ra (i := 0) dX4_readStatement_140 rfl f18_0 ?_
                  refine r_bipush Ra dX4_readStatement_141 rfl ?_
                  refine r_aload_n Ra (i := 0) dX4_readStatement_143 rfl f18_0 ?_
                  refine q_getA Ra (b := 19) f_X4_12 t18 rfl rfl rfl (hV.ref t18 rfl (by decide)) (by decide) dX4_readStatement_144 ?_
                  refine q_getA Ra (b := 32) f_X4_96 t19 rfl rfl rfl (hV.ref t19 rfl (by decide)) (by decide) dX4_readStatement_147 ?_
                  obtain ⟨⟨r150, m150⟩, hr150, h⟩ := bd h
                  refine q_callVI Ra (c_pR_readLaw hV (Rk rfl) t32 hr150) mw_X4_readLaw mi_X4_readLaw t18 rfl rfl rfl rfl rfl k_X4_89 rfl rfl dX4_readStatement_150 (fun ok150 => ?_)
                  obtain ⟨hV150, ok150⟩ := ok150
                  cases h
                  exact r_zret Ra ok150 ⟨hV150, ok150⟩ dX4_readStatement_153
                · have hs35_5 := hc
                  replace h := ineg hc h
                  by_cases hc : μ 35 (μ 18 7) = 11
                  · replace h := ipos hc h
                    refine q_tableC Ra 154 dX4_readStatement_35 (hV.int t35 (kd20 _)) hc rfl rfl rfl ?_
                    refine r_aload_n Ra (i := 0) dX4_readStatement_154 rfl f18_0 ?_
                    obtain ⟨⟨r155, m155⟩, hr155, h⟩ := bd h
                    refine q_callVI Ra (c_pR_readMist hV hr155) mw_X4_readMist mi_X4_readMist t18 rfl rfl rfl rfl rfl k_X4_99 rfl rfl dX4_readStatement_155 (fun ok155 => ?_)
                    obtain ⟨hV155, ok155⟩ := ok155
                    cases h
                    exact r_zret Ra ok155 ⟨hV155, ok155⟩ dX4_readStatement_158
                  · have hs35_6 := hc
                    replace h := ineg hc h
                    refine q_tableD Ra 159 dX4_readStatement_35 (hV.int t35 (kd20 _)) [0, 2, 3, 8, 9, 10, 11] (List.forall_mem_cons.mpr ⟨hs35_0, (List.forall_mem_cons.mpr ⟨hs35_1, (List.forall_mem_cons.mpr ⟨hs35_2, (List.forall_mem_cons.mpr ⟨hs35_3, (List.forall_mem_cons.mpr ⟨hs35_4, (List.forall_mem_cons.mpr ⟨hs35_5, (List.forall_mem_cons.mpr ⟨hs35_6, (fun _ h9 => absurd h9 List.not_mem_nil)⟩)⟩)⟩)⟩)⟩)⟩)⟩) rfl rfl ?_
                    refine r_aload_n Ra (i := 0) dX4_readStatement_159 rfl f18_0 ?_
                    obtain ⟨⟨r160, m160⟩, hr160, h⟩ := bd h
                    refine q_callVI Ra (c_pR_astray hV hr160) mw_X4_astray mi_X4_astray t18 rfl rfl rfl rfl rfl k_X4_75 rfl rfl dX4_readStatement_160 (fun ok160 => ?_)
                    obtain ⟨hV160, ok160⟩ := ok160
                    cases h
                    exact r_zret Ra ok160 ⟨hV160, ok160⟩ dX4_readStatement_163
    · replace h := ineg hc h
      refine r_aload_n Ra (i := 0) dX4_readStatement_21 rfl f18_0 ?_
      obtain ⟨⟨r22, m22⟩, hr22, h⟩ := bd h
      refine q_callVI Ra (c_pR_astray hV hr22) mw_X4_astray mi_X4_astray t18 rfl rfl rfl rfl rfl k_X4_75 rfl rfl dX4_readStatement_22 (fun ok22 => ?_)
      obtain ⟨hV22, ok22⟩ := ok22
      cases h
      exact r_zret Ra ok22 ⟨hV22, ok22⟩ dX4_readStatement_25
  refine r_if_ne Ra 17 dX4_readStatement_10 (hV.int t35 (kd20 _)) rfl (fun hc => ?_) (fun hc => ?_)
  · replace eys1_18 := eys1_18.trans (if_neg hc)
    refine r_iconst Ra dX4_readStatement_17 ?_
    subst eys1_18
    exact hJ (Rk rfl) (Or.inl rfl) _ rfl rfl
  · replace eys1_18 := eys1_18.trans (if_pos hc)
    refine r_iconst Ra dX4_readStatement_13 ?_
    refine r_goto Ra 18 dX4_readStatement_14 rfl ?_
    subst eys1_18
    exact hJ (Rk rfl) (Or.inr rfl) _ rfl rfl
noncomputable def pR_add (μ : Mem) (x1 : Int) (x2 : Int) (x3 : Int) : Option (Mem) := if 1600 < μ 18 6 then some μ else if 0 ≤ μ 18 6 ∧ μ 18 6 < 1601 then (some (mset μ 35 (μ 18 6) x1)).bind fun m19 => if 0 ≤ m19 18 6 ∧ m19 18 6 < 1601 then (some (mset m19 36 (m19 18 6) x2)).bind fun m29 => if 0 ≤ m29 18 6 ∧ m29 18 6 < 1601 then (some (mset m29 37 (m29 18 6) x3)).bind fun m39 => (some (mset m39 18 6 (w32 ((m39 18 6) + 1)))).bind fun m47 => some m47 else none else none else none
set_option maxHeartbeats 4000000 in
theorem c_pR_add {l : Launch} {en : En} {μ : Mem} {x1 : Int} {x2 : Int} {x3 : Int} {μe : Mem} (hV : VT μ) (hx1 : inR x1) (hx2 : inR x2) (hx3 : inR x3) (h : pR_add μ x1 x2 x3 = some μe) : CtV l en yX4_add cX4_add 4 0 60 [vA en 18, vI x1, vI x2, vI x3] μ μe (VT μe) := by
  refine Tr.of false (fun h => by cases h) (by decide) (Nat.le_of_ble_eq_true rfl) (fun K Ra => ?_)
  unfold pR_add at h
  refine r_aload_n Ra (i := 0) dX4_add_0 rfl rfl ?_
  refine q_getI Ra (x := μ 18 6) f_X4_213 t18 rfl rfl rfl rfl dX4_add_1 ?_
  refine r_sipush Ra dX4_add_4 rfl ?_
  refine r_icmp_gt Ra 50 dX4_add_7 (hV.int t18 rfl) (Rk rfl) rfl (fun hc => ?_) (fun hc => ?_)
  · replace h := ipos hc h
    cases h
    exact r_vret Ra hV dX4_add_50
  · replace h := ineg hc h
    refine r_aload_n Ra (i := 0) dX4_add_10 rfl rfl ?_
    refine q_getA Ra (b := 35) f_X4_22 t18 rfl rfl rfl (hV.ref t18 rfl (by decide)) (by decide) dX4_add_11 ?_
    refine r_aload_n Ra (i := 0) dX4_add_14 rfl rfl ?_
    refine q_getI Ra (x := μ 18 6) f_X4_213 t18 rfl rfl rfl rfl dX4_add_15 ?_
    refine r_iload_n Ra (i := 1) dX4_add_18 rfl rfl ?_
    obtain ⟨gu19, h⟩ := gd h
    obtain ⟨m19, em19, h⟩ := bv h
    have hm19 : VT m19 := eqV em19 (hV.setI t35 (kd20 _) hx1)
    refine q_iast Ra t35 l35 gu19 em19 dX4_add_19 ?_
    refine r_aload_n Ra (i := 0) dX4_add_20 rfl rfl ?_
    refine q_getA Ra (b := 36) f_X4_26 t18 rfl rfl rfl (hm19.ref t18 rfl (by decide)) (by decide) dX4_add_21 ?_
    refine r_aload_n Ra (i := 0) dX4_add_24 rfl rfl ?_
    refine q_getI Ra (x := m19 18 6) f_X4_213 t18 rfl rfl rfl rfl dX4_add_25 ?_
    refine r_iload_n Ra (i := 2) dX4_add_28 rfl rfl ?_
    obtain ⟨gu29, h⟩ := gd h
    obtain ⟨m29, em29, h⟩ := bv h
    have hm29 : VT m29 := eqV em29 (hm19.setI t36 (kd20 _) hx2)
    refine q_iast Ra t36 l36 gu29 em29 dX4_add_29 ?_
    refine r_aload_n Ra (i := 0) dX4_add_30 rfl rfl ?_
    refine q_getA Ra (b := 37) f_X4_29 t18 rfl rfl rfl (hm29.ref t18 rfl (by decide)) (by decide) dX4_add_31 ?_
    refine r_aload_n Ra (i := 0) dX4_add_34 rfl rfl ?_
    refine q_getI Ra (x := m29 18 6) f_X4_213 t18 rfl rfl rfl rfl dX4_add_35 ?_
    refine r_iload_n Ra (i := 3) dX4_add_38 rfl rfl ?_
    obtain ⟨gu39, h⟩ := gd h
    obtain ⟨m39, em39, h⟩ := bv h
    have hm39 : VT m39 := eqV em39 (hm29.setI t37 (kd20 _) hx3)
    refine q_iast Ra t37 l37 gu39 em39 dX4_add_39 ?_
    refine r_aload_n Ra (i := 0) dX4_add_40 rfl rfl ?_
    refine r_dupA Ra dX4_add_41 ?_
    refine q_getI Ra (x := m39 18 6) f_X4_213 t18 rfl rfl rfl rfl dX4_add_42 ?_
    refine r_iconst Ra dX4_add_45 ?_
    refine r_iadd Ra dX4_add_46 ?_
    obtain ⟨m47, em47, h⟩ := bv h
    have hm47 : VT m47 := eqV em47 (hm39.setI t18 rfl (inR_32 _))
    refine q_putI Ra f_X4_213 p_X4_6 t18 rfl rfl rfl em47 dX4_add_47 ?_
    cases h
    exact r_vret Ra hm47 dX4_add_50
noncomputable def pR_behindBlanks_L2b (N : Nat) (μ : Mem) (c1 : Int) (k : Int → Option (Int)) (self : Int → Option (Int)) (x3 : Int) : Option (Int) := if x3 < c1 then if 0 ≤ x3 ∧ x3 < 1600 then if μ 1 x3 = 32 then (some (w32 (x3 + 1) : Int)).bind fun x3_23 => self x3_23 else if 0 ≤ x3 ∧ x3 < 1600 then if μ 1 x3 = 10 then (some (w32 (x3 + 1) : Int)).bind fun x3_23 => self x3_23 else k x3 else none else none else k x3
noncomputable def pR_behindBlanks_L2 (N : Nat) (μ : Mem) (c1 : Int) (k : Int → Option (Int)) (n : Nat) : Int → Option (Int) := lpF (fun _ => none) (pR_behindBlanks_L2b N μ c1 k) n
noncomputable def pR_behindBlanks (N : Nat) (μ : Mem) (x1 : Int) (x2 : Int) : Option (Int) := pR_behindBlanks_L2 N μ x1 (fun z3_29 => some (z3_29)) N x2
theorem k_pR_behindBlanks_L2 {l : Launch} {en : En} {re : Int} {N : Nat} {μ : Mem} (hV : VT μ) {c1 : Int} {k : Int → Option (Int)} {K : KT} (Ra : Ru false (some (some .int, some (vI re), nCells, μ, 0, 0, (inR re))) l en cX4_behindBlanks yX4_behindBlanks.cls 4 (rmN 0 60) K) (hi1 : inR c1) (hk : ∀ (z3 : Int), k z3 = some re → inR z3 → ∀ L9 : Lo, L9 3 = some (vI z3) → K ZN 29 L9 [] μ) : ∀ (n : Nat) (x3 : Int) (L : Lo), pR_behindBlanks_L2 N μ c1 k n x3 = some re → inR x3 → L 0 = some (vA en 1) → L 1 = some (vI c1) → L 3 = some (vI x3) → K ZN 2 L [] μ := by
  intro n
  induction n with
  | zero => intro x3 L h; cases h
  | succ n ih =>
    intro x3 L h hx3 hL0 hL1 hL3
    replace h : pR_behindBlanks_L2b N μ c1 k (pR_behindBlanks_L2 N μ c1 k n) x3 = some re := h
    unfold pR_behindBlanks_L2b at h
    refine r_iload_n Ra (i := 3) dX4_behindBlanks_2 rfl hL3 ?_
    refine r_iload_n Ra (i := 1) dX4_behindBlanks_3 rfl hL1 ?_
    refine r_icmp_ge Ra 29 dX4_behindBlanks_4 hx3 hi1 rfl (fun hc => ?_) (fun hc => ?_)
    · replace h := ineg hc h
      exact hk x3 h hx3 _ hL3
    · replace h := ipos hc h
      refine r_aload_n Ra (i := 0) dX4_behindBlanks_7 rfl hL0 ?_
      refine r_iload_n Ra (i := 3) dX4_behindBlanks_8 rfl hL3 ?_
      obtain ⟨gu9, h⟩ := gd h
      refine q_iald Ra t1 l1 gu9 dX4_behindBlanks_9 ?_
      refine r_bipush Ra dX4_behindBlanks_10 rfl ?_
      refine r_icmp_eq Ra 23 dX4_behindBlanks_12 (hV.int t1 (kd20 _)) (Rk rfl) rfl (fun hc => ?_) (fun hc => ?_)
      · replace h := ipos hc h
        obtain ⟨x3_23, ex3_23, h⟩ := bv h
        have ix3_23 : inR x3_23 := eqR ex3_23 (inR_32 _)
        refine q_iinc Ra dX4_behindBlanks_23 hL3 ex3_23 ?_
        refine r_goto Ra 2 dX4_behindBlanks_26 rfl ?_
        exact ih x3_23 _ h ix3_23 hL0 hL1 rfl
      · replace h := ineg hc h
        refine r_aload_n Ra (i := 0) dX4_behindBlanks_15 rfl hL0 ?_
        refine r_iload_n Ra (i := 3) dX4_behindBlanks_16 rfl hL3 ?_
        obtain ⟨gu17, h⟩ := gd h
        refine q_iald Ra t1 l1 gu17 dX4_behindBlanks_17 ?_
        refine r_bipush Ra dX4_behindBlanks_18 rfl ?_
        refine r_icmp_ne Ra 29 dX4_behindBlanks_20 (hV.int t1 (kd20 _)) (Rk rfl) rfl (fun hc => ?_) (fun hc => ?_)
        · replace h := ineg hc h
          exact hk x3 h hx3 _ hL3
        · replace h := ipos hc h
          obtain ⟨x3_23, ex3_23, h⟩ := bv h
          have ix3_23 : inR x3_23 := eqR ex3_23 (inR_32 _)
          refine q_iinc Ra dX4_behindBlanks_23 hL3 ex3_23 ?_
          refine r_goto Ra 2 dX4_behindBlanks_26 rfl ?_
          exact ih x3_23 _ h ix3_23 hL0 hL1 rfl
set_option maxHeartbeats 4000000 in
theorem c_pR_behindBlanks {l : Launch} {en : En} {N : Nat} {μ : Mem} {x1 : Int} {x2 : Int} {re : Int} (hV : VT μ) (hx1 : inR x1) (hx2 : inR x2) (h : pR_behindBlanks N μ x1 x2 = some re) : CtI l en yX4_behindBlanks cX4_behindBlanks 4 0 60 [vA en 1, vI x1, vI x2] μ .int re μ (inR re) := by
  refine Tr.of false (fun h => by cases h) (by decide) (Nat.le_of_ble_eq_true rfl) (fun K Ra => ?_)
  unfold pR_behindBlanks at h
  refine r_iload_n Ra (i := 2) dX4_behindBlanks_0 rfl rfl ?_
  refine q_istore_n Ra 3 dX4_behindBlanks_1 rfl rfl rfl ?_
  refine k_pR_behindBlanks_L2 hV Ra hx1 ?_ _ _ _ h hx2 rfl rfl rfl
  intro z3_29 h iz3_29 L9 f29_3
  refine r_iload_n Ra (i := 3) dX4_behindBlanks_29 rfl f29_3 ?_
  cases h
  exact r_iret Ra iz3_29 dX4_behindBlanks_30
noncomputable def pR_isDigit (μ : Mem) (x0 : Int) : Option (Int) := if x0 < 48 then some (0) else if 57 < x0 then some (0) else some (1)
set_option maxHeartbeats 4000000 in
theorem c_pR_isDigit {l : Launch} {en : En} {μ : Mem} {x0 : Int} {re : Int} (hV : VT μ) (hx0 : inR x0) (h : pR_isDigit μ x0 = some re) : CtI l en yX4_isDigit cX4_isDigit 1 0 60 [vI x0] μ .boolean re μ ((re = 0 ∨ re = 1)) := by
  refine Tr.of false (fun h => by cases h) (by decide) (Nat.le_of_ble_eq_true rfl) (fun K Ra => ?_)
  unfold pR_isDigit at h
  refine r_iload_n Ra (i := 0) dX4_isDigit_0 rfl rfl ?_
  refine r_bipush Ra dX4_isDigit_1 rfl ?_
  refine r_icmp_lt Ra 16 dX4_isDigit_3 hx0 (Rk rfl) rfl (fun hc => ?_) (fun hc => ?_)
  · replace h := ipos hc h
    refine r_iconst Ra dX4_isDigit_16 ?_
    cases h
    exact r_zret Ra (Or.inl rfl) (Or.inl rfl) dX4_isDigit_17
  · replace h := ineg hc h
    refine r_iload_n Ra (i := 0) dX4_isDigit_6 rfl rfl ?_
    refine r_bipush Ra dX4_isDigit_7 rfl ?_
    refine r_icmp_gt Ra 16 dX4_isDigit_9 hx0 (Rk rfl) rfl (fun hc => ?_) (fun hc => ?_)
    · replace h := ipos hc h
      refine r_iconst Ra dX4_isDigit_16 ?_
      cases h
      exact r_zret Ra (Or.inl rfl) (Or.inl rfl) dX4_isDigit_17
    · replace h := ineg hc h
      refine r_iconst Ra dX4_isDigit_12 ?_
      refine r_goto Ra 17 dX4_isDigit_13 rfl ?_
      cases h
      exact r_zret Ra (Or.inr rfl) (Or.inr rfl) dX4_isDigit_17
noncomputable def pR_isLetter (μ : Mem) (x0 : Int) : Option (Int) := if x0 < 97 then some (0) else if 122 < x0 then some (0) else some (1)
set_option maxHeartbeats 4000000 in
theorem c_pR_isLetter {l : Launch} {en : En} {μ : Mem} {x0 : Int} {re : Int} (hV : VT μ) (hx0 : inR x0) (h : pR_isLetter μ x0 = some re) : CtI l en yX4_isLetter cX4_isLetter 1 0 60 [vI x0] μ .boolean re μ ((re = 0 ∨ re = 1)) := by
  refine Tr.of false (fun h => by cases h) (by decide) (Nat.le_of_ble_eq_true rfl) (fun K Ra => ?_)
  unfold pR_isLetter at h
  refine r_iload_n Ra (i := 0) dX4_isLetter_0 rfl rfl ?_
  refine r_bipush Ra dX4_isLetter_1 rfl ?_
  refine r_icmp_lt Ra 16 dX4_isLetter_3 hx0 (Rk rfl) rfl (fun hc => ?_) (fun hc => ?_)
  · replace h := ipos hc h
    refine r_iconst Ra dX4_isLetter_16 ?_
    cases h
    exact r_zret Ra (Or.inl rfl) (Or.inl rfl) dX4_isLetter_17
  · replace h := ineg hc h
    refine r_iload_n Ra (i := 0) dX4_isLetter_6 rfl rfl ?_
    refine r_bipush Ra dX4_isLetter_7 rfl ?_
    refine r_icmp_gt Ra 16 dX4_isLetter_9 hx0 (Rk rfl) rfl (fun hc => ?_) (fun hc => ?_)
    · replace h := ipos hc h
      refine r_iconst Ra dX4_isLetter_16 ?_
      cases h
      exact r_zret Ra (Or.inl rfl) (Or.inl rfl) dX4_isLetter_17
    · replace h := ineg hc h
      refine r_iconst Ra dX4_isLetter_12 ?_
      refine r_goto Ra 17 dX4_isLetter_13 rfl ?_
      cases h
      exact r_zret Ra (Or.inr rfl) (Or.inr rfl) dX4_isLetter_17
noncomputable def pR_endOfRun_L49b (N : Nat) (μ : Mem) (c1 : Int) (k : Int → Option (Int)) (self : Int → Option (Int)) (x3 : Int) : Option (Int) := if x3 < c1 then if 0 ≤ x3 ∧ x3 < 1600 then (pR_isDigit μ (μ 1 x3)).bind fun r57 => if r57 = 0 then k x3 else (some (w32 (x3 + 1) : Int)).bind fun x3_63 => self x3_63 else none else k x3
noncomputable def pR_endOfRun_L49 (N : Nat) (μ : Mem) (c1 : Int) (k : Int → Option (Int)) (n : Nat) : Int → Option (Int) := lpF (fun _ => none) (pR_endOfRun_L49b N μ c1 k) n
noncomputable def pR_endOfRun_L20b (N : Nat) (μ : Mem) (c1 : Int) (self : Int → Option (Int)) (x3 : Int) : Option (Int) := if x3 < c1 then if 0 ≤ x3 ∧ x3 < 1600 then (pR_isLetter μ (μ 1 x3)).bind fun r28 => if r28 = 0 then some (x3) else (some (w32 (x3 + 1) : Int)).bind fun x3_34 => self x3_34 else none else some (x3)
noncomputable def pR_endOfRun_L20 (N : Nat) (μ : Mem) (c1 : Int) (n : Nat) : Int → Option (Int) := lpF (fun _ => none) (pR_endOfRun_L20b N μ c1) n
noncomputable def pR_endOfRun (N : Nat) (μ : Mem) (x1 : Int) (x2 : Int) : Option (Int) := if x2 < x1 then (some (w32 (x2 + 1) : Int)).bind fun x3_10 => if 0 ≤ x2 ∧ x2 < 1600 then (pR_isLetter μ (μ 1 x2)).bind fun r14 => if r14 = 0 then if 0 ≤ x2 ∧ x2 < 1600 then (pR_isDigit μ (μ 1 x2)).bind fun r43 => if r43 = 0 then some (x3_10) else pR_endOfRun_L49 N μ x1 (fun z3_69 => some (z3_69)) N x3_10 else none else pR_endOfRun_L20 N μ x1 N x3_10 else none else some (x2)
theorem k_pR_endOfRun_L49 {l : Launch} {en : En} {re : Int} {N : Nat} {μ : Mem} (hV : VT μ) {c1 : Int} {k : Int → Option (Int)} {K : KT} (Ra : Ru false (some (some .int, some (vI re), nCells, μ, 0, 0, (inR re))) l en cX4_endOfRun yX4_endOfRun.cls 4 (rmN 1 80) K) (hi1 : inR c1) (hk : ∀ (z3 : Int), k z3 = some re → inR z3 → ∀ L9 : Lo, L9 3 = some (vI z3) → K ZN 69 L9 [] μ) : ∀ (n : Nat) (x3 : Int) (L : Lo), pR_endOfRun_L49 N μ c1 k n x3 = some re → inR x3 → L 0 = some (vA en 1) → L 1 = some (vI c1) → L 3 = some (vI x3) → K ZN 49 L [] μ := by
  intro n
  induction n with
  | zero => intro x3 L h; cases h
  | succ n ih =>
    intro x3 L h hx3 hL0 hL1 hL3
    replace h : pR_endOfRun_L49b N μ c1 k (pR_endOfRun_L49 N μ c1 k n) x3 = some re := h
    unfold pR_endOfRun_L49b at h
    refine r_iload_n Ra (i := 3) dX4_endOfRun_49 rfl hL3 ?_
    refine r_iload_n Ra (i := 1) dX4_endOfRun_50 rfl hL1 ?_
    refine r_icmp_ge Ra 69 dX4_endOfRun_51 hx3 hi1 rfl (fun hc => ?_) (fun hc => ?_)
    · replace h := ineg hc h
      exact hk x3 h hx3 _ hL3
    · replace h := ipos hc h
      refine r_aload_n Ra (i := 0) dX4_endOfRun_54 rfl hL0 ?_
      refine r_iload_n Ra (i := 3) dX4_endOfRun_55 rfl hL3 ?_
      obtain ⟨gu56, h⟩ := gd h
      refine q_iald Ra t1 l1 gu56 dX4_endOfRun_56 ?_
      obtain ⟨r57, hr57, h⟩ := bd h
      refine q_callSI Ra (c_pR_isDigit hV (hV.int t1 (kd20 _)) hr57) mw_X4_isDigit ms_X4_isDigit rfl rfl k_X4_239 rfl rfl dX4_endOfRun_57 (fun ok57 => ?_)
      refine r_if_eq Ra 69 dX4_endOfRun_60 (inR_01 ok57) rfl (fun hc => ?_) (fun hc => ?_)
      · replace h := ipos hc h
        exact hk x3 h hx3 _ hL3
      · replace h := ineg hc h
        obtain ⟨x3_63, ex3_63, h⟩ := bv h
        have ix3_63 : inR x3_63 := eqR ex3_63 (inR_32 _)
        refine q_iinc Ra dX4_endOfRun_63 hL3 ex3_63 ?_
        refine r_goto Ra 49 dX4_endOfRun_66 rfl ?_
        exact ih x3_63 _ h ix3_63 hL0 hL1 rfl
theorem k_pR_endOfRun_L20 {l : Launch} {en : En} {re : Int} {N : Nat} {μ : Mem} (hV : VT μ) {c1 : Int}  {K : KT} (Ra : Ru false (some (some .int, some (vI re), nCells, μ, 0, 0, (inR re))) l en cX4_endOfRun yX4_endOfRun.cls 4 (rmN 1 80) K) (hi1 : inR c1) : ∀ (n : Nat) (x3 : Int) (L : Lo), pR_endOfRun_L20 N μ c1 n x3 = some re → inR x3 → L 0 = some (vA en 1) → L 1 = some (vI c1) → L 3 = some (vI x3) → K ZN 20 L [] μ := by
  intro n
  induction n with
  | zero => intro x3 L h; cases h
  | succ n ih =>
    intro x3 L h hx3 hL0 hL1 hL3
    replace h : pR_endOfRun_L20b N μ c1 (pR_endOfRun_L20 N μ c1 n) x3 = some re := h
    unfold pR_endOfRun_L20b at h
    refine r_iload_n Ra (i := 3) dX4_endOfRun_20 rfl hL3 ?_
    refine r_iload_n Ra (i := 1) dX4_endOfRun_21 rfl hL1 ?_
    refine r_icmp_ge Ra 69 dX4_endOfRun_22 hx3 hi1 rfl (fun hc => ?_) (fun hc => ?_)
    · replace h := ineg hc h
      refine r_iload_n Ra (i := 3) dX4_endOfRun_69 rfl hL3 ?_
      cases h
      exact r_iret Ra hx3 dX4_endOfRun_70
    · replace h := ipos hc h
      refine r_aload_n Ra (i := 0) dX4_endOfRun_25 rfl hL0 ?_
      refine r_iload_n Ra (i := 3) dX4_endOfRun_26 rfl hL3 ?_
      obtain ⟨gu27, h⟩ := gd h
      refine q_iald Ra t1 l1 gu27 dX4_endOfRun_27 ?_
      obtain ⟨r28, hr28, h⟩ := bd h
      refine q_callSI Ra (c_pR_isLetter hV (hV.int t1 (kd20 _)) hr28) mw_X4_isLetter ms_X4_isLetter rfl rfl k_X4_236 rfl rfl dX4_endOfRun_28 (fun ok28 => ?_)
      refine r_if_eq Ra 69 dX4_endOfRun_31 (inR_01 ok28) rfl (fun hc => ?_) (fun hc => ?_)
      · replace h := ipos hc h
        refine r_iload_n Ra (i := 3) dX4_endOfRun_69 rfl hL3 ?_
        cases h
        exact r_iret Ra hx3 dX4_endOfRun_70
      · replace h := ineg hc h
        obtain ⟨x3_34, ex3_34, h⟩ := bv h
        have ix3_34 : inR x3_34 := eqR ex3_34 (inR_32 _)
        refine q_iinc Ra dX4_endOfRun_34 hL3 ex3_34 ?_
        refine r_goto Ra 20 dX4_endOfRun_37 rfl ?_
        exact ih x3_34 _ h ix3_34 hL0 hL1 rfl
set_option maxHeartbeats 4000000 in
theorem c_pR_endOfRun {l : Launch} {en : En} {N : Nat} {μ : Mem} {x1 : Int} {x2 : Int} {re : Int} (hV : VT μ) (hx1 : inR x1) (hx2 : inR x2) (h : pR_endOfRun N μ x1 x2 = some re) : CtI l en yX4_endOfRun cX4_endOfRun 4 1 80 [vA en 1, vI x1, vI x2] μ .int re μ (inR re) := by
  refine Tr.of false (fun h => by cases h) (by decide) (Nat.le_of_ble_eq_true rfl) (fun K Ra => ?_)
  unfold pR_endOfRun at h
  refine r_iload_n Ra (i := 2) dX4_endOfRun_0 rfl rfl ?_
  refine r_iload_n Ra (i := 1) dX4_endOfRun_1 rfl rfl ?_
  refine r_icmp_lt Ra 7 dX4_endOfRun_2 hx2 hx1 rfl (fun hc => ?_) (fun hc => ?_)
  · replace h := ipos hc h
    refine r_iload_n Ra (i := 2) dX4_endOfRun_7 rfl rfl ?_
    refine r_iconst Ra dX4_endOfRun_8 ?_
    refine r_iadd Ra dX4_endOfRun_9 ?_
    obtain ⟨x3_10, ex3_10, h⟩ := bv h
    have ix3_10 : inR x3_10 := eqR ex3_10 (inR_32 _)
    refine q_istore_n Ra 3 dX4_endOfRun_10 rfl rfl ex3_10 ?_
    refine r_aload_n Ra (i := 0) dX4_endOfRun_11 rfl rfl ?_
    refine r_iload_n Ra (i := 2) dX4_endOfRun_12 rfl rfl ?_
    obtain ⟨gu13, h⟩ := gd h
    refine q_iald Ra t1 l1 gu13 dX4_endOfRun_13 ?_
    obtain ⟨r14, hr14, h⟩ := bd h
    refine q_callSI Ra (c_pR_isLetter hV (hV.int t1 (kd20 _)) hr14) mw_X4_isLetter ms_X4_isLetter rfl rfl k_X4_236 rfl rfl dX4_endOfRun_14 (fun ok14 => ?_)
    refine r_if_eq Ra 40 dX4_endOfRun_17 (inR_01 ok14) rfl (fun hc => ?_) (fun hc => ?_)
    · replace h := ipos hc h
      refine r_aload_n Ra (i := 0) dX4_endOfRun_40 rfl rfl ?_
      refine r_iload_n Ra (i := 2) dX4_endOfRun_41 rfl rfl ?_
      obtain ⟨gu42, h⟩ := gd h
      refine q_iald Ra t1 l1 gu42 dX4_endOfRun_42 ?_
      obtain ⟨r43, hr43, h⟩ := bd h
      refine q_callSI Ra (c_pR_isDigit hV (hV.int t1 (kd20 _)) hr43) mw_X4_isDigit ms_X4_isDigit rfl rfl k_X4_239 rfl rfl dX4_endOfRun_43 (fun ok43 => ?_)
      refine r_if_eq Ra 69 dX4_endOfRun_46 (inR_01 ok43) rfl (fun hc => ?_) (fun hc => ?_)
      · replace h := ipos hc h
        refine r_iload_n Ra (i := 3) dX4_endOfRun_69 rfl rfl ?_
        cases h
        exact r_iret Ra ix3_10 dX4_endOfRun_70
      · replace h := ineg hc h
        refine k_pR_endOfRun_L49 hV Ra hx1 ?_ _ _ _ h ix3_10 rfl rfl rfl
        intro z3_69 h iz3_69 L9 f69_3
        refine r_iload_n Ra (i := 3) dX4_endOfRun_69 rfl f69_3 ?_
        cases h
        exact r_iret Ra iz3_69 dX4_endOfRun_70
    · replace h := ineg hc h
      refine k_pR_endOfRun_L20 hV Ra hx1 _ _ _ h ix3_10 rfl rfl rfl
  · replace h := ineg hc h
    refine r_iload_n Ra (i := 2) dX4_endOfRun_5 rfl rfl ?_
    cases h
    exact r_iret Ra hx2 dX4_endOfRun_6
noncomputable def pR_isRun (μ : Mem) (x0 : Int) : Option (Int) := (pR_isLetter μ x0).bind fun r1 => if r1 = 0 then (pR_isDigit μ x0).bind fun r8 => if r8 = 0 then some (0) else some (1) else some (1)
set_option maxHeartbeats 4000000 in
theorem c_pR_isRun {l : Launch} {en : En} {μ : Mem} {x0 : Int} {re : Int} (hV : VT μ) (hx0 : inR x0) (h : pR_isRun μ x0 = some re) : CtI l en yX4_isRun cX4_isRun 1 1 80 [vI x0] μ .boolean re μ ((re = 0 ∨ re = 1)) := by
  refine Tr.of false (fun h => by cases h) (by decide) (Nat.le_of_ble_eq_true rfl) (fun K Ra => ?_)
  unfold pR_isRun at h
  refine r_iload_n Ra (i := 0) dX4_isRun_0 rfl rfl ?_
  obtain ⟨r1, hr1, h⟩ := bd h
  refine q_callSI Ra (c_pR_isLetter hV hx0 hr1) mw_X4_isLetter ms_X4_isLetter rfl rfl k_X4_236 rfl rfl dX4_isRun_1 (fun ok1 => ?_)
  refine r_if_ne Ra 14 dX4_isRun_4 (inR_01 ok1) rfl (fun hc => ?_) (fun hc => ?_)
  · replace h := ineg hc h
    refine r_iconst Ra dX4_isRun_14 ?_
    refine r_goto Ra 19 dX4_isRun_15 rfl ?_
    cases h
    exact r_zret Ra (Or.inr rfl) (Or.inr rfl) dX4_isRun_19
  · replace h := ipos hc h
    refine r_iload_n Ra (i := 0) dX4_isRun_7 rfl rfl ?_
    obtain ⟨r8, hr8, h⟩ := bd h
    refine q_callSI Ra (c_pR_isDigit hV hx0 hr8) mw_X4_isDigit ms_X4_isDigit rfl rfl k_X4_239 rfl rfl dX4_isRun_8 (fun ok8 => ?_)
    refine r_if_eq Ra 18 dX4_isRun_11 (inR_01 ok8) rfl (fun hc => ?_) (fun hc => ?_)
    · replace h := ipos hc h
      refine r_iconst Ra dX4_isRun_18 ?_
      cases h
      exact r_zret Ra (Or.inl rfl) (Or.inl rfl) dX4_isRun_19
    · replace h := ineg hc h
      refine r_iconst Ra dX4_isRun_14 ?_
      refine r_goto Ra 19 dX4_isRun_15 rfl ?_
      cases h
      exact r_zret Ra (Or.inr rfl) (Or.inr rfl) dX4_isRun_19
noncomputable def pR_wordAt_L11b (N : Nat) (μ : Mem) (c1 : Int) (c2 : Int) (k : Unit → Option (Int)) (self : Int → Int → Int → Int → Option (Int)) (x3 : Int) (x4 : Int) (x5 : Int) (x6 : Int) : Option (Int) := if x6 < 109 then if 0 ≤ x6 ∧ x6 < 109 then (some (txc 0 x6 : Int)).bind fun x7_28 => if x7_28 = 32 then if x5 = 0 then (some (w32 (x3 + 1) : Int)).bind fun x3_83 => (some (w32 (x6 + 1) : Int)).bind fun x6_92 => self x3_83 c1 1 x6_92 else if x4 = c2 then some (x3) else (some (w32 (x3 + 1) : Int)).bind fun x3_83 => (some (w32 (x6 + 1) : Int)).bind fun x6_92 => self x3_83 c1 1 x6_92 else if x5 = 0 then (some (w32 (x4 + 1) : Int)).bind fun x4_64 => (some (w32 (x6 + 1) : Int)).bind fun x6_92 => self x3 x4_64 0 x6_92 else if x4 < c2 then if 0 ≤ x4 ∧ x4 < 1600 then if μ 1 x4 = x7_28 then (some (w32 (x4 + 1) : Int)).bind fun x4_64 => (some (w32 (x6 + 1) : Int)).bind fun x6_92 => self x3 x4_64 1 x6_92 else (some (w32 (x4 + 1) : Int)).bind fun x4_64 => (some (w32 (x6 + 1) : Int)).bind fun x6_92 => self x3 x4_64 0 x6_92 else none else (some (w32 (x4 + 1) : Int)).bind fun x4_64 => (some (w32 (x6 + 1) : Int)).bind fun x6_92 => self x3 x4_64 0 x6_92 else none else k ()
noncomputable def pR_wordAt_L11 (N : Nat) (μ : Mem) (c1 : Int) (c2 : Int) (k : Unit → Option (Int)) (n : Nat) : Int → Int → Int → Int → Option (Int) := lpF (fun _ _ _ _ => none) (pR_wordAt_L11b N μ c1 c2 k) n
noncomputable def pR_wordAt (N : Nat) (μ : Mem) (x1 : Int) (x2 : Int) : Option (Int) := pR_wordAt_L11 N μ x1 x2 (fun (_ : Unit) => some (24)) N 0 x1 1 0
theorem k_pR_wordAt_L11 {l : Launch} {en : En} {re : Int} {N : Nat} {μ : Mem} (hV : VT μ) {c1 : Int} {c2 : Int} {k : Unit → Option (Int)} {K : KT} (Ra : Ru false (some (some .int, some (vI re), nCells, μ, 0, 0, (inR re))) l en cX4_wordAt yX4_wordAt.cls 8 (rmN 7 350) K) (hi1 : inR c1) (hi2 : inR c2) (hk : k () = some re → ∀ L9 : Lo, K ZN 98 L9 [] μ) : ∀ (n : Nat) (x3 : Int) (x4 : Int) (x5 : Int) (x6 : Int) (L : Lo), pR_wordAt_L11 N μ c1 c2 k n x3 x4 x5 x6 = some re → inR x3 → inR x4 → inR x5 → inR x6 → L 0 = some (vA en 1) → L 1 = some (vI c1) → L 2 = some (vI c2) → L 3 = some (vI x3) → L 4 = some (vI x4) → L 5 = some (vI x5) → L 6 = some (vI x6) → K ZN 11 L [] μ := by
  intro n
  induction n with
  | zero => intro x3 x4 x5 x6 L h; cases h
  | succ n ih =>
    intro x3 x4 x5 x6 L h hx3 hx4 hx5 hx6 hL0 hL1 hL2 hL3 hL4 hL5 hL6
    replace h : pR_wordAt_L11b N μ c1 c2 k (pR_wordAt_L11 N μ c1 c2 k n) x3 x4 x5 x6 = some re := h
    unfold pR_wordAt_L11b at h
    refine r_iload Ra dX4_wordAt_11 hL6 ?_
    refine q_ldcT Ra 0 dX4_wordAt_13 (Or.inl ⟨rfl, rfl, rfl⟩) ?_
    refine q_strlen Ra (s := 0) (by decide) k_X4_255 rfl rfl rfl dX4_wordAt_15 ?_
    refine r_icmp_ge Ra 98 dX4_wordAt_18 hx6 (Rk rfl) rfl (fun hc => ?_) (fun hc => ?_)
    · replace h := ineg hc h
      exact hk h  _ 
    · replace h := ipos hc h
      refine q_ldcT Ra 0 dX4_wordAt_21 (Or.inl ⟨rfl, rfl, rfl⟩) ?_
      refine r_iload Ra dX4_wordAt_23 hL6 ?_
      obtain ⟨gu25, h⟩ := gd h
      refine q_charAt Ra (s := 0) (by decide) gu25 k_X4_258 rfl rfl rfl dX4_wordAt_25 ?_
      obtain ⟨x7_28, ex7_28, h⟩ := bv h
      have ix7_28 : inR x7_28 := eqR ex7_28 (inR_32 _)
      refine q_istore Ra dX4_wordAt_28 rfl ex7_28 ?_
      refine r_iload Ra dX4_wordAt_30 rfl ?_
      refine r_bipush Ra dX4_wordAt_32 rfl ?_
      refine r_icmp_eq Ra 70 dX4_wordAt_34 ix7_28 (Rk rfl) rfl (fun hc => ?_) (fun hc => ?_)
      · replace h := ipos hc h
        refine r_iload Ra dX4_wordAt_70 hL5 ?_
        refine r_if_eq Ra 83 dX4_wordAt_72 hx5 rfl (fun hc => ?_) (fun hc => ?_)
        · replace h := ipos hc h
          obtain ⟨x3_83, ex3_83, h⟩ := bv h
          have ix3_83 : inR x3_83 := eqR ex3_83 (inR_32 _)
          refine q_iinc Ra dX4_wordAt_83 hL3 ex3_83 ?_
          refine r_iload_n Ra (i := 1) dX4_wordAt_86 rfl hL1 ?_
          refine q_istore Ra dX4_wordAt_87 rfl rfl ?_
          refine r_iconst Ra dX4_wordAt_89 ?_
          refine q_istore Ra dX4_wordAt_90 rfl rfl ?_
          obtain ⟨x6_92, ex6_92, h⟩ := bv h
          have ix6_92 : inR x6_92 := eqR ex6_92 (inR_32 _)
          refine q_iinc Ra dX4_wordAt_92 hL6 ex6_92 ?_
          refine r_goto Ra 11 dX4_wordAt_95 rfl ?_
          exact ih x3_83 c1 1 x6_92 _ h ix3_83 hi1 (Rk rfl) ix6_92 hL0 hL1 hL2 rfl rfl rfl rfl
        · replace h := ineg hc h
          refine r_iload Ra dX4_wordAt_75 hL4 ?_
          refine r_iload_n Ra (i := 2) dX4_wordAt_77 rfl hL2 ?_
          refine r_icmp_ne Ra 83 dX4_wordAt_78 hx4 hi2 rfl (fun hc => ?_) (fun hc => ?_)
          · replace h := ineg hc h
            obtain ⟨x3_83, ex3_83, h⟩ := bv h
            have ix3_83 : inR x3_83 := eqR ex3_83 (inR_32 _)
            refine q_iinc Ra dX4_wordAt_83 hL3 ex3_83 ?_
            refine r_iload_n Ra (i := 1) dX4_wordAt_86 rfl hL1 ?_
            refine q_istore Ra dX4_wordAt_87 rfl rfl ?_
            refine r_iconst Ra dX4_wordAt_89 ?_
            refine q_istore Ra dX4_wordAt_90 rfl rfl ?_
            obtain ⟨x6_92, ex6_92, h⟩ := bv h
            have ix6_92 : inR x6_92 := eqR ex6_92 (inR_32 _)
            refine q_iinc Ra dX4_wordAt_92 hL6 ex6_92 ?_
            refine r_goto Ra 11 dX4_wordAt_95 rfl ?_
            exact ih x3_83 c1 1 x6_92 _ h ix3_83 hi1 (Rk rfl) ix6_92 hL0 hL1 hL2 rfl rfl rfl rfl
          · replace h := ipos hc h
            refine r_iload_n Ra (i := 3) dX4_wordAt_81 rfl hL3 ?_
            cases h
            exact r_iret Ra hx3 dX4_wordAt_82
      · replace h := ineg hc h
        refine r_iload Ra dX4_wordAt_37 hL5 ?_
        refine r_if_eq Ra 61 dX4_wordAt_39 hx5 rfl (fun hc => ?_) (fun hc => ?_)
        · replace h := ipos hc h
          refine r_iconst Ra dX4_wordAt_61 ?_
          refine q_istore Ra dX4_wordAt_62 rfl rfl ?_
          obtain ⟨x4_64, ex4_64, h⟩ := bv h
          have ix4_64 : inR x4_64 := eqR ex4_64 (inR_32 _)
          refine q_iinc Ra dX4_wordAt_64 hL4 ex4_64 ?_
          refine r_goto Ra 92 dX4_wordAt_67 rfl ?_
          obtain ⟨x6_92, ex6_92, h⟩ := bv h
          have ix6_92 : inR x6_92 := eqR ex6_92 (inR_32 _)
          refine q_iinc Ra dX4_wordAt_92 hL6 ex6_92 ?_
          refine r_goto Ra 11 dX4_wordAt_95 rfl ?_
          exact ih x3 x4_64 0 x6_92 _ h hx3 ix4_64 (Rk rfl) ix6_92 hL0 hL1 hL2 hL3 rfl rfl rfl
        · replace h := ineg hc h
          refine r_iload Ra dX4_wordAt_42 hL4 ?_
          refine r_iload_n Ra (i := 2) dX4_wordAt_44 rfl hL2 ?_
          refine r_icmp_ge Ra 61 dX4_wordAt_45 hx4 hi2 rfl (fun hc => ?_) (fun hc => ?_)
          · replace h := ineg hc h
            refine r_iconst Ra dX4_wordAt_61 ?_
            refine q_istore Ra dX4_wordAt_62 rfl rfl ?_
            obtain ⟨x4_64, ex4_64, h⟩ := bv h
            have ix4_64 : inR x4_64 := eqR ex4_64 (inR_32 _)
            refine q_iinc Ra dX4_wordAt_64 hL4 ex4_64 ?_
            refine r_goto Ra 92 dX4_wordAt_67 rfl ?_
            obtain ⟨x6_92, ex6_92, h⟩ := bv h
            have ix6_92 : inR x6_92 := eqR ex6_92 (inR_32 _)
            refine q_iinc Ra dX4_wordAt_92 hL6 ex6_92 ?_
            refine r_goto Ra 11 dX4_wordAt_95 rfl ?_
            exact ih x3 x4_64 0 x6_92 _ h hx3 ix4_64 (Rk rfl) ix6_92 hL0 hL1 hL2 hL3 rfl rfl rfl
          · replace h := ipos hc h
            refine r_aload_n Ra (i := 0) dX4_wordAt_48 rfl hL0 ?_
            refine r_iload Ra dX4_wordAt_49 hL4 ?_
            obtain ⟨gu51, h⟩ := gd h
            refine q_iald Ra t1 l1 gu51 dX4_wordAt_51 ?_
            refine r_iload Ra dX4_wordAt_52 rfl ?_
            refine r_icmp_ne Ra 61 dX4_wordAt_54 (hV.int t1 (kd20 _)) ix7_28 rfl (fun hc => ?_) (fun hc => ?_)
            · replace h := ineg hc h
              refine r_iconst Ra dX4_wordAt_61 ?_
              refine q_istore Ra dX4_wordAt_62 rfl rfl ?_
              obtain ⟨x4_64, ex4_64, h⟩ := bv h
              have ix4_64 : inR x4_64 := eqR ex4_64 (inR_32 _)
              refine q_iinc Ra dX4_wordAt_64 hL4 ex4_64 ?_
              refine r_goto Ra 92 dX4_wordAt_67 rfl ?_
              obtain ⟨x6_92, ex6_92, h⟩ := bv h
              have ix6_92 : inR x6_92 := eqR ex6_92 (inR_32 _)
              refine q_iinc Ra dX4_wordAt_92 hL6 ex6_92 ?_
              refine r_goto Ra 11 dX4_wordAt_95 rfl ?_
              exact ih x3 x4_64 0 x6_92 _ h hx3 ix4_64 (Rk rfl) ix6_92 hL0 hL1 hL2 hL3 rfl rfl rfl
            · replace h := ipos hc h
              refine r_iconst Ra dX4_wordAt_57 ?_
              refine r_goto Ra 62 dX4_wordAt_58 rfl ?_
              refine q_istore Ra dX4_wordAt_62 rfl rfl ?_
              obtain ⟨x4_64, ex4_64, h⟩ := bv h
              have ix4_64 : inR x4_64 := eqR ex4_64 (inR_32 _)
              refine q_iinc Ra dX4_wordAt_64 hL4 ex4_64 ?_
              refine r_goto Ra 92 dX4_wordAt_67 rfl ?_
              obtain ⟨x6_92, ex6_92, h⟩ := bv h
              have ix6_92 : inR x6_92 := eqR ex6_92 (inR_32 _)
              refine q_iinc Ra dX4_wordAt_92 hL6 ex6_92 ?_
              refine r_goto Ra 11 dX4_wordAt_95 rfl ?_
              exact ih x3 x4_64 1 x6_92 _ h hx3 ix4_64 (Rk rfl) ix6_92 hL0 hL1 hL2 hL3 rfl rfl rfl
set_option maxHeartbeats 4000000 in
theorem c_pR_wordAt {l : Launch} {en : En} {N : Nat} {μ : Mem} {x1 : Int} {x2 : Int} {re : Int} (hV : VT μ) (hx1 : inR x1) (hx2 : inR x2) (h : pR_wordAt N μ x1 x2 = some re) : CtI l en yX4_wordAt cX4_wordAt 8 7 350 [vA en 1, vI x1, vI x2] μ .int re μ (inR re) := by
  refine Tr.of false (fun h => by cases h) (by decide) (Nat.le_of_ble_eq_true rfl) (fun K Ra => ?_)
  unfold pR_wordAt at h
  refine r_iconst Ra dX4_wordAt_0 ?_
  refine q_istore_n Ra 3 dX4_wordAt_1 rfl rfl rfl ?_
  refine r_iload_n Ra (i := 1) dX4_wordAt_2 rfl rfl ?_
  refine q_istore Ra dX4_wordAt_3 rfl rfl ?_
  refine r_iconst Ra dX4_wordAt_5 ?_
  refine q_istore Ra dX4_wordAt_6 rfl rfl ?_
  refine r_iconst Ra dX4_wordAt_8 ?_
  refine q_istore Ra dX4_wordAt_9 rfl rfl ?_
  refine k_pR_wordAt_L11 hV Ra hx1 hx2 ?_ _ _ _ _ _ _ h (Rk rfl) hx1 (Rk rfl) (Rk rfl) rfl rfl rfl rfl rfl rfl rfl
  intro h L9 
  refine r_bipush Ra dX4_wordAt_98 rfl ?_
  cases h
  exact r_iret Ra (Rk rfl) dX4_wordAt_100
noncomputable def pR_tokenAt (N : Nat) (μ : Mem) (x1 : Int) (x2 : Int) : Option (Int) := if x1 < x2 then if 0 ≤ x1 ∧ x1 < 1600 then (pR_isLetter μ (μ 1 x1)).bind fun r11 => if r11 = 0 then if 0 ≤ x1 ∧ x1 < 1600 then (pR_isDigit μ (μ 1 x1)).bind fun r40 => if r40 = 0 then if 0 ≤ x1 ∧ x1 < 1600 then if txi 1 (c16 (μ 1 x1)) < 0 then some (27) else if 0 ≤ x1 ∧ x1 < 1600 then some (μ 1 x1) else none else none else if 4 < w32 (x2 - x1) then some (27) else some (25) else none else if 6 < w32 (x2 - x1) then some (27) else (pR_wordAt N μ x1 x2).bind fun r33 => some (r33) else none else some (26)
set_option maxHeartbeats 4000000 in
theorem c_pR_tokenAt {l : Launch} {en : En} {N : Nat} {μ : Mem} {x1 : Int} {x2 : Int} {re : Int} (hV : VT μ) (hx1 : inR x1) (hx2 : inR x2) (h : pR_tokenAt N μ x1 x2 = some re) : CtI l en yX4_tokenAt cX4_tokenAt 3 8 377 [vA en 1, vI x1, vI x2] μ .int re μ (inR re) := by
  refine Tr.of false (fun h => by cases h) (by decide) (Nat.le_of_ble_eq_true rfl) (fun K Ra => ?_)
  unfold pR_tokenAt at h
  refine r_iload_n Ra (i := 1) dX4_tokenAt_0 rfl rfl ?_
  refine r_iload_n Ra (i := 2) dX4_tokenAt_1 rfl rfl ?_
  refine r_icmp_lt Ra 8 dX4_tokenAt_2 hx1 hx2 rfl (fun hc => ?_) (fun hc => ?_)
  · replace h := ipos hc h
    refine r_aload_n Ra (i := 0) dX4_tokenAt_8 rfl rfl ?_
    refine r_iload_n Ra (i := 1) dX4_tokenAt_9 rfl rfl ?_
    obtain ⟨gu10, h⟩ := gd h
    refine q_iald Ra t1 l1 gu10 dX4_tokenAt_10 ?_
    obtain ⟨r11, hr11, h⟩ := bd h
    refine q_callSI Ra (c_pR_isLetter hV (hV.int t1 (kd20 _)) hr11) mw_X4_isLetter ms_X4_isLetter rfl rfl k_X4_236 rfl rfl dX4_tokenAt_11 (fun ok11 => ?_)
    refine r_if_eq Ra 37 dX4_tokenAt_14 (inR_01 ok11) rfl (fun hc => ?_) (fun hc => ?_)
    · replace h := ipos hc h
      refine r_aload_n Ra (i := 0) dX4_tokenAt_37 rfl rfl ?_
      refine r_iload_n Ra (i := 1) dX4_tokenAt_38 rfl rfl ?_
      obtain ⟨gu39, h⟩ := gd h
      refine q_iald Ra t1 l1 gu39 dX4_tokenAt_39 ?_
      obtain ⟨r40, hr40, h⟩ := bd h
      refine q_callSI Ra (c_pR_isDigit hV (hV.int t1 (kd20 _)) hr40) mw_X4_isDigit ms_X4_isDigit rfl rfl k_X4_239 rfl rfl dX4_tokenAt_40 (fun ok40 => ?_)
      refine r_if_eq Ra 61 dX4_tokenAt_43 (inR_01 ok40) rfl (fun hc => ?_) (fun hc => ?_)
      · replace h := ipos hc h
        refine q_ldcT Ra 1 dX4_tokenAt_61 (Or.inr ⟨rfl, rfl, rfl⟩) ?_
        refine r_aload_n Ra (i := 0) dX4_tokenAt_63 rfl rfl ?_
        refine r_iload_n Ra (i := 1) dX4_tokenAt_64 rfl rfl ?_
        obtain ⟨gu65, h⟩ := gd h
        refine q_iald Ra t1 l1 gu65 dX4_tokenAt_65 ?_
        refine r_i2c Ra dX4_tokenAt_66 ?_
        refine q_indexOf Ra (s := 1) (by decide) (inR_32 _) k_X4_247 rfl rfl rfl dX4_tokenAt_67 ?_
        refine r_if_ge Ra 78 dX4_tokenAt_70 (inR_txi _ _) rfl (fun hc => ?_) (fun hc => ?_)
        · replace h := ineg hc h
          refine r_aload_n Ra (i := 0) dX4_tokenAt_78 rfl rfl ?_
          refine r_iload_n Ra (i := 1) dX4_tokenAt_79 rfl rfl ?_
          obtain ⟨gu80, h⟩ := gd h
          refine q_iald Ra t1 l1 gu80 dX4_tokenAt_80 ?_
          cases h
          exact r_iret Ra (hV.int t1 (kd20 _)) dX4_tokenAt_81
        · replace h := ipos hc h
          refine r_bipush Ra dX4_tokenAt_73 rfl ?_
          refine r_goto Ra 81 dX4_tokenAt_75 rfl ?_
          cases h
          exact r_iret Ra (Rk rfl) dX4_tokenAt_81
      · replace h := ineg hc h
        refine r_iload_n Ra (i := 2) dX4_tokenAt_46 rfl rfl ?_
        refine r_iload_n Ra (i := 1) dX4_tokenAt_47 rfl rfl ?_
        refine r_isub Ra dX4_tokenAt_48 ?_
        refine r_iconst Ra dX4_tokenAt_49 ?_
        refine r_icmp_le Ra 58 dX4_tokenAt_50 (inR_32 _) (Rk rfl) rfl (fun hc => ?_) (fun hc => ?_)
        · replace h := ineg hc h
          refine r_bipush Ra dX4_tokenAt_58 rfl ?_
          cases h
          exact r_iret Ra (Rk rfl) dX4_tokenAt_60
        · replace h := ipos hc h
          refine r_bipush Ra dX4_tokenAt_53 rfl ?_
          refine r_goto Ra 60 dX4_tokenAt_55 rfl ?_
          cases h
          exact r_iret Ra (Rk rfl) dX4_tokenAt_60
    · replace h := ineg hc h
      refine r_iload_n Ra (i := 2) dX4_tokenAt_17 rfl rfl ?_
      refine r_iload_n Ra (i := 1) dX4_tokenAt_18 rfl rfl ?_
      refine r_isub Ra dX4_tokenAt_19 ?_
      refine r_bipush Ra dX4_tokenAt_20 rfl ?_
      refine r_icmp_le Ra 30 dX4_tokenAt_22 (inR_32 _) (Rk rfl) rfl (fun hc => ?_) (fun hc => ?_)
      · replace h := ineg hc h
        refine r_aload_n Ra (i := 0) dX4_tokenAt_30 rfl rfl ?_
        refine r_iload_n Ra (i := 1) dX4_tokenAt_31 rfl rfl ?_
        refine r_iload_n Ra (i := 2) dX4_tokenAt_32 rfl rfl ?_
        obtain ⟨r33, hr33, h⟩ := bd h
        refine q_callSI Ra (c_pR_wordAt hV hx1 hx2 hr33) mw_X4_wordAt ms_X4_wordAt rfl rfl k_X4_242 rfl rfl dX4_tokenAt_33 (fun ok33 => ?_)
        cases h
        exact r_iret Ra ok33 dX4_tokenAt_36
      · replace h := ipos hc h
        refine r_bipush Ra dX4_tokenAt_25 rfl ?_
        refine r_goto Ra 36 dX4_tokenAt_27 rfl ?_
        cases h
        exact r_iret Ra (Rk rfl) dX4_tokenAt_36
  · replace h := ineg hc h
    refine r_bipush Ra dX4_tokenAt_5 rfl ?_
    cases h
    exact r_iret Ra (Rk rfl) dX4_tokenAt_7
noncomputable def pR_valueOf_L12b (N : Nat) (μ : Mem) (c3 : Int) (k : Int → Option (Int)) (self : Int → Int → Option (Int)) (x4 : Int) (x5 : Int) : Option (Int) := if x5 < c3 then if 0 ≤ x5 ∧ x5 < 1600 then (some (w32 ((w32 ((w32 (x4 * 10)) + (μ 1 x5))) - 48) : Int)).bind fun x4_31 => (some (w32 (x5 + 1) : Int)).bind fun x5_33 => self x4_31 x5_33 else none else k x4
noncomputable def pR_valueOf_L12 (N : Nat) (μ : Mem) (c3 : Int) (k : Int → Option (Int)) (n : Nat) : Int → Int → Option (Int) := lpF (fun _ _ => none) (pR_valueOf_L12b N μ c3 k) n
noncomputable def pR_valueOf (N : Nat) (μ : Mem) (x0 : Int) (x2 : Int) (x3 : Int) : Option (Int) := if x0 = 25 then pR_valueOf_L12 N μ x3 (fun z4_39 => some (z4_39)) N 0 x2 else if x0 = 27 then if x2 < x3 then if 0 ≤ x2 ∧ x2 < 1600 then (pR_isLetter μ (μ 1 x2)).bind fun r56 => if r56 = 0 then if 0 ≤ x2 ∧ x2 < 1600 then (pR_isDigit μ (μ 1 x2)).bind fun r72 => if r72 = 0 then some (x2) else some (w32 (x2 + 4)) else none else some (w32 (x2 + 6)) else none else some (w32 (x3 - x2)) else some (w32 (x3 - x2))
theorem k_pR_valueOf_L12 {l : Launch} {en : En} {re : Int} {N : Nat} {μ : Mem} (hV : VT μ) {c3 : Int} {k : Int → Option (Int)} {K : KT} (Ra : Ru false (some (some .int, some (vI re), nCells, μ, 0, 0, (inR re))) l en cX4_valueOf yX4_valueOf.cls 6 (rmN 1 80) K) (hi3 : inR c3) (hk : ∀ (z4 : Int), k z4 = some re → inR z4 → ∀ L9 : Lo, L9 4 = some (vI z4) → K ZN 39 L9 [] μ) : ∀ (n : Nat) (x4 : Int) (x5 : Int) (L : Lo), pR_valueOf_L12 N μ c3 k n x4 x5 = some re → inR x4 → inR x5 → L 1 = some (vA en 1) → L 3 = some (vI c3) → L 4 = some (vI x4) → L 5 = some (vI x5) → K ZN 12 L [] μ := by
  intro n
  induction n with
  | zero => intro x4 x5 L h; cases h
  | succ n ih =>
    intro x4 x5 L h hx4 hx5 hL1 hL3 hL4 hL5
    replace h : pR_valueOf_L12b N μ c3 k (pR_valueOf_L12 N μ c3 k n) x4 x5 = some re := h
    unfold pR_valueOf_L12b at h
    refine r_iload Ra dX4_valueOf_12 hL5 ?_
    refine r_iload_n Ra (i := 3) dX4_valueOf_14 rfl hL3 ?_
    refine r_icmp_ge Ra 39 dX4_valueOf_15 hx5 hi3 rfl (fun hc => ?_) (fun hc => ?_)
    · replace h := ineg hc h
      exact hk x4 h hx4 _ hL4
    · replace h := ipos hc h
      refine r_iload Ra dX4_valueOf_18 hL4 ?_
      refine r_bipush Ra dX4_valueOf_20 rfl ?_
      refine r_imul Ra dX4_valueOf_22 ?_
      refine r_aload_n Ra (i := 1) dX4_valueOf_23 rfl hL1 ?_
      refine r_iload Ra dX4_valueOf_24 hL5 ?_
      obtain ⟨gu26, h⟩ := gd h
      refine q_iald Ra t1 l1 gu26 dX4_valueOf_26 ?_
      refine r_iadd Ra dX4_valueOf_27 ?_
      refine r_bipush Ra dX4_valueOf_28 rfl ?_
      refine r_isub Ra dX4_valueOf_30 ?_
      obtain ⟨x4_31, ex4_31, h⟩ := bv h
      have ix4_31 : inR x4_31 := eqR ex4_31 (inR_32 _)
      refine q_istore Ra dX4_valueOf_31 rfl ex4_31 ?_
      obtain ⟨x5_33, ex5_33, h⟩ := bv h
      have ix5_33 : inR x5_33 := eqR ex5_33 (inR_32 _)
      refine q_iinc Ra dX4_valueOf_33 hL5 ex5_33 ?_
      refine r_goto Ra 12 dX4_valueOf_36 rfl ?_
      exact ih x4_31 x5_33 _ h ix4_31 ix5_33 hL1 hL3 rfl rfl
set_option maxHeartbeats 4000000 in
theorem c_pR_valueOf {l : Launch} {en : En} {N : Nat} {μ : Mem} {x0 : Int} {x2 : Int} {x3 : Int} {re : Int} (hV : VT μ) (hx0 : inR x0) (hx2 : inR x2) (hx3 : inR x3) (h : pR_valueOf N μ x0 x2 x3 = some re) : CtI l en yX4_valueOf cX4_valueOf 6 1 80 [vI x0, vA en 1, vI x2, vI x3] μ .int re μ (inR re) := by
  refine Tr.of false (fun h => by cases h) (by decide) (Nat.le_of_ble_eq_true rfl) (fun K Ra => ?_)
  unfold pR_valueOf at h
  refine r_iload_n Ra (i := 0) dX4_valueOf_0 rfl rfl ?_
  refine r_bipush Ra dX4_valueOf_1 rfl ?_
  refine r_icmp_ne Ra 42 dX4_valueOf_3 hx0 (Rk rfl) rfl (fun hc => ?_) (fun hc => ?_)
  · replace h := ineg hc h
    refine r_iload_n Ra (i := 0) dX4_valueOf_42 rfl rfl ?_
    refine r_bipush Ra dX4_valueOf_43 rfl ?_
    refine r_icmp_ne Ra 86 dX4_valueOf_45 hx0 (Rk rfl) rfl (fun hc => ?_) (fun hc => ?_)
    · replace h := ineg hc h
      refine r_iload_n Ra (i := 3) dX4_valueOf_86 rfl rfl ?_
      refine r_iload_n Ra (i := 2) dX4_valueOf_87 rfl rfl ?_
      refine r_isub Ra dX4_valueOf_88 ?_
      cases h
      exact r_iret Ra (inR_32 _) dX4_valueOf_89
    · replace h := ipos hc h
      refine r_iload_n Ra (i := 2) dX4_valueOf_48 rfl rfl ?_
      refine r_iload_n Ra (i := 3) dX4_valueOf_49 rfl rfl ?_
      refine r_icmp_ge Ra 86 dX4_valueOf_50 hx2 hx3 rfl (fun hc => ?_) (fun hc => ?_)
      · replace h := ineg hc h
        refine r_iload_n Ra (i := 3) dX4_valueOf_86 rfl rfl ?_
        refine r_iload_n Ra (i := 2) dX4_valueOf_87 rfl rfl ?_
        refine r_isub Ra dX4_valueOf_88 ?_
        cases h
        exact r_iret Ra (inR_32 _) dX4_valueOf_89
      · replace h := ipos hc h
        refine r_aload_n Ra (i := 1) dX4_valueOf_53 rfl rfl ?_
        refine r_iload_n Ra (i := 2) dX4_valueOf_54 rfl rfl ?_
        obtain ⟨gu55, h⟩ := gd h
        refine q_iald Ra t1 l1 gu55 dX4_valueOf_55 ?_
        obtain ⟨r56, hr56, h⟩ := bd h
        refine q_callSI Ra (c_pR_isLetter hV (hV.int t1 (kd20 _)) hr56) mw_X4_isLetter ms_X4_isLetter rfl rfl k_X4_236 rfl rfl dX4_valueOf_56 (fun ok56 => ?_)
        refine r_if_eq Ra 69 dX4_valueOf_59 (inR_01 ok56) rfl (fun hc => ?_) (fun hc => ?_)
        · replace h := ipos hc h
          refine r_aload_n Ra (i := 1) dX4_valueOf_69 rfl rfl ?_
          refine r_iload_n Ra (i := 2) dX4_valueOf_70 rfl rfl ?_
          obtain ⟨gu71, h⟩ := gd h
          refine q_iald Ra t1 l1 gu71 dX4_valueOf_71 ?_
          obtain ⟨r72, hr72, h⟩ := bd h
          refine q_callSI Ra (c_pR_isDigit hV (hV.int t1 (kd20 _)) hr72) mw_X4_isDigit ms_X4_isDigit rfl rfl k_X4_239 rfl rfl dX4_valueOf_72 (fun ok72 => ?_)
          refine r_if_eq Ra 84 dX4_valueOf_75 (inR_01 ok72) rfl (fun hc => ?_) (fun hc => ?_)
          · replace h := ipos hc h
            refine r_iload_n Ra (i := 2) dX4_valueOf_84 rfl rfl ?_
            cases h
            exact r_iret Ra hx2 dX4_valueOf_85
          · replace h := ineg hc h
            refine r_iload_n Ra (i := 2) dX4_valueOf_78 rfl rfl ?_
            refine r_iconst Ra dX4_valueOf_79 ?_
            refine r_iadd Ra dX4_valueOf_80 ?_
            refine r_goto Ra 85 dX4_valueOf_81 rfl ?_
            cases h
            exact r_iret Ra (inR_32 _) dX4_valueOf_85
        · replace h := ineg hc h
          refine r_iload_n Ra (i := 2) dX4_valueOf_62 rfl rfl ?_
          refine r_bipush Ra dX4_valueOf_63 rfl ?_
          refine r_iadd Ra dX4_valueOf_65 ?_
          refine r_goto Ra 85 dX4_valueOf_66 rfl ?_
          cases h
          exact r_iret Ra (inR_32 _) dX4_valueOf_85
  · replace h := ipos hc h
    refine r_iconst Ra dX4_valueOf_6 ?_
    refine q_istore Ra dX4_valueOf_7 rfl rfl ?_
    refine r_iload_n Ra (i := 2) dX4_valueOf_9 rfl rfl ?_
    refine q_istore Ra dX4_valueOf_10 rfl rfl ?_
    refine k_pR_valueOf_L12 hV Ra hx3 ?_ _ _ _ _ h (Rk rfl) hx2 rfl rfl rfl rfl
    intro z4_39 h iz4_39 L9 f39_4
    refine r_iload Ra dX4_valueOf_39 f39_4 ?_
    cases h
    exact r_iret Ra iz4_39 dX4_valueOf_41
noncomputable def pR_split_L10b (N : Nat) (c2 : Int) (k : Mem → Option (Mem)) (self : Int → Int → Mem → Option (Mem)) (x3 : Int) (x4 : Int) (μ : Mem) : Option (Mem) := if 1600 < x4 then k μ else (pR_behindBlanks N μ c2 x3).bind fun r21 => (if 0 < μ 18 6 then if 0 ≤ w32 ((μ 18 6) - 1) ∧ w32 ((μ 18 6) - 1) < 1601 then if μ 35 (w32 ((μ 18 6) - 1)) < 26 then if r21 = x3 then some ((1 : Int)) else some ((0 : Int)) else some ((0 : Int)) else none else some ((0 : Int))).bind fun ys0_60 => jn (α := Unit → Option (Mem)) (fun (_ : Unit) => (pR_endOfRun N μ c2 r21).bind fun r98 => (pR_tokenAt N μ r21 r98).bind fun r106 => (pR_valueOf N μ r106 r21 r98).bind fun r122 => (pR_add μ r106 r21 r122).bind fun m125 => if r106 = 26 then some m125 else if r106 = 27 then some m125 else (some (w32 (x4 + 1) : Int)).bind fun x4_143 => self r98 x4_143 m125) (fun (j94 : Unit → Option (Mem)) => if ys0_60 = 0 then j94 () else if r21 < c2 then if 0 ≤ r21 ∧ r21 < 1600 then (pR_isRun μ (μ 1 r21)).bind fun r77 => if r77 = 0 then j94 () else (pR_add μ 27 r21 r21).bind fun m90 => some m90 else none else j94 ())
noncomputable def pR_split_L10 (N : Nat) (c2 : Int) (k : Mem → Option (Mem)) (n : Nat) : Int → Int → Mem → Option (Mem) := lpF (fun _ _ _ => none) (pR_split_L10b N c2 k) n
noncomputable def pR_split (N : Nat) (μ : Mem) (x2 : Int) : Option (Mem) := (some (mset μ 18 6 0)).bind fun m2 => pR_split_L10 N x2 (fun n149 => some n149) N 0 0 m2
theorem k_pR_split_L10 {l : Launch} {en : En} {μe : Mem} {N : Nat} {c2 : Int} {k : Mem → Option (Mem)} {K : KT} (Ra : Ru false (some (none, none, nCells, μe, 0, 0, (VT μe))) l en cX4_split yX4_split.cls 8 (rmN 9 399) K) (hi2 : inR c2) (hk : ∀  (μ9 : Mem), k μ9 = some μe → VT μ9 → ∀ L9 : Lo, K ZN 149 L9 [] μ9) : ∀ (n : Nat) (x3 : Int) (x4 : Int) (μ : Mem) (L : Lo), pR_split_L10 N c2 k n x3 x4 μ = some μe → inR x3 → inR x4 → VT μ → L 0 = some (vA en 18) → L 1 = some (vA en 1) → L 2 = some (vI c2) → L 3 = some (vI x3) → L 4 = some (vI x4) → K ZN 10 L [] μ := by
  intro n
  induction n with
  | zero => intro x3 x4 μ L h; cases h
  | succ n ih =>
    intro x3 x4 μ L h hx3 hx4 hV hL0 hL1 hL2 hL3 hL4
    replace h : pR_split_L10b N c2 k (pR_split_L10 N c2 k n) x3 x4 μ = some μe := h
    unfold pR_split_L10b at h
    refine r_iload Ra dX4_split_10 hL4 ?_
    refine r_sipush Ra dX4_split_12 rfl ?_
    refine r_icmp_gt Ra 149 dX4_split_15 hx4 (Rk rfl) rfl (fun hc => ?_) (fun hc => ?_)
    · replace h := ipos hc h
      exact hk μ h  hV _ 
    · replace h := ineg hc h
      refine r_aload_n Ra (i := 1) dX4_split_18 rfl hL1 ?_
      refine r_iload_n Ra (i := 2) dX4_split_19 rfl hL2 ?_
      refine r_iload_n Ra (i := 3) dX4_split_20 rfl hL3 ?_
      obtain ⟨r21, hr21, h⟩ := bd h
      refine q_callSI Ra (c_pR_behindBlanks hV hi2 hx3 hr21) mw_X4_behindBlanks ms_X4_behindBlanks rfl rfl k_X4_216 rfl rfl dX4_split_21 (fun ok21 => ?_)
      refine q_istore Ra dX4_split_24 rfl rfl ?_
      refine r_aload_n Ra (i := 0) dX4_split_26 rfl hL0 ?_
      refine q_getI Ra (x := μ 18 6) f_X4_213 t18 rfl rfl rfl rfl dX4_split_27 ?_
      obtain ⟨ys0_60, hj60, h⟩ := bd h
      have hJ : inR ys0_60 → (ys0_60 = 0 ∨ ys0_60 = 1) → ∀ L9 : Lo, L9 0 = some (vA en 18) → L9 1 = some (vA en 1) → L9 2 = some (vI c2) → L9 4 = some (vI x4) → L9 5 = some (vI r21) → K ZN 60 L9 [vI ys0_60] μ := by
        intro iys0_60 bys0_60 L9 f60_0 f60_1 f60_2 f60_4 f60_5
        refine q_istore Ra dX4_split_60 rfl rfl ?_
        refine r_iload Ra dX4_split_62 rfl ?_
        obtain ⟨j94, ej94, h⟩ := jn_elim h
        have hJ94 : j94 () = some μe → ∀ L9 : Lo, L9 0 = some (vA en 18) → L9 1 = some (vA en 1) → L9 2 = some (vI c2) → L9 4 = some (vI x4) → L9 5 = some (vI r21) → K ZN 94 L9 [] μ := by
          intro h L9 f94_0 f94_1 f94_2 f94_4 f94_5
          rw [ej94] at h
          refine r_aload_n Ra (i := 1) dX4_split_94 rfl f94_1 ?_
          refine r_iload_n Ra (i := 2) dX4_split_95 rfl f94_2 ?_
          refine r_iload Ra dX4_split_96 f94_5 ?_
          obtain ⟨r98, hr98, h⟩ := bd h
          refine q_callSI Ra (c_pR_endOfRun hV hi2 ok21 hr98) mw_X4_endOfRun ms_X4_endOfRun rfl rfl k_X4_226 rfl rfl dX4_split_98 (fun ok98 => ?_)
          refine q_istore_n Ra 3 dX4_split_101 rfl rfl rfl ?_
          refine r_aload_n Ra (i := 1) dX4_split_102 rfl f94_1 ?_
          refine r_iload Ra dX4_split_103 f94_5 ?_
          refine r_iload_n Ra (i := 3) dX4_split_105 rfl rfl ?_
          obtain ⟨r106, hr106, h⟩ := bd h
          refine q_callSI Ra (c_pR_tokenAt hV ok21 ok98 hr106) mw_X4_tokenAt ms_X4_tokenAt rfl rfl k_X4_229 rfl rfl dX4_split_106 (fun ok106 => ?_)
          refine q_istore Ra dX4_split_109 rfl rfl ?_
          refine r_aload_n Ra (i := 0) dX4_split_111 rfl f94_0 ?_
          refine r_iload Ra dX4_split_112 rfl ?_
          refine r_iload Ra dX4_split_114 f94_5 ?_
          refine r_iload Ra dX4_split_116 rfl ?_
          refine r_aload_n Ra (i := 1) dX4_split_118 rfl f94_1 ?_
          refine r_iload Ra dX4_split_119 f94_5 ?_
          refine r_iload_n Ra (i := 3) dX4_split_121 rfl rfl ?_
          obtain ⟨r122, hr122, h⟩ := bd h
          refine q_callSI Ra (c_pR_valueOf hV ok106 ok21 ok98 hr122) mw_X4_valueOf ms_X4_valueOf rfl rfl k_X4_232 rfl rfl dX4_split_122 (fun ok122 => ?_)
          obtain ⟨m125, hr125, h⟩ := bd h
          refine q_callVV Ra (c_pR_add hV ok106 ok21 ok122 hr125) mw_X4_add mi_X4_add t18 rfl rfl rfl rfl rfl k_X4_223 rfl rfl dX4_split_125 (fun ok125 => ?_)
          refine r_iload Ra dX4_split_128 rfl ?_
          refine r_bipush Ra dX4_split_130 rfl ?_
          refine r_icmp_eq Ra 142 dX4_split_132 ok106 (Rk rfl) rfl (fun hc => ?_) (fun hc => ?_)
          · replace h := ipos hc h
            cases h
            exact r_vret Ra ok125 dX4_split_142
          · replace h := ineg hc h
            refine r_iload Ra dX4_split_135 rfl ?_
            refine r_bipush Ra dX4_split_137 rfl ?_
            refine r_icmp_ne Ra 143 dX4_split_139 ok106 (Rk rfl) rfl (fun hc => ?_) (fun hc => ?_)
            · replace h := ineg hc h
              obtain ⟨x4_143, ex4_143, h⟩ := bv h
              have ix4_143 : inR x4_143 := eqR ex4_143 (inR_32 _)
              refine q_iinc Ra dX4_split_143 f94_4 ex4_143 ?_
              refine r_goto Ra 10 dX4_split_146 rfl ?_
              exact ih r98 x4_143 m125 _ h ok98 ix4_143 ok125 f94_0 f94_1 f94_2 rfl rfl
            · replace h := ipos hc h
              cases h
              exact r_vret Ra ok125 dX4_split_142
        refine r_if_eq Ra 94 dX4_split_64 iys0_60 rfl (fun hc => ?_) (fun hc => ?_)
        · replace h := ipos hc h
          exact hJ94 h  _ f60_0 f60_1 f60_2 f60_4 f60_5
        · replace h := ineg hc h
          refine r_iload Ra dX4_split_67 f60_5 ?_
          refine r_iload_n Ra (i := 2) dX4_split_69 rfl f60_2 ?_
          refine r_icmp_ge Ra 94 dX4_split_70 ok21 hi2 rfl (fun hc => ?_) (fun hc => ?_)
          · replace h := ineg hc h
            exact hJ94 h  _ f60_0 f60_1 f60_2 f60_4 f60_5
          · replace h := ipos hc h
            refine r_aload_n Ra (i := 1) dX4_split_73 rfl f60_1 ?_
            refine r_iload Ra dX4_split_74 f60_5 ?_
            obtain ⟨gu76, h⟩ := gd h
            refine q_iald Ra t1 l1 gu76 dX4_split_76 ?_
            obtain ⟨r77, hr77, h⟩ := bd h
            refine q_callSI Ra (c_pR_isRun hV (hV.int t1 (kd20 _)) hr77) mw_X4_isRun ms_X4_isRun rfl rfl k_X4_220 rfl rfl dX4_split_77 (fun ok77 => ?_)
            refine r_if_eq Ra 94 dX4_split_80 (inR_01 ok77) rfl (fun hc => ?_) (fun hc => ?_)
            · replace h := ipos hc h
              exact hJ94 h  _ f60_0 f60_1 f60_2 f60_4 f60_5
            · replace h := ineg hc h
              refine r_aload_n Ra (i := 0) dX4_split_83 rfl f60_0 ?_
              refine r_bipush Ra dX4_split_84 rfl ?_
              refine r_iload Ra dX4_split_86 f60_5 ?_
              refine r_iload Ra dX4_split_88 f60_5 ?_
              obtain ⟨m90, hr90, h⟩ := bd h
              refine q_callVV Ra (c_pR_add hV (Rk rfl) ok21 ok21 hr90) mw_X4_add mi_X4_add t18 rfl rfl rfl rfl rfl k_X4_223 rfl rfl dX4_split_90 (fun ok90 => ?_)
              cases h
              exact r_vret Ra ok90 dX4_split_93
      replace h := hj60
      refine r_if_le Ra 59 dX4_split_30 (hV.int t18 rfl) rfl (fun hc => ?_) (fun hc => ?_)
      · replace h := ineg hc h
        refine r_iconst Ra dX4_split_59 ?_
        cases h
        exact hJ (Rk rfl) (Or.inl rfl) _ hL0 hL1 hL2 hL4 rfl
      · replace h := ipos hc h
        refine r_aload_n Ra (i := 0) dX4_split_33 rfl hL0 ?_
        refine q_getA Ra (b := 35) f_X4_22 t18 rfl rfl rfl (hV.ref t18 rfl (by decide)) (by decide) dX4_split_34 ?_
        refine r_aload_n Ra (i := 0) dX4_split_37 rfl hL0 ?_
        refine q_getI Ra (x := μ 18 6) f_X4_213 t18 rfl rfl rfl rfl dX4_split_38 ?_
        refine r_iconst Ra dX4_split_41 ?_
        refine r_isub Ra dX4_split_42 ?_
        obtain ⟨gu43, h⟩ := gd h
        refine q_iald Ra t35 l35 gu43 dX4_split_43 ?_
        refine r_bipush Ra dX4_split_44 rfl ?_
        refine r_icmp_ge Ra 59 dX4_split_46 (hV.int t35 (kd20 _)) (Rk rfl) rfl (fun hc => ?_) (fun hc => ?_)
        · replace h := ineg hc h
          refine r_iconst Ra dX4_split_59 ?_
          cases h
          exact hJ (Rk rfl) (Or.inl rfl) _ hL0 hL1 hL2 hL4 rfl
        · replace h := ipos hc h
          refine r_iload Ra dX4_split_49 rfl ?_
          refine r_iload_n Ra (i := 3) dX4_split_51 rfl hL3 ?_
          refine r_icmp_ne Ra 59 dX4_split_52 ok21 hx3 rfl (fun hc => ?_) (fun hc => ?_)
          · replace h := ineg hc h
            refine r_iconst Ra dX4_split_59 ?_
            cases h
            exact hJ (Rk rfl) (Or.inl rfl) _ hL0 hL1 hL2 hL4 rfl
          · replace h := ipos hc h
            refine r_iconst Ra dX4_split_55 ?_
            refine r_goto Ra 60 dX4_split_56 rfl ?_
            cases h
            exact hJ (Rk rfl) (Or.inr rfl) _ hL0 hL1 hL2 hL4 rfl
set_option maxHeartbeats 4000000 in
theorem c_pR_split {l : Launch} {en : En} {N : Nat} {μ : Mem} {x2 : Int} {μe : Mem} (hV : VT μ) (hx2 : inR x2) (h : pR_split N μ x2 = some μe) : CtV l en yX4_split cX4_split 8 9 399 [vA en 18, vA en 1, vI x2] μ μe (VT μe) := by
  refine Tr.of false (fun h => by cases h) (by decide) (Nat.le_of_ble_eq_true rfl) (fun K Ra => ?_)
  unfold pR_split at h
  refine r_aload_n Ra (i := 0) dX4_split_0 rfl rfl ?_
  refine r_iconst Ra dX4_split_1 ?_
  obtain ⟨m2, em2, h⟩ := bv h
  have hm2 : VT m2 := eqV em2 (hV.setI t18 rfl (Rk rfl))
  refine q_putI Ra f_X4_213 p_X4_6 t18 rfl rfl rfl em2 dX4_split_2 ?_
  refine r_iconst Ra dX4_split_5 ?_
  refine q_istore_n Ra 3 dX4_split_6 rfl rfl rfl ?_
  refine r_iconst Ra dX4_split_7 ?_
  refine q_istore Ra dX4_split_8 rfl rfl ?_
  refine k_pR_split_L10 Ra hx2 ?_ _ _ _ _ _ h (Rk rfl) (Rk rfl) hm2 rfl rfl rfl rfl rfl
  intro n149 h hn149 L9 
  cases h
  exact r_vret Ra hn149 dX4_split_149
noncomputable def pR_read_L41b (N : Nat)  (k : Mem → Option (Int × Mem)) (self : Int → Mem → Option (Int × Mem)) (x3 : Int) (μ : Mem) : Option (Int × Mem) := if 80 < x3 then k μ else jn (α := Unit → Option (Int × Mem)) (fun (_ : Unit) => if x3 = 80 then (pR_wrong μ 6).bind fun (r84, m84) => some (r84, m84) else (some (if x3 = 0 then 1 else 0 : Int)).bind fun ys1_98 => (pR_readStatement N μ ys1_98).bind fun (r99, m99) => if r99 = 0 then some (0, m99) else (pR_take m99 59).bind fun (r108, m108) => if r108 = 0 then some (0, m108) else (some (w32 (x3 + 1) : Int)).bind fun x3_116 => self x3_116 m108) (fun (j75 : Unit → Option (Int × Mem)) => if 0 < x3 then if 0 ≤ μ 18 7 ∧ μ 18 7 < 1601 then if μ 35 (μ 18 7) = 26 then (some (mset μ 19 5 x3)).bind fun m70 => some (1, m70) else j75 () else none else j75 ())
noncomputable def pR_read_L41 (N : Nat)  (k : Mem → Option (Int × Mem)) (n : Nat) : Int → Mem → Option (Int × Mem) := lpF (fun _ _ => none) (pR_read_L41b N k) n
noncomputable def pR_read (N : Nat) (μ : Mem) (x2 : Int) : Option (Int × Mem) := (some (mset μ 18 1 0)).bind fun m2 => (some (mset m2 18 2 (-1))).bind fun m7 => (some (mset m7 18 7 0)).bind fun m12 => (some (mset m12 18 8 0)).bind fun m17 => (pP_clear N m17 19).bind fun m24 => (pR_split N m24 (min x2 1600)).bind fun m36 => pR_read_L41 N (fun n122 => some (0, n122)) N 0 m36
theorem k_pR_read_L41 {l : Launch} {en : En} {re : Int} {μe : Mem} {N : Nat}  {k : Mem → Option (Int × Mem)} {K : KT} (Ra : Ru false (some (some .boolean, some (vI re), nCells, μe, 0, 0, (VT μe ∧ (re = 0 ∨ re = 1)))) l en cX4_read yX4_read.cls 4 (rmN 206 4570) K)  (hk : ∀  (μ9 : Mem), k μ9 = some (re, μe) → VT μ9 → ∀ L9 : Lo, K ZN 122 L9 [] μ9) : ∀ (n : Nat) (x3 : Int) (μ : Mem) (L : Lo), pR_read_L41 N k n x3 μ = some (re, μe) → inR x3 → VT μ → L 0 = some (vA en 18) → L 1 = some (vA en 1) → L 3 = some (vI x3) → K ZN 41 L [] μ := by
  intro n
  induction n with
  | zero => intro x3 μ L h; cases h
  | succ n ih =>
    intro x3 μ L h hx3 hV hL0 hL1 hL3
    replace h : pR_read_L41b N k (pR_read_L41 N k n) x3 μ = some (re, μe) := h
    unfold pR_read_L41b at h
    refine r_iload_n Ra (i := 3) dX4_read_41 rfl hL3 ?_
    refine r_bipush Ra dX4_read_42 rfl ?_
    refine r_icmp_gt Ra 122 dX4_read_44 hx3 (Rk rfl) rfl (fun hc => ?_) (fun hc => ?_)
    · replace h := ipos hc h
      exact hk μ h  hV _ 
    · replace h := ineg hc h
      refine r_iload_n Ra (i := 3) dX4_read_47 rfl hL3 ?_
      obtain ⟨j75, ej75, h⟩ := jn_elim h
      have hJ75 : j75 () = some (re, μe) → ∀ L9 : Lo, L9 0 = some (vA en 18) → L9 1 = some (vA en 1) → L9 3 = some (vI x3) → K ZN 75 L9 [] μ := by
        intro h L9 f75_0 f75_1 f75_3
        rw [ej75] at h
        refine r_iload_n Ra (i := 3) dX4_read_75 rfl f75_3 ?_
        refine r_bipush Ra dX4_read_76 rfl ?_
        refine r_icmp_ne Ra 88 dX4_read_78 hx3 (Rk rfl) rfl (fun hc => ?_) (fun hc => ?_)
        · replace h := ineg hc h
          refine r_aload_n Ra (i := 0) dX4_read_88 rfl f75_0 ?_
          refine r_iload_n Ra (i := 3) dX4_read_89 rfl f75_3 ?_
          obtain ⟨ys1_98, eys1_98, h⟩ := bv h
          have hJ : inR ys1_98 → (ys1_98 = 0 ∨ ys1_98 = 1) → ∀ L9 : Lo, L9 0 = some (vA en 18) → L9 1 = some (vA en 1) → L9 3 = some (vI x3) → K ZN 98 L9 [vI ys1_98, vA en 18] μ := by
            intro iys1_98 bys1_98 L9 f98_0 f98_1 f98_3
            refine r_aload_n Ra (i := 1) dX4_read_98 rfl f98_1 ?_
            obtain ⟨⟨r99, m99⟩, hr99, h⟩ := bd h
            refine q_callVI Ra (c_pR_readStatement hV bys1_98 hr99) mw_X4_readStatement mi_X4_readStatement t18 rfl rfl rfl rfl rfl k_X4_68 rfl rfl dX4_read_99 (fun ok99 => ?_)
            obtain ⟨hV99, ok99⟩ := ok99
            refine r_if_eq Ra 114 dX4_read_102 (inR_01 ok99) rfl (fun hc => ?_) (fun hc => ?_)
            · replace h := ipos hc h
              refine r_iconst Ra dX4_read_114 ?_
              cases h
              exact r_zret Ra (Or.inl rfl) ⟨hV99, (Or.inl rfl)⟩ dX4_read_115
            · replace h := ineg hc h
              refine r_aload_n Ra (i := 0) dX4_read_105 rfl f98_0 ?_
              refine r_bipush Ra dX4_read_106 rfl ?_
              obtain ⟨⟨r108, m108⟩, hr108, h⟩ := bd h
              refine q_callVI Ra (c_pR_take hV99 (Rk rfl) hr108) mw_X4_take mi_X4_take t18 rfl rfl rfl rfl rfl k_X4_72 rfl rfl dX4_read_108 (fun ok108 => ?_)
              obtain ⟨hV108, ok108⟩ := ok108
              refine r_if_ne Ra 116 dX4_read_111 (inR_01 ok108) rfl (fun hc => ?_) (fun hc => ?_)
              · replace h := ineg hc h
                obtain ⟨x3_116, ex3_116, h⟩ := bv h
                have ix3_116 : inR x3_116 := eqR ex3_116 (inR_32 _)
                refine q_iinc Ra dX4_read_116 f98_3 ex3_116 ?_
                refine r_goto Ra 41 dX4_read_119 rfl ?_
                exact ih x3_116 m108 _ h ix3_116 hV108 f98_0 f98_1 rfl
              · replace h := ipos hc h
                refine r_iconst Ra dX4_read_114 ?_
                cases h
                exact r_zret Ra (Or.inl rfl) ⟨hV108, (Or.inl rfl)⟩ dX4_read_115
          refine r_if_ne Ra 97 dX4_read_90 hx3 rfl (fun hc => ?_) (fun hc => ?_)
          · replace eys1_98 := eys1_98.trans (if_neg hc)
            refine r_iconst Ra dX4_read_97 ?_
            subst eys1_98
            exact hJ (Rk rfl) (Or.inl rfl) _ f75_0 f75_1 f75_3
          · replace eys1_98 := eys1_98.trans (if_pos hc)
            refine r_iconst Ra dX4_read_93 ?_
            refine r_goto Ra 98 dX4_read_94 rfl ?_
            subst eys1_98
            exact hJ (Rk rfl) (Or.inr rfl) _ f75_0 f75_1 f75_3
        · replace h := ipos hc h
          refine r_aload_n Ra (i := 0) dX4_read_81 rfl f75_0 ?_
          refine r_bipush Ra dX4_read_82 rfl ?_
          obtain ⟨⟨r84, m84⟩, hr84, h⟩ := bd h
          refine q_callVI Ra (c_pR_wrong hV (Rk rfl) hr84) mw_X4_wrong mi_X4_wrong t18 rfl rfl rfl rfl rfl k_X4_64 rfl rfl dX4_read_84 (fun ok84 => ?_)
          obtain ⟨hV84, ok84⟩ := ok84
          cases h
          exact r_zret Ra ok84 ⟨hV84, ok84⟩ dX4_read_87
      refine r_if_le Ra 75 dX4_read_48 hx3 rfl (fun hc => ?_) (fun hc => ?_)
      · replace h := ineg hc h
        exact hJ75 h  _ hL0 hL1 hL3
      · replace h := ipos hc h
        refine r_aload_n Ra (i := 0) dX4_read_51 rfl hL0 ?_
        refine q_getA Ra (b := 35) f_X4_22 t18 rfl rfl rfl (hV.ref t18 rfl (by decide)) (by decide) dX4_read_52 ?_
        refine r_aload_n Ra (i := 0) dX4_read_55 rfl hL0 ?_
        refine q_getI Ra (x := μ 18 7) f_X4_42 t18 rfl rfl rfl rfl dX4_read_56 ?_
        obtain ⟨gu59, h⟩ := gd h
        refine q_iald Ra t35 l35 gu59 dX4_read_59 ?_
        refine r_bipush Ra dX4_read_60 rfl ?_
        refine r_icmp_ne Ra 75 dX4_read_62 (hV.int t35 (kd20 _)) (Rk rfl) rfl (fun hc => ?_) (fun hc => ?_)
        · replace h := ineg hc h
          exact hJ75 h  _ hL0 hL1 hL3
        · replace h := ipos hc h
          refine r_aload_n Ra (i := 0) dX4_read_65 rfl hL0 ?_
          refine q_getA Ra (b := 19) f_X4_12 t18 rfl rfl rfl (hV.ref t18 rfl (by decide)) (by decide) dX4_read_66 ?_
          refine r_iload_n Ra (i := 3) dX4_read_69 rfl hL3 ?_
          obtain ⟨m70, em70, h⟩ := bv h
          have hm70 : VT m70 := eqV em70 (hV.setI t19 rfl hx3)
          refine q_putI Ra f_X4_61 p_X3_5 t19 rfl rfl rfl em70 dX4_read_70 ?_
          refine r_iconst Ra dX4_read_73 ?_
          cases h
          exact r_zret Ra (Or.inr rfl) ⟨hm70, (Or.inr rfl)⟩ dX4_read_74
set_option maxHeartbeats 4000000 in
theorem c_pR_read {l : Launch} {en : En} {N : Nat} {μ : Mem} {x2 : Int} {re : Int} {μe : Mem} (hV : VT μ) (hx2 : inR x2) (h : pR_read N μ x2 = some (re, μe)) : CtI l en yX4_read cX4_read 4 206 4570 [vA en 18, vA en 1, vI x2] μ .boolean re μe (VT μe ∧ (re = 0 ∨ re = 1)) := by
  refine Tr.of false (fun h => by cases h) (by decide) (Nat.le_of_ble_eq_true rfl) (fun K Ra => ?_)
  unfold pR_read at h
  refine r_aload_n Ra (i := 0) dX4_read_0 rfl rfl ?_
  refine r_iconst Ra dX4_read_1 ?_
  obtain ⟨m2, em2, h⟩ := bv h
  have hm2 : VT m2 := eqV em2 (hV.setI t18 rfl (Rk rfl))
  refine q_putI Ra f_X4_39 p_X4_1 t18 rfl rfl rfl em2 dX4_read_2 ?_
  refine r_aload_n Ra (i := 0) dX4_read_5 rfl rfl ?_
  refine r_iconst Ra dX4_read_6 ?_
  obtain ⟨m7, em7, h⟩ := bv h
  have hm7 : VT m7 := eqV em7 (hm2.setI t18 rfl (Rk rfl))
  refine q_putI Ra f_X4_18 p_X4_2 t18 rfl rfl rfl em7 dX4_read_7 ?_
  refine r_aload_n Ra (i := 0) dX4_read_10 rfl rfl ?_
  refine r_iconst Ra dX4_read_11 ?_
  obtain ⟨m12, em12, h⟩ := bv h
  have hm12 : VT m12 := eqV em12 (hm7.setI t18 rfl (Rk rfl))
  refine q_putI Ra f_X4_42 p_X4_7 t18 rfl rfl rfl em12 dX4_read_12 ?_
  refine r_aload_n Ra (i := 0) dX4_read_15 rfl rfl ?_
  refine r_iconst Ra dX4_read_16 ?_
  obtain ⟨m17, em17, h⟩ := bv h
  have hm17 : VT m17 := eqV em17 (hm12.setI t18 rfl (Rk rfl))
  refine q_putI Ra f_X4_45 p_X4_8 t18 rfl rfl rfl em17 dX4_read_17 ?_
  refine r_aload_n Ra (i := 0) dX4_read_20 rfl rfl ?_
  refine q_getA Ra (b := 19) f_X4_12 t18 rfl rfl rfl (hm17.ref t18 rfl (by decide)) (by decide) dX4_read_21 ?_
  obtain ⟨m24, hr24, h⟩ := bd h
  refine q_callVV Ra (c_pP_clear hm17 t19 hr24) mw_X3_clear mi_X3_clear t19 rfl rfl rfl rfl rfl k_X4_48 rfl rfl dX4_read_24 (fun ok24 => ?_)
  refine r_aload_n Ra (i := 0) dX4_read_27 rfl rfl ?_
  refine r_aload_n Ra (i := 1) dX4_read_28 rfl rfl ?_
  refine r_iload_n Ra (i := 2) dX4_read_29 rfl rfl ?_
  refine r_sipush Ra dX4_read_30 rfl ?_
  refine q_mmin Ra hx2 (Rk rfl) k_X4_51 rfl rfl dX4_read_33 ?_
  obtain ⟨m36, hr36, h⟩ := bd h
  refine q_callVV Ra (c_pR_split ok24 (inR_min hx2 (Rk rfl)) hr36) mw_X4_split mi_X4_split t18 rfl rfl rfl rfl rfl k_X4_57 rfl rfl dX4_read_36 (fun ok36 => ?_)
  refine r_iconst Ra dX4_read_39 ?_
  refine q_istore_n Ra 3 dX4_read_40 rfl rfl rfl ?_
  refine k_pR_read_L41 Ra ?_ _ _ _ _ h (Rk rfl) ok36 rfl rfl rfl
  intro n122 h hn122 L9 
  refine r_iconst Ra dX4_read_122 ?_
  cases h
  exact r_zret Ra (Or.inl rfl) ⟨hn122, (Or.inl rfl)⟩ dX4_read_123
noncomputable def pY_forget (μ : Mem)  : Option (Mem) := (some (mset μ 250 5 (-1))).bind fun m2 => some m2
set_option maxHeartbeats 4000000 in
theorem c_pY_forget {l : Launch} {en : En} {μ : Mem}  {μe : Mem} (hV : VT μ)  (h : pY_forget μ = some μe) : CtV l en yX10_forget cX10_forget 1 0 60 [vA en 250] μ μe (VT μe) := by
  refine Tr.of false (fun h => by cases h) (by decide) (Nat.le_of_ble_eq_true rfl) (fun K Ra => ?_)
  unfold pY_forget at h
  refine r_aload_n Ra (i := 0) dX10_forget_0 rfl rfl ?_
  refine r_iconst Ra dX10_forget_1 ?_
  obtain ⟨m2, em2, h⟩ := bv h
  have hm2 : VT m2 := eqV em2 (hV.setI t250 rfl (Rk rfl))
  refine q_putI Ra f_X10_24 p_X10_5 t250 rfl rfl rfl em2 dX10_forget_2 ?_
  cases h
  exact r_vret Ra hm2 dX10_forget_5
noncomputable def pY_judge (μ : Mem) (x1 : Int) : Option (Mem) := if μ 250 4 < x1 then (some (mset μ 250 4 x1)).bind fun m10 => (some (mcpy m10 252 0 253 0 5)).bind fun m24 => some m24 else some μ
set_option maxHeartbeats 4000000 in
theorem c_pY_judge {l : Launch} {en : En} {μ : Mem} {x1 : Int} {μe : Mem} (hV : VT μ) (hx1 : inR x1) (h : pY_judge μ x1 = some μe) : CtV l en yX10_judge cX10_judge 2 1 60 [vA en 250, vI x1] μ μe (VT μe) := by
  refine Tr.of false (fun h => by cases h) (by decide) (Nat.le_of_ble_eq_true rfl) (fun K Ra => ?_)
  unfold pY_judge at h
  refine r_iload_n Ra (i := 1) dX10_judge_0 rfl rfl ?_
  refine r_aload_n Ra (i := 0) dX10_judge_1 rfl rfl ?_
  refine q_getI Ra (x := μ 250 4) f_X10_38 t250 rfl rfl rfl rfl dX10_judge_2 ?_
  refine r_icmp_le Ra 27 dX10_judge_5 hx1 (hV.int t250 rfl) rfl (fun hc => ?_) (fun hc => ?_)
  · replace h := ineg hc h
    cases h
    exact r_vret Ra hV dX10_judge_27
  · replace h := ipos hc h
    refine r_aload_n Ra (i := 0) dX10_judge_8 rfl rfl ?_
    refine r_iload_n Ra (i := 1) dX10_judge_9 rfl rfl ?_
    obtain ⟨m10, em10, h⟩ := bv h
    have hm10 : VT m10 := eqV em10 (hV.setI t250 rfl hx1)
    refine q_putI Ra f_X10_38 p_X10_4 t250 rfl rfl rfl em10 dX10_judge_10 ?_
    refine r_aload_n Ra (i := 0) dX10_judge_13 rfl rfl ?_
    refine q_getA Ra (b := 252) f_X10_17 t250 rfl rfl rfl (hm10.ref t250 rfl (by decide)) (by decide) dX10_judge_14 ?_
    refine r_iconst Ra dX10_judge_17 ?_
    refine r_aload_n Ra (i := 0) dX10_judge_18 rfl rfl ?_
    refine q_getA Ra (b := 253) f_X10_21 t250 rfl rfl rfl (hm10.ref t250 rfl (by decide)) (by decide) dX10_judge_19 ?_
    refine r_iconst Ra dX10_judge_22 ?_
    refine r_iconst Ra dX10_judge_23 ?_
    obtain ⟨m24, em24, h⟩ := bv h
    have hm24 : VT m24 := eqV em24 (hm10.cpy t252 t253)
    refine q_copy Ra em24 t252 t253 l252 l253 (by decide) k_X10_87 rfl rfl dX10_judge_24 ?_
    cases h
    exact r_vret Ra hm24 dX10_judge_27
def IHY (l : Launch) (en : En) (gs : Nat → Int → Int → Mem → Option (Mem)) (d : Nat) : Prop := (∀ (μ : Mem) (x1 : Int) (μe : Mem), VT μ → (inR x1) → gs 0 x1 0 μ = some μe → CtV l en yX10_search cX10_search 3 (6 + d) (186 + 26 * d) [vA en 250, vI x1] μ μe (VT μe)) ∧ (∀ (μ : Mem) (x1 : Int) (x2 : Int) (μe : Mem), VT μ → (inR x1) → (inR x2) → gs 1 x1 x2 μ = some μe → CtV l en yX10_tryStep cX10_tryStep 7 (6 + d) (186 + 26 * d) [vA en 250, vI x1, vI x2] μ μe (VT μe))
noncomputable def pY_search_L50b (N : Nat) (gs : Nat → Int → Int → Mem → Option (Mem)) (c1 : Int) (k : Mem → Option (Mem)) (self : Int → Mem → Option (Mem)) (x2 : Int) (μ : Mem) : Option (Mem) := if x2 < 5 then (gs 1 c1 x2 μ).bind fun m58 => (some (w32 (x2 + 1) : Int)).bind fun x2_61 => self x2_61 m58 else k μ
noncomputable def pY_search_L50 (N : Nat) (gs : Nat → Int → Int → Mem → Option (Mem)) (c1 : Int) (k : Mem → Option (Mem)) (n : Nat) : Int → Mem → Option (Mem) := lpF (fun _ _ => none) (pY_search_L50b N gs c1 k) n
noncomputable def pY_search_b (N : Nat) (gs : Nat → Int → Int → Mem → Option (Mem)) (μ : Mem) (x1 : Int) : Option (Mem) := if x1 < 0 then some μ else if x1 < μ 250 6 then if x1 < 5 then if 0 ≤ x1 ∧ x1 < 6 then if 0 ≤ x1 ∧ x1 < 6 then if 0 ≤ μ 250 5 ∧ μ 250 5 < 6 then (pW_goAll N μ (254 + 7 * x1) 0 (μ 250 5) (w32 ((μ ((254 + 7 * x1) + 2) (μ 250 5)) + x1))).bind fun m45 => pY_search_L50 N gs x1 (fun n67 => some n67) N 0 m45 else none else none else none else some μ else some μ
theorem k_pY_search_L50 {l : Launch} {en : En} {μe : Mem} {N : Nat} {gs : Nat → Int → Int → Mem → Option (Mem)} {d : Nat} (IH : IHY l en gs d) {c1 : Int} {k : Mem → Option (Mem)} {K : KT} (Ra : Ru false (some (none, none, nCells, μe, 0, 0, (VT μe))) l en cX10_search yX10_search.cls 3 (rmN (6 + (d + 1)) (186 + 26 * (d + 1))) K) (hi1 : inR c1) (hk : ∀  (μ9 : Mem), k μ9 = some μe → VT μ9 → ∀ L9 : Lo, K ZN 67 L9 [] μ9) : ∀ (n : Nat) (x2 : Int) (μ : Mem) (L : Lo), pY_search_L50 N gs c1 k n x2 μ = some μe → inR x2 → VT μ → L 0 = some (vA en 250) → L 1 = some (vI c1) → L 2 = some (vI x2) → K ZN 50 L [] μ := by
  intro n
  induction n with
  | zero => intro x2 μ L h; cases h
  | succ n ih =>
    intro x2 μ L h hx2 hV hL0 hL1 hL2
    replace h : pY_search_L50b N gs c1 k (pY_search_L50 N gs c1 k n) x2 μ = some μe := h
    unfold pY_search_L50b at h
    refine r_iload_n Ra (i := 2) dX10_search_50 rfl hL2 ?_
    refine r_iconst Ra dX10_search_51 ?_
    refine r_icmp_ge Ra 67 dX10_search_52 hx2 (Rk rfl) rfl (fun hc => ?_) (fun hc => ?_)
    · replace h := ineg hc h
      exact hk μ h  hV _ 
    · replace h := ipos hc h
      refine r_aload_n Ra (i := 0) dX10_search_55 rfl hL0 ?_
      refine r_iload_n Ra (i := 1) dX10_search_56 rfl hL1 ?_
      refine r_iload_n Ra (i := 2) dX10_search_57 rfl hL2 ?_
      obtain ⟨m58, hr58, h⟩ := bd h
      refine q_callVV_g Ra (IH.2 _ _ _ _ hV hi1 hx2 hr58) mw_X10_tryStep mi_X10_tryStep t250 rfl rfl rfl rfl rfl k_X10_60 (by omega) (by omega) rfl dX10_search_58 (fun ok58 => ?_)
      obtain ⟨x2_61, ex2_61, h⟩ := bv h
      have ix2_61 : inR x2_61 := eqR ex2_61 (inR_32 _)
      refine q_iinc Ra dX10_search_61 hL2 ex2_61 ?_
      refine r_goto Ra 50 dX10_search_64 rfl ?_
      exact ih x2_61 m58 _ h ix2_61 ok58 hL0 hL1 rfl
set_option maxHeartbeats 4000000 in
theorem b_pY_search {l : Launch} {en : En} {N d : Nat} {gs : Nat → Int → Int → Mem → Option (Mem)} (IH : IHY l en gs d) {μ : Mem} {x1 : Int} {μe : Mem} (hV : VT μ) (hx1 : inR x1) (h : pY_search_b N gs μ x1 = some μe) : CtV l en yX10_search cX10_search 3 (6 + (d + 1)) (186 + 26 * (d + 1)) [vA en 250, vI x1] μ μe (VT μe) := by
  refine Tr.of false (fun h => by cases h) (by decide) (Nat.le_of_ble_eq_true rfl) (fun K Ra => ?_)
  unfold pY_search_b at h
  refine r_iload_n Ra (i := 1) dX10_search_0 rfl rfl ?_
  refine r_if_lt Ra 17 dX10_search_1 hx1 rfl (fun hc => ?_) (fun hc => ?_)
  · replace h := ipos hc h
    cases h
    exact r_vret Ra hV dX10_search_17
  · replace h := ineg hc h
    refine r_iload_n Ra (i := 1) dX10_search_4 rfl rfl ?_
    refine r_aload_n Ra (i := 0) dX10_search_5 rfl rfl ?_
    refine q_getI Ra (x := μ 250 6) f_X10_35 t250 rfl rfl rfl rfl dX10_search_6 ?_
    refine r_icmp_ge Ra 17 dX10_search_9 hx1 (hV.int t250 rfl) rfl (fun hc => ?_) (fun hc => ?_)
    · replace h := ineg hc h
      cases h
      exact r_vret Ra hV dX10_search_17
    · replace h := ipos hc h
      refine r_iload_n Ra (i := 1) dX10_search_12 rfl rfl ?_
      refine r_iconst Ra dX10_search_13 ?_
      refine r_icmp_lt Ra 18 dX10_search_14 hx1 (Rk rfl) rfl (fun hc => ?_) (fun hc => ?_)
      · replace h := ipos hc h
        refine r_aload_n Ra (i := 0) dX10_search_18 rfl rfl ?_
        refine q_getA Ra (b := 251) f_X10_11 t250 rfl rfl rfl (hV.ref t250 rfl (by decide)) (by decide) dX10_search_19 ?_
        refine r_iload_n Ra (i := 1) dX10_search_22 rfl rfl ?_
        obtain ⟨gu23, h⟩ := gd h
        have hg1 := g251 gu23
        refine q_aald Ra (b := (254 + 7 * x1)) t251 (by decide) l251 gu23 (hV.ref t251 rfl gu23.1) (tin hg1 rfl).1 dX10_search_23 ?_
        refine r_iconst Ra dX10_search_24 ?_
        refine r_aload_n Ra (i := 0) dX10_search_25 rfl rfl ?_
        refine q_getI Ra (x := μ 250 5) f_X10_24 t250 rfl rfl rfl rfl dX10_search_26 ?_
        refine r_aload_n Ra (i := 0) dX10_search_29 rfl rfl ?_
        refine q_getA Ra (b := 251) f_X10_11 t250 rfl rfl rfl (hV.ref t250 rfl (by decide)) (by decide) dX10_search_30 ?_
        refine r_iload_n Ra (i := 1) dX10_search_33 rfl rfl ?_
        obtain ⟨gu34, h⟩ := gd h
        have hg2 := g251 gu34
        refine q_aald Ra (b := (254 + 7 * x1)) t251 (by decide) l251 gu34 (hV.ref t251 rfl gu34.1) (tin hg2 rfl).1 dX10_search_34 ?_
        refine q_getA Ra (b := ((254 + 7 * x1) + 2)) f_X10_45 hg2 rfl rfl rfl (hV.ref hg2 rfl (by decide)) (tin (tn9_2 hg2).1 rfl).1 dX10_search_35 ?_
        refine r_aload_n Ra (i := 0) dX10_search_38 rfl rfl ?_
        refine q_getI Ra (x := μ 250 5) f_X10_24 t250 rfl rfl rfl rfl dX10_search_39 ?_
        obtain ⟨gu42, h⟩ := gd h
        refine q_iald Ra (tn9_2 hg2).1 (tn9_2 hg2).2 gu42 dX10_search_42 ?_
        refine r_iload_n Ra (i := 1) dX10_search_43 rfl rfl ?_
        refine r_iadd Ra dX10_search_44 ?_
        obtain ⟨m45, hr45, h⟩ := bd h
        refine q_callVV_g Ra (c_pW_goAll hV hg1 (Rk rfl) (hV.int t250 rfl) (inR_32 _) hr45) mw_X8_goAll mi_X8_goAll hg1 rfl rfl rfl rfl rfl k_X10_56 (by omega) (by omega) rfl dX10_search_45 (fun ok45 => ?_)
        refine r_iconst Ra dX10_search_48 ?_
        refine q_istore_n Ra 2 dX10_search_49 rfl rfl rfl ?_
        refine k_pY_search_L50 IH Ra hx1 ?_ _ _ _ _ h (Rk rfl) ok45 rfl rfl rfl
        intro n67 h hn67 L9 
        cases h
        exact r_vret Ra hn67 dX10_search_67
      · replace h := ineg hc h
        cases h
        exact r_vret Ra hV dX10_search_17
noncomputable def pY_tryStep_b (N : Nat) (gs : Nat → Int → Int → Mem → Option (Mem)) (μ : Mem) (x1 : Int) (x2 : Int) : Option (Mem) := if 0 ≤ x1 ∧ x1 < 6 then if 0 ≤ w32 (x1 + 1) ∧ w32 (x1 + 1) < 6 then if 0 ≤ μ 250 5 ∧ μ 250 5 < 6 then (some (w32 ((μ ((254 + 7 * x1) + 2) (μ 250 5)) + x1) : Int)).bind fun x5_28 => if 0 ≤ μ 250 5 ∧ μ 250 5 < 6 then (pP_beside μ 2 (μ ((254 + 7 * x1) + 4) (μ 250 5)) x2).bind fun r44 => if r44 = (-1) then some μ else if 0 ≤ x1 ∧ x1 < 5 then (some (mset μ 252 x1 x2)).bind fun m62 => (pW_copyOf m62 (254 + 7 * (w32 (x1 + 1))) (254 + 7 * x1)).bind fun m66 => (pW_go N m66 (254 + 7 * (w32 (x1 + 1))) (m66 250 5) r44 x5_28).bind fun m79 => if w32 (x1 + 1) = m79 250 6 then if 0 ≤ m79 250 5 ∧ m79 250 5 < 6 then (pY_judge m79 (m79 ((254 + 7 * (w32 (x1 + 1))) + 5) (m79 250 5))).bind fun m103 => some m103 else none else (pW_goAll N m79 (254 + 7 * (w32 (x1 + 1))) (w32 ((m79 250 5) + 1)) (m79 2 3) x5_28).bind fun m124 => (pW_dryUp N m124 (254 + 7 * (w32 (x1 + 1))) x5_28).bind fun m131 => (gs 0 (w32 (x1 + 1)) 0 m131).bind fun m138 => some m138 else none else none else none else none else none
set_option maxHeartbeats 4000000 in
theorem b_pY_tryStep {l : Launch} {en : En} {N d : Nat} {gs : Nat → Int → Int → Mem → Option (Mem)} (IH : IHY l en gs d) {μ : Mem} {x1 : Int} {x2 : Int} {μe : Mem} (hV : VT μ) (hx1 : inR x1) (hx2 : inR x2) (h : pY_tryStep_b N gs μ x1 x2 = some μe) : CtV l en yX10_tryStep cX10_tryStep 7 (6 + (d + 1)) (186 + 26 * (d + 1)) [vA en 250, vI x1, vI x2] μ μe (VT μe) := by
  refine Tr.of false (fun h => by cases h) (by decide) (Nat.le_of_ble_eq_true rfl) (fun K Ra => ?_)
  unfold pY_tryStep_b at h
  refine r_aload_n Ra (i := 0) dX10_tryStep_0 rfl rfl ?_
  refine q_getA Ra (b := 251) f_X10_11 t250 rfl rfl rfl (hV.ref t250 rfl (by decide)) (by decide) dX10_tryStep_1 ?_
  refine r_iload_n Ra (i := 1) dX10_tryStep_4 rfl rfl ?_
  obtain ⟨gu5, h⟩ := gd h
  have hg1 := g251 gu5
  refine q_aald Ra (b := (254 + 7 * x1)) t251 (by decide) l251 gu5 (hV.ref t251 rfl gu5.1) (tin hg1 rfl).1 dX10_tryStep_5 ?_
  refine r_astore_n Ra (i := 3) dX10_tryStep_6 rfl (Nat.le_of_ble_eq_true rfl) ?_
  refine r_aload_n Ra (i := 0) dX10_tryStep_7 rfl rfl ?_
  refine q_getA Ra (b := 251) f_X10_11 t250 rfl rfl rfl (hV.ref t250 rfl (by decide)) (by decide) dX10_tryStep_8 ?_
  refine r_iload_n Ra (i := 1) dX10_tryStep_11 rfl rfl ?_
  refine r_iconst Ra dX10_tryStep_12 ?_
  refine r_iadd Ra dX10_tryStep_13 ?_
  obtain ⟨gu14, h⟩ := gd h
  have hg2 := g251 gu14
  refine q_aald Ra (b := (254 + 7 * (w32 (x1 + 1)))) t251 (by decide) l251 gu14 (hV.ref t251 rfl gu14.1) (tin hg2 rfl).1 dX10_tryStep_14 ?_
  refine r_astore Ra dX10_tryStep_15 (Nat.le_of_ble_eq_true rfl) ?_
  refine r_aload_n Ra (i := 3) dX10_tryStep_17 rfl rfl ?_
  refine q_getA Ra (b := ((254 + 7 * x1) + 2)) f_X10_45 hg1 rfl rfl rfl (hV.ref hg1 rfl (by decide)) (tin (tn9_2 hg1).1 rfl).1 dX10_tryStep_18 ?_
  refine r_aload_n Ra (i := 0) dX10_tryStep_21 rfl rfl ?_
  refine q_getI Ra (x := μ 250 5) f_X10_24 t250 rfl rfl rfl rfl dX10_tryStep_22 ?_
  obtain ⟨gu25, h⟩ := gd h
  refine q_iald Ra (tn9_2 hg1).1 (tn9_2 hg1).2 gu25 dX10_tryStep_25 ?_
  refine r_iload_n Ra (i := 1) dX10_tryStep_26 rfl rfl ?_
  refine r_iadd Ra dX10_tryStep_27 ?_
  obtain ⟨x5_28, ex5_28, h⟩ := bv h
  have ix5_28 : inR x5_28 := eqR ex5_28 (inR_32 _)
  refine q_istore Ra dX10_tryStep_28 rfl ex5_28 ?_
  refine r_aload_n Ra (i := 0) dX10_tryStep_30 rfl rfl ?_
  refine q_getA Ra (b := 2) f_X10_28 t250 rfl rfl rfl (hV.ref t250 rfl (by decide)) (by decide) dX10_tryStep_31 ?_
  refine r_aload_n Ra (i := 3) dX10_tryStep_34 rfl rfl ?_
  refine q_getA Ra (b := ((254 + 7 * x1) + 4)) f_X10_63 hg1 rfl rfl rfl (hV.ref hg1 rfl (by decide)) (tin (tn9_4 hg1).1 rfl).1 dX10_tryStep_35 ?_
  refine r_aload_n Ra (i := 0) dX10_tryStep_38 rfl rfl ?_
  refine q_getI Ra (x := μ 250 5) f_X10_24 t250 rfl rfl rfl rfl dX10_tryStep_39 ?_
  obtain ⟨gu42, h⟩ := gd h
  refine q_iald Ra (tn9_4 hg1).1 (tn9_4 hg1).2 gu42 dX10_tryStep_42 ?_
  refine r_iload_n Ra (i := 2) dX10_tryStep_43 rfl rfl ?_
  obtain ⟨r44, hr44, h⟩ := bd h
  refine q_callVI_g Ra (c_pP_beside hV t2 (hV.int (tn9_4 hg1).1 (kd20 _)) hx2 hr44) mw_X3_beside mi_X3_beside t2 rfl rfl rfl rfl rfl k_X10_66 (by omega) (by omega) rfl dX10_tryStep_44 (fun ok44 => ?_)
  refine q_istore Ra dX10_tryStep_47 rfl rfl ?_
  refine r_iload Ra dX10_tryStep_49 rfl ?_
  refine r_iconst Ra dX10_tryStep_51 ?_
  refine r_icmp_ne Ra 56 dX10_tryStep_52 ok44 (Rk rfl) rfl (fun hc => ?_) (fun hc => ?_)
  · replace h := ineg hc h
    refine r_aload_n Ra (i := 0) dX10_tryStep_56 rfl rfl ?_
    refine q_getA Ra (b := 252) f_X10_17 t250 rfl rfl rfl (hV.ref t250 rfl (by decide)) (by decide) dX10_tryStep_57 ?_
    refine r_iload_n Ra (i := 1) dX10_tryStep_60 rfl rfl ?_
    refine r_iload_n Ra (i := 2) dX10_tryStep_61 rfl rfl ?_
    obtain ⟨gu62, h⟩ := gd h
    obtain ⟨m62, em62, h⟩ := bv h
    have hm62 : VT m62 := eqV em62 (hV.setI t252 (kd20 _) hx2)
    refine q_iast Ra t252 l252 gu62 em62 dX10_tryStep_62 ?_
    refine r_aload Ra dX10_tryStep_63 rfl ?_
    refine r_aload_n Ra (i := 3) dX10_tryStep_65 rfl rfl ?_
    obtain ⟨m66, hr66, h⟩ := bd h
    refine q_callVV_g Ra (c_pW_copyOf hm62 hg2 hg1 hr66) mw_X8_copyOf mi_X8_copyOf hg2 rfl rfl rfl rfl rfl k_X10_41 (by omega) (by omega) rfl dX10_tryStep_66 (fun ok66 => ?_)
    refine r_aload Ra dX10_tryStep_69 rfl ?_
    refine r_aload_n Ra (i := 0) dX10_tryStep_71 rfl rfl ?_
    refine q_getI Ra (x := m66 250 5) f_X10_24 t250 rfl rfl rfl rfl dX10_tryStep_72 ?_
    refine r_iload Ra dX10_tryStep_75 rfl ?_
    refine r_iload Ra dX10_tryStep_77 rfl ?_
    obtain ⟨m79, hr79, h⟩ := bd h
    refine q_callVV_g Ra (c_pW_go ok66 hg2 (ok66.int t250 rfl) ok44 ix5_28 hr79) mw_X8_go mi_X8_go hg2 rfl rfl rfl rfl rfl k_X10_72 (by omega) (by omega) rfl dX10_tryStep_79 (fun ok79 => ?_)
    refine r_iload_n Ra (i := 1) dX10_tryStep_82 rfl rfl ?_
    refine r_iconst Ra dX10_tryStep_83 ?_
    refine r_iadd Ra dX10_tryStep_84 ?_
    refine r_aload_n Ra (i := 0) dX10_tryStep_85 rfl rfl ?_
    refine q_getI Ra (x := m79 250 6) f_X10_35 t250 rfl rfl rfl rfl dX10_tryStep_86 ?_
    refine r_icmp_ne Ra 107 dX10_tryStep_89 (inR_32 _) (ok79.int t250 rfl) rfl (fun hc => ?_) (fun hc => ?_)
    · replace h := ineg hc h
      refine r_aload Ra dX10_tryStep_107 rfl ?_
      refine r_aload_n Ra (i := 0) dX10_tryStep_109 rfl rfl ?_
      refine q_getI Ra (x := m79 250 5) f_X10_24 t250 rfl rfl rfl rfl dX10_tryStep_110 ?_
      refine r_iconst Ra dX10_tryStep_113 ?_
      refine r_iadd Ra dX10_tryStep_114 ?_
      refine r_aload_n Ra (i := 0) dX10_tryStep_115 rfl rfl ?_
      refine q_getA Ra (b := 2) f_X10_28 t250 rfl rfl rfl (ok79.ref t250 rfl (by decide)) (by decide) dX10_tryStep_116 ?_
      refine q_getI Ra (x := m79 2 3) f_X10_81 t2 rfl rfl rfl rfl dX10_tryStep_119 ?_
      refine r_iload Ra dX10_tryStep_122 rfl ?_
      obtain ⟨m124, hr124, h⟩ := bd h
      refine q_callVV_g Ra (c_pW_goAll ok79 hg2 (inR_32 _) (ok79.int t2 rfl) ix5_28 hr124) mw_X8_goAll mi_X8_goAll hg2 rfl rfl rfl rfl rfl k_X10_56 (by omega) (by omega) rfl dX10_tryStep_124 (fun ok124 => ?_)
      refine r_aload Ra dX10_tryStep_127 rfl ?_
      refine r_iload Ra dX10_tryStep_129 rfl ?_
      obtain ⟨m131, hr131, h⟩ := bd h
      refine q_callVV_g Ra (c_pW_dryUp ok124 hg2 ix5_28 hr131) mw_X8_dryUp mi_X8_dryUp hg2 rfl rfl rfl rfl rfl k_X10_84 (by omega) (by omega) rfl dX10_tryStep_131 (fun ok131 => ?_)
      refine r_aload_n Ra (i := 0) dX10_tryStep_134 rfl rfl ?_
      refine r_iload_n Ra (i := 1) dX10_tryStep_135 rfl rfl ?_
      refine r_iconst Ra dX10_tryStep_136 ?_
      refine r_iadd Ra dX10_tryStep_137 ?_
      obtain ⟨m138, hr138, h⟩ := bd h
      refine q_callVV_g Ra (IH.1 _ _ _ ok131 (inR_32 _) hr138) mw_X10_search mi_X10_search t250 rfl rfl rfl rfl rfl k_X10_52 (by omega) (by omega) rfl dX10_tryStep_138 (fun ok138 => ?_)
      cases h
      exact r_vret Ra ok138 dX10_tryStep_141
    · replace h := ipos hc h
      refine r_aload_n Ra (i := 0) dX10_tryStep_92 rfl rfl ?_
      refine r_aload Ra dX10_tryStep_93 rfl ?_
      refine q_getA Ra (b := ((254 + 7 * (w32 (x1 + 1))) + 5)) f_X10_75 hg2 rfl rfl rfl (ok79.ref hg2 rfl (by decide)) (tin (tn9_5 hg2).1 rfl).1 dX10_tryStep_95 ?_
      refine r_aload_n Ra (i := 0) dX10_tryStep_98 rfl rfl ?_
      refine q_getI Ra (x := m79 250 5) f_X10_24 t250 rfl rfl rfl rfl dX10_tryStep_99 ?_
      obtain ⟨gu102, h⟩ := gd h
      refine q_iald Ra (tn9_5 hg2).1 (tn9_5 hg2).2 gu102 dX10_tryStep_102 ?_
      obtain ⟨m103, hr103, h⟩ := bd h
      refine q_callVV_g Ra (c_pY_judge ok79 (ok79.int (tn9_5 hg2).1 (kd20 _)) hr103) mw_X10_judge mi_X10_judge t250 rfl rfl rfl rfl rfl k_X10_78 (by omega) (by omega) rfl dX10_tryStep_103 (fun ok103 => ?_)
      cases h
      exact r_vret Ra ok103 dX10_tryStep_106
  · replace h := ipos hc h
    cases h
    exact r_vret Ra hV dX10_tryStep_55
noncomputable def pgY (N : Nat) (d : Nat) : Nat → Int → Int → Mem → Option (Mem) := lpF (fun _ _ _ _ => none) (fun gs w x0 x1 μ => match w with
  | 0 => pY_search_b N gs μ x0
  | 1 => pY_tryStep_b N gs μ x0 x1
  | _ => none) d
theorem cgY {l : Launch} {en : En} (N : Nat) : ∀ d : Nat, IHY l en (pgY N d) d := by
  intro d
  induction d with
  | zero => exact ⟨(fun _ _ _ _ _ h => by cases h), (fun _ _ _ _ _ _ _ h => by cases h)⟩
  | succ d ih => exact ⟨(fun _ _ _ hV h0 h => b_pY_search (N := N) ih hV h0 h), (fun _ _ _ _ hV h0 h1 h => b_pY_tryStep (N := N) ih hV h0 h1 h)⟩
noncomputable def pY_search (N : Nat) (μ : Mem) (x1 : Int) : Option (Mem) := pgY N 40 0 x1 0 μ
theorem c_pY_search {l : Launch} {en : En} {N : Nat} {μ : Mem} {x1 : Int} {μe : Mem} (hV : VT μ) (hx1 : inR x1) (h : pY_search N μ x1 = some μe) : CtV l en yX10_search cX10_search 3 (6 + 40) (186 + 26 * 40) [vA en 250, vI x1] μ μe (VT μe) := (cgY N 40).1 _ _ _ hV hx1 h
noncomputable def pY_tryStep (N : Nat) (μ : Mem) (x1 : Int) (x2 : Int) : Option (Mem) := pgY N 40 1 x1 x2 μ
theorem c_pY_tryStep {l : Launch} {en : En} {N : Nat} {μ : Mem} {x1 : Int} {x2 : Int} {μe : Mem} (hV : VT μ) (hx1 : inR x1) (hx2 : inR x2) (h : pY_tryStep N μ x1 x2 = some μe) : CtV l en yX10_tryStep cX10_tryStep 7 (6 + 40) (186 + 26 * 40) [vA en 250, vI x1, vI x2] μ μe (VT μe) := (cgY N 40).2 _ _ _ _ hV hx1 hx2 h
noncomputable def pY_find (N : Nat) (μ : Mem) (a1 : Int) (x2 : Int) (x3 : Int) : Option (Mem) := jn (α := Unit → Option (Mem)) (fun (_ : Unit) => (some (mset μ 250 5 x2)).bind fun m19 => (some (mset m19 250 6 x3)).bind fun m24 => (some (mset m24 250 4 (-1))).bind fun m29 => (pW_copyOf m29 254 a1).bind fun m39 => if 0 ≤ x2 ∧ x2 < 6 then (pW_through N m39 254 0 (m39 (a1 + 2) x2)).bind fun m55 => (pY_search N m55 0).bind fun m60 => some m60 else none) (fun (j17 : Unit → Option (Mem)) => if μ 250 5 = x2 then if μ 250 6 = x3 then some μ else j17 () else j17 ())
set_option maxHeartbeats 4000000 in
theorem c_pY_find {l : Launch} {en : En} {N : Nat} {μ : Mem} {a1 : Int} {x2 : Int} {x3 : Int} {μe : Mem} (hV : VT μ) (ha1 : ty a1 = 9) (hx2 : inR x2) (hx3 : inR x3) (h : pY_find N μ a1 x2 x3 = some μe) : CtV l en yX10_find cX10_find 4 47 1248 [vA en 250, vA en a1, vI x2, vI x3] μ μe (VT μe) := by
  refine Tr.of false (fun h => by cases h) (by decide) (Nat.le_of_ble_eq_true rfl) (fun K Ra => ?_)
  unfold pY_find at h
  refine r_aload_n Ra (i := 0) dX10_find_0 rfl rfl ?_
  refine q_getI Ra (x := μ 250 5) f_X10_24 t250 rfl rfl rfl rfl dX10_find_1 ?_
  refine r_iload_n Ra (i := 2) dX10_find_4 rfl rfl ?_
  obtain ⟨j17, ej17, h⟩ := jn_elim h
  have hJ17 : j17 () = some μe → ∀ L9 : Lo, L9 0 = some (vA en 250) → L9 1 = some (vA en a1) → L9 2 = some (vI x2) → L9 3 = some (vI x3) → K ZN 17 L9 [] μ := by
    intro h L9 f17_0 f17_1 f17_2 f17_3
    rw [ej17] at h
    refine r_aload_n Ra (i := 0) dX10_find_17 rfl f17_0 ?_
    refine r_iload_n Ra (i := 2) dX10_find_18 rfl f17_2 ?_
    obtain ⟨m19, em19, h⟩ := bv h
    have hm19 : VT m19 := eqV em19 (hV.setI t250 rfl hx2)
    refine q_putI Ra f_X10_24 p_X10_5 t250 rfl rfl rfl em19 dX10_find_19 ?_
    refine r_aload_n Ra (i := 0) dX10_find_22 rfl f17_0 ?_
    refine r_iload_n Ra (i := 3) dX10_find_23 rfl f17_3 ?_
    obtain ⟨m24, em24, h⟩ := bv h
    have hm24 : VT m24 := eqV em24 (hm19.setI t250 rfl hx3)
    refine q_putI Ra f_X10_35 p_X10_6 t250 rfl rfl rfl em24 dX10_find_24 ?_
    refine r_aload_n Ra (i := 0) dX10_find_27 rfl f17_0 ?_
    refine r_iconst Ra dX10_find_28 ?_
    obtain ⟨m29, em29, h⟩ := bv h
    have hm29 : VT m29 := eqV em29 (hm24.setI t250 rfl (Rk rfl))
    refine q_putI Ra f_X10_38 p_X10_4 t250 rfl rfl rfl em29 dX10_find_29 ?_
    refine r_aload_n Ra (i := 0) dX10_find_32 rfl f17_0 ?_
    refine q_getA Ra (b := 251) f_X10_11 t250 rfl rfl rfl (hm29.ref t250 rfl (by decide)) (by decide) dX10_find_33 ?_
    refine r_iconst Ra dX10_find_36 ?_
    have hg1 := g251 (k := 0) (by decide)
    refine q_aald Ra (b := 254) t251 (by decide) l251 (by decide) (hm29.ref t251 rfl (by decide)) (by decide) dX10_find_37 ?_
    refine r_aload_n Ra (i := 1) dX10_find_38 rfl f17_1 ?_
    obtain ⟨m39, hr39, h⟩ := bd h
    refine q_callVV Ra (c_pW_copyOf hm29 hg1 ha1 hr39) mw_X8_copyOf mi_X8_copyOf hg1 rfl rfl rfl rfl rfl k_X10_41 rfl rfl dX10_find_39 (fun ok39 => ?_)
    refine r_aload_n Ra (i := 0) dX10_find_42 rfl f17_0 ?_
    refine q_getA Ra (b := 251) f_X10_11 t250 rfl rfl rfl (ok39.ref t250 rfl (by decide)) (by decide) dX10_find_43 ?_
    refine r_iconst Ra dX10_find_46 ?_
    have hg2 := g251 (k := 0) (by decide)
    refine q_aald Ra (b := 254) t251 (by decide) l251 (by decide) (ok39.ref t251 rfl (by decide)) (by decide) dX10_find_47 ?_
    refine r_iconst Ra dX10_find_48 ?_
    refine r_aload_n Ra (i := 1) dX10_find_49 rfl f17_1 ?_
    refine q_getA Ra (b := (a1 + 2)) f_X10_45 ha1 rfl rfl rfl (ok39.ref ha1 rfl (by decide)) (tin (tn9_2 ha1).1 rfl).1 dX10_find_50 ?_
    refine r_iload_n Ra (i := 2) dX10_find_53 rfl f17_2 ?_
    obtain ⟨gu54, h⟩ := gd h
    refine q_iald Ra (tn9_2 ha1).1 (tn9_2 ha1).2 gu54 dX10_find_54 ?_
    obtain ⟨m55, hr55, h⟩ := bd h
    refine q_callVV Ra (c_pW_through ok39 hg2 (Rk rfl) (ok39.int (tn9_2 ha1).1 (kd20 _)) hr55) mw_X8_through mi_X8_through hg2 rfl rfl rfl rfl rfl k_X10_48 rfl rfl dX10_find_55 (fun ok55 => ?_)
    refine r_aload_n Ra (i := 0) dX10_find_58 rfl f17_0 ?_
    refine r_iconst Ra dX10_find_59 ?_
    obtain ⟨m60, hr60, h⟩ := bd h
    refine q_callVV Ra (c_pY_search ok55 (Rk rfl) hr60) mw_X10_search mi_X10_search t250 rfl rfl rfl rfl rfl k_X10_52 rfl rfl dX10_find_60 (fun ok60 => ?_)
    cases h
    exact r_vret Ra ok60 dX10_find_63
  refine r_icmp_ne Ra 17 dX10_find_5 (hV.int t250 rfl) hx2 rfl (fun hc => ?_) (fun hc => ?_)
  · replace h := ineg hc h
    exact hJ17 h  _ rfl rfl rfl rfl
  · replace h := ipos hc h
    refine r_aload_n Ra (i := 0) dX10_find_8 rfl rfl ?_
    refine q_getI Ra (x := μ 250 6) f_X10_35 t250 rfl rfl rfl rfl dX10_find_9 ?_
    refine r_iload_n Ra (i := 3) dX10_find_12 rfl rfl ?_
    refine r_icmp_ne Ra 17 dX10_find_13 (hV.int t250 rfl) hx3 rfl (fun hc => ?_) (fun hc => ?_)
    · replace h := ineg hc h
      exact hJ17 h  _ rfl rfl rfl rfl
    · replace h := ipos hc h
      cases h
      exact r_vret Ra hV dX10_find_16
