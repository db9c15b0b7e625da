noncomputable def pA_forget (μ : Mem)  : Option (Mem) := (some (mset μ 52 2 0)).bind fun m2 => some m2
set_option maxHeartbeats 4000000 in
theorem c_pA_forget {l : Launch} {en : En} {μ : Mem}  {μe : Mem} (hV : VT μ)  (h : pA_forget μ = some μe) : CtV l en yX0_forget cX0_forget 1 0 60 [vA en 52] μ μe (VT μe) := by
  refine Tr.of false (fun h => by cases h) (by decide) (Nat.le_of_ble_eq_true rfl) (fun K Ra => ?_)
  unfold pA_forget at h
  refine r_aload_n Ra (i := 0) dX0_forget_0 rfl rfl ?_
  refine r_iconst Ra dX0_forget_1 ?_
  obtain ⟨m2, em2, h⟩ := bv h
  have hm2 : VT m2 := eqV em2 (hV.setI t52 rfl (Rk rfl))
  refine q_putI Ra f_X0_18 p_X0_2 t52 rfl rfl rfl em2 dX0_forget_2 ?_
  cases h
  exact r_vret Ra hm2 dX0_forget_5
noncomputable def pS_copyOf (μ : Mem) (a0 : Int) (a1 : Int) : Option (Mem) := (some (mset μ a0 0 (μ a1 0))).bind fun m5 => (some (mset m5 a0 7 (m5 a1 7))).bind fun m13 => (some (mcpy m13 (a1 + 1) 0 (a0 + 1) 0 64)).bind fun m28 => (some (mcpy m28 (a1 + 2) 0 (a0 + 2) 0 6)).bind fun m43 => (some (mcpy m43 (a1 + 3) 0 (a0 + 3) 0 6)).bind fun m58 => (some (mcpy m58 (a1 + 4) 0 (a0 + 4) 0 6)).bind fun m73 => (some (mcpy m73 (a1 + 5) 0 (a0 + 5) 0 6)).bind fun m88 => (some (mcpy m88 (a1 + 6) 0 (a0 + 6) 0 120)).bind fun m103 => some m103
set_option maxHeartbeats 4000000 in
theorem c_pS_copyOf {l : Launch} {en : En} {μ : Mem} {a0 : Int} {a1 : Int} {μe : Mem} (hV : VT μ) (ha0 : ty a0 = 6) (ha1 : ty a1 = 6) (h : pS_copyOf μ a0 a1 = some μe) : CtV l en yX5_copyOf cX5_copyOf 2 1 60 [vA en a0, vA en a1] μ μe (VT μe) := by
  refine Tr.of false (fun h => by cases h) (by decide) (Nat.le_of_ble_eq_true rfl) (fun K Ra => ?_)
  unfold pS_copyOf at h
  refine r_aload_n Ra (i := 0) dX5_copyOf_0 rfl rfl ?_
  refine r_aload_n Ra (i := 1) dX5_copyOf_1 rfl rfl ?_
  refine q_getI Ra (x := μ a1 0) f_X5_30 ha1 rfl rfl rfl rfl dX5_copyOf_2 ?_
  obtain ⟨m5, em5, h⟩ := bv h
  have hm5 : VT m5 := eqV em5 (hV.setI ha0 rfl (hV.int ha1 rfl))
  refine q_putI Ra f_X5_30 p_X5_0 ha0 rfl rfl rfl em5 dX5_copyOf_5 ?_
  refine r_aload_n Ra (i := 0) dX5_copyOf_8 rfl rfl ?_
  refine r_aload_n Ra (i := 1) dX5_copyOf_9 rfl rfl ?_
  refine q_getI Ra (x := m5 a1 7) f_X5_34 ha1 rfl rfl rfl rfl dX5_copyOf_10 ?_
  obtain ⟨m13, em13, h⟩ := bv h
  have hm13 : VT m13 := eqV em13 (hm5.setI ha0 rfl (hm5.int ha1 rfl))
  refine q_putI Ra f_X5_34 p_X5_7 ha0 rfl rfl rfl em13 dX5_copyOf_13 ?_
  refine r_aload_n Ra (i := 1) dX5_copyOf_16 rfl rfl ?_
  refine q_getA Ra (b := (a1 + 1)) f_X5_9 ha1 rfl rfl rfl (hm13.ref ha1 rfl (by decide)) (tin (tn6_1 ha1).1 rfl).1 dX5_copyOf_17 ?_
  refine r_iconst Ra dX5_copyOf_20 ?_
  refine r_aload_n Ra (i := 0) dX5_copyOf_21 rfl rfl ?_
  refine q_getA Ra (b := (a0 + 1)) f_X5_9 ha0 rfl rfl rfl (hm13.ref ha0 rfl (by decide)) (tin (tn6_1 ha0).1 rfl).1 dX5_copyOf_22 ?_
  refine r_iconst Ra dX5_copyOf_25 ?_
  refine r_bipush Ra dX5_copyOf_26 rfl ?_
  obtain ⟨m28, em28, h⟩ := bv h
  have hm28 : VT m28 := eqV em28 (hm13.cpy (tn6_1 ha1).1 (tn6_1 ha0).1)
  refine q_copy Ra em28 (tn6_1 ha1).1 (tn6_1 ha0).1 (tn6_1 ha1).2 (tn6_1 ha0).2 (by decide) k_X5_40 rfl rfl dX5_copyOf_28 ?_
  refine r_aload_n Ra (i := 1) dX5_copyOf_31 rfl rfl ?_
  refine q_getA Ra (b := (a1 + 2)) f_X5_15 ha1 rfl rfl rfl (hm28.ref ha1 rfl (by decide)) (tin (tn6_2 ha1).1 rfl).1 dX5_copyOf_32 ?_
  refine r_iconst Ra dX5_copyOf_35 ?_
  refine r_aload_n Ra (i := 0) dX5_copyOf_36 rfl rfl ?_
  refine q_getA Ra (b := (a0 + 2)) f_X5_15 ha0 rfl rfl rfl (hm28.ref ha0 rfl (by decide)) (tin (tn6_2 ha0).1 rfl).1 dX5_copyOf_37 ?_
  refine r_iconst Ra dX5_copyOf_40 ?_
  refine r_bipush Ra dX5_copyOf_41 rfl ?_
  obtain ⟨m43, em43, h⟩ := bv h
  have hm43 : VT m43 := eqV em43 (hm28.cpy (tn6_2 ha1).1 (tn6_2 ha0).1)
  refine q_copy Ra em43 (tn6_2 ha1).1 (tn6_2 ha0).1 (tn6_2 ha1).2 (tn6_2 ha0).2 (by decide) k_X5_40 rfl rfl dX5_copyOf_43 ?_
  refine r_aload_n Ra (i := 1) dX5_copyOf_46 rfl rfl ?_
  refine q_getA Ra (b := (a1 + 3)) f_X5_18 ha1 rfl rfl rfl (hm43.ref ha1 rfl (by decide)) (tin (tn6_3 ha1).1 rfl).1 dX5_copyOf_47 ?_
  refine r_iconst Ra dX5_copyOf_50 ?_
  refine r_aload_n Ra (i := 0) dX5_copyOf_51 rfl rfl ?_
  refine q_getA Ra (b := (a0 + 3)) f_X5_18 ha0 rfl rfl rfl (hm43.ref ha0 rfl (by decide)) (tin (tn6_3 ha0).1 rfl).1 dX5_copyOf_52 ?_
  refine r_iconst Ra dX5_copyOf_55 ?_
  refine r_bipush Ra dX5_copyOf_56 rfl ?_
  obtain ⟨m58, em58, h⟩ := bv h
  have hm58 : VT m58 := eqV em58 (hm43.cpy (tn6_3 ha1).1 (tn6_3 ha0).1)
  refine q_copy Ra em58 (tn6_3 ha1).1 (tn6_3 ha0).1 (tn6_3 ha1).2 (tn6_3 ha0).2 (by decide) k_X5_40 rfl rfl dX5_copyOf_58 ?_
  refine r_aload_n Ra (i := 1) dX5_copyOf_61 rfl rfl ?_
  refine q_getA Ra (b := (a1 + 4)) f_X5_21 ha1 rfl rfl rfl (hm58.ref ha1 rfl (by decide)) (tin (tn6_4 ha1).1 rfl).1 dX5_copyOf_62 ?_
  refine r_iconst Ra dX5_copyOf_65 ?_
  refine r_aload_n Ra (i := 0) dX5_copyOf_66 rfl rfl ?_
  refine q_getA Ra (b := (a0 + 4)) f_X5_21 ha0 rfl rfl rfl (hm58.ref ha0 rfl (by decide)) (tin (tn6_4 ha0).1 rfl).1 dX5_copyOf_67 ?_
  refine r_iconst Ra dX5_copyOf_70 ?_
  refine r_bipush Ra dX5_copyOf_71 rfl ?_
  obtain ⟨m73, em73, h⟩ := bv h
  have hm73 : VT m73 := eqV em73 (hm58.cpy (tn6_4 ha1).1 (tn6_4 ha0).1)
  refine q_copy Ra em73 (tn6_4 ha1).1 (tn6_4 ha0).1 (tn6_4 ha1).2 (tn6_4 ha0).2 (by decide) k_X5_40 rfl rfl dX5_copyOf_73 ?_
  refine r_aload_n Ra (i := 1) dX5_copyOf_76 rfl rfl ?_
  refine q_getA Ra (b := (a1 + 5)) f_X5_24 ha1 rfl rfl rfl (hm73.ref ha1 rfl (by decide)) (tin (tn6_5 ha1).1 rfl).1 dX5_copyOf_77 ?_
  refine r_iconst Ra dX5_copyOf_80 ?_
  refine r_aload_n Ra (i := 0) dX5_copyOf_81 rfl rfl ?_
  refine q_getA Ra (b := (a0 + 5)) f_X5_24 ha0 rfl rfl rfl (hm73.ref ha0 rfl (by decide)) (tin (tn6_5 ha0).1 rfl).1 dX5_copyOf_82 ?_
  refine r_iconst Ra dX5_copyOf_85 ?_
  refine r_bipush Ra dX5_copyOf_86 rfl ?_
  obtain ⟨m88, em88, h⟩ := bv h
  have hm88 : VT m88 := eqV em88 (hm73.cpy (tn6_5 ha1).1 (tn6_5 ha0).1)
  refine q_copy Ra em88 (tn6_5 ha1).1 (tn6_5 ha0).1 (tn6_5 ha1).2 (tn6_5 ha0).2 (by decide) k_X5_40 rfl rfl dX5_copyOf_88 ?_
  refine r_aload_n Ra (i := 1) dX5_copyOf_91 rfl rfl ?_
  refine q_getA Ra (b := (a1 + 6)) f_X5_27 ha1 rfl rfl rfl (hm88.ref ha1 rfl (by decide)) (tin (tn6_6 ha1).1 rfl).1 dX5_copyOf_92 ?_
  refine r_iconst Ra dX5_copyOf_95 ?_
  refine r_aload_n Ra (i := 0) dX5_copyOf_96 rfl rfl ?_
  refine q_getA Ra (b := (a0 + 6)) f_X5_27 ha0 rfl rfl rfl (hm88.ref ha0 rfl (by decide)) (tin (tn6_6 ha0).1 rfl).1 dX5_copyOf_97 ?_
  refine r_iconst Ra dX5_copyOf_100 ?_
  refine r_bipush Ra dX5_copyOf_101 rfl ?_
  obtain ⟨m103, em103, h⟩ := bv h
  have hm103 : VT m103 := eqV em103 (hm88.cpy (tn6_6 ha1).1 (tn6_6 ha0).1)
  refine q_copy Ra em103 (tn6_6 ha1).1 (tn6_6 ha0).1 (tn6_6 ha1).2 (tn6_6 ha0).2 (by decide) k_X5_40 rfl rfl dX5_copyOf_103 ?_
  cases h
  exact r_vret Ra hm103 dX5_copyOf_106
noncomputable def pA_keep (μ : Mem) (a1 : Int) : Option (Mem) := if 0 ≤ r32 (w32 ((μ 52 1) + (μ 52 2))) 20 ∧ r32 (w32 ((μ 52 1) + (μ 52 2))) 20 < 20 then (pS_copyOf μ (54 + 7 * (r32 (w32 ((μ 52 1) + (μ 52 2))) 20)) a1).bind fun m18 => if m18 52 2 < 20 then (some (mset m18 52 2 (w32 ((m18 52 2) + 1)))).bind fun m37 => some m37 else (some (mset m18 52 1 (r32 (w32 ((m18 52 1) + 1)) 20))).bind fun m53 => some m53 else none
set_option maxHeartbeats 4000000 in
theorem c_pA_keep {l : Launch} {en : En} {μ : Mem} {a1 : Int} {μe : Mem} (hV : VT μ) (ha1 : ty a1 = 6) (h : pA_keep μ a1 = some μe) : CtV l en yX0_keep cX0_keep 2 2 81 [vA en 52, vA en a1] μ μe (VT μe) := by
  refine Tr.of false (fun h => by cases h) (by decide) (Nat.le_of_ble_eq_true rfl) (fun K Ra => ?_)
  unfold pA_keep at h
  refine r_aload_n Ra (i := 0) dX0_keep_0 rfl rfl ?_
  refine q_getA Ra (b := 53) f_X0_11 t52 rfl rfl rfl (hV.ref t52 rfl (by decide)) (by decide) dX0_keep_1 ?_
  refine r_aload_n Ra (i := 0) dX0_keep_4 rfl rfl ?_
  refine q_getI Ra (x := μ 52 1) f_X0_22 t52 rfl rfl rfl rfl dX0_keep_5 ?_
  refine r_aload_n Ra (i := 0) dX0_keep_8 rfl rfl ?_
  refine q_getI Ra (x := μ 52 2) f_X0_18 t52 rfl rfl rfl rfl dX0_keep_9 ?_
  refine r_iadd Ra dX0_keep_12 ?_
  refine r_bipush Ra dX0_keep_13 rfl ?_
  refine r_irem Ra dX0_keep_15 (Rk rfl) (by decide) ?_
  obtain ⟨gu16, h⟩ := gd h
  have hg1 := g53 gu16
  refine q_aald Ra (b := (54 + 7 * (r32 (w32 ((μ 52 1) + (μ 52 2))) 20))) t53 (by decide) l53 gu16 (hV.ref t53 rfl gu16.1) (tin hg1 rfl).1 dX0_keep_16 ?_
  refine r_aload_n Ra (i := 1) dX0_keep_17 rfl rfl ?_
  obtain ⟨m18, hr18, h⟩ := bd h
  refine q_callVV Ra (c_pS_copyOf hV hg1 ha1 hr18) mw_X5_copyOf mi_X5_copyOf hg1 rfl rfl rfl rfl rfl k_X0_25 rfl rfl dX0_keep_18 (fun ok18 => ?_)
  refine r_aload_n Ra (i := 0) dX0_keep_21 rfl rfl ?_
  refine q_getI Ra (x := m18 52 2) f_X0_18 t52 rfl rfl rfl rfl dX0_keep_22 ?_
  refine r_bipush Ra dX0_keep_25 rfl ?_
  refine r_icmp_ge Ra 43 dX0_keep_27 (ok18.int t52 rfl) (Rk rfl) rfl (fun hc => ?_) (fun hc => ?_)
  · replace h := ineg hc h
    refine r_aload_n Ra (i := 0) dX0_keep_43 rfl rfl ?_
    refine r_aload_n Ra (i := 0) dX0_keep_44 rfl rfl ?_
    refine q_getI Ra (x := m18 52 1) f_X0_22 t52 rfl rfl rfl rfl dX0_keep_45 ?_
    refine r_iconst Ra dX0_keep_48 ?_
    refine r_iadd Ra dX0_keep_49 ?_
    refine r_bipush Ra dX0_keep_50 rfl ?_
    refine r_irem Ra dX0_keep_52 (Rk rfl) (by decide) ?_
    obtain ⟨m53, em53, h⟩ := bv h
    have hm53 : VT m53 := eqV em53 (ok18.setI t52 rfl (inR_32 _))
    refine q_putI Ra f_X0_22 p_X0_1 t52 rfl rfl rfl em53 dX0_keep_53 ?_
    cases h
    exact r_vret Ra hm53 dX0_keep_56
  · replace h := ipos hc h
    refine r_aload_n Ra (i := 0) dX0_keep_30 rfl rfl ?_
    refine r_dupA Ra dX0_keep_31 ?_
    refine q_getI Ra (x := m18 52 2) f_X0_18 t52 rfl rfl rfl rfl dX0_keep_32 ?_
    refine r_iconst Ra dX0_keep_35 ?_
    refine r_iadd Ra dX0_keep_36 ?_
    obtain ⟨m37, em37, h⟩ := bv h
    have hm37 : VT m37 := eqV em37 (ok18.setI t52 rfl (inR_32 _))
    refine q_putI Ra f_X0_18 p_X0_2 t52 rfl rfl rfl em37 dX0_keep_37 ?_
    refine r_goto Ra 56 dX0_keep_40 rfl ?_
    cases h
    exact r_vret Ra hm37 dX0_keep_56
noncomputable def pA_back (μ : Mem) (a1 : Int) : Option (Int × Mem) := if μ 52 2 < 1 then some (0, μ) else (some (mset μ 52 2 (w32 ((μ 52 2) - 1)))).bind fun m17 => if 0 ≤ r32 (w32 ((m17 52 1) + (m17 52 2))) 20 ∧ r32 (w32 ((m17 52 1) + (m17 52 2))) 20 < 20 then (pS_copyOf m17 a1 (54 + 7 * (r32 (w32 ((m17 52 1) + (m17 52 2))) 20))).bind fun m38 => some (1, m38) else none
set_option maxHeartbeats 4000000 in
theorem c_pA_back {l : Launch} {en : En} {μ : Mem} {a1 : Int} {re : Int} {μe : Mem} (hV : VT μ) (ha1 : ty a1 = 6) (h : pA_back μ a1 = some (re, μe)) : CtI l en yX0_back cX0_back 2 2 81 [vA en 52, vA en a1] μ .boolean re μe (VT μe ∧ (re = 0 ∨ re = 1)) := by
  refine Tr.of false (fun h => by cases h) (by decide) (Nat.le_of_ble_eq_true rfl) (fun K Ra => ?_)
  unfold pA_back at h
  refine r_aload_n Ra (i := 0) dX0_back_0 rfl rfl ?_
  refine q_getI Ra (x := μ 52 2) f_X0_18 t52 rfl rfl rfl rfl dX0_back_1 ?_
  refine r_iconst Ra dX0_back_4 ?_
  refine r_icmp_ge Ra 10 dX0_back_5 (hV.int t52 rfl) (Rk rfl) rfl (fun hc => ?_) (fun hc => ?_)
  · replace h := ineg hc h
    refine r_aload_n Ra (i := 0) dX0_back_10 rfl rfl ?_
    refine r_dupA Ra dX0_back_11 ?_
    refine q_getI Ra (x := μ 52 2) f_X0_18 t52 rfl rfl rfl rfl dX0_back_12 ?_
    refine r_iconst Ra dX0_back_15 ?_
    refine r_isub Ra dX0_back_16 ?_
    obtain ⟨m17, em17, h⟩ := bv h
    have hm17 : VT m17 := eqV em17 (hV.setI t52 rfl (inR_32 _))
    refine q_putI Ra f_X0_18 p_X0_2 t52 rfl rfl rfl em17 dX0_back_17 ?_
    refine r_aload_n Ra (i := 1) dX0_back_20 rfl rfl ?_
    refine r_aload_n Ra (i := 0) dX0_back_21 rfl rfl ?_
    refine q_getA Ra (b := 53) f_X0_11 t52 rfl rfl rfl (hm17.ref t52 rfl (by decide)) (by decide) dX0_back_22 ?_
    refine r_aload_n Ra (i := 0) dX0_back_25 rfl rfl ?_
    refine q_getI Ra (x := m17 52 1) f_X0_22 t52 rfl rfl rfl rfl dX0_back_26 ?_
    refine r_aload_n Ra (i := 0) dX0_back_29 rfl rfl ?_
    refine q_getI Ra (x := m17 52 2) f_X0_18 t52 rfl rfl rfl rfl dX0_back_30 ?_
    refine r_iadd Ra dX0_back_33 ?_
    refine r_bipush Ra dX0_back_34 rfl ?_
    refine r_irem Ra dX0_back_36 (Rk rfl) (by decide) ?_
    obtain ⟨gu37, h⟩ := gd h
    have hg1 := g53 gu37
    refine q_aald Ra (b := (54 + 7 * (r32 (w32 ((m17 52 1) + (m17 52 2))) 20))) t53 (by decide) l53 gu37 (hm17.ref t53 rfl gu37.1) (tin hg1 rfl).1 dX0_back_37 ?_
    obtain ⟨m38, hr38, h⟩ := bd h
    refine q_callVV Ra (c_pS_copyOf hm17 ha1 hg1 hr38) mw_X5_copyOf mi_X5_copyOf ha1 rfl rfl rfl rfl rfl k_X0_25 rfl rfl dX0_back_38 (fun ok38 => ?_)
    refine r_iconst Ra dX0_back_41 ?_
    cases h
    exact r_zret Ra (Or.inr rfl) ⟨ok38, (Or.inr rfl)⟩ dX0_back_42
  · replace h := ipos hc h
    refine r_iconst Ra dX0_back_8 ?_
    cases h
    exact r_zret Ra (Or.inl rfl) ⟨hV, (Or.inl rfl)⟩ dX0_back_9
noncomputable def pH_forget (μ : Mem)  : Option (Mem) := (some (mset μ 296 6 0)).bind fun m2 => some m2
set_option maxHeartbeats 4000000 in
theorem c_pH_forget {l : Launch} {en : En} {μ : Mem}  {μe : Mem} (hV : VT μ)  (h : pH_forget μ = some μe) : CtV l en yX1_forget cX1_forget 1 0 60 [vA en 296] μ μe (VT μe) := by
  refine Tr.of false (fun h => by cases h) (by decide) (Nat.le_of_ble_eq_true rfl) (fun K Ra => ?_)
  unfold pH_forget at h
  refine r_aload_n Ra (i := 0) dX1_forget_0 rfl rfl ?_
  refine r_iconst Ra dX1_forget_1 ?_
  obtain ⟨m2, em2, h⟩ := bv h
  have hm2 : VT m2 := eqV em2 (hV.setZ t296 rfl (Or.inl rfl))
  refine q_putZ Ra f_X1_43 p_X1_6 t296 rfl rfl rfl em2 (Or.inl rfl) dX1_forget_2 ?_
  cases h
  exact r_vret Ra hm2 dX1_forget_5
noncomputable def pH_write (μ : Mem) (x1 : Int) : Option (Mem) := if 0 ≤ x1 ∧ x1 < 41 then (some (mcpy μ 298 0 (304 + 1 + x1) 0 64)).bind fun m17 => if 0 ≤ x1 ∧ x1 < 41 then (some (mcpy m17 302 0 (346 + 1 + x1) 0 6)).bind fun m37 => some m37 else none else none
set_option maxHeartbeats 4000000 in
theorem c_pH_write {l : Launch} {en : En} {μ : Mem} {x1 : Int} {μe : Mem} (hV : VT μ) (hx1 : inR x1) (h : pH_write μ x1 = some μe) : CtV l en yX1_write cX1_write 2 1 60 [vA en 296, vI x1] μ μe (VT μe) := by
  refine Tr.of false (fun h => by cases h) (by decide) (Nat.le_of_ble_eq_true rfl) (fun K Ra => ?_)
  unfold pH_write at h
  refine r_aload_n Ra (i := 0) dX1_write_0 rfl rfl ?_
  refine q_getA Ra (b := 297) f_X1_12 t296 rfl rfl rfl (hV.ref t296 rfl (by decide)) (by decide) dX1_write_1 ?_
  refine q_getA Ra (b := 298) f_X1_68 t297 rfl rfl rfl (hV.ref t297 rfl (by decide)) (by decide) dX1_write_4 ?_
  refine r_iconst Ra dX1_write_7 ?_
  refine r_aload_n Ra (i := 0) dX1_write_8 rfl rfl ?_
  refine q_getA Ra (b := 304) f_X1_20 t296 rfl rfl rfl (hV.ref t296 rfl (by decide)) (by decide) dX1_write_9 ?_
  refine r_iload_n Ra (i := 1) dX1_write_12 rfl rfl ?_
  obtain ⟨gu13, h⟩ := gd h
  have hg1 := g304 gu13
  refine q_aald Ra (b := (304 + 1 + x1)) t304 (by decide) l304 gu13 (hV.ref t304 rfl gu13.1) (tin hg1.1 rfl).1 dX1_write_13 ?_
  refine r_iconst Ra dX1_write_14 ?_
  refine r_bipush Ra dX1_write_15 rfl ?_
  obtain ⟨m17, em17, h⟩ := bv h
  have hm17 : VT m17 := eqV em17 (hV.cpy t298 hg1.1)
  refine q_copy Ra em17 t298 hg1.1 l298 hg1.2 (by decide) k_X1_70 rfl rfl dX1_write_17 ?_
  refine r_aload_n Ra (i := 0) dX1_write_20 rfl rfl ?_
  refine q_getA Ra (b := 297) f_X1_12 t296 rfl rfl rfl (hm17.ref t296 rfl (by decide)) (by decide) dX1_write_21 ?_
  refine q_getA Ra (b := 302) f_X1_76 t297 rfl rfl rfl (hm17.ref t297 rfl (by decide)) (by decide) dX1_write_24 ?_
  refine r_iconst Ra dX1_write_27 ?_
  refine r_aload_n Ra (i := 0) dX1_write_28 rfl rfl ?_
  refine q_getA Ra (b := 346) f_X1_23 t296 rfl rfl rfl (hm17.ref t296 rfl (by decide)) (by decide) dX1_write_29 ?_
  refine r_iload_n Ra (i := 1) dX1_write_32 rfl rfl ?_
  obtain ⟨gu33, h⟩ := gd h
  have hg2 := g346 gu33
  refine q_aald Ra (b := (346 + 1 + x1)) t346 (by decide) l346 gu33 (hm17.ref t346 rfl gu33.1) (tin hg2.1 rfl).1 dX1_write_33 ?_
  refine r_iconst Ra dX1_write_34 ?_
  refine r_bipush Ra dX1_write_35 rfl ?_
  obtain ⟨m37, em37, h⟩ := bv h
  have hm37 : VT m37 := eqV em37 (hm17.cpy t302 hg2.1)
  refine q_copy Ra em37 t302 hg2.1 l302 hg2.2 (by decide) k_X1_70 rfl rfl dX1_write_37 ?_
  cases h
  exact r_vret Ra hm37 dX1_write_40
noncomputable def pS_keep (μ : Mem) (a0 : Int) (x1 : Int) (x2 : Int) : Option (Mem) := (if μ a0 7 < 40 then some (μ) else (some (mcpy μ (a0 + 6) 3 (a0 + 6) 0 117)).bind fun m21 => (some (mset m21 a0 7 39)).bind fun m27 => some (m27)).bind fun n30 => (some (w32 ((n30 a0 7) * 3) : Int)).bind fun x3_36 => if 0 ≤ x3_36 ∧ x3_36 < 120 then (some (mset n30 (a0 + 6) x3_36 (n30 a0 0))).bind fun m46 => if 0 ≤ w32 (x3_36 + 1) ∧ w32 (x3_36 + 1) < 120 then (some (mset m46 (a0 + 6) (w32 (x3_36 + 1)) x1)).bind fun m55 => if 0 ≤ w32 (x3_36 + 2) ∧ w32 (x3_36 + 2) < 120 then (some (mset m55 (a0 + 6) (w32 (x3_36 + 2)) x2)).bind fun m64 => (some (mset m64 a0 7 (w32 ((m64 a0 7) + 1)))).bind fun m72 => some m72 else none else none else none
set_option maxHeartbeats 4000000 in
theorem c_pS_keep {l : Launch} {en : En} {μ : Mem} {a0 : Int} {x1 : Int} {x2 : Int} {μe : Mem} (hV : VT μ) (ha0 : ty a0 = 6) (hx1 : inR x1) (hx2 : inR x2) (h : pS_keep μ a0 x1 x2 = some μe) : CtV l en yX5_keep cX5_keep 4 1 60 [vA en a0, vI x1, vI x2] μ μe (VT μe) := by
  refine Tr.of false (fun h => by cases h) (by decide) (Nat.le_of_ble_eq_true rfl) (fun K Ra => ?_)
  unfold pS_keep at h
  refine r_aload_n Ra (i := 0) dX5_keep_0 rfl rfl ?_
  refine q_getI Ra (x := μ a0 7) f_X5_34 ha0 rfl rfl rfl rfl dX5_keep_1 ?_
  refine r_bipush Ra dX5_keep_4 rfl ?_
  obtain ⟨n30, hj30, h⟩ := bd h
  have hJ : VT n30 → ∀ L9 : Lo, L9 0 = some (vA en a0) → L9 1 = some (vI x1) → L9 2 = some (vI x2) → K ZN 30 L9 [] n30 := by
    intro hn30 L9 f30_0 f30_1 f30_2
    refine r_aload_n Ra (i := 0) dX5_keep_30 rfl f30_0 ?_
    refine q_getI Ra (x := n30 a0 7) f_X5_34 ha0 rfl rfl rfl rfl dX5_keep_31 ?_
    refine r_iconst Ra dX5_keep_34 ?_
    refine r_imul Ra dX5_keep_35 ?_
    obtain ⟨x3_36, ex3_36, h⟩ := bv h
    have ix3_36 : inR x3_36 := eqR ex3_36 (inR_32 _)
    refine q_istore_n Ra 3 dX5_keep_36 rfl rfl ex3_36 ?_
    refine r_aload_n Ra (i := 0) dX5_keep_37 rfl f30_0 ?_
    refine q_getA Ra (b := (a0 + 6)) f_X5_27 ha0 rfl rfl rfl (hn30.ref ha0 rfl (by decide)) (tin (tn6_6 ha0).1 rfl).1 dX5_keep_38 ?_
    refine r_iload_n Ra (i := 3) dX5_keep_41 rfl rfl ?_
    refine r_aload_n Ra (i := 0) dX5_keep_42 rfl f30_0 ?_
    refine q_getI Ra (x := n30 a0 0) f_X5_30 ha0 rfl rfl rfl rfl dX5_keep_43 ?_
    obtain ⟨gu46, h⟩ := gd h
    obtain ⟨m46, em46, h⟩ := bv h
    have hm46 : VT m46 := eqV em46 (hn30.setI (tn6_6 ha0).1 (kd20 _) (hn30.int ha0 rfl))
    refine q_iast Ra (tn6_6 ha0).1 (tn6_6 ha0).2 gu46 em46 dX5_keep_46 ?_
    refine r_aload_n Ra (i := 0) dX5_keep_47 rfl f30_0 ?_
    refine q_getA Ra (b := (a0 + 6)) f_X5_27 ha0 rfl rfl rfl (hm46.ref ha0 rfl (by decide)) (tin (tn6_6 ha0).1 rfl).1 dX5_keep_48 ?_
    refine r_iload_n Ra (i := 3) dX5_keep_51 rfl rfl ?_
    refine r_iconst Ra dX5_keep_52 ?_
    refine r_iadd Ra dX5_keep_53 ?_
    refine r_iload_n Ra (i := 1) dX5_keep_54 rfl f30_1 ?_
    obtain ⟨gu55, h⟩ := gd h
    obtain ⟨m55, em55, h⟩ := bv h
    have hm55 : VT m55 := eqV em55 (hm46.setI (tn6_6 ha0).1 (kd20 _) hx1)
    refine q_iast Ra (tn6_6 ha0).1 (tn6_6 ha0).2 gu55 em55 dX5_keep_55 ?_
    refine r_aload_n Ra (i := 0) dX5_keep_56 rfl f30_0 ?_
    refine q_getA Ra (b := (a0 + 6)) f_X5_27 ha0 rfl rfl rfl (hm55.ref ha0 rfl (by decide)) (tin (tn6_6 ha0).1 rfl).1 dX5_keep_57 ?_
    refine r_iload_n Ra (i := 3) dX5_keep_60 rfl rfl ?_
    refine r_iconst Ra dX5_keep_61 ?_
    refine r_iadd Ra dX5_keep_62 ?_
    refine r_iload_n Ra (i := 2) dX5_keep_63 rfl f30_2 ?_
    obtain ⟨gu64, h⟩ := gd h
    obtain ⟨m64, em64, h⟩ := bv h
    have hm64 : VT m64 := eqV em64 (hm55.setI (tn6_6 ha0).1 (kd20 _) hx2)
    refine q_iast Ra (tn6_6 ha0).1 (tn6_6 ha0).2 gu64 em64 dX5_keep_64 ?_
    refine r_aload_n Ra (i := 0) dX5_keep_65 rfl f30_0 ?_
    refine r_dupA Ra dX5_keep_66 ?_
    refine q_getI Ra (x := m64 a0 7) f_X5_34 ha0 rfl rfl rfl rfl dX5_keep_67 ?_
    refine r_iconst Ra dX5_keep_70 ?_
    refine r_iadd Ra dX5_keep_71 ?_
    obtain ⟨m72, em72, h⟩ := bv h
    have hm72 : VT m72 := eqV em72 (hm64.setI ha0 rfl (inR_32 _))
    refine q_putI Ra f_X5_34 p_X5_7 ha0 rfl rfl rfl em72 dX5_keep_72 ?_
    cases h
    exact r_vret Ra hm72 dX5_keep_75
  replace h := hj30
  refine r_icmp_lt Ra 30 dX5_keep_6 (hV.int ha0 rfl) (Rk rfl) rfl (fun hc => ?_) (fun hc => ?_)
  · replace h := ipos hc h
    cases h
    exact hJ hV _ rfl rfl rfl
  · replace h := ineg hc h
    refine r_aload_n Ra (i := 0) dX5_keep_9 rfl rfl ?_
    refine q_getA Ra (b := (a0 + 6)) f_X5_27 ha0 rfl rfl rfl (hV.ref ha0 rfl (by decide)) (tin (tn6_6 ha0).1 rfl).1 dX5_keep_10 ?_
    refine r_iconst Ra dX5_keep_13 ?_
    refine r_aload_n Ra (i := 0) dX5_keep_14 rfl rfl ?_
    refine q_getA Ra (b := (a0 + 6)) f_X5_27 ha0 rfl rfl rfl (hV.ref ha0 rfl (by decide)) (tin (tn6_6 ha0).1 rfl).1 dX5_keep_15 ?_
    refine r_iconst Ra dX5_keep_18 ?_
    refine r_bipush Ra dX5_keep_19 rfl ?_
    obtain ⟨m21, em21, h⟩ := bv h
    have hm21 : VT m21 := eqV em21 (hV.cpy (tn6_6 ha0).1 (tn6_6 ha0).1)
    refine q_copy Ra em21 (tn6_6 ha0).1 (tn6_6 ha0).1 (tn6_6 ha0).2 (tn6_6 ha0).2 (by decide) k_X5_40 rfl rfl dX5_keep_21 ?_
    refine r_aload_n Ra (i := 0) dX5_keep_24 rfl rfl ?_
    refine r_bipush Ra dX5_keep_25 rfl ?_
    obtain ⟨m27, em27, h⟩ := bv h
    have hm27 : VT m27 := eqV em27 (hm21.setI ha0 rfl (Rk rfl))
    refine q_putI Ra f_X5_34 p_X5_7 ha0 rfl rfl rfl em27 dX5_keep_27 ?_
    cases h
    exact hJ hm27 _ rfl rfl rfl
noncomputable def pU_isTold (μ : Mem) (a0 : Int) : Option (Int) := if 0 < μ a0 2 then some (1) else some (0)
set_option maxHeartbeats 4000000 in
theorem c_pU_isTold {l : Launch} {en : En} {μ : Mem} {a0 : Int} {re : Int} (hV : VT μ) (ha0 : ty a0 = 7) (h : pU_isTold μ a0 = some re) : CtI l en yX6_isTold cX6_isTold 1 0 60 [vA en a0] μ .boolean re μ ((re = 0 ∨ re = 1)) := by
  refine Tr.of false (fun h => by cases h) (by decide) (Nat.le_of_ble_eq_true rfl) (fun K Ra => ?_)
  unfold pU_isTold at h
  refine r_aload_n Ra (i := 0) dX6_isTold_0 rfl rfl ?_
  refine q_getI Ra (x := μ a0 2) f_X6_18 ha0 rfl rfl rfl rfl dX6_isTold_1 ?_
  refine r_if_le Ra 11 dX6_isTold_4 (hV.int ha0 rfl) rfl (fun hc => ?_) (fun hc => ?_)
  · replace h := ineg hc h
    refine r_iconst Ra dX6_isTold_11 ?_
    cases h
    exact r_zret Ra (Or.inl rfl) (Or.inl rfl) dX6_isTold_12
  · replace h := ipos hc h
    refine r_iconst Ra dX6_isTold_7 ?_
    refine r_goto Ra 12 dX6_isTold_8 rfl ?_
    cases h
    exact r_zret Ra (Or.inr rfl) (Or.inr rfl) dX6_isTold_12
noncomputable def pJ_floorDiv_f86c9 (μ : Mem) (x0 : Int) (x2 : Int) : Option (Int) := if x2 ≠ 0 then (some (d64 x0 x2 : Int)).bind fun x4_3 => if x64 x0 x2 < 0 then if w64 (x4_3 * x2) = x0 then some (x4_3) else some (w64 (x4_3 - 1)) else some (x4_3) else none
set_option maxHeartbeats 4000000 in
theorem c_pJ_floorDiv_f86c9 {l : Launch} {en : En} {μ : Mem} {x0 : Int} {x2 : Int} {re : Int} (hV : VT μ) (hx0 : inL x0) (hx2 : inL x2) (h : pJ_floorDiv_f86c9 μ x0 x2 = some re) : CtJ l en yJ9_floorDiv_f86c9 cJ9_floorDiv_f86c9 6 0 60 [vJ x0, vJ x2] μ re μ (inL re) := by
  refine Tr.ofF false (fun h => by cases h) (by decide +kernel) (Nat.le_of_ble_eq_true rfl) (fun K Ra => ?_)
  unfold pJ_floorDiv_f86c9 at h
  refine r_lload_n Ra (i := 0) dJ9_floorDiv_f86c9_0 rfl rfl rfl ?_
  refine r_lload_n Ra (i := 2) dJ9_floorDiv_f86c9_1 rfl rfl rfl ?_
  obtain ⟨gu2, h⟩ := gd h
  refine r_ldiv Ra dJ9_floorDiv_f86c9_2 hx2 gu2 ?_
  obtain ⟨x4_3, ex4_3, h⟩ := bv h
  have ix4_3 : inL x4_3 := eqL ex4_3 (inL_64 _)
  refine q_lstore Ra dJ9_floorDiv_f86c9_3 rfl ex4_3 ?_
  refine r_lload_n Ra (i := 0) dJ9_floorDiv_f86c9_5 rfl rfl rfl ?_
  refine r_lload_n Ra (i := 2) dJ9_floorDiv_f86c9_6 rfl rfl rfl ?_
  refine r_lxor Ra dJ9_floorDiv_f86c9_7 ?_
  refine r_lconst (v := 0) Ra dJ9_floorDiv_f86c9_8 rfl ?_
  refine r_lcmp Ra dJ9_floorDiv_f86c9_9 ?_
  refine q_lif_ge Ra 27 dJ9_floorDiv_f86c9_10 (inL_64 _) (Lk rfl) rfl (fun hc => ?_) (fun hc => ?_)
  · replace h := ineg hc h
    refine r_lload Ra dJ9_floorDiv_f86c9_27 rfl rfl ?_
    cases h
    exact r_lret Ra ix4_3 dJ9_floorDiv_f86c9_29
  · replace h := ipos hc h
    refine r_lload Ra dJ9_floorDiv_f86c9_13 rfl rfl ?_
    refine r_lload_n Ra (i := 2) dJ9_floorDiv_f86c9_15 rfl rfl rfl ?_
    refine r_lmul Ra dJ9_floorDiv_f86c9_16 ?_
    refine r_lload_n Ra (i := 0) dJ9_floorDiv_f86c9_17 rfl rfl rfl ?_
    refine r_lcmp Ra dJ9_floorDiv_f86c9_18 ?_
    refine q_lif_eq Ra 27 dJ9_floorDiv_f86c9_19 (inL_64 _) hx0 rfl (fun hc => ?_) (fun hc => ?_)
    · replace h := ipos hc h
      refine r_lload Ra dJ9_floorDiv_f86c9_27 rfl rfl ?_
      cases h
      exact r_lret Ra ix4_3 dJ9_floorDiv_f86c9_29
    · replace h := ineg hc h
      refine r_lload Ra dJ9_floorDiv_f86c9_22 rfl rfl ?_
      refine r_lconst (v := 1) Ra dJ9_floorDiv_f86c9_24 rfl ?_
      refine r_lsub Ra dJ9_floorDiv_f86c9_25 ?_
      cases h
      exact r_lret Ra (inL_64 _) dJ9_floorDiv_f86c9_26
noncomputable def pJ_floorMod_f86c9 (μ : Mem) (x0 : Int) (x2 : Int) : Option (Int) := if x2 ≠ 0 then (some (r64 x0 x2 : Int)).bind fun x4_3 => if x64 x0 x2 < 0 then if x4_3 = 0 then some (x4_3) else some (w64 (x4_3 + x2)) else some (x4_3) else none
set_option maxHeartbeats 4000000 in
theorem c_pJ_floorMod_f86c9 {l : Launch} {en : En} {μ : Mem} {x0 : Int} {x2 : Int} {re : Int} (hV : VT μ) (hx0 : inL x0) (hx2 : inL x2) (h : pJ_floorMod_f86c9 μ x0 x2 = some re) : CtJ l en yJ9_floorMod_f86c9 cJ9_floorMod_f86c9 6 0 60 [vJ x0, vJ x2] μ re μ (inL re) := by
  refine Tr.ofF false (fun h => by cases h) (by decide +kernel) (Nat.le_of_ble_eq_true rfl) (fun K Ra => ?_)
  unfold pJ_floorMod_f86c9 at h
  refine r_lload_n Ra (i := 0) dJ9_floorMod_f86c9_0 rfl rfl rfl ?_
  refine r_lload_n Ra (i := 2) dJ9_floorMod_f86c9_1 rfl rfl rfl ?_
  obtain ⟨gu2, h⟩ := gd h
  refine r_lrem Ra dJ9_floorMod_f86c9_2 hx2 gu2 ?_
  obtain ⟨x4_3, ex4_3, h⟩ := bv h
  have ix4_3 : inL x4_3 := eqL ex4_3 (inL_64 _)
  refine q_lstore Ra dJ9_floorMod_f86c9_3 rfl ex4_3 ?_
  refine r_lload_n Ra (i := 0) dJ9_floorMod_f86c9_5 rfl rfl rfl ?_
  refine r_lload_n Ra (i := 2) dJ9_floorMod_f86c9_6 rfl rfl rfl ?_
  refine r_lxor Ra dJ9_floorMod_f86c9_7 ?_
  refine r_lconst (v := 0) Ra dJ9_floorMod_f86c9_8 rfl ?_
  refine r_lcmp Ra dJ9_floorMod_f86c9_9 ?_
  refine q_lif_ge Ra 25 dJ9_floorMod_f86c9_10 (inL_64 _) (Lk rfl) rfl (fun hc => ?_) (fun hc => ?_)
  · replace h := ineg hc h
    refine r_lload Ra dJ9_floorMod_f86c9_25 rfl rfl ?_
    cases h
    exact r_lret Ra ix4_3 dJ9_floorMod_f86c9_27
  · replace h := ipos hc h
    refine r_lload Ra dJ9_floorMod_f86c9_13 rfl rfl ?_
    refine r_lconst (v := 0) Ra dJ9_floorMod_f86c9_15 rfl ?_
    refine r_lcmp Ra dJ9_floorMod_f86c9_16 ?_
    refine q_lif_eq Ra 25 dJ9_floorMod_f86c9_17 ix4_3 (Lk rfl) rfl (fun hc => ?_) (fun hc => ?_)
    · replace h := ipos hc h
      refine r_lload Ra dJ9_floorMod_f86c9_25 rfl rfl ?_
      cases h
      exact r_lret Ra ix4_3 dJ9_floorMod_f86c9_27
    · replace h := ineg hc h
      refine r_lload Ra dJ9_floorMod_f86c9_20 rfl rfl ?_
      refine r_lload_n Ra (i := 2) dJ9_floorMod_f86c9_22 rfl rfl rfl ?_
      refine r_ladd Ra dJ9_floorMod_f86c9_23 ?_
      cases h
      exact r_lret Ra (inL_64 _) dJ9_floorMod_f86c9_24
noncomputable def pU_joined (μ : Mem) (x0 : Int) (x1 : Int) (x3 : Int) : Option (Int) := (if x0 = 4 then (some (w64 (x1 + x3) : Int)).bind fun x5_67 => some (x5_67) else if x0 = 5 then (some (w64 (x1 - x3) : Int)).bind fun x5_75 => some (x5_75) else if x0 = 6 then (some (w64 (x1 * x3) : Int)).bind fun x5_83 => some (x5_83) else if x0 = 7 then if x3 = 0 then some ((0 : Int)) else (pJ_floorDiv_f86c9 μ x1 x3).bind fun r100 => some (r100) else if x0 = 8 then if x3 = 0 then some ((0 : Int)) else (pJ_floorMod_f86c9 μ x1 x3).bind fun r120 => some (r120) else if x0 = 9 then (some (min x1 x3 : Int)).bind fun x5_133 => some (x5_133) else if x0 = 10 then (some (max x1 x3 : Int)).bind fun x5_143 => some (x5_143) else if x0 = 11 then if x1 < x3 then some ((1 : Int)) else some ((0 : Int)) else if x0 = 12 then if x3 < x1 then some ((1 : Int)) else some ((0 : Int)) else if x0 = 13 then if x1 = x3 then some ((1 : Int)) else some ((0 : Int)) else if x0 = 14 then (some (a64 x1 x3 : Int)).bind fun x5_199 => some (x5_199) else if x0 = 15 then (some (o64 x1 x3 : Int)).bind fun x5_207 => some (x5_207) else some ((0 : Int))).bind fun yl5_215 => some (w32 (max (-1000000) (min 1000000 yl5_215)))
set_option maxHeartbeats 4000000 in
theorem c_pU_joined {l : Launch} {en : En} {μ : Mem} {x0 : Int} {x1 : Int} {x3 : Int} {re : Int} (hV : VT μ) (hx0 : inR x0) (hx1 : inL x1) (hx3 : inL x3) (h : pU_joined μ x0 x1 x3 = some re) : CtI l en yX6_joined cX6_joined 7 1 85 [vI x0, vJ x1, vJ x3] μ .int re μ (inR re) := by
  refine Tr.of false (fun h => by cases h) (by decide) (Nat.le_of_ble_eq_true rfl) (fun K Ra => ?_)
  unfold pU_joined at h
  refine r_iload_n Ra (i := 0) dX6_joined_0 rfl rfl ?_
  obtain ⟨yl5_215, hj215, h⟩ := bd h
  have hJ : inL yl5_215 → ∀ L9 : Lo, L9 5 = some (vJ yl5_215) → L9 6 = some mark → K ZN 215 L9 [] μ := by
    intro iyl5_215 L9 f215_5 qf215_5
    refine r_ldc2 Ra dX6_joined_215 kc_X6_47 ?_
    refine r_ldc2 Ra dX6_joined_218 kc_X6_49 ?_
    refine r_lload Ra dX6_joined_221 f215_5 qf215_5 ?_
    refine q_mminJ Ra (Lk rfl) iyl5_215 k_X6_41 rfl rfl dX6_joined_223 ?_
    refine q_mmaxJ Ra (Lk rfl) (inL_min (Lk rfl) iyl5_215) k_X6_44 rfl rfl dX6_joined_226 ?_
    refine r_l2i Ra dX6_joined_229 ?_
    cases h
    exact r_iret Ra (inR_32 _) dX6_joined_230
  replace h := hj215
  by_cases hc : x0 = 4
  · replace h := ipos hc h
    refine q_tableC Ra 64 dX6_joined_1 hx0 hc rfl rfl rfl ?_
    refine r_lload_n Ra (i := 1) dX6_joined_64 rfl rfl rfl ?_
    refine r_lload_n Ra (i := 3) dX6_joined_65 rfl rfl rfl ?_
    refine r_ladd Ra dX6_joined_66 ?_
    obtain ⟨x5_67, ex5_67, h⟩ := bv h
    have ix5_67 : inL x5_67 := eqL ex5_67 (inL_64 _)
    refine q_lstore Ra dX6_joined_67 rfl ex5_67 ?_
    refine r_goto Ra 215 dX6_joined_69 rfl ?_
    cases h
    exact hJ ix5_67 _ rfl rfl
  · have hs1_0 := hc
    replace h := ineg hc h
    by_cases hc : x0 = 5
    · replace h := ipos hc h
      refine q_tableC Ra 72 dX6_joined_1 hx0 hc rfl rfl rfl ?_
      refine r_lload_n Ra (i := 1) dX6_joined_72 rfl rfl rfl ?_
      refine r_lload_n Ra (i := 3) dX6_joined_73 rfl rfl rfl ?_
      refine r_lsub Ra dX6_joined_74 ?_
      obtain ⟨x5_75, ex5_75, h⟩ := bv h
      have ix5_75 : inL x5_75 := eqL ex5_75 (inL_64 _)
      refine q_lstore Ra dX6_joined_75 rfl ex5_75 ?_
      refine r_goto Ra 215 dX6_joined_77 rfl ?_
      cases h
      exact hJ ix5_75 _ rfl rfl
    · have hs1_1 := hc
      replace h := ineg hc h
      by_cases hc : x0 = 6
      · replace h := ipos hc h
        refine q_tableC Ra 80 dX6_joined_1 hx0 hc rfl rfl rfl ?_
        refine r_lload_n Ra (i := 1) dX6_joined_80 rfl rfl rfl ?_
        refine r_lload_n Ra (i := 3) dX6_joined_81 rfl rfl rfl ?_
        refine r_lmul Ra dX6_joined_82 ?_
        obtain ⟨x5_83, ex5_83, h⟩ := bv h
        have ix5_83 : inL x5_83 := eqL ex5_83 (inL_64 _)
        refine q_lstore Ra dX6_joined_83 rfl ex5_83 ?_
        refine r_goto Ra 215 dX6_joined_85 rfl ?_
        cases h
        exact hJ ix5_83 _ rfl rfl
      · have hs1_2 := hc
        replace h := ineg hc h
        by_cases hc : x0 = 7
        · replace h := ipos hc h
          refine q_tableC Ra 88 dX6_joined_1 hx0 hc rfl rfl rfl ?_
          refine r_lload_n Ra (i := 3) dX6_joined_88 rfl rfl rfl ?_
          refine r_lconst (v := 0) Ra dX6_joined_89 rfl ?_
          refine r_lcmp Ra dX6_joined_90 ?_
          refine q_lif_ne Ra 98 dX6_joined_91 hx3 (Lk rfl) rfl (fun hc => ?_) (fun hc => ?_)
          · replace h := ineg hc h
            refine r_lload_n Ra (i := 1) dX6_joined_98 rfl rfl rfl ?_
            refine r_lload_n Ra (i := 3) dX6_joined_99 rfl rfl rfl ?_
            obtain ⟨r100, hr100, h⟩ := bd h
            refine q_callSJ Ra (c_pJ_floorDiv_f86c9 hV hx1 hx3 hr100) mw_J9_floorDiv_f86c9 ms_J9_floorDiv_f86c9 rfl rfl k_X6_32 rfl rfl dX6_joined_100 (fun ok100 => ?_)
            refine q_lstore Ra dX6_joined_103 rfl rfl ?_
            refine r_goto Ra 215 dX6_joined_105 rfl ?_
            cases h
            exact hJ ok100 _ rfl rfl
          · replace h := ipos hc h
            refine r_lconst (v := 0) Ra dX6_joined_94 rfl ?_
            refine r_goto Ra 103 dX6_joined_95 rfl ?_
            refine q_lstore Ra dX6_joined_103 rfl rfl ?_
            refine r_goto Ra 215 dX6_joined_105 rfl ?_
            cases h
            exact hJ (Lk rfl) _ rfl rfl
        · have hs1_3 := hc
          replace h := ineg hc h
          by_cases hc : x0 = 8
          · replace h := ipos hc h
            refine q_tableC Ra 108 dX6_joined_1 hx0 hc rfl rfl rfl ?_
            refine r_lload_n Ra (i := 3) dX6_joined_108 rfl rfl rfl ?_
            refine r_lconst (v := 0) Ra dX6_joined_109 rfl ?_
            refine r_lcmp Ra dX6_joined_110 ?_
            refine q_lif_ne Ra 118 dX6_joined_111 hx3 (Lk rfl) rfl (fun hc => ?_) (fun hc => ?_)
            · replace h := ineg hc h
              refine r_lload_n Ra (i := 1) dX6_joined_118 rfl rfl rfl ?_
              refine r_lload_n Ra (i := 3) dX6_joined_119 rfl rfl rfl ?_
              obtain ⟨r120, hr120, h⟩ := bd h
              refine q_callSJ Ra (c_pJ_floorMod_f86c9 hV hx1 hx3 hr120) mw_J9_floorMod_f86c9 ms_J9_floorMod_f86c9 rfl rfl k_X6_38 rfl rfl dX6_joined_120 (fun ok120 => ?_)
              refine q_lstore Ra dX6_joined_123 rfl rfl ?_
              refine r_goto Ra 215 dX6_joined_125 rfl ?_
              cases h
              exact hJ ok120 _ rfl rfl
            · replace h := ipos hc h
              refine r_lconst (v := 0) Ra dX6_joined_114 rfl ?_
              refine r_goto Ra 123 dX6_joined_115 rfl ?_
              refine q_lstore Ra dX6_joined_123 rfl rfl ?_
              refine r_goto Ra 215 dX6_joined_125 rfl ?_
              cases h
              exact hJ (Lk rfl) _ rfl rfl
          · have hs1_4 := hc
            replace h := ineg hc h
            by_cases hc : x0 = 9
            · replace h := ipos hc h
              refine q_tableC Ra 128 dX6_joined_1 hx0 hc rfl rfl rfl ?_
              refine r_lload_n Ra (i := 1) dX6_joined_128 rfl rfl rfl ?_
              refine r_lload_n Ra (i := 3) dX6_joined_129 rfl rfl rfl ?_
              refine q_mminJ Ra hx1 hx3 k_X6_41 rfl rfl dX6_joined_130 ?_
              obtain ⟨x5_133, ex5_133, h⟩ := bv h
              have ix5_133 : inL x5_133 := eqL ex5_133 (inL_min hx1 hx3)
              refine q_lstore Ra dX6_joined_133 rfl ex5_133 ?_
              refine r_goto Ra 215 dX6_joined_135 rfl ?_
              cases h
              exact hJ ix5_133 _ rfl rfl
            · have hs1_5 := hc
              replace h := ineg hc h
              by_cases hc : x0 = 10
              · replace h := ipos hc h
                refine q_tableC Ra 138 dX6_joined_1 hx0 hc rfl rfl rfl ?_
                refine r_lload_n Ra (i := 1) dX6_joined_138 rfl rfl rfl ?_
                refine r_lload_n Ra (i := 3) dX6_joined_139 rfl rfl rfl ?_
                refine q_mmaxJ Ra hx1 hx3 k_X6_44 rfl rfl dX6_joined_140 ?_
                obtain ⟨x5_143, ex5_143, h⟩ := bv h
                have ix5_143 : inL x5_143 := eqL ex5_143 (inL_max hx1 hx3)
                refine q_lstore Ra dX6_joined_143 rfl ex5_143 ?_
                refine r_goto Ra 215 dX6_joined_145 rfl ?_
                cases h
                exact hJ ix5_143 _ rfl rfl
              · have hs1_6 := hc
                replace h := ineg hc h
                by_cases hc : x0 = 11
                · replace h := ipos hc h
                  refine q_tableC Ra 148 dX6_joined_1 hx0 hc rfl rfl rfl ?_
                  refine r_lload_n Ra (i := 1) dX6_joined_148 rfl rfl rfl ?_
                  refine r_lload_n Ra (i := 3) dX6_joined_149 rfl rfl rfl ?_
                  refine r_lcmp Ra dX6_joined_150 ?_
                  refine q_lif_ge Ra 158 dX6_joined_151 hx1 hx3 rfl (fun hc => ?_) (fun hc => ?_)
                  · replace h := ineg hc h
                    refine r_lconst (v := 0) Ra dX6_joined_158 rfl ?_
                    refine q_lstore Ra dX6_joined_159 rfl rfl ?_
                    refine r_goto Ra 215 dX6_joined_161 rfl ?_
                    cases h
                    exact hJ (Lk rfl) _ rfl rfl
                  · replace h := ipos hc h
                    refine r_lconst (v := 1) Ra dX6_joined_154 rfl ?_
                    refine r_goto Ra 159 dX6_joined_155 rfl ?_
                    refine q_lstore Ra dX6_joined_159 rfl rfl ?_
                    refine r_goto Ra 215 dX6_joined_161 rfl ?_
                    cases h
                    exact hJ (Lk rfl) _ rfl rfl
                · have hs1_7 := hc
                  replace h := ineg hc h
                  by_cases hc : x0 = 12
                  · replace h := ipos hc h
                    refine q_tableC Ra 164 dX6_joined_1 hx0 hc rfl rfl rfl ?_
                    refine r_lload_n Ra (i := 1) dX6_joined_164 rfl rfl rfl ?_
                    refine r_lload_n Ra (i := 3) dX6_joined_165 rfl rfl rfl ?_
                    refine r_lcmp Ra dX6_joined_166 ?_
                    refine q_lif_le Ra 174 dX6_joined_167 hx1 hx3 rfl (fun hc => ?_) (fun hc => ?_)
                    · replace h := ineg hc h
                      refine r_lconst (v := 0) Ra dX6_joined_174 rfl ?_
                      refine q_lstore Ra dX6_joined_175 rfl rfl ?_
                      refine r_goto Ra 215 dX6_joined_177 rfl ?_
                      cases h
                      exact hJ (Lk rfl) _ rfl rfl
                    · replace h := ipos hc h
                      refine r_lconst (v := 1) Ra dX6_joined_170 rfl ?_
                      refine r_goto Ra 175 dX6_joined_171 rfl ?_
                      refine q_lstore Ra dX6_joined_175 rfl rfl ?_
                      refine r_goto Ra 215 dX6_joined_177 rfl ?_
                      cases h
                      exact hJ (Lk rfl) _ rfl rfl
                  · have hs1_8 := hc
                    replace h := ineg hc h
                    by_cases hc : x0 = 13
                    · replace h := ipos hc h
                      refine q_tableC Ra 180 dX6_joined_1 hx0 hc rfl rfl rfl ?_
                      refine r_lload_n Ra (i := 1) dX6_joined_180 rfl rfl rfl ?_
                      refine r_lload_n Ra (i := 3) dX6_joined_181 rfl rfl rfl ?_
                      refine r_lcmp Ra dX6_joined_182 ?_
                      refine q_lif_ne Ra 190 dX6_joined_183 hx1 hx3 rfl (fun hc => ?_) (fun hc => ?_)
                      · replace h := ineg hc h
                        refine r_lconst (v := 0) Ra dX6_joined_190 rfl ?_
                        refine q_lstore Ra dX6_joined_191 rfl rfl ?_
                        refine r_goto Ra 215 dX6_joined_193 rfl ?_
                        cases h
                        exact hJ (Lk rfl) _ rfl rfl
                      · replace h := ipos hc h
                        refine r_lconst (v := 1) Ra dX6_joined_186 rfl ?_
                        refine r_goto Ra 191 dX6_joined_187 rfl ?_
                        refine q_lstore Ra dX6_joined_191 rfl rfl ?_
                        refine r_goto Ra 215 dX6_joined_193 rfl ?_
                        cases h
                        exact hJ (Lk rfl) _ rfl rfl
                    · have hs1_9 := hc
                      replace h := ineg hc h
                      by_cases hc : x0 = 14
                      · replace h := ipos hc h
                        refine q_tableC Ra 196 dX6_joined_1 hx0 hc rfl rfl rfl ?_
                        refine r_lload_n Ra (i := 1) dX6_joined_196 rfl rfl rfl ?_
                        refine r_lload_n Ra (i := 3) dX6_joined_197 rfl rfl rfl ?_
                        refine r_land Ra dX6_joined_198 ?_
                        obtain ⟨x5_199, ex5_199, h⟩ := bv h
                        have ix5_199 : inL x5_199 := eqL ex5_199 (inL_64 _)
                        refine q_lstore Ra dX6_joined_199 rfl ex5_199 ?_
                        refine r_goto Ra 215 dX6_joined_201 rfl ?_
                        cases h
                        exact hJ ix5_199 _ rfl rfl
                      · have hs1_10 := hc
                        replace h := ineg hc h
                        by_cases hc : x0 = 15
                        · replace h := ipos hc h
                          refine q_tableC Ra 204 dX6_joined_1 hx0 hc rfl rfl rfl ?_
                          refine r_lload_n Ra (i := 1) dX6_joined_204 rfl rfl rfl ?_
                          refine r_lload_n Ra (i := 3) dX6_joined_205 rfl rfl rfl ?_
                          refine r_lor Ra dX6_joined_206 ?_
                          obtain ⟨x5_207, ex5_207, h⟩ := bv h
                          have ix5_207 : inL x5_207 := eqL ex5_207 (inL_64 _)
                          refine q_lstore Ra dX6_joined_207 rfl ex5_207 ?_
                          refine r_goto Ra 215 dX6_joined_209 rfl ?_
                          cases h
                          exact hJ ix5_207 _ rfl rfl
                        · have hs1_11 := hc
                          replace h := ineg hc h
                          refine q_tableD Ra 212 dX6_joined_1 hx0 [4, 5, 6, 7, 8, 9, 10, 11, 12, 13, 14, 15] (List.forall_mem_cons.mpr ⟨hs1_0, (List.forall_mem_cons.mpr ⟨hs1_1, (List.forall_mem_cons.mpr ⟨hs1_2, (List.forall_mem_cons.mpr ⟨hs1_3, (List.forall_mem_cons.mpr ⟨hs1_4, (List.forall_mem_cons.mpr ⟨hs1_5, (List.forall_mem_cons.mpr ⟨hs1_6, (List.forall_mem_cons.mpr ⟨hs1_7, (List.forall_mem_cons.mpr ⟨hs1_8, (List.forall_mem_cons.mpr ⟨hs1_9, (List.forall_mem_cons.mpr ⟨hs1_10, (List.forall_mem_cons.mpr ⟨hs1_11, (fun _ h9 => absurd h9 List.not_mem_nil)⟩)⟩)⟩)⟩)⟩)⟩)⟩)⟩)⟩)⟩)⟩)⟩) rfl rfl ?_
                          refine r_lconst (v := 0) Ra dX6_joined_212 rfl ?_
                          refine q_lstore Ra dX6_joined_213 rfl rfl ?_
                          cases h
                          exact hJ (Lk rfl) _ rfl rfl
noncomputable def pU_value_L4b (N : Nat) (c0 : Int) (c1 : Int) (k : Int → Mem → Option (Int × Mem)) (self : Int → Int → Mem → Option (Int × Mem)) (x2 : Int) (x3 : Int) (μ : Mem) : Option (Int × Mem) := if x3 < μ c0 2 then if 0 ≤ x3 ∧ x3 < 1600 then (some (a32 (μ (c0 + 1) x3) 15 : Int)).bind fun x4_21 => if 0 ≤ x3 ∧ x3 < 1600 then (some (shr32 (μ (c0 + 1) x3) 4 : Int)).bind fun x5_31 => jn (α := Unit → Option (Int × Mem)) (fun (_ : Unit) => if x2 < 64 then if x4_21 = 0 then if 0 ≤ x2 ∧ x2 < 64 then (some (mset μ (c0 + 2) x2 x5_31)).bind fun m69 => (some (w32 (x2 + 1) : Int)).bind fun x2_70 => (some (w32 (x3 + 1) : Int)).bind fun x3_197 => self x2_70 x3_197 m69 else none else if 0 ≤ x5_31 ∧ x5_31 < 7 then if 0 ≤ x2 ∧ x2 < 64 then (some (mset μ (c0 + 2) x2 (μ c1 x5_31))).bind fun m69 => (some (w32 (x2 + 1) : Int)).bind fun x2_70 => (some (w32 (x3 + 1) : Int)).bind fun x3_197 => self x2_70 x3_197 m69 else none else none else (some (w32 (x3 + 1) : Int)).bind fun x3_197 => self x2 x3_197 μ) (fun (j44 : Unit → Option (Int × Mem)) => if x4_21 = 0 then j44 () else if x4_21 = 1 then j44 () else if x4_21 = 2 then if 0 < x2 then if 0 ≤ w32 (x2 - 1) ∧ w32 (x2 - 1) < 64 then if 0 ≤ w32 (x2 - 1) ∧ w32 (x2 - 1) < 64 then (some (mset μ (c0 + 2) (w32 (x2 - 1)) (w32 (1 - (μ (c0 + 2) (w32 (x2 - 1))))))).bind fun m103 => (some (w32 (x3 + 1) : Int)).bind fun x3_197 => self x2 x3_197 m103 else none else none else (some (w32 (x3 + 1) : Int)).bind fun x3_197 => self x2 x3_197 μ else if x4_21 = 3 then if 2 < x2 then (some (w32 (x2 + (-2)) : Int)).bind fun x2_118 => if 0 ≤ w32 (x2_118 - 1) ∧ w32 (x2_118 - 1) < 64 then if μ (c0 + 2) (w32 (x2_118 - 1)) = 0 then if 0 ≤ w32 (x2_118 + 1) ∧ w32 (x2_118 + 1) < 64 then if 0 ≤ w32 (x2_118 - 1) ∧ w32 (x2_118 - 1) < 64 then (some (mset μ (c0 + 2) (w32 (x2_118 - 1)) (μ (c0 + 2) (w32 (x2_118 + 1))))).bind fun m156 => (some (w32 (x3 + 1) : Int)).bind fun x3_197 => self x2_118 x3_197 m156 else none else none else if 0 ≤ x2_118 ∧ x2_118 < 64 then if 0 ≤ w32 (x2_118 - 1) ∧ w32 (x2_118 - 1) < 64 then (some (mset μ (c0 + 2) (w32 (x2_118 - 1)) (μ (c0 + 2) x2_118))).bind fun m156 => (some (w32 (x3 + 1) : Int)).bind fun x3_197 => self x2_118 x3_197 m156 else none else none else none else (some (w32 (x3 + 1) : Int)).bind fun x3_197 => self x2 x3_197 μ else if 1 < x2 then (some (w32 (x2 + (-1)) : Int)).bind fun x2_165 => if 0 ≤ w32 (x2_165 - 1) ∧ w32 (x2_165 - 1) < 64 then if 0 ≤ x2_165 ∧ x2_165 < 64 then (pU_joined μ x4_21 (μ (c0 + 2) (w32 (x2_165 - 1))) (μ (c0 + 2) x2_165)).bind fun r193 => if 0 ≤ w32 (x2_165 - 1) ∧ w32 (x2_165 - 1) < 64 then (some (mset μ (c0 + 2) (w32 (x2_165 - 1)) r193)).bind fun m196 => (some (w32 (x3 + 1) : Int)).bind fun x3_197 => self x2_165 x3_197 m196 else none else none else none else (some (w32 (x3 + 1) : Int)).bind fun x3_197 => self x2 x3_197 μ) else none else none else k x2 μ
noncomputable def pU_value_L4 (N : Nat) (c0 : Int) (c1 : Int) (k : Int → Mem → Option (Int × Mem)) (n : Nat) : Int → Int → Mem → Option (Int × Mem) := lpF (fun _ _ _ => none) (pU_value_L4b N c0 c1 k) n
noncomputable def pU_value (N : Nat) (μ : Mem) (a0 : Int) (a1 : Int) : Option (Int × Mem) := pU_value_L4 N a0 a1 (fun z2_203 n203 => if 0 < z2_203 then if 0 ≤ w32 (z2_203 - 1) ∧ w32 (z2_203 - 1) < 64 then some (n203 (a0 + 2) (w32 (z2_203 - 1)), n203) else none else some (0, n203)) N 0 0 μ
theorem k_pU_value_L4 {l : Launch} {en : En} {re : Int} {μe : Mem} {N : Nat} {c0 : Int} {c1 : Int} {k : Int → Mem → Option (Int × Mem)} {K : KT} (Ra : Ru false (some (some .int, some (vI re), nCells, μe, 0, 0, (VT μe ∧ inR re))) l en cX6_value yX6_value.cls 6 (rmN 2 111) K) (ht0 : ty c0 = 7) (ht1 : ty c1 = 20) (hl1 : ln c1 = 7) (hk : ∀ (z2 : Int) (μ9 : Mem), k z2 μ9 = some (re, μe) → inR z2 → VT μ9 → ∀ L9 : Lo, L9 0 = some (vA en c0) → L9 2 = some (vI z2) → K ZN 203 L9 [] μ9) : ∀ (n : Nat) (x2 : Int) (x3 : Int) (μ : Mem) (L : Lo), pU_value_L4 N c0 c1 k n x2 x3 μ = some (re, μe) → inR x2 → inR x3 → VT μ → L 0 = some (vA en c0) → L 1 = some (vA en c1) → L 2 = some (vI x2) → L 3 = some (vI x3) → K ZN 4 L [] μ := by
  intro n
  induction n with
  | zero => intro x2 x3 μ L h; cases h
  | succ n ih =>
    intro x2 x3 μ L h hx2 hx3 hV hL0 hL1 hL2 hL3
    replace h : pU_value_L4b N c0 c1 k (pU_value_L4 N c0 c1 k n) x2 x3 μ = some (re, μe) := h
    unfold pU_value_L4b at h
    refine r_iload_n Ra (i := 3) dX6_value_4 rfl hL3 ?_
    refine r_aload_n Ra (i := 0) dX6_value_5 rfl hL0 ?_
    refine q_getI Ra (x := μ c0 2) f_X6_18 ht0 rfl rfl rfl rfl dX6_value_6 ?_
    refine r_icmp_ge Ra 203 dX6_value_9 hx3 (hV.int ht0 rfl) rfl (fun hc => ?_) (fun hc => ?_)
    · replace h := ineg hc h
      exact hk x2 μ h hx2 hV _ hL0 hL2
    · replace h := ipos hc h
      refine r_aload_n Ra (i := 0) dX6_value_12 rfl hL0 ?_
      refine q_getA Ra (b := (c0 + 1)) f_X6_9 ht0 rfl rfl rfl (hV.ref ht0 rfl (by decide)) (tin (tn7_0 ht0).1 rfl).1 dX6_value_13 ?_
      refine r_iload_n Ra (i := 3) dX6_value_16 rfl hL3 ?_
      obtain ⟨gu17, h⟩ := gd h
      refine q_iald Ra (tn7_0 ht0).1 (tn7_0 ht0).2 gu17 dX6_value_17 ?_
      refine r_bipush Ra dX6_value_18 rfl ?_
      refine r_iand Ra dX6_value_20 ?_
      obtain ⟨x4_21, ex4_21, h⟩ := bv h
      have ix4_21 : inR x4_21 := eqR ex4_21 (inR_32 _)
      refine q_istore Ra dX6_value_21 rfl ex4_21 ?_
      refine r_aload_n Ra (i := 0) dX6_value_23 rfl hL0 ?_
      refine q_getA Ra (b := (c0 + 1)) f_X6_9 ht0 rfl rfl rfl (hV.ref ht0 rfl (by decide)) (tin (tn7_0 ht0).1 rfl).1 dX6_value_24 ?_
      refine r_iload_n Ra (i := 3) dX6_value_27 rfl hL3 ?_
      obtain ⟨gu28, h⟩ := gd h
      refine q_iald Ra (tn7_0 ht0).1 (tn7_0 ht0).2 gu28 dX6_value_28 ?_
      refine r_iconst Ra dX6_value_29 ?_
      refine r_ishr Ra dX6_value_30 ?_
      obtain ⟨x5_31, ex5_31, h⟩ := bv h
      have ix5_31 : inR x5_31 := eqR ex5_31 (inR_32 _)
      refine q_istore Ra dX6_value_31 rfl ex5_31 ?_
      refine r_iload Ra dX6_value_33 rfl ?_
      obtain ⟨j44, ej44, h⟩ := jn_elim h
      have hJ44 : j44 () = some (re, μe) → ∀ L9 : Lo, L9 0 = some (vA en c0) → L9 1 = some (vA en c1) → L9 2 = some (vI x2) → L9 3 = some (vI x3) → L9 4 = some (vI x4_21) → L9 5 = some (vI x5_31) → K ZN 44 L9 [] μ := by
        intro h L9 f44_0 f44_1 f44_2 f44_3 f44_4 f44_5
        rw [ej44] at h
        refine r_iload_n Ra (i := 2) dX6_value_44 rfl f44_2 ?_
        refine r_bipush Ra dX6_value_45 rfl ?_
        refine r_icmp_ge Ra 197 dX6_value_47 hx2 (Rk rfl) rfl (fun hc => ?_) (fun hc => ?_)
        · replace h := ineg hc h
          obtain ⟨x3_197, ex3_197, h⟩ := bv h
          have ix3_197 : inR x3_197 := eqR ex3_197 (inR_32 _)
          refine q_iinc Ra dX6_value_197 f44_3 ex3_197 ?_
          refine r_goto Ra 4 dX6_value_200 rfl ?_
          exact ih x2 x3_197 μ _ h hx2 ix3_197 hV f44_0 f44_1 f44_2 rfl
        · replace h := ipos hc h
          refine r_aload_n Ra (i := 0) dX6_value_50 rfl f44_0 ?_
          refine q_getA Ra (b := (c0 + 2)) f_X6_15 ht0 rfl rfl rfl (hV.ref ht0 rfl (by decide)) (tin (tn7_1 ht0).1 rfl).1 dX6_value_51 ?_
          refine r_iload_n Ra (i := 2) dX6_value_54 rfl f44_2 ?_
          refine r_iload Ra dX6_value_55 f44_4 ?_
          refine r_if_ne Ra 65 dX6_value_57 ix4_21 rfl (fun hc => ?_) (fun hc => ?_)
          · replace h := ineg hc h
            refine r_aload_n Ra (i := 1) dX6_value_65 rfl f44_1 ?_
            refine r_iload Ra dX6_value_66 f44_5 ?_
            obtain ⟨gu68, h⟩ := gd h
            refine q_iald Ra ht1 hl1 gu68 dX6_value_68 ?_
            obtain ⟨gu69, h⟩ := gd h
            obtain ⟨m69, em69, h⟩ := bv h
            have hm69 : VT m69 := eqV em69 (hV.setI (tn7_1 ht0).1 (kd20 _) (hV.int ht1 (kd20 _)))
            refine q_iast Ra (tn7_1 ht0).1 (tn7_1 ht0).2 gu69 em69 dX6_value_69 ?_
            obtain ⟨x2_70, ex2_70, h⟩ := bv h
            have ix2_70 : inR x2_70 := eqR ex2_70 (inR_32 _)
            refine q_iinc Ra dX6_value_70 f44_2 ex2_70 ?_
            refine r_goto Ra 197 dX6_value_73 rfl ?_
            obtain ⟨x3_197, ex3_197, h⟩ := bv h
            have ix3_197 : inR x3_197 := eqR ex3_197 (inR_32 _)
            refine q_iinc Ra dX6_value_197 f44_3 ex3_197 ?_
            refine r_goto Ra 4 dX6_value_200 rfl ?_
            exact ih x2_70 x3_197 m69 _ h ix2_70 ix3_197 hm69 f44_0 f44_1 rfl rfl
          · replace h := ipos hc h
            refine r_iload Ra dX6_value_60 f44_5 ?_
            refine r_goto Ra 69 dX6_value_62 rfl ?_
            obtain ⟨gu69, h⟩ := gd h
            obtain ⟨m69, em69, h⟩ := bv h
            have hm69 : VT m69 := eqV em69 (hV.setI (tn7_1 ht0).1 (kd20 _) ix5_31)
            refine q_iast Ra (tn7_1 ht0).1 (tn7_1 ht0).2 gu69 em69 dX6_value_69 ?_
            obtain ⟨x2_70, ex2_70, h⟩ := bv h
            have ix2_70 : inR x2_70 := eqR ex2_70 (inR_32 _)
            refine q_iinc Ra dX6_value_70 f44_2 ex2_70 ?_
            refine r_goto Ra 197 dX6_value_73 rfl ?_
            obtain ⟨x3_197, ex3_197, h⟩ := bv h
            have ix3_197 : inR x3_197 := eqR ex3_197 (inR_32 _)
            refine q_iinc Ra dX6_value_197 f44_3 ex3_197 ?_
            refine r_goto Ra 4 dX6_value_200 rfl ?_
            exact ih x2_70 x3_197 m69 _ h ix2_70 ix3_197 hm69 f44_0 f44_1 rfl rfl
      refine r_if_eq Ra 44 dX6_value_35 ix4_21 rfl (fun hc => ?_) (fun hc => ?_)
      · replace h := ipos hc h
        exact hJ44 h  _ hL0 hL1 hL2 hL3 rfl rfl
      · replace h := ineg hc h
        refine r_iload Ra dX6_value_38 rfl ?_
        refine r_iconst Ra dX6_value_40 ?_
        refine r_icmp_ne Ra 76 dX6_value_41 ix4_21 (Rk rfl) rfl (fun hc => ?_) (fun hc => ?_)
        · replace h := ineg hc h
          refine r_iload Ra dX6_value_76 rfl ?_
          refine r_iconst Ra dX6_value_78 ?_
          refine r_icmp_ne Ra 107 dX6_value_79 ix4_21 (Rk rfl) rfl (fun hc => ?_) (fun hc => ?_)
          · replace h := ineg hc h
            refine r_iload Ra dX6_value_107 rfl ?_
            refine r_iconst Ra dX6_value_109 ?_
            refine r_icmp_ne Ra 160 dX6_value_110 ix4_21 (Rk rfl) rfl (fun hc => ?_) (fun hc => ?_)
            · replace h := ineg hc h
              refine r_iload_n Ra (i := 2) dX6_value_160 rfl hL2 ?_
              refine r_iconst Ra dX6_value_161 ?_
              refine r_icmp_le Ra 197 dX6_value_162 hx2 (Rk rfl) rfl (fun hc => ?_) (fun hc => ?_)
              · replace h := ineg hc h
                obtain ⟨x3_197, ex3_197, h⟩ := bv h
                have ix3_197 : inR x3_197 := eqR ex3_197 (inR_32 _)
                refine q_iinc Ra dX6_value_197 hL3 ex3_197 ?_
                refine r_goto Ra 4 dX6_value_200 rfl ?_
                exact ih x2 x3_197 μ _ h hx2 ix3_197 hV hL0 hL1 hL2 rfl
              · replace h := ipos hc h
                obtain ⟨x2_165, ex2_165, h⟩ := bv h
                have ix2_165 : inR x2_165 := eqR ex2_165 (inR_32 _)
                refine q_iinc Ra dX6_value_165 hL2 ex2_165 ?_
                refine r_aload_n Ra (i := 0) dX6_value_168 rfl hL0 ?_
                refine q_getA Ra (b := (c0 + 2)) f_X6_15 ht0 rfl rfl rfl (hV.ref ht0 rfl (by decide)) (tin (tn7_1 ht0).1 rfl).1 dX6_value_169 ?_
                refine r_iload_n Ra (i := 2) dX6_value_172 rfl rfl ?_
                refine r_iconst Ra dX6_value_173 ?_
                refine r_isub Ra dX6_value_174 ?_
                refine r_iload Ra dX6_value_175 rfl ?_
                refine r_aload_n Ra (i := 0) dX6_value_177 rfl hL0 ?_
                refine q_getA Ra (b := (c0 + 2)) f_X6_15 ht0 rfl rfl rfl (hV.ref ht0 rfl (by decide)) (tin (tn7_1 ht0).1 rfl).1 dX6_value_178 ?_
                refine r_iload_n Ra (i := 2) dX6_value_181 rfl rfl ?_
                refine r_iconst Ra dX6_value_182 ?_
                refine r_isub Ra dX6_value_183 ?_
                obtain ⟨gu184, h⟩ := gd h
                refine q_iald Ra (tn7_1 ht0).1 (tn7_1 ht0).2 gu184 dX6_value_184 ?_
                refine r_i2l Ra dX6_value_185 (hV.int (tn7_1 ht0).1 (kd20 _)) ?_
                refine r_aload_n Ra (i := 0) dX6_value_186 rfl hL0 ?_
                refine q_getA Ra (b := (c0 + 2)) f_X6_15 ht0 rfl rfl rfl (hV.ref ht0 rfl (by decide)) (tin (tn7_1 ht0).1 rfl).1 dX6_value_187 ?_
                refine r_iload_n Ra (i := 2) dX6_value_190 rfl rfl ?_
                obtain ⟨gu191, h⟩ := gd h
                refine q_iald Ra (tn7_1 ht0).1 (tn7_1 ht0).2 gu191 dX6_value_191 ?_
                refine r_i2l Ra dX6_value_192 (hV.int (tn7_1 ht0).1 (kd20 _)) ?_
                obtain ⟨r193, hr193, h⟩ := bd h
                refine q_callSI Ra (c_pU_joined hV ix4_21 (inL_of (hV.int (tn7_1 ht0).1 (kd20 _))) (inL_of (hV.int (tn7_1 ht0).1 (kd20 _))) hr193) mw_X6_joined ms_X6_joined rfl rfl k_X6_28 rfl rfl dX6_value_193 (fun ok193 => ?_)
                obtain ⟨gu196, h⟩ := gd h
                obtain ⟨m196, em196, h⟩ := bv h
                have hm196 : VT m196 := eqV em196 (hV.setI (tn7_1 ht0).1 (kd20 _) ok193)
                refine q_iast Ra (tn7_1 ht0).1 (tn7_1 ht0).2 gu196 em196 dX6_value_196 ?_
                obtain ⟨x3_197, ex3_197, h⟩ := bv h
                have ix3_197 : inR x3_197 := eqR ex3_197 (inR_32 _)
                refine q_iinc Ra dX6_value_197 hL3 ex3_197 ?_
                refine r_goto Ra 4 dX6_value_200 rfl ?_
                exact ih x2_165 x3_197 m196 _ h ix2_165 ix3_197 hm196 hL0 hL1 rfl rfl
            · replace h := ipos hc h
              refine r_iload_n Ra (i := 2) dX6_value_113 rfl hL2 ?_
              refine r_iconst Ra dX6_value_114 ?_
              refine r_icmp_le Ra 197 dX6_value_115 hx2 (Rk rfl) rfl (fun hc => ?_) (fun hc => ?_)
              · replace h := ineg hc h
                obtain ⟨x3_197, ex3_197, h⟩ := bv h
                have ix3_197 : inR x3_197 := eqR ex3_197 (inR_32 _)
                refine q_iinc Ra dX6_value_197 hL3 ex3_197 ?_
                refine r_goto Ra 4 dX6_value_200 rfl ?_
                exact ih x2 x3_197 μ _ h hx2 ix3_197 hV hL0 hL1 hL2 rfl
              · replace h := ipos hc h
                obtain ⟨x2_118, ex2_118, h⟩ := bv h
                have ix2_118 : inR x2_118 := eqR ex2_118 (inR_32 _)
                refine q_iinc Ra dX6_value_118 hL2 ex2_118 ?_
                refine r_aload_n Ra (i := 0) dX6_value_121 rfl hL0 ?_
                refine q_getA Ra (b := (c0 + 2)) f_X6_15 ht0 rfl rfl rfl (hV.ref ht0 rfl (by decide)) (tin (tn7_1 ht0).1 rfl).1 dX6_value_122 ?_
                refine r_iload_n Ra (i := 2) dX6_value_125 rfl rfl ?_
                refine r_iconst Ra dX6_value_126 ?_
                refine r_isub Ra dX6_value_127 ?_
                refine r_aload_n Ra (i := 0) dX6_value_128 rfl hL0 ?_
                refine q_getA Ra (b := (c0 + 2)) f_X6_15 ht0 rfl rfl rfl (hV.ref ht0 rfl (by decide)) (tin (tn7_1 ht0).1 rfl).1 dX6_value_129 ?_
                refine r_iload_n Ra (i := 2) dX6_value_132 rfl rfl ?_
                refine r_iconst Ra dX6_value_133 ?_
                refine r_isub Ra dX6_value_134 ?_
                obtain ⟨gu135, h⟩ := gd h
                refine q_iald Ra (tn7_1 ht0).1 (tn7_1 ht0).2 gu135 dX6_value_135 ?_
                refine r_if_eq Ra 148 dX6_value_136 (hV.int (tn7_1 ht0).1 (kd20 _)) rfl (fun hc => ?_) (fun hc => ?_)
                · replace h := ipos hc h
                  refine r_aload_n Ra (i := 0) dX6_value_148 rfl hL0 ?_
                  refine q_getA Ra (b := (c0 + 2)) f_X6_15 ht0 rfl rfl rfl (hV.ref ht0 rfl (by decide)) (tin (tn7_1 ht0).1 rfl).1 dX6_value_149 ?_
                  refine r_iload_n Ra (i := 2) dX6_value_152 rfl rfl ?_
                  refine r_iconst Ra dX6_value_153 ?_
                  refine r_iadd Ra dX6_value_154 ?_
                  obtain ⟨gu155, h⟩ := gd h
                  refine q_iald Ra (tn7_1 ht0).1 (tn7_1 ht0).2 gu155 dX6_value_155 ?_
                  obtain ⟨gu156, h⟩ := gd h
                  obtain ⟨m156, em156, h⟩ := bv h
                  have hm156 : VT m156 := eqV em156 (hV.setI (tn7_1 ht0).1 (kd20 _) (hV.int (tn7_1 ht0).1 (kd20 _)))
                  refine q_iast Ra (tn7_1 ht0).1 (tn7_1 ht0).2 gu156 em156 dX6_value_156 ?_
                  refine r_goto Ra 197 dX6_value_157 rfl ?_
                  obtain ⟨x3_197, ex3_197, h⟩ := bv h
                  have ix3_197 : inR x3_197 := eqR ex3_197 (inR_32 _)
                  refine q_iinc Ra dX6_value_197 hL3 ex3_197 ?_
                  refine r_goto Ra 4 dX6_value_200 rfl ?_
                  exact ih x2_118 x3_197 m156 _ h ix2_118 ix3_197 hm156 hL0 hL1 rfl rfl
                · replace h := ineg hc h
                  refine r_aload_n Ra (i := 0) dX6_value_139 rfl hL0 ?_
                  refine q_getA Ra (b := (c0 + 2)) f_X6_15 ht0 rfl rfl rfl (hV.ref ht0 rfl (by decide)) (tin (tn7_1 ht0).1 rfl).1 dX6_value_140 ?_
                  refine r_iload_n Ra (i := 2) dX6_value_143 rfl rfl ?_
                  obtain ⟨gu144, h⟩ := gd h
                  refine q_iald Ra (tn7_1 ht0).1 (tn7_1 ht0).2 gu144 dX6_value_144 ?_
                  refine r_goto Ra 156 dX6_value_145 rfl ?_
                  obtain ⟨gu156, h⟩ := gd h
                  obtain ⟨m156, em156, h⟩ := bv h
                  have hm156 : VT m156 := eqV em156 (hV.setI (tn7_1 ht0).1 (kd20 _) (hV.int (tn7_1 ht0).1 (kd20 _)))
                  refine q_iast Ra (tn7_1 ht0).1 (tn7_1 ht0).2 gu156 em156 dX6_value_156 ?_
                  refine r_goto Ra 197 dX6_value_157 rfl ?_
                  obtain ⟨x3_197, ex3_197, h⟩ := bv h
                  have ix3_197 : inR x3_197 := eqR ex3_197 (inR_32 _)
                  refine q_iinc Ra dX6_value_197 hL3 ex3_197 ?_
                  refine r_goto Ra 4 dX6_value_200 rfl ?_
                  exact ih x2_118 x3_197 m156 _ h ix2_118 ix3_197 hm156 hL0 hL1 rfl rfl
          · replace h := ipos hc h
            refine r_iload_n Ra (i := 2) dX6_value_82 rfl hL2 ?_
            refine r_if_le Ra 197 dX6_value_83 hx2 rfl (fun hc => ?_) (fun hc => ?_)
            · replace h := ineg hc h
              obtain ⟨x3_197, ex3_197, h⟩ := bv h
              have ix3_197 : inR x3_197 := eqR ex3_197 (inR_32 _)
              refine q_iinc Ra dX6_value_197 hL3 ex3_197 ?_
              refine r_goto Ra 4 dX6_value_200 rfl ?_
              exact ih x2 x3_197 μ _ h hx2 ix3_197 hV hL0 hL1 hL2 rfl
            · replace h := ipos hc h
              refine r_aload_n Ra (i := 0) dX6_value_86 rfl hL0 ?_
              refine q_getA Ra (b := (c0 + 2)) f_X6_15 ht0 rfl rfl rfl (hV.ref ht0 rfl (by decide)) (tin (tn7_1 ht0).1 rfl).1 dX6_value_87 ?_
              refine r_iload_n Ra (i := 2) dX6_value_90 rfl hL2 ?_
              refine r_iconst Ra dX6_value_91 ?_
              refine r_isub Ra dX6_value_92 ?_
              refine r_iconst Ra dX6_value_93 ?_
              refine r_aload_n Ra (i := 0) dX6_value_94 rfl hL0 ?_
              refine q_getA Ra (b := (c0 + 2)) f_X6_15 ht0 rfl rfl rfl (hV.ref ht0 rfl (by decide)) (tin (tn7_1 ht0).1 rfl).1 dX6_value_95 ?_
              refine r_iload_n Ra (i := 2) dX6_value_98 rfl hL2 ?_
              refine r_iconst Ra dX6_value_99 ?_
              refine r_isub Ra dX6_value_100 ?_
              obtain ⟨gu101, h⟩ := gd h
              refine q_iald Ra (tn7_1 ht0).1 (tn7_1 ht0).2 gu101 dX6_value_101 ?_
              refine r_isub Ra dX6_value_102 ?_
              obtain ⟨gu103, h⟩ := gd h
              obtain ⟨m103, em103, h⟩ := bv h
              have hm103 : VT m103 := eqV em103 (hV.setI (tn7_1 ht0).1 (kd20 _) (inR_32 _))
              refine q_iast Ra (tn7_1 ht0).1 (tn7_1 ht0).2 gu103 em103 dX6_value_103 ?_
              refine r_goto Ra 197 dX6_value_104 rfl ?_
              obtain ⟨x3_197, ex3_197, h⟩ := bv h
              have ix3_197 : inR x3_197 := eqR ex3_197 (inR_32 _)
              refine q_iinc Ra dX6_value_197 hL3 ex3_197 ?_
              refine r_goto Ra 4 dX6_value_200 rfl ?_
              exact ih x2 x3_197 m103 _ h hx2 ix3_197 hm103 hL0 hL1 hL2 rfl
        · replace h := ipos hc h
          exact hJ44 h  _ hL0 hL1 hL2 hL3 rfl rfl
set_option maxHeartbeats 4000000 in
theorem c_pU_value {l : Launch} {en : En} {N : Nat} {μ : Mem} {a0 : Int} {a1 : Int} {re : Int} {μe : Mem} (hV : VT μ) (ha0 : ty a0 = 7) (ha1 : ty a1 = 20) (hla1 : ln a1 = 7) (h : pU_value N μ a0 a1 = some (re, μe)) : CtI l en yX6_value cX6_value 6 2 111 [vA en a0, vA en a1] μ .int re μe (VT μe ∧ inR re) := by
  refine Tr.of false (fun h => by cases h) (by decide) (Nat.le_of_ble_eq_true rfl) (fun K Ra => ?_)
  unfold pU_value at h
  refine r_iconst Ra dX6_value_0 ?_
  refine q_istore_n Ra 2 dX6_value_1 rfl rfl rfl ?_
  refine r_iconst Ra dX6_value_2 ?_
  refine q_istore_n Ra 3 dX6_value_3 rfl rfl rfl ?_
  refine k_pU_value_L4 Ra ha0 ha1 hla1 ?_ _ _ _ _ _ h (Rk rfl) (Rk rfl) hV rfl rfl rfl rfl
  intro z2_203 n203 h iz2_203 hn203 L9 f203_0 f203_2
  refine r_iload_n Ra (i := 2) dX6_value_203 rfl f203_2 ?_
  refine r_if_le Ra 218 dX6_value_204 iz2_203 rfl (fun hc => ?_) (fun hc => ?_)
  · replace h := ineg hc h
    refine r_iconst Ra dX6_value_218 ?_
    cases h
    exact r_iret Ra ⟨hn203, (Rk rfl)⟩ dX6_value_219
  · replace h := ipos hc h
    refine r_aload_n Ra (i := 0) dX6_value_207 rfl f203_0 ?_
    refine q_getA Ra (b := (a0 + 2)) f_X6_15 ha0 rfl rfl rfl (hn203.ref ha0 rfl (by decide)) (tin (tn7_1 ha0).1 rfl).1 dX6_value_208 ?_
    refine r_iload_n Ra (i := 2) dX6_value_211 rfl f203_2 ?_
    refine r_iconst Ra dX6_value_212 ?_
    refine r_isub Ra dX6_value_213 ?_
    obtain ⟨gu214, h⟩ := gd h
    refine q_iald Ra (tn7_1 ha0).1 (tn7_1 ha0).2 gu214 dX6_value_214 ?_
    refine r_goto Ra 219 dX6_value_215 rfl ?_
    cases h
    exact r_iret Ra ⟨hn203, (hn203.int (tn7_1 ha0).1 (kd20 _))⟩ dX6_value_219
noncomputable def pP_columnOf (μ : Mem) (a0 : Int) (x1 : Int) : Option (Int) := if μ a0 0 < 1 then some (0) else if μ a0 0 ≠ 0 then some (r32 x1 (μ a0 0)) else none
set_option maxHeartbeats 4000000 in
theorem c_pP_columnOf {l : Launch} {en : En} {μ : Mem} {a0 : Int} {x1 : Int} {re : Int} (hV : VT μ) (ha0 : ty a0 = 4) (hx1 : inR x1) (h : pP_columnOf μ a0 x1 = some re) : CtI l en yX3_columnOf cX3_columnOf 2 0 60 [vA en a0, vI x1] μ .int re μ (inR re) := by
  refine Tr.of false (fun h => by cases h) (by decide) (Nat.le_of_ble_eq_true rfl) (fun K Ra => ?_)
  unfold pP_columnOf at h
  refine r_aload_n Ra (i := 0) dX3_columnOf_0 rfl rfl ?_
  refine q_getI Ra (x := μ a0 0) f_X3_43 ha0 rfl rfl rfl rfl dX3_columnOf_1 ?_
  refine r_iconst Ra dX3_columnOf_4 ?_
  refine r_icmp_ge Ra 12 dX3_columnOf_5 (hV.int ha0 rfl) (Rk rfl) rfl (fun hc => ?_) (fun hc => ?_)
  · replace h := ineg hc h
    refine r_iload_n Ra (i := 1) dX3_columnOf_12 rfl rfl ?_
    refine r_aload_n Ra (i := 0) dX3_columnOf_13 rfl rfl ?_
    refine q_getI Ra (x := μ a0 0) f_X3_43 ha0 rfl rfl rfl rfl dX3_columnOf_14 ?_
    obtain ⟨gu17, h⟩ := gd h
    refine r_irem Ra dX3_columnOf_17 (hV.int ha0 rfl) gu17 ?_
    cases h
    exact r_iret Ra (inR_32 _) dX3_columnOf_18
  · replace h := ipos hc h
    refine r_iconst Ra dX3_columnOf_8 ?_
    refine r_goto Ra 18 dX3_columnOf_9 rfl ?_
    cases h
    exact r_iret Ra (Rk rfl) dX3_columnOf_18
noncomputable def pP_rowOf (μ : Mem) (a0 : Int) (x1 : Int) : Option (Int) := if μ a0 0 < 1 then some (0) else if μ a0 0 ≠ 0 then some (d32 x1 (μ a0 0)) else none
set_option maxHeartbeats 4000000 in
theorem c_pP_rowOf {l : Launch} {en : En} {μ : Mem} {a0 : Int} {x1 : Int} {re : Int} (hV : VT μ) (ha0 : ty a0 = 4) (hx1 : inR x1) (h : pP_rowOf μ a0 x1 = some re) : CtI l en yX3_rowOf cX3_rowOf 2 0 60 [vA en a0, vI x1] μ .int re μ (inR re) := by
  refine Tr.of false (fun h => by cases h) (by decide) (Nat.le_of_ble_eq_true rfl) (fun K Ra => ?_)
  unfold pP_rowOf at h
  refine r_aload_n Ra (i := 0) dX3_rowOf_0 rfl rfl ?_
  refine q_getI Ra (x := μ a0 0) f_X3_43 ha0 rfl rfl rfl rfl dX3_rowOf_1 ?_
  refine r_iconst Ra dX3_rowOf_4 ?_
  refine r_icmp_ge Ra 12 dX3_rowOf_5 (hV.int ha0 rfl) (Rk rfl) rfl (fun hc => ?_) (fun hc => ?_)
  · replace h := ineg hc h
    refine r_iload_n Ra (i := 1) dX3_rowOf_12 rfl rfl ?_
    refine r_aload_n Ra (i := 0) dX3_rowOf_13 rfl rfl ?_
    refine q_getI Ra (x := μ a0 0) f_X3_43 ha0 rfl rfl rfl rfl dX3_rowOf_14 ?_
    obtain ⟨gu17, h⟩ := gd h
    refine r_idiv Ra dX3_rowOf_17 (hV.int ha0 rfl) gu17 ?_
    cases h
    exact r_iret Ra (inR_32 _) dX3_rowOf_18
  · replace h := ipos hc h
    refine r_iconst Ra dX3_rowOf_8 ?_
    refine r_goto Ra 18 dX3_rowOf_9 rfl ?_
    cases h
    exact r_iret Ra (Rk rfl) dX3_rowOf_18
noncomputable def pW_face (μ : Mem) (a0 : Int) (x1 : Int) (x2 : Int) : Option (Mem) := (pP_columnOf μ 2 x1).bind fun r10 => (some (mset μ (a0 + 6) 0 r10)).bind fun m13 => (pP_rowOf m13 2 x1).bind fun r24 => (some (mset m13 (a0 + 6) 1 r24)).bind fun m27 => if 0 ≤ x1 ∧ x1 < 64 then (some (mset m27 (a0 + 6) 2 (m27 (a0 + 1) x1))).bind fun m39 => (some (mset m39 (a0 + 6) 3 (m39 a0 9))).bind fun m49 => (some (mset m49 (a0 + 6) 4 x2)).bind fun m56 => some m56 else none
set_option maxHeartbeats 4000000 in
theorem c_pW_face {l : Launch} {en : En} {μ : Mem} {a0 : Int} {x1 : Int} {x2 : Int} {μe : Mem} (hV : VT μ) (ha0 : ty a0 = 9) (hx1 : inR x1) (hx2 : inR x2) (h : pW_face μ a0 x1 x2 = some μe) : CtV l en yX8_face cX8_face 3 1 81 [vA en a0, vI x1, vI x2] μ μe (VT μe) := by
  refine Tr.of false (fun h => by cases h) (by decide) (Nat.le_of_ble_eq_true rfl) (fun K Ra => ?_)
  unfold pW_face at h
  refine r_aload_n Ra (i := 0) dX8_face_0 rfl rfl ?_
  refine q_getA Ra (b := (a0 + 6)) f_X8_29 ha0 rfl rfl rfl (hV.ref ha0 rfl (by decide)) (tin (tn9_6 ha0).1 rfl).1 dX8_face_1 ?_
  refine r_iconst Ra dX8_face_4 ?_
  refine r_aload_n Ra (i := 0) dX8_face_5 rfl rfl ?_
  refine q_getA Ra (b := 2) f_X8_36 ha0 rfl rfl rfl (hV.ref ha0 rfl (by decide)) (by decide) dX8_face_6 ?_
  refine r_iload_n Ra (i := 1) dX8_face_9 rfl rfl ?_
  obtain ⟨r10, hr10, h⟩ := bd h
  refine q_callVI Ra (c_pP_columnOf hV t2 hx1 hr10) mw_X3_columnOf mi_X3_columnOf t2 rfl rfl rfl rfl rfl k_X8_115 rfl rfl dX8_face_10 (fun ok10 => ?_)
  obtain ⟨m13, em13, h⟩ := bv h
  have hm13 : VT m13 := eqV em13 (hV.setI (tn9_6 ha0).1 (kd20 _) ok10)
  refine q_iast Ra (tn9_6 ha0).1 (tn9_6 ha0).2 (by decide) em13 dX8_face_13 ?_
  refine r_aload_n Ra (i := 0) dX8_face_14 rfl rfl ?_
  refine q_getA Ra (b := (a0 + 6)) f_X8_29 ha0 rfl rfl rfl (hm13.ref ha0 rfl (by decide)) (tin (tn9_6 ha0).1 rfl).1 dX8_face_15 ?_
  refine r_iconst Ra dX8_face_18 ?_
  refine r_aload_n Ra (i := 0) dX8_face_19 rfl rfl ?_
  refine q_getA Ra (b := 2) f_X8_36 ha0 rfl rfl rfl (hm13.ref ha0 rfl (by decide)) (by decide) dX8_face_20 ?_
  refine r_iload_n Ra (i := 1) dX8_face_23 rfl rfl ?_
  obtain ⟨r24, hr24, h⟩ := bd h
  refine q_callVI Ra (c_pP_rowOf hm13 t2 hx1 hr24) mw_X3_rowOf mi_X3_rowOf t2 rfl rfl rfl rfl rfl k_X8_118 rfl rfl dX8_face_24 (fun ok24 => ?_)
  obtain ⟨m27, em27, h⟩ := bv h
  have hm27 : VT m27 := eqV em27 (hm13.setI (tn9_6 ha0).1 (kd20 _) ok24)
  refine q_iast Ra (tn9_6 ha0).1 (tn9_6 ha0).2 (by decide) em27 dX8_face_27 ?_
  refine r_aload_n Ra (i := 0) dX8_face_28 rfl rfl ?_
  refine q_getA Ra (b := (a0 + 6)) f_X8_29 ha0 rfl rfl rfl (hm27.ref ha0 rfl (by decide)) (tin (tn9_6 ha0).1 rfl).1 dX8_face_29 ?_
  refine r_iconst Ra dX8_face_32 ?_
  refine r_aload_n Ra (i := 0) dX8_face_33 rfl rfl ?_
  refine q_getA Ra (b := (a0 + 1)) f_X8_9 ha0 rfl rfl rfl (hm27.ref ha0 rfl (by decide)) (tin (tn9_1 ha0).1 rfl).1 dX8_face_34 ?_
  refine r_iload_n Ra (i := 1) dX8_face_37 rfl rfl ?_
  obtain ⟨gu38, h⟩ := gd h
  refine q_iald Ra (tn9_1 ha0).1 (tn9_1 ha0).2 gu38 dX8_face_38 ?_
  obtain ⟨m39, em39, h⟩ := bv h
  have hm39 : VT m39 := eqV em39 (hm27.setI (tn9_6 ha0).1 (kd20 _) (hm27.int (tn9_1 ha0).1 (kd20 _)))
  refine q_iast Ra (tn9_6 ha0).1 (tn9_6 ha0).2 (by decide) em39 dX8_face_39 ?_
  refine r_aload_n Ra (i := 0) dX8_face_40 rfl rfl ?_
  refine q_getA Ra (b := (a0 + 6)) f_X8_29 ha0 rfl rfl rfl (hm39.ref ha0 rfl (by decide)) (tin (tn9_6 ha0).1 rfl).1 dX8_face_41 ?_
  refine r_iconst Ra dX8_face_44 ?_
  refine r_aload_n Ra (i := 0) dX8_face_45 rfl rfl ?_
  refine q_getI Ra (x := m39 a0 9) f_X8_45 ha0 rfl rfl rfl rfl dX8_face_46 ?_
  obtain ⟨m49, em49, h⟩ := bv h
  have hm49 : VT m49 := eqV em49 (hm39.setI (tn9_6 ha0).1 (kd20 _) (hm39.int ha0 rfl))
  refine q_iast Ra (tn9_6 ha0).1 (tn9_6 ha0).2 (by decide) em49 dX8_face_49 ?_
  refine r_aload_n Ra (i := 0) dX8_face_50 rfl rfl ?_
  refine q_getA Ra (b := (a0 + 6)) f_X8_29 ha0 rfl rfl rfl (hm49.ref ha0 rfl (by decide)) (tin (tn9_6 ha0).1 rfl).1 dX8_face_51 ?_
  refine r_iconst Ra dX8_face_54 ?_
  refine r_iload_n Ra (i := 2) dX8_face_55 rfl rfl ?_
  obtain ⟨m56, em56, h⟩ := bv h
  have hm56 : VT m56 := eqV em56 (hm49.setI (tn9_6 ha0).1 (kd20 _) hx2)
  refine q_iast Ra (tn9_6 ha0).1 (tn9_6 ha0).2 (by decide) em56 dX8_face_56 ?_
  cases h
  exact r_vret Ra hm56 dX8_face_57
noncomputable def pW_begin_L76b (N : Nat) (c0 : Int) (c2 : Int) (k : Mem → Option (Mem)) (self : Int → Mem → Option (Mem)) (x3 : Int) (μ : Mem) : Option (Mem) := if x3 < 6 then if 0 ≤ x3 ∧ x3 < 6 then (some (mset μ (c0 + 5) x3 0)).bind fun m88 => (some (w32 (x3 + 1) : Int)).bind fun x3_89 => self x3_89 m88 else none else k μ
noncomputable def pW_begin_L76 (N : Nat) (c0 : Int) (c2 : Int) (k : Mem → Option (Mem)) (n : Nat) : Int → Mem → Option (Mem) := lpF (fun _ _ => none) (pW_begin_L76b N c0 c2 k) n
noncomputable def pW_begin_L97b (N : Nat) (c0 : Int) (c2 : Int) (k : Mem → Option (Mem)) (self : Int → Mem → Option (Mem)) (x3 : Int) (μ : Mem) : Option (Mem) := if x3 < μ 2 2 then (pW_face μ c0 x3 0).bind fun m111 => (pU_isTold m111 9).bind fun r121 => (if r121 = 0 then some ((5 : Int), m111) else (pU_value N m111 9 (c0 + 6)).bind fun (r138, m138) => some (r138, m138)).bind fun (ys0_145, n145) => if 0 ≤ x3 ∧ x3 < 64 then if 0 ≤ x3 ∧ x3 < 64 then (some (mset n145 (c0 + 1) x3 (min 99 (w32 ((n145 (c0 + 1) x3) + (w32 ((max 0 ys0_145) * c2))))))).bind fun m172 => (some (w32 (x3 + 1) : Int)).bind fun x3_173 => self x3_173 m172 else none else none else k μ
noncomputable def pW_begin_L97 (N : Nat) (c0 : Int) (c2 : Int) (k : Mem → Option (Mem)) (n : Nat) : Int → Mem → Option (Mem) := lpF (fun _ _ => none) (pW_begin_L97b N c0 c2 k) n
noncomputable def pW_begin (N : Nat) (μ : Mem) (a0 : Int) (a1 : Int) (x2 : Int) : Option (Mem) := (some (mset μ a0 9 (μ a1 0))).bind fun m5 => (some (mset m5 a0 7 63)).bind fun m11 => (some (mcpy m11 (a1 + 1) 0 (a0 + 1) 0 64)).bind fun m26 => (some (mcpy m26 (a1 + 2) 0 (a0 + 4) 0 6)).bind fun m41 => (some (mcpy m41 (a1 + 3) 0 (a0 + 2) 0 6)).bind fun m56 => (some (mcpy m56 (a1 + 4) 0 (a0 + 3) 0 6)).bind fun m71 => pW_begin_L76 N a0 x2 (fun n95 => pW_begin_L97 N a0 x2 (fun n179 => some n179) N 0 n95) N 0 m71
theorem k_pW_begin_L76 {l : Launch} {en : En} {μe : Mem} {N : Nat} {c0 : Int} {c2 : Int} {k : Mem → Option (Mem)} {K : KT} (Ra : Ru false (some (none, none, nCells, μe, 0, 0, (VT μe))) l en cX8_begin yX8_begin.cls 5 (rmN 3 136) K) (ht0 : ty c0 = 9) (hi2 : inR c2) (hk : ∀  (μ9 : Mem), k μ9 = some μe → VT μ9 → ∀ L9 : Lo, L9 0 = some (vA en c0) → L9 2 = some (vI c2) → K ZN 95 L9 [] μ9) : ∀ (n : Nat) (x3 : Int) (μ : Mem) (L : Lo), pW_begin_L76 N c0 c2 k n x3 μ = some μe → inR x3 → VT μ → L 0 = some (vA en c0) → L 2 = some (vI c2) → L 3 = some (vI x3) → K ZN 76 L [] μ := by
  intro n
  induction n with
  | zero => intro x3 μ L h; cases h
  | succ n ih =>
    intro x3 μ L h hx3 hV hL0 hL2 hL3
    replace h : pW_begin_L76b N c0 c2 k (pW_begin_L76 N c0 c2 k n) x3 μ = some μe := h
    unfold pW_begin_L76b at h
    refine r_iload_n Ra (i := 3) dX8_begin_76 rfl hL3 ?_
    refine r_bipush Ra dX8_begin_77 rfl ?_
    refine r_icmp_ge Ra 95 dX8_begin_79 hx3 (Rk rfl) rfl (fun hc => ?_) (fun hc => ?_)
    · replace h := ineg hc h
      exact hk μ h  hV _ hL0 hL2
    · replace h := ipos hc h
      refine r_aload_n Ra (i := 0) dX8_begin_82 rfl hL0 ?_
      refine q_getA Ra (b := (c0 + 5)) f_X8_24 ht0 rfl rfl rfl (hV.ref ht0 rfl (by decide)) (tin (tn9_5 ht0).1 rfl).1 dX8_begin_83 ?_
      refine r_iload_n Ra (i := 3) dX8_begin_86 rfl hL3 ?_
      refine r_iconst Ra dX8_begin_87 ?_
      obtain ⟨gu88, h⟩ := gd h
      obtain ⟨m88, em88, h⟩ := bv h
      have hm88 : VT m88 := eqV em88 (hV.setI (tn9_5 ht0).1 (kd20 _) (Rk rfl))
      refine q_iast Ra (tn9_5 ht0).1 (tn9_5 ht0).2 gu88 em88 dX8_begin_88 ?_
      obtain ⟨x3_89, ex3_89, h⟩ := bv h
      have ix3_89 : inR x3_89 := eqR ex3_89 (inR_32 _)
      refine q_iinc Ra dX8_begin_89 hL3 ex3_89 ?_
      refine r_goto Ra 76 dX8_begin_92 rfl ?_
      exact ih x3_89 m88 _ h ix3_89 hm88 hL0 hL2 rfl
theorem k_pW_begin_L97 {l : Launch} {en : En} {μe : Mem} {N : Nat} {c0 : Int} {c2 : Int} {k : Mem → Option (Mem)} {K : KT} (Ra : Ru false (some (none, none, nCells, μe, 0, 0, (VT μe))) l en cX8_begin yX8_begin.cls 5 (rmN 3 136) K) (ht0 : ty c0 = 9) (hi2 : inR c2) (hk : ∀  (μ9 : Mem), k μ9 = some μe → VT μ9 → ∀ L9 : Lo, K ZN 179 L9 [] μ9) : ∀ (n : Nat) (x3 : Int) (μ : Mem) (L : Lo), pW_begin_L97 N c0 c2 k n x3 μ = some μe → inR x3 → VT μ → L 0 = some (vA en c0) → L 2 = some (vI c2) → L 3 = some (vI x3) → K ZN 97 L [] μ := by
  intro n
  induction n with
  | zero => intro x3 μ L h; cases h
  | succ n ih =>
    intro x3 μ L h hx3 hV hL0 hL2 hL3
    replace h : pW_begin_L97b N c0 c2 k (pW_begin_L97 N c0 c2 k n) x3 μ = some μe := h
    unfold pW_begin_L97b at h
    refine r_iload_n Ra (i := 3) dX8_begin_97 rfl hL3 ?_
    refine r_aload_n Ra (i := 0) dX8_begin_98 rfl hL0 ?_
    refine q_getA Ra (b := 2) f_X8_36 ht0 rfl rfl rfl (hV.ref ht0 rfl (by decide)) (by decide) dX8_begin_99 ?_
    refine q_getI Ra (x := μ 2 2) f_X8_58 t2 rfl rfl rfl rfl dX8_begin_102 ?_
    refine r_icmp_ge Ra 179 dX8_begin_105 hx3 (hV.int t2 rfl) rfl (fun hc => ?_) (fun hc => ?_)
    · replace h := ineg hc h
      exact hk μ h  hV _ 
    · replace h := ipos hc h
      refine r_aload_n Ra (i := 0) dX8_begin_108 rfl hL0 ?_
      refine r_iload_n Ra (i := 3) dX8_begin_109 rfl hL3 ?_
      refine r_iconst Ra dX8_begin_110 ?_
      obtain ⟨m111, hr111, h⟩ := bd h
      refine q_callVV Ra (c_pW_face hV ht0 hx3 (Rk rfl) hr111) mw_X8_face mi_X8_face ht0 rfl rfl rfl rfl rfl k_X8_63 rfl rfl dX8_begin_111 (fun ok111 => ?_)
      refine r_aload_n Ra (i := 0) dX8_begin_114 rfl hL0 ?_
      refine q_getA Ra (b := 2) f_X8_36 ht0 rfl rfl rfl (ok111.ref ht0 rfl (by decide)) (by decide) dX8_begin_115 ?_
      refine q_getA Ra (b := 9) f_X8_67 t2 rfl rfl rfl (ok111.ref t2 rfl (by decide)) (by decide) dX8_begin_118 ?_
      obtain ⟨r121, hr121, h⟩ := bd h
      refine q_callVI Ra (c_pU_isTold ok111 t9 hr121) mw_X6_isTold mi_X6_isTold t9 rfl rfl rfl rfl rfl k_X8_71 rfl rfl dX8_begin_121 (fun ok121 => ?_)
      obtain ⟨⟨ys0_145, n145⟩, hj145, h⟩ := bd h
      have hJ : inR ys0_145 → VT n145 → ∀ L9 : Lo, L9 0 = some (vA en c0) → L9 2 = some (vI c2) → L9 3 = some (vI x3) → K ZN 145 L9 [vI ys0_145] n145 := by
        intro iys0_145 hn145 L9 f145_0 f145_2 f145_3
        refine q_istore Ra dX8_begin_145 rfl rfl ?_
        refine r_aload_n Ra (i := 0) dX8_begin_147 rfl f145_0 ?_
        refine q_getA Ra (b := (c0 + 1)) f_X8_9 ht0 rfl rfl rfl (hn145.ref ht0 rfl (by decide)) (tin (tn9_1 ht0).1 rfl).1 dX8_begin_148 ?_
        refine r_iload_n Ra (i := 3) dX8_begin_151 rfl f145_3 ?_
        refine r_bipush Ra dX8_begin_152 rfl ?_
        refine r_aload_n Ra (i := 0) dX8_begin_154 rfl f145_0 ?_
        refine q_getA Ra (b := (c0 + 1)) f_X8_9 ht0 rfl rfl rfl (hn145.ref ht0 rfl (by decide)) (tin (tn9_1 ht0).1 rfl).1 dX8_begin_155 ?_
        refine r_iload_n Ra (i := 3) dX8_begin_158 rfl f145_3 ?_
        obtain ⟨gu159, h⟩ := gd h
        refine q_iald Ra (tn9_1 ht0).1 (tn9_1 ht0).2 gu159 dX8_begin_159 ?_
        refine r_iconst Ra dX8_begin_160 ?_
        refine r_iload Ra dX8_begin_161 rfl ?_
        refine q_mmax Ra (Rk rfl) iys0_145 k_X8_79 rfl rfl dX8_begin_163 ?_
        refine r_iload_n Ra (i := 2) dX8_begin_166 rfl f145_2 ?_
        refine r_imul Ra dX8_begin_167 ?_
        refine r_iadd Ra dX8_begin_168 ?_
        refine q_mmin Ra (Rk rfl) (inR_32 _) k_X8_85 rfl rfl dX8_begin_169 ?_
        obtain ⟨gu172, h⟩ := gd h
        obtain ⟨m172, em172, h⟩ := bv h
        have hm172 : VT m172 := eqV em172 (hn145.setI (tn9_1 ht0).1 (kd20 _) (inR_min (Rk rfl) (inR_32 _)))
        refine q_iast Ra (tn9_1 ht0).1 (tn9_1 ht0).2 gu172 em172 dX8_begin_172 ?_
        obtain ⟨x3_173, ex3_173, h⟩ := bv h
        have ix3_173 : inR x3_173 := eqR ex3_173 (inR_32 _)
        refine q_iinc Ra dX8_begin_173 f145_3 ex3_173 ?_
        refine r_goto Ra 97 dX8_begin_176 rfl ?_
        exact ih x3_173 m172 _ h ix3_173 hm172 f145_0 f145_2 rfl
      replace h := hj145
      refine r_if_eq Ra 144 dX8_begin_124 (inR_01 ok121) rfl (fun hc => ?_) (fun hc => ?_)
      · replace h := ipos hc h
        refine r_iconst Ra dX8_begin_144 ?_
        cases h
        exact hJ (Rk rfl) ok111 _ hL0 hL2 hL3
      · replace h := ineg hc h
        refine r_aload_n Ra (i := 0) dX8_begin_127 rfl hL0 ?_
        refine q_getA Ra (b := 2) f_X8_36 ht0 rfl rfl rfl (ok111.ref ht0 rfl (by decide)) (by decide) dX8_begin_128 ?_
        refine q_getA Ra (b := 9) f_X8_67 t2 rfl rfl rfl (ok111.ref t2 rfl (by decide)) (by decide) dX8_begin_131 ?_
        refine r_aload_n Ra (i := 0) dX8_begin_134 rfl hL0 ?_
        refine q_getA Ra (b := (c0 + 6)) f_X8_29 ht0 rfl rfl rfl (ok111.ref ht0 rfl (by decide)) (tin (tn9_6 ht0).1 rfl).1 dX8_begin_135 ?_
        obtain ⟨⟨r138, m138⟩, hr138, h⟩ := bd h
        refine q_callVI Ra (c_pU_value ok111 t9 (tn9_6 ht0).1 (tn9_6 ht0).2 hr138) mw_X6_value mi_X6_value t9 rfl rfl rfl rfl rfl k_X8_75 rfl rfl dX8_begin_138 (fun ok138 => ?_)
        obtain ⟨hV138, ok138⟩ := ok138
        refine r_goto Ra 145 dX8_begin_141 rfl ?_
        cases h
        exact hJ ok138 hV138 _ hL0 hL2 hL3
set_option maxHeartbeats 4000000 in
theorem c_pW_begin {l : Launch} {en : En} {N : Nat} {μ : Mem} {a0 : Int} {a1 : Int} {x2 : Int} {μe : Mem} (hV : VT μ) (ha0 : ty a0 = 9) (ha1 : ty a1 = 6) (hx2 : inR x2) (h : pW_begin N μ a0 a1 x2 = some μe) : CtV l en yX8_begin cX8_begin 5 3 136 [vA en a0, vA en a1, vI x2] μ μe (VT μe) := by
  refine Tr.of false (fun h => by cases h) (by decide) (Nat.le_of_ble_eq_true rfl) (fun K Ra => ?_)
  unfold pW_begin at h
  refine r_aload_n Ra (i := 0) dX8_begin_0 rfl rfl ?_
  refine r_aload_n Ra (i := 1) dX8_begin_1 rfl rfl ?_
  refine q_getI Ra (x := μ a1 0) f_X8_40 ha1 rfl rfl rfl rfl dX8_begin_2 ?_
  obtain ⟨m5, em5, h⟩ := bv h
  have hm5 : VT m5 := eqV em5 (hV.setI ha0 rfl (hV.int ha1 rfl))
  refine q_putI Ra f_X8_45 p_X8_9 ha0 rfl rfl rfl em5 dX8_begin_5 ?_
  refine r_aload_n Ra (i := 0) dX8_begin_8 rfl rfl ?_
  refine r_bipush Ra dX8_begin_9 rfl ?_
  obtain ⟨m11, em11, h⟩ := bv h
  have hm11 : VT m11 := eqV em11 (hm5.setI ha0 rfl (Rk rfl))
  refine q_putI Ra f_X8_32 p_X8_7 ha0 rfl rfl rfl em11 dX8_begin_11 ?_
  refine r_aload_n Ra (i := 1) dX8_begin_14 rfl rfl ?_
  refine q_getA Ra (b := (a1 + 1)) f_X8_46 ha1 rfl rfl rfl (hm11.ref ha1 rfl (by decide)) (tin (tn6_1 ha1).1 rfl).1 dX8_begin_15 ?_
  refine r_iconst Ra dX8_begin_18 ?_
  refine r_aload_n Ra (i := 0) dX8_begin_19 rfl rfl ?_
  refine q_getA Ra (b := (a0 + 1)) f_X8_9 ha0 rfl rfl rfl (hm11.ref ha0 rfl (by decide)) (tin (tn9_1 ha0).1 rfl).1 dX8_begin_20 ?_
  refine r_iconst Ra dX8_begin_23 ?_
  refine r_bipush Ra dX8_begin_24 rfl ?_
  obtain ⟨m26, em26, h⟩ := bv h
  have hm26 : VT m26 := eqV em26 (hm11.cpy (tn6_1 ha1).1 (tn9_1 ha0).1)
  refine q_copy Ra em26 (tn6_1 ha1).1 (tn9_1 ha0).1 (tn6_1 ha1).2 (tn9_1 ha0).2 (by decide) k_X8_47 rfl rfl dX8_begin_26 ?_
  refine r_aload_n Ra (i := 1) dX8_begin_29 rfl rfl ?_
  refine q_getA Ra (b := (a1 + 2)) f_X8_53 ha1 rfl rfl rfl (hm26.ref ha1 rfl (by decide)) (tin (tn6_2 ha1).1 rfl).1 dX8_begin_30 ?_
  refine r_iconst Ra dX8_begin_33 ?_
  refine r_aload_n Ra (i := 0) dX8_begin_34 rfl rfl ?_
  refine q_getA Ra (b := (a0 + 4)) f_X8_21 ha0 rfl rfl rfl (hm26.ref ha0 rfl (by decide)) (tin (tn9_4 ha0).1 rfl).1 dX8_begin_35 ?_
  refine r_iconst Ra dX8_begin_38 ?_
  refine r_bipush Ra dX8_begin_39 rfl ?_
  obtain ⟨m41, em41, h⟩ := bv h
  have hm41 : VT m41 := eqV em41 (hm26.cpy (tn6_2 ha1).1 (tn9_4 ha0).1)
  refine q_copy Ra em41 (tn6_2 ha1).1 (tn9_4 ha0).1 (tn6_2 ha1).2 (tn9_4 ha0).2 (by decide) k_X8_47 rfl rfl dX8_begin_41 ?_
  refine r_aload_n Ra (i := 1) dX8_begin_44 rfl rfl ?_
  refine q_getA Ra (b := (a1 + 3)) f_X8_56 ha1 rfl rfl rfl (hm41.ref ha1 rfl (by decide)) (tin (tn6_3 ha1).1 rfl).1 dX8_begin_45 ?_
  refine r_iconst Ra dX8_begin_48 ?_
  refine r_aload_n Ra (i := 0) dX8_begin_49 rfl rfl ?_
  refine q_getA Ra (b := (a0 + 2)) f_X8_15 ha0 rfl rfl rfl (hm41.ref ha0 rfl (by decide)) (tin (tn9_2 ha0).1 rfl).1 dX8_begin_50 ?_
  refine r_iconst Ra dX8_begin_53 ?_
  refine r_bipush Ra dX8_begin_54 rfl ?_
  obtain ⟨m56, em56, h⟩ := bv h
  have hm56 : VT m56 := eqV em56 (hm41.cpy (tn6_3 ha1).1 (tn9_2 ha0).1)
  refine q_copy Ra em56 (tn6_3 ha1).1 (tn9_2 ha0).1 (tn6_3 ha1).2 (tn9_2 ha0).2 (by decide) k_X8_47 rfl rfl dX8_begin_56 ?_
  refine r_aload_n Ra (i := 1) dX8_begin_59 rfl rfl ?_
  refine q_getA Ra (b := (a1 + 4)) f_X8_57 ha1 rfl rfl rfl (hm56.ref ha1 rfl (by decide)) (tin (tn6_4 ha1).1 rfl).1 dX8_begin_60 ?_
  refine r_iconst Ra dX8_begin_63 ?_
  refine r_aload_n Ra (i := 0) dX8_begin_64 rfl rfl ?_
  refine q_getA Ra (b := (a0 + 3)) f_X8_18 ha0 rfl rfl rfl (hm56.ref ha0 rfl (by decide)) (tin (tn9_3 ha0).1 rfl).1 dX8_begin_65 ?_
  refine r_iconst Ra dX8_begin_68 ?_
  refine r_bipush Ra dX8_begin_69 rfl ?_
  obtain ⟨m71, em71, h⟩ := bv h
  have hm71 : VT m71 := eqV em71 (hm56.cpy (tn6_4 ha1).1 (tn9_3 ha0).1)
  refine q_copy Ra em71 (tn6_4 ha1).1 (tn9_3 ha0).1 (tn6_4 ha1).2 (tn9_3 ha0).2 (by decide) k_X8_47 rfl rfl dX8_begin_71 ?_
  refine r_iconst Ra dX8_begin_74 ?_
  refine q_istore_n Ra 3 dX8_begin_75 rfl rfl rfl ?_
  refine k_pW_begin_L76 Ra ha0 hx2 ?_ _ _ _ _ h (Rk rfl) hm71 rfl rfl rfl
  intro n95 h hn95 L9 f95_0 f95_2
  refine r_iconst Ra dX8_begin_95 ?_
  refine q_istore_n Ra 3 dX8_begin_96 rfl rfl rfl ?_
  refine k_pW_begin_L97 Ra ha0 hx2 ?_ _ _ _ _ h (Rk rfl) hn95 f95_0 f95_2 rfl
  intro n179 h hn179 L9 
  cases h
  exact r_vret Ra hn179 dX8_begin_179
noncomputable def pW_dryUp_L2b (N : Nat) (c0 : Int) (c1 : Int) (k : Mem → Option (Mem)) (self : Int → Mem → Option (Mem)) (x2 : Int) (μ : Mem) : Option (Mem) := if x2 < μ 2 2 then if 0 ≤ x2 ∧ x2 < 64 then if 0 < μ (c0 + 1) x2 then (pW_face μ c0 x2 c1).bind fun m25 => (pU_isTold m25 12).bind fun r35 => (if r35 = 0 then some ((1 : Int), m25) else (pU_value N m25 12 (c0 + 6)).bind fun (r52, m52) => some (r52, m52)).bind fun (ys0_59, n59) => if 0 ≤ x2 ∧ x2 < 64 then if 0 ≤ x2 ∧ x2 < 64 then if 0 ≤ x2 ∧ x2 < 64 then (some (mset n59 (c0 + 1) x2 (w32 ((n59 (c0 + 1) x2) - (max 0 (min (n59 (c0 + 1) x2) ys0_59)))))).bind fun m82 => (some (w32 (x2 + 1) : Int)).bind fun x2_83 => self x2_83 m82 else none else none else none else (some (w32 (x2 + 1) : Int)).bind fun x2_83 => self x2_83 μ else none else k μ
noncomputable def pW_dryUp_L2 (N : Nat) (c0 : Int) (c1 : Int) (k : Mem → Option (Mem)) (n : Nat) : Int → Mem → Option (Mem) := lpF (fun _ _ => none) (pW_dryUp_L2b N c0 c1 k) n
noncomputable def pW_dryUp (N : Nat) (μ : Mem) (a0 : Int) (x1 : Int) : Option (Mem) := pW_dryUp_L2 N a0 x1 (fun n89 => some n89) N 0 μ
theorem k_pW_dryUp_L2 {l : Launch} {en : En} {μe : Mem} {N : Nat} {c0 : Int} {c1 : Int} {k : Mem → Option (Mem)} {K : KT} (Ra : Ru false (some (none, none, nCells, μe, 0, 0, (VT μe))) l en cX8_dryUp yX8_dryUp.cls 4 (rmN 3 136) K) (ht0 : ty c0 = 9) (hi1 : inR c1) (hk : ∀  (μ9 : Mem), k μ9 = some μe → VT μ9 → ∀ L9 : Lo, K ZN 89 L9 [] μ9) : ∀ (n : Nat) (x2 : Int) (μ : Mem) (L : Lo), pW_dryUp_L2 N c0 c1 k n x2 μ = some μe → inR x2 → VT μ → L 0 = some (vA en c0) → L 1 = some (vI c1) → L 2 = some (vI x2) → K ZN 2 L [] μ := by
  intro n
  induction n with
  | zero => intro x2 μ L h; cases h
  | succ n ih =>
    intro x2 μ L h hx2 hV hL0 hL1 hL2
    replace h : pW_dryUp_L2b N c0 c1 k (pW_dryUp_L2 N c0 c1 k n) x2 μ = some μe := h
    unfold pW_dryUp_L2b at h
    refine r_iload_n Ra (i := 2) dX8_dryUp_2 rfl hL2 ?_
    refine r_aload_n Ra (i := 0) dX8_dryUp_3 rfl hL0 ?_
    refine q_getA Ra (b := 2) f_X8_36 ht0 rfl rfl rfl (hV.ref ht0 rfl (by decide)) (by decide) dX8_dryUp_4 ?_
    refine q_getI Ra (x := μ 2 2) f_X8_58 t2 rfl rfl rfl rfl dX8_dryUp_7 ?_
    refine r_icmp_ge Ra 89 dX8_dryUp_10 hx2 (hV.int t2 rfl) rfl (fun hc => ?_) (fun hc => ?_)
    · replace h := ineg hc h
      exact hk μ h  hV _ 
    · replace h := ipos hc h
      refine r_aload_n Ra (i := 0) dX8_dryUp_13 rfl hL0 ?_
      refine q_getA Ra (b := (c0 + 1)) f_X8_9 ht0 rfl rfl rfl (hV.ref ht0 rfl (by decide)) (tin (tn9_1 ht0).1 rfl).1 dX8_dryUp_14 ?_
      refine r_iload_n Ra (i := 2) dX8_dryUp_17 rfl hL2 ?_
      obtain ⟨gu18, h⟩ := gd h
      refine q_iald Ra (tn9_1 ht0).1 (tn9_1 ht0).2 gu18 dX8_dryUp_18 ?_
      refine r_if_le Ra 83 dX8_dryUp_19 (hV.int (tn9_1 ht0).1 (kd20 _)) rfl (fun hc => ?_) (fun hc => ?_)
      · replace h := ineg hc h
        obtain ⟨x2_83, ex2_83, h⟩ := bv h
        have ix2_83 : inR x2_83 := eqR ex2_83 (inR_32 _)
        refine q_iinc Ra dX8_dryUp_83 hL2 ex2_83 ?_
        refine r_goto Ra 2 dX8_dryUp_86 rfl ?_
        exact ih x2_83 μ _ h ix2_83 hV hL0 hL1 rfl
      · replace h := ipos hc h
        refine r_aload_n Ra (i := 0) dX8_dryUp_22 rfl hL0 ?_
        refine r_iload_n Ra (i := 2) dX8_dryUp_23 rfl hL2 ?_
        refine r_iload_n Ra (i := 1) dX8_dryUp_24 rfl hL1 ?_
        obtain ⟨m25, hr25, h⟩ := bd h
        refine q_callVV Ra (c_pW_face hV ht0 hx2 hi1 hr25) mw_X8_face mi_X8_face ht0 rfl rfl rfl rfl rfl k_X8_63 rfl rfl dX8_dryUp_25 (fun ok25 => ?_)
        refine r_aload_n Ra (i := 0) dX8_dryUp_28 rfl hL0 ?_
        refine q_getA Ra (b := 2) f_X8_36 ht0 rfl rfl rfl (ok25.ref ht0 rfl (by decide)) (by decide) dX8_dryUp_29 ?_
        refine q_getA Ra (b := 12) f_X8_112 t2 rfl rfl rfl (ok25.ref t2 rfl (by decide)) (by decide) dX8_dryUp_32 ?_
        obtain ⟨r35, hr35, h⟩ := bd h
        refine q_callVI Ra (c_pU_isTold ok25 t12 hr35) mw_X6_isTold mi_X6_isTold t12 rfl rfl rfl rfl rfl k_X8_71 rfl rfl dX8_dryUp_35 (fun ok35 => ?_)
        obtain ⟨⟨ys0_59, n59⟩, hj59, h⟩ := bd h
        have hJ : inR ys0_59 → VT n59 → ∀ L9 : Lo, L9 0 = some (vA en c0) → L9 1 = some (vI c1) → L9 2 = some (vI x2) → K ZN 59 L9 [vI ys0_59] n59 := by
          intro iys0_59 hn59 L9 f59_0 f59_1 f59_2
          refine q_istore_n Ra 3 dX8_dryUp_59 rfl rfl rfl ?_
          refine r_aload_n Ra (i := 0) dX8_dryUp_60 rfl f59_0 ?_
          refine q_getA Ra (b := (c0 + 1)) f_X8_9 ht0 rfl rfl rfl (hn59.ref ht0 rfl (by decide)) (tin (tn9_1 ht0).1 rfl).1 dX8_dryUp_61 ?_
          refine r_iload_n Ra (i := 2) dX8_dryUp_64 rfl f59_2 ?_
          refine r_dup2 Ra dX8_dryUp_65 ?_
          obtain ⟨gu66, h⟩ := gd h
          refine q_iald Ra (tn9_1 ht0).1 (tn9_1 ht0).2 gu66 dX8_dryUp_66 ?_
          refine r_iconst Ra dX8_dryUp_67 ?_
          refine r_aload_n Ra (i := 0) dX8_dryUp_68 rfl f59_0 ?_
          refine q_getA Ra (b := (c0 + 1)) f_X8_9 ht0 rfl rfl rfl (hn59.ref ht0 rfl (by decide)) (tin (tn9_1 ht0).1 rfl).1 dX8_dryUp_69 ?_
          refine r_iload_n Ra (i := 2) dX8_dryUp_72 rfl f59_2 ?_
          obtain ⟨gu73, h⟩ := gd h
          refine q_iald Ra (tn9_1 ht0).1 (tn9_1 ht0).2 gu73 dX8_dryUp_73 ?_
          refine r_iload_n Ra (i := 3) dX8_dryUp_74 rfl rfl ?_
          refine q_mmin Ra (hn59.int (tn9_1 ht0).1 (kd20 _)) iys0_59 k_X8_85 rfl rfl dX8_dryUp_75 ?_
          refine q_mmax Ra (Rk rfl) (inR_min (hn59.int (tn9_1 ht0).1 (kd20 _)) iys0_59) k_X8_79 rfl rfl dX8_dryUp_78 ?_
          refine r_isub Ra dX8_dryUp_81 ?_
          obtain ⟨gu82, h⟩ := gd h
          obtain ⟨m82, em82, h⟩ := bv h
          have hm82 : VT m82 := eqV em82 (hn59.setI (tn9_1 ht0).1 (kd20 _) (inR_32 _))
          refine q_iast Ra (tn9_1 ht0).1 (tn9_1 ht0).2 gu82 em82 dX8_dryUp_82 ?_
          obtain ⟨x2_83, ex2_83, h⟩ := bv h
          have ix2_83 : inR x2_83 := eqR ex2_83 (inR_32 _)
          refine q_iinc Ra dX8_dryUp_83 f59_2 ex2_83 ?_
          refine r_goto Ra 2 dX8_dryUp_86 rfl ?_
          exact ih x2_83 m82 _ h ix2_83 hm82 f59_0 f59_1 rfl
        replace h := hj59
        refine r_if_eq Ra 58 dX8_dryUp_38 (inR_01 ok35) rfl (fun hc => ?_) (fun hc => ?_)
        · replace h := ipos hc h
          refine r_iconst Ra dX8_dryUp_58 ?_
          cases h
          exact hJ (Rk rfl) ok25 _ hL0 hL1 hL2
        · replace h := ineg hc h
          refine r_aload_n Ra (i := 0) dX8_dryUp_41 rfl hL0 ?_
          refine q_getA Ra (b := 2) f_X8_36 ht0 rfl rfl rfl (ok25.ref ht0 rfl (by decide)) (by decide) dX8_dryUp_42 ?_
          refine q_getA Ra (b := 12) f_X8_112 t2 rfl rfl rfl (ok25.ref t2 rfl (by decide)) (by decide) dX8_dryUp_45 ?_
          refine r_aload_n Ra (i := 0) dX8_dryUp_48 rfl hL0 ?_
          refine q_getA Ra (b := (c0 + 6)) f_X8_29 ht0 rfl rfl rfl (ok25.ref ht0 rfl (by decide)) (tin (tn9_6 ht0).1 rfl).1 dX8_dryUp_49 ?_
          obtain ⟨⟨r52, m52⟩, hr52, h⟩ := bd h
          refine q_callVI Ra (c_pU_value ok25 t12 (tn9_6 ht0).1 (tn9_6 ht0).2 hr52) mw_X6_value mi_X6_value t12 rfl rfl rfl rfl rfl k_X8_75 rfl rfl dX8_dryUp_52 (fun ok52 => ?_)
          obtain ⟨hV52, ok52⟩ := ok52
          refine r_goto Ra 59 dX8_dryUp_55 rfl ?_
          cases h
          exact hJ ok52 hV52 _ hL0 hL1 hL2
set_option maxHeartbeats 4000000 in
theorem c_pW_dryUp {l : Launch} {en : En} {N : Nat} {μ : Mem} {a0 : Int} {x1 : Int} {μe : Mem} (hV : VT μ) (ha0 : ty a0 = 9) (hx1 : inR x1) (h : pW_dryUp N μ a0 x1 = some μe) : CtV l en yX8_dryUp cX8_dryUp 4 3 136 [vA en a0, vI x1] μ μe (VT μe) := by
  refine Tr.of false (fun h => by cases h) (by decide) (Nat.le_of_ble_eq_true rfl) (fun K Ra => ?_)
  unfold pW_dryUp at h
  refine r_iconst Ra dX8_dryUp_0 ?_
  refine q_istore_n Ra 2 dX8_dryUp_1 rfl rfl rfl ?_
  refine k_pW_dryUp_L2 Ra ha0 hx1 ?_ _ _ _ _ h (Rk rfl) hV rfl rfl rfl
  intro n89 h hn89 L9 
  cases h
  exact r_vret Ra hn89 dX8_dryUp_89
noncomputable def pW_go (N : Nat) (μ : Mem) (a0 : Int) (x1 : Int) (x2 : Int) (x3 : Int) : Option (Mem) := if 0 ≤ x1 ∧ x1 < 6 then (some (mset μ (a0 + 4) x1 x2)).bind fun m6 => if 0 ≤ x2 ∧ x2 < 64 then if 0 ≤ x1 ∧ x1 < 6 then if 0 ≤ x1 ∧ x1 < 6 then (some (min (m6 (a0 + 1) x2) (w32 ((m6 (a0 + 3) x1) - (m6 (a0 + 5) x1))) : Int)).bind fun x4_29 => if 0 < x4_29 then (pU_isTold m6 15).bind fun r48 => (if r48 = 0 then some ((9 : Int), m6) else (pW_face m6 a0 x2 x3).bind fun m57 => if 0 ≤ x1 ∧ x1 < 6 then (some (mset m57 (a0 + 6) 5 (m57 (a0 + 5) x1))).bind fun m71 => if 0 ≤ x1 ∧ x1 < 6 then (some (mset m71 (a0 + 6) 6 (m71 (a0 + 3) x1))).bind fun m84 => (pU_value N m84 15 (a0 + 6)).bind fun (r96, m96) => some (r96, m96) else none else none).bind fun (yl5_101, n101) => (some (max 0 (min x4_29 yl5_101) : Int)).bind fun x6_112 => if 0 ≤ x1 ∧ x1 < 6 then if 0 ≤ x1 ∧ x1 < 6 then (some (mset n101 (a0 + 5) x1 (w32 ((n101 (a0 + 5) x1) + x6_112)))).bind fun m124 => if 0 ≤ x2 ∧ x2 < 64 then if 0 ≤ x2 ∧ x2 < 64 then (some (mset m124 (a0 + 1) x2 (w32 ((m124 (a0 + 1) x2) - x6_112)))).bind fun m135 => some m135 else none else none else none else none else some m6 else none else none else none else none
set_option maxHeartbeats 4000000 in
theorem c_pW_go {l : Launch} {en : En} {N : Nat} {μ : Mem} {a0 : Int} {x1 : Int} {x2 : Int} {x3 : Int} {μe : Mem} (hV : VT μ) (ha0 : ty a0 = 9) (hx1 : inR x1) (hx2 : inR x2) (hx3 : inR x3) (h : pW_go N μ a0 x1 x2 x3 = some μe) : CtV l en yX8_go cX8_go 7 3 136 [vA en a0, vI x1, vI x2, vI x3] μ μe (VT μe) := by
  refine Tr.of false (fun h => by cases h) (by decide) (Nat.le_of_ble_eq_true rfl) (fun K Ra => ?_)
  unfold pW_go at h
  refine r_aload_n Ra (i := 0) dX8_go_0 rfl rfl ?_
  refine q_getA Ra (b := (a0 + 4)) f_X8_21 ha0 rfl rfl rfl (hV.ref ha0 rfl (by decide)) (tin (tn9_4 ha0).1 rfl).1 dX8_go_1 ?_
  refine r_iload_n Ra (i := 1) dX8_go_4 rfl rfl ?_
  refine r_iload_n Ra (i := 2) dX8_go_5 rfl rfl ?_
  obtain ⟨gu6, h⟩ := gd h
  obtain ⟨m6, em6, h⟩ := bv h
  have hm6 : VT m6 := eqV em6 (hV.setI (tn9_4 ha0).1 (kd20 _) hx2)
  refine q_iast Ra (tn9_4 ha0).1 (tn9_4 ha0).2 gu6 em6 dX8_go_6 ?_
  refine r_aload_n Ra (i := 0) dX8_go_7 rfl rfl ?_
  refine q_getA Ra (b := (a0 + 1)) f_X8_9 ha0 rfl rfl rfl (hm6.ref ha0 rfl (by decide)) (tin (tn9_1 ha0).1 rfl).1 dX8_go_8 ?_
  refine r_iload_n Ra (i := 2) dX8_go_11 rfl rfl ?_
  obtain ⟨gu12, h⟩ := gd h
  refine q_iald Ra (tn9_1 ha0).1 (tn9_1 ha0).2 gu12 dX8_go_12 ?_
  refine r_aload_n Ra (i := 0) dX8_go_13 rfl rfl ?_
  refine q_getA Ra (b := (a0 + 3)) f_X8_18 ha0 rfl rfl rfl (hm6.ref ha0 rfl (by decide)) (tin (tn9_3 ha0).1 rfl).1 dX8_go_14 ?_
  refine r_iload_n Ra (i := 1) dX8_go_17 rfl rfl ?_
  obtain ⟨gu18, h⟩ := gd h
  refine q_iald Ra (tn9_3 ha0).1 (tn9_3 ha0).2 gu18 dX8_go_18 ?_
  refine r_aload_n Ra (i := 0) dX8_go_19 rfl rfl ?_
  refine q_getA Ra (b := (a0 + 5)) f_X8_24 ha0 rfl rfl rfl (hm6.ref ha0 rfl (by decide)) (tin (tn9_5 ha0).1 rfl).1 dX8_go_20 ?_
  refine r_iload_n Ra (i := 1) dX8_go_23 rfl rfl ?_
  obtain ⟨gu24, h⟩ := gd h
  refine q_iald Ra (tn9_5 ha0).1 (tn9_5 ha0).2 gu24 dX8_go_24 ?_
  refine r_isub Ra dX8_go_25 ?_
  refine q_mmin Ra (hm6.int (tn9_1 ha0).1 (kd20 _)) (inR_32 _) k_X8_85 rfl rfl dX8_go_26 ?_
  obtain ⟨x4_29, ex4_29, h⟩ := bv h
  have ix4_29 : inR x4_29 := eqR ex4_29 (inR_min (hm6.int (tn9_1 ha0).1 (kd20 _)) (inR_32 _))
  refine q_istore Ra dX8_go_29 rfl ex4_29 ?_
  refine r_iload Ra dX8_go_31 rfl ?_
  refine r_if_gt Ra 37 dX8_go_33 ix4_29 rfl (fun hc => ?_) (fun hc => ?_)
  · replace h := ipos hc h
    refine r_bipush Ra dX8_go_37 rfl ?_
    refine q_istore Ra dX8_go_39 rfl rfl ?_
    refine r_aload_n Ra (i := 0) dX8_go_41 rfl rfl ?_
    refine q_getA Ra (b := 2) f_X8_36 ha0 rfl rfl rfl (hm6.ref ha0 rfl (by decide)) (by decide) dX8_go_42 ?_
    refine q_getA Ra (b := 15) f_X8_106 t2 rfl rfl rfl (hm6.ref t2 rfl (by decide)) (by decide) dX8_go_45 ?_
    obtain ⟨r48, hr48, h⟩ := bd h
    refine q_callVI Ra (c_pU_isTold hm6 t15 hr48) mw_X6_isTold mi_X6_isTold t15 rfl rfl rfl rfl rfl k_X8_71 rfl rfl dX8_go_48 (fun ok48 => ?_)
    obtain ⟨⟨yl5_101, n101⟩, hj101, h⟩ := bd h
    have hJ : inR yl5_101 → VT n101 → ∀ L9 : Lo, L9 0 = some (vA en a0) → L9 1 = some (vI x1) → L9 2 = some (vI x2) → L9 4 = some (vI x4_29) → L9 5 = some (vI yl5_101) → K ZN 101 L9 [] n101 := by
      intro iyl5_101 hn101 L9 f101_0 f101_1 f101_2 f101_4 f101_5
      refine r_iconst Ra dX8_go_101 ?_
      refine r_iload Ra dX8_go_102 f101_4 ?_
      refine r_iload Ra dX8_go_104 f101_5 ?_
      refine q_mmin Ra ix4_29 iyl5_101 k_X8_85 rfl rfl dX8_go_106 ?_
      refine q_mmax Ra (Rk rfl) (inR_min ix4_29 iyl5_101) k_X8_79 rfl rfl dX8_go_109 ?_
      obtain ⟨x6_112, ex6_112, h⟩ := bv h
      have ix6_112 : inR x6_112 := eqR ex6_112 (inR_max (Rk rfl) (inR_min ix4_29 iyl5_101))
      refine q_istore Ra dX8_go_112 rfl ex6_112 ?_
      refine r_aload_n Ra (i := 0) dX8_go_114 rfl f101_0 ?_
      refine q_getA Ra (b := (a0 + 5)) f_X8_24 ha0 rfl rfl rfl (hn101.ref ha0 rfl (by decide)) (tin (tn9_5 ha0).1 rfl).1 dX8_go_115 ?_
      refine r_iload_n Ra (i := 1) dX8_go_118 rfl f101_1 ?_
      refine r_dup2 Ra dX8_go_119 ?_
      obtain ⟨gu120, h⟩ := gd h
      refine q_iald Ra (tn9_5 ha0).1 (tn9_5 ha0).2 gu120 dX8_go_120 ?_
      refine r_iload Ra dX8_go_121 rfl ?_
      refine r_iadd Ra dX8_go_123 ?_
      obtain ⟨gu124, h⟩ := gd h
      obtain ⟨m124, em124, h⟩ := bv h
      have hm124 : VT m124 := eqV em124 (hn101.setI (tn9_5 ha0).1 (kd20 _) (inR_32 _))
      refine q_iast Ra (tn9_5 ha0).1 (tn9_5 ha0).2 gu124 em124 dX8_go_124 ?_
      refine r_aload_n Ra (i := 0) dX8_go_125 rfl f101_0 ?_
      refine q_getA Ra (b := (a0 + 1)) f_X8_9 ha0 rfl rfl rfl (hm124.ref ha0 rfl (by decide)) (tin (tn9_1 ha0).1 rfl).1 dX8_go_126 ?_
      refine r_iload_n Ra (i := 2) dX8_go_129 rfl f101_2 ?_
      refine r_dup2 Ra dX8_go_130 ?_
      obtain ⟨gu131, h⟩ := gd h
      refine q_iald Ra (tn9_1 ha0).1 (tn9_1 ha0).2 gu131 dX8_go_131 ?_
      refine r_iload Ra dX8_go_132 rfl ?_
      refine r_isub Ra dX8_go_134 ?_
      obtain ⟨gu135, h⟩ := gd h
      obtain ⟨m135, em135, h⟩ := bv h
      have hm135 : VT m135 := eqV em135 (hm124.setI (tn9_1 ha0).1 (kd20 _) (inR_32 _))
      refine q_iast Ra (tn9_1 ha0).1 (tn9_1 ha0).2 gu135 em135 dX8_go_135 ?_
      cases h
      exact r_vret Ra hm135 dX8_go_136
    replace h := hj101
    refine r_if_eq Ra 101 dX8_go_51 (inR_01 ok48) rfl (fun hc => ?_) (fun hc => ?_)
    · replace h := ipos hc h
      cases h
      exact hJ (Rk rfl) hm6 _ rfl rfl rfl rfl rfl
    · replace h := ineg hc h
      refine r_aload_n Ra (i := 0) dX8_go_54 rfl rfl ?_
      refine r_iload_n Ra (i := 2) dX8_go_55 rfl rfl ?_
      refine r_iload_n Ra (i := 3) dX8_go_56 rfl rfl ?_
      obtain ⟨m57, hr57, h⟩ := bd h
      refine q_callVV Ra (c_pW_face hm6 ha0 hx2 hx3 hr57) mw_X8_face mi_X8_face ha0 rfl rfl rfl rfl rfl k_X8_63 rfl rfl dX8_go_57 (fun ok57 => ?_)
      refine r_aload_n Ra (i := 0) dX8_go_60 rfl rfl ?_
      refine q_getA Ra (b := (a0 + 6)) f_X8_29 ha0 rfl rfl rfl (ok57.ref ha0 rfl (by decide)) (tin (tn9_6 ha0).1 rfl).1 dX8_go_61 ?_
      refine r_iconst Ra dX8_go_64 ?_
      refine r_aload_n Ra (i := 0) dX8_go_65 rfl rfl ?_
      refine q_getA Ra (b := (a0 + 5)) f_X8_24 ha0 rfl rfl rfl (ok57.ref ha0 rfl (by decide)) (tin (tn9_5 ha0).1 rfl).1 dX8_go_66 ?_
      refine r_iload_n Ra (i := 1) dX8_go_69 rfl rfl ?_
      obtain ⟨gu70, h⟩ := gd h
      refine q_iald Ra (tn9_5 ha0).1 (tn9_5 ha0).2 gu70 dX8_go_70 ?_
      obtain ⟨m71, em71, h⟩ := bv h
      have hm71 : VT m71 := eqV em71 (ok57.setI (tn9_6 ha0).1 (kd20 _) (ok57.int (tn9_5 ha0).1 (kd20 _)))
      refine q_iast Ra (tn9_6 ha0).1 (tn9_6 ha0).2 (by decide) em71 dX8_go_71 ?_
      refine r_aload_n Ra (i := 0) dX8_go_72 rfl rfl ?_
      refine q_getA Ra (b := (a0 + 6)) f_X8_29 ha0 rfl rfl rfl (hm71.ref ha0 rfl (by decide)) (tin (tn9_6 ha0).1 rfl).1 dX8_go_73 ?_
      refine r_bipush Ra dX8_go_76 rfl ?_
      refine r_aload_n Ra (i := 0) dX8_go_78 rfl rfl ?_
      refine q_getA Ra (b := (a0 + 3)) f_X8_18 ha0 rfl rfl rfl (hm71.ref ha0 rfl (by decide)) (tin (tn9_3 ha0).1 rfl).1 dX8_go_79 ?_
      refine r_iload_n Ra (i := 1) dX8_go_82 rfl rfl ?_
      obtain ⟨gu83, h⟩ := gd h
      refine q_iald Ra (tn9_3 ha0).1 (tn9_3 ha0).2 gu83 dX8_go_83 ?_
      obtain ⟨m84, em84, h⟩ := bv h
      have hm84 : VT m84 := eqV em84 (hm71.setI (tn9_6 ha0).1 (kd20 _) (hm71.int (tn9_3 ha0).1 (kd20 _)))
      refine q_iast Ra (tn9_6 ha0).1 (tn9_6 ha0).2 (by decide) em84 dX8_go_84 ?_
      refine r_aload_n Ra (i := 0) dX8_go_85 rfl rfl ?_
      refine q_getA Ra (b := 2) f_X8_36 ha0 rfl rfl rfl (hm84.ref ha0 rfl (by decide)) (by decide) dX8_go_86 ?_
      refine q_getA Ra (b := 15) f_X8_106 t2 rfl rfl rfl (hm84.ref t2 rfl (by decide)) (by decide) dX8_go_89 ?_
      refine r_aload_n Ra (i := 0) dX8_go_92 rfl rfl ?_
      refine q_getA Ra (b := (a0 + 6)) f_X8_29 ha0 rfl rfl rfl (hm84.ref ha0 rfl (by decide)) (tin (tn9_6 ha0).1 rfl).1 dX8_go_93 ?_
      obtain ⟨⟨r96, m96⟩, hr96, h⟩ := bd h
      refine q_callVI Ra (c_pU_value hm84 t15 (tn9_6 ha0).1 (tn9_6 ha0).2 hr96) mw_X6_value mi_X6_value t15 rfl rfl rfl rfl rfl k_X8_75 rfl rfl dX8_go_96 (fun ok96 => ?_)
      obtain ⟨hV96, ok96⟩ := ok96
      refine q_istore Ra dX8_go_99 rfl rfl ?_
      cases h
      exact hJ ok96 hV96 _ rfl rfl rfl rfl rfl
  · replace h := ineg hc h
    cases h
    exact r_vret Ra hm6 dX8_go_36
noncomputable def pP_beside (μ : Mem) (a0 : Int) (x1 : Int) (x2 : Int) : Option (Int) := if x2 = 0 then some (x1) else if x2 = 1 then (pP_columnOf μ a0 x1).bind fun r40 => if 0 < r40 then some (w32 (x1 - 1)) else some ((-1)) else if x2 = 2 then (pP_columnOf μ a0 x1).bind fun r56 => if w32 (r56 + 1) < μ a0 0 then some (w32 (x1 + 1)) else some ((-1)) else if x2 = 3 then if x1 < μ a0 0 then some ((-1)) else some (w32 (x1 - (μ a0 0))) else if x2 = 4 then if w32 (x1 + (μ a0 0)) < μ a0 2 then some (w32 (x1 + (μ a0 0))) else some ((-1)) else some ((-1))
set_option maxHeartbeats 4000000 in
theorem c_pP_beside {l : Launch} {en : En} {μ : Mem} {a0 : Int} {x1 : Int} {x2 : Int} {re : Int} (hV : VT μ) (ha0 : ty a0 = 4) (hx1 : inR x1) (hx2 : inR x2) (h : pP_beside μ a0 x1 x2 = some re) : CtI l en yX3_beside cX3_beside 3 1 81 [vA en a0, vI x1, vI x2] μ .int re μ (inR re) := by
  refine Tr.of false (fun h => by cases h) (by decide) (Nat.le_of_ble_eq_true rfl) (fun K Ra => ?_)
  unfold pP_beside at h
  refine r_iload_n Ra (i := 2) dX3_beside_0 rfl rfl ?_
  by_cases hc : x2 = 0
  · replace h := ipos hc h
    refine q_tableC Ra 36 dX3_beside_1 hx2 hc rfl rfl rfl ?_
    refine r_iload_n Ra (i := 1) dX3_beside_36 rfl rfl ?_
    cases h
    exact r_iret Ra hx1 dX3_beside_37
  · have hs1_0 := hc
    replace h := ineg hc h
    by_cases hc : x2 = 1
    · replace h := ipos hc h
      refine q_tableC Ra 38 dX3_beside_1 hx2 hc rfl rfl rfl ?_
      refine r_aload_n Ra (i := 0) dX3_beside_38 rfl rfl ?_
      refine r_iload_n Ra (i := 1) dX3_beside_39 rfl rfl ?_
      obtain ⟨r40, hr40, h⟩ := bd h
      refine q_callVI Ra (c_pP_columnOf hV ha0 hx1 hr40) mw_X3_columnOf mi_X3_columnOf ha0 rfl rfl rfl rfl rfl k_X3_75 rfl rfl dX3_beside_40 (fun ok40 => ?_)
      refine r_if_le Ra 52 dX3_beside_43 ok40 rfl (fun hc => ?_) (fun hc => ?_)
      · replace h := ineg hc h
        refine r_iconst Ra dX3_beside_52 ?_
        cases h
        exact r_iret Ra (Rk rfl) dX3_beside_53
      · replace h := ipos hc h
        refine r_iload_n Ra (i := 1) dX3_beside_46 rfl rfl ?_
        refine r_iconst Ra dX3_beside_47 ?_
        refine r_isub Ra dX3_beside_48 ?_
        refine r_goto Ra 53 dX3_beside_49 rfl ?_
        cases h
        exact r_iret Ra (inR_32 _) dX3_beside_53
    · have hs1_1 := hc
      replace h := ineg hc h
      by_cases hc : x2 = 2
      · replace h := ipos hc h
        refine q_tableC Ra 54 dX3_beside_1 hx2 hc rfl rfl rfl ?_
        refine r_aload_n Ra (i := 0) dX3_beside_54 rfl rfl ?_
        refine r_iload_n Ra (i := 1) dX3_beside_55 rfl rfl ?_
        obtain ⟨r56, hr56, h⟩ := bd h
        refine q_callVI Ra (c_pP_columnOf hV ha0 hx1 hr56) mw_X3_columnOf mi_X3_columnOf ha0 rfl rfl rfl rfl rfl k_X3_75 rfl rfl dX3_beside_56 (fun ok56 => ?_)
        refine r_iconst Ra dX3_beside_59 ?_
        refine r_iadd Ra dX3_beside_60 ?_
        refine r_aload_n Ra (i := 0) dX3_beside_61 rfl rfl ?_
        refine q_getI Ra (x := μ a0 0) f_X3_43 ha0 rfl rfl rfl rfl dX3_beside_62 ?_
        refine r_icmp_ge Ra 74 dX3_beside_65 (inR_32 _) (hV.int ha0 rfl) rfl (fun hc => ?_) (fun hc => ?_)
        · replace h := ineg hc h
          refine r_iconst Ra dX3_beside_74 ?_
          cases h
          exact r_iret Ra (Rk rfl) dX3_beside_75
        · replace h := ipos hc h
          refine r_iload_n Ra (i := 1) dX3_beside_68 rfl rfl ?_
          refine r_iconst Ra dX3_beside_69 ?_
          refine r_iadd Ra dX3_beside_70 ?_
          refine r_goto Ra 75 dX3_beside_71 rfl ?_
          cases h
          exact r_iret Ra (inR_32 _) dX3_beside_75
      · have hs1_2 := hc
        replace h := ineg hc h
        by_cases hc : x2 = 3
        · replace h := ipos hc h
          refine q_tableC Ra 76 dX3_beside_1 hx2 hc rfl rfl rfl ?_
          refine r_iload_n Ra (i := 1) dX3_beside_76 rfl rfl ?_
          refine r_aload_n Ra (i := 0) dX3_beside_77 rfl rfl ?_
          refine q_getI Ra (x := μ a0 0) f_X3_43 ha0 rfl rfl rfl rfl dX3_beside_78 ?_
          refine r_icmp_lt Ra 93 dX3_beside_81 hx1 (hV.int ha0 rfl) rfl (fun hc => ?_) (fun hc => ?_)
          · replace h := ipos hc h
            refine r_iconst Ra dX3_beside_93 ?_
            cases h
            exact r_iret Ra (Rk rfl) dX3_beside_94
          · replace h := ineg hc h
            refine r_iload_n Ra (i := 1) dX3_beside_84 rfl rfl ?_
            refine r_aload_n Ra (i := 0) dX3_beside_85 rfl rfl ?_
            refine q_getI Ra (x := μ a0 0) f_X3_43 ha0 rfl rfl rfl rfl dX3_beside_86 ?_
            refine r_isub Ra dX3_beside_89 ?_
            refine r_goto Ra 94 dX3_beside_90 rfl ?_
            cases h
            exact r_iret Ra (inR_32 _) dX3_beside_94
        · have hs1_3 := hc
          replace h := ineg hc h
          by_cases hc : x2 = 4
          · replace h := ipos hc h
            refine q_tableC Ra 95 dX3_beside_1 hx2 hc rfl rfl rfl ?_
            refine r_iload_n Ra (i := 1) dX3_beside_95 rfl rfl ?_
            refine r_aload_n Ra (i := 0) dX3_beside_96 rfl rfl ?_
            refine q_getI Ra (x := μ a0 0) f_X3_43 ha0 rfl rfl rfl rfl dX3_beside_97 ?_
            refine r_iadd Ra dX3_beside_100 ?_
            refine r_aload_n Ra (i := 0) dX3_beside_101 rfl rfl ?_
            refine q_getI Ra (x := μ a0 2) f_X3_50 ha0 rfl rfl rfl rfl dX3_beside_102 ?_
            refine r_icmp_ge Ra 117 dX3_beside_105 (inR_32 _) (hV.int ha0 rfl) rfl (fun hc => ?_) (fun hc => ?_)
            · replace h := ineg hc h
              refine r_iconst Ra dX3_beside_117 ?_
              cases h
              exact r_iret Ra (Rk rfl) dX3_beside_118
            · replace h := ipos hc h
              refine r_iload_n Ra (i := 1) dX3_beside_108 rfl rfl ?_
              refine r_aload_n Ra (i := 0) dX3_beside_109 rfl rfl ?_
              refine q_getI Ra (x := μ a0 0) f_X3_43 ha0 rfl rfl rfl rfl dX3_beside_110 ?_
              refine r_iadd Ra dX3_beside_113 ?_
              refine r_goto Ra 118 dX3_beside_114 rfl ?_
              cases h
              exact r_iret Ra (inR_32 _) dX3_beside_118
          · have hs1_4 := hc
            replace h := ineg hc h
            refine q_tableD Ra 119 dX3_beside_1 hx2 [0, 1, 2, 3, 4] (List.forall_mem_cons.mpr ⟨hs1_0, (List.forall_mem_cons.mpr ⟨hs1_1, (List.forall_mem_cons.mpr ⟨hs1_2, (List.forall_mem_cons.mpr ⟨hs1_3, (List.forall_mem_cons.mpr ⟨hs1_4, (fun _ h9 => absurd h9 List.not_mem_nil)⟩)⟩)⟩)⟩)⟩) rfl rfl ?_
            refine r_iconst Ra dX3_beside_119 ?_
            cases h
            exact r_iret Ra (Rk rfl) dX3_beside_120
noncomputable def pW_wettest_L4b (N : Nat) (μ : Mem) (c0 : Int) (c1 : Int) (k : Int → Option (Int)) (self : Int → Int → Option (Int)) (x2 : Int) (x3 : Int) : Option (Int) := if x3 < 5 then (pP_beside μ 2 c1 x3).bind fun r15 => if r15 = (-1) then (some (w32 (x3 + 1) : Int)).bind fun x3_45 => self x2 x3_45 else if 0 ≤ r15 ∧ r15 < 64 then if 0 ≤ x2 ∧ x2 < 64 then if μ (c0 + 1) x2 < μ (c0 + 1) r15 then (some (w32 (x3 + 1) : Int)).bind fun x3_45 => self r15 x3_45 else (some (w32 (x3 + 1) : Int)).bind fun x3_45 => self x2 x3_45 else none else none else k x2
noncomputable def pW_wettest_L4 (N : Nat) (μ : Mem) (c0 : Int) (c1 : Int) (k : Int → Option (Int)) (n : Nat) : Int → Int → Option (Int) := lpF (fun _ _ => none) (pW_wettest_L4b N μ c0 c1 k) n
noncomputable def pW_wettest (N : Nat) (μ : Mem) (a0 : Int) (x1 : Int) : Option (Int) := pW_wettest_L4 N μ a0 x1 (fun z2_51 => some (z2_51)) N x1 1
theorem k_pW_wettest_L4 {l : Launch} {en : En} {re : Int} {N : Nat} {μ : Mem} (hV : VT μ) {c0 : Int} {c1 : Int} {k : Int → Option (Int)} {K : KT} (Ra : Ru false (some (some .int, some (vI re), nCells, μ, 0, 0, (inR re))) l en cX8_wettest yX8_wettest.cls 5 (rmN 2 103) K) (ht0 : ty c0 = 9) (hi1 : inR c1) (hk : ∀ (z2 : Int), k z2 = some re → inR z2 → ∀ L9 : Lo, L9 2 = some (vI z2) → K ZN 51 L9 [] μ) : ∀ (n : Nat) (x2 : Int) (x3 : Int) (L : Lo), pW_wettest_L4 N μ c0 c1 k n x2 x3 = some re → inR x2 → inR x3 → L 0 = some (vA en c0) → L 1 = some (vI c1) → L 2 = some (vI x2) → L 3 = some (vI x3) → K ZN 4 L [] μ := by
  intro n
  induction n with
  | zero => intro x2 x3 L h; cases h
  | succ n ih =>
    intro x2 x3 L h hx2 hx3 hL0 hL1 hL2 hL3
    replace h : pW_wettest_L4b N μ c0 c1 k (pW_wettest_L4 N μ c0 c1 k n) x2 x3 = some re := h
    unfold pW_wettest_L4b at h
    refine r_iload_n Ra (i := 3) dX8_wettest_4 rfl hL3 ?_
    refine r_iconst Ra dX8_wettest_5 ?_
    refine r_icmp_ge Ra 51 dX8_wettest_6 hx3 (Rk rfl) rfl (fun hc => ?_) (fun hc => ?_)
    · replace h := ineg hc h
      exact hk x2 h hx2 _ hL2
    · replace h := ipos hc h
      refine r_aload_n Ra (i := 0) dX8_wettest_9 rfl hL0 ?_
      refine q_getA Ra (b := 2) f_X8_36 ht0 rfl rfl rfl (hV.ref ht0 rfl (by decide)) (by decide) dX8_wettest_10 ?_
      refine r_iload_n Ra (i := 1) dX8_wettest_13 rfl hL1 ?_
      refine r_iload_n Ra (i := 3) dX8_wettest_14 rfl hL3 ?_
      obtain ⟨r15, hr15, h⟩ := bd h
      refine q_callVI Ra (c_pP_beside hV t2 hi1 hx3 hr15) mw_X3_beside mi_X3_beside t2 rfl rfl rfl rfl rfl k_X8_109 rfl rfl dX8_wettest_15 (fun ok15 => ?_)
      refine q_istore Ra dX8_wettest_18 rfl rfl ?_
      refine r_iload Ra dX8_wettest_20 rfl ?_
      refine r_iconst Ra dX8_wettest_22 ?_
      refine r_icmp_eq Ra 45 dX8_wettest_23 ok15 (Rk rfl) rfl (fun hc => ?_) (fun hc => ?_)
      · replace h := ipos hc h
        obtain ⟨x3_45, ex3_45, h⟩ := bv h
        have ix3_45 : inR x3_45 := eqR ex3_45 (inR_32 _)
        refine q_iinc Ra dX8_wettest_45 hL3 ex3_45 ?_
        refine r_goto Ra 4 dX8_wettest_48 rfl ?_
        exact ih x2 x3_45 _ h hx2 ix3_45 hL0 hL1 hL2 rfl
      · replace h := ineg hc h
        refine r_aload_n Ra (i := 0) dX8_wettest_26 rfl hL0 ?_
        refine q_getA Ra (b := (c0 + 1)) f_X8_9 ht0 rfl rfl rfl (hV.ref ht0 rfl (by decide)) (tin (tn9_1 ht0).1 rfl).1 dX8_wettest_27 ?_
        refine r_iload Ra dX8_wettest_30 rfl ?_
        obtain ⟨gu32, h⟩ := gd h
        refine q_iald Ra (tn9_1 ht0).1 (tn9_1 ht0).2 gu32 dX8_wettest_32 ?_
        refine r_aload_n Ra (i := 0) dX8_wettest_33 rfl hL0 ?_
        refine q_getA Ra (b := (c0 + 1)) f_X8_9 ht0 rfl rfl rfl (hV.ref ht0 rfl (by decide)) (tin (tn9_1 ht0).1 rfl).1 dX8_wettest_34 ?_
        refine r_iload_n Ra (i := 2) dX8_wettest_37 rfl hL2 ?_
        obtain ⟨gu38, h⟩ := gd h
        refine q_iald Ra (tn9_1 ht0).1 (tn9_1 ht0).2 gu38 dX8_wettest_38 ?_
        refine r_icmp_le Ra 45 dX8_wettest_39 (hV.int (tn9_1 ht0).1 (kd20 _)) (hV.int (tn9_1 ht0).1 (kd20 _)) rfl (fun hc => ?_) (fun hc => ?_)
        · replace h := ineg hc h
          obtain ⟨x3_45, ex3_45, h⟩ := bv h
          have ix3_45 : inR x3_45 := eqR ex3_45 (inR_32 _)
          refine q_iinc Ra dX8_wettest_45 hL3 ex3_45 ?_
          refine r_goto Ra 4 dX8_wettest_48 rfl ?_
          exact ih x2 x3_45 _ h hx2 ix3_45 hL0 hL1 hL2 rfl
        · replace h := ipos hc h
          refine r_iload Ra dX8_wettest_42 rfl ?_
          refine q_istore_n Ra 2 dX8_wettest_44 rfl rfl rfl ?_
          obtain ⟨x3_45, ex3_45, h⟩ := bv h
          have ix3_45 : inR x3_45 := eqR ex3_45 (inR_32 _)
          refine q_iinc Ra dX8_wettest_45 hL3 ex3_45 ?_
          refine r_goto Ra 4 dX8_wettest_48 rfl ?_
          exact ih r15 x3_45 _ h ok15 ix3_45 hL0 hL1 rfl rfl
set_option maxHeartbeats 4000000 in
theorem c_pW_wettest {l : Launch} {en : En} {N : Nat} {μ : Mem} {a0 : Int} {x1 : Int} {re : Int} (hV : VT μ) (ha0 : ty a0 = 9) (hx1 : inR x1) (h : pW_wettest N μ a0 x1 = some re) : CtI l en yX8_wettest cX8_wettest 5 2 103 [vA en a0, vI x1] μ .int re μ (inR re) := by
  refine Tr.of false (fun h => by cases h) (by decide) (Nat.le_of_ble_eq_true rfl) (fun K Ra => ?_)
  unfold pW_wettest at h
  refine r_iload_n Ra (i := 1) dX8_wettest_0 rfl rfl ?_
  refine q_istore_n Ra 2 dX8_wettest_1 rfl rfl rfl ?_
  refine r_iconst Ra dX8_wettest_2 ?_
  refine q_istore_n Ra 3 dX8_wettest_3 rfl rfl rfl ?_
  refine k_pW_wettest_L4 hV Ra ha0 hx1 ?_ _ _ _ _ h hx1 (Rk rfl) rfl rfl rfl rfl
  intro z2_51 h iz2_51 L9 f51_2
  refine r_iload_n Ra (i := 2) dX8_wettest_51 rfl f51_2 ?_
  cases h
  exact r_iret Ra iz2_51 dX8_wettest_52
noncomputable def pW_goAll_L3b (N : Nat) (c0 : Int) (c2 : Int) (c3 : Int) (k : Mem → Option (Mem)) (self : Int → Mem → Option (Mem)) (x4 : Int) (μ : Mem) : Option (Mem) := if x4 < c2 then if 0 ≤ x4 ∧ x4 < 6 then if c3 < μ (c0 + 2) x4 then (some (w32 (x4 + 1) : Int)).bind fun x4_51 => self x4_51 μ else if a32 (shr32 (μ c0 7) x4) 1 = 1 then if 0 ≤ x4 ∧ x4 < 6 then (pW_wettest N μ c0 (μ (c0 + 4) x4)).bind fun r44 => (pW_go N μ c0 x4 r44 c3).bind fun m48 => (some (w32 (x4 + 1) : Int)).bind fun x4_51 => self x4_51 m48 else none else (some (w32 (x4 + 1) : Int)).bind fun x4_51 => self x4_51 μ else none else k μ
noncomputable def pW_goAll_L3 (N : Nat) (c0 : Int) (c2 : Int) (c3 : Int) (k : Mem → Option (Mem)) (n : Nat) : Int → Mem → Option (Mem) := lpF (fun _ _ => none) (pW_goAll_L3b N c0 c2 c3 k) n
noncomputable def pW_goAll (N : Nat) (μ : Mem) (a0 : Int) (x1 : Int) (x2 : Int) (x3 : Int) : Option (Mem) := pW_goAll_L3 N a0 x2 x3 (fun n57 => some n57) N x1 μ
theorem k_pW_goAll_L3 {l : Launch} {en : En} {μe : Mem} {N : Nat} {c0 : Int} {c2 : Int} {c3 : Int} {k : Mem → Option (Mem)} {K : KT} (Ra : Ru false (some (none, none, nCells, μe, 0, 0, (VT μe))) l en cX8_goAll yX8_goAll.cls 5 (rmN 4 162) K) (ht0 : ty c0 = 9) (hi2 : inR c2) (hi3 : inR c3) (hk : ∀  (μ9 : Mem), k μ9 = some μe → VT μ9 → ∀ L9 : Lo, K ZN 57 L9 [] μ9) : ∀ (n : Nat) (x4 : Int) (μ : Mem) (L : Lo), pW_goAll_L3 N c0 c2 c3 k n x4 μ = some μe → inR x4 → VT μ → L 0 = some (vA en c0) → L 2 = some (vI c2) → L 3 = some (vI c3) → L 4 = some (vI x4) → K ZN 3 L [] μ := by
  intro n
  induction n with
  | zero => intro x4 μ L h; cases h
  | succ n ih =>
    intro x4 μ L h hx4 hV hL0 hL2 hL3 hL4
    replace h : pW_goAll_L3b N c0 c2 c3 k (pW_goAll_L3 N c0 c2 c3 k n) x4 μ = some μe := h
    unfold pW_goAll_L3b at h
    refine r_iload Ra dX8_goAll_3 hL4 ?_
    refine r_iload_n Ra (i := 2) dX8_goAll_5 rfl hL2 ?_
    refine r_icmp_ge Ra 57 dX8_goAll_6 hx4 hi2 rfl (fun hc => ?_) (fun hc => ?_)
    · replace h := ineg hc h
      exact hk μ h  hV _ 
    · replace h := ipos hc h
      refine r_aload_n Ra (i := 0) dX8_goAll_9 rfl hL0 ?_
      refine q_getA Ra (b := (c0 + 2)) f_X8_15 ht0 rfl rfl rfl (hV.ref ht0 rfl (by decide)) (tin (tn9_2 ht0).1 rfl).1 dX8_goAll_10 ?_
      refine r_iload Ra dX8_goAll_13 hL4 ?_
      obtain ⟨gu15, h⟩ := gd h
      refine q_iald Ra (tn9_2 ht0).1 (tn9_2 ht0).2 gu15 dX8_goAll_15 ?_
      refine r_iload_n Ra (i := 3) dX8_goAll_16 rfl hL3 ?_
      refine r_icmp_gt Ra 51 dX8_goAll_17 (hV.int (tn9_2 ht0).1 (kd20 _)) hi3 rfl (fun hc => ?_) (fun hc => ?_)
      · replace h := ipos hc h
        obtain ⟨x4_51, ex4_51, h⟩ := bv h
        have ix4_51 : inR x4_51 := eqR ex4_51 (inR_32 _)
        refine q_iinc Ra dX8_goAll_51 hL4 ex4_51 ?_
        refine r_goto Ra 3 dX8_goAll_54 rfl ?_
        exact ih x4_51 μ _ h ix4_51 hV hL0 hL2 hL3 rfl
      · replace h := ineg hc h
        refine r_aload_n Ra (i := 0) dX8_goAll_20 rfl hL0 ?_
        refine q_getI Ra (x := μ c0 7) f_X8_32 ht0 rfl rfl rfl rfl dX8_goAll_21 ?_
        refine r_iload Ra dX8_goAll_24 hL4 ?_
        refine r_ishr Ra dX8_goAll_26 ?_
        refine r_iconst Ra dX8_goAll_27 ?_
        refine r_iand Ra dX8_goAll_28 ?_
        refine r_iconst Ra dX8_goAll_29 ?_
        refine r_icmp_ne Ra 51 dX8_goAll_30 (inR_32 _) (Rk rfl) rfl (fun hc => ?_) (fun hc => ?_)
        · replace h := ineg hc h
          obtain ⟨x4_51, ex4_51, h⟩ := bv h
          have ix4_51 : inR x4_51 := eqR ex4_51 (inR_32 _)
          refine q_iinc Ra dX8_goAll_51 hL4 ex4_51 ?_
          refine r_goto Ra 3 dX8_goAll_54 rfl ?_
          exact ih x4_51 μ _ h ix4_51 hV hL0 hL2 hL3 rfl
        · replace h := ipos hc h
          refine r_aload_n Ra (i := 0) dX8_goAll_33 rfl hL0 ?_
          refine r_iload Ra dX8_goAll_34 hL4 ?_
          refine r_aload_n Ra (i := 0) dX8_goAll_36 rfl hL0 ?_
          refine r_aload_n Ra (i := 0) dX8_goAll_37 rfl hL0 ?_
          refine q_getA Ra (b := (c0 + 4)) f_X8_21 ht0 rfl rfl rfl (hV.ref ht0 rfl (by decide)) (tin (tn9_4 ht0).1 rfl).1 dX8_goAll_38 ?_
          refine r_iload Ra dX8_goAll_41 hL4 ?_
          obtain ⟨gu43, h⟩ := gd h
          refine q_iald Ra (tn9_4 ht0).1 (tn9_4 ht0).2 gu43 dX8_goAll_43 ?_
          obtain ⟨r44, hr44, h⟩ := bd h
          refine q_callVI Ra (c_pW_wettest hV ht0 (hV.int (tn9_4 ht0).1 (kd20 _)) hr44) mw_X8_wettest mi_X8_wettest ht0 rfl rfl rfl rfl rfl k_X8_99 rfl rfl dX8_goAll_44 (fun ok44 => ?_)
          refine r_iload_n Ra (i := 3) dX8_goAll_47 rfl hL3 ?_
          obtain ⟨m48, hr48, h⟩ := bd h
          refine q_callVV Ra (c_pW_go hV ht0 hx4 ok44 hi3 hr48) mw_X8_go mi_X8_go ht0 rfl rfl rfl rfl rfl k_X8_103 rfl rfl dX8_goAll_48 (fun ok48 => ?_)
          obtain ⟨x4_51, ex4_51, h⟩ := bv h
          have ix4_51 : inR x4_51 := eqR ex4_51 (inR_32 _)
          refine q_iinc Ra dX8_goAll_51 hL4 ex4_51 ?_
          refine r_goto Ra 3 dX8_goAll_54 rfl ?_
          exact ih x4_51 m48 _ h ix4_51 ok48 hL0 hL2 hL3 rfl
set_option maxHeartbeats 4000000 in
theorem c_pW_goAll {l : Launch} {en : En} {N : Nat} {μ : Mem} {a0 : Int} {x1 : Int} {x2 : Int} {x3 : Int} {μe : Mem} (hV : VT μ) (ha0 : ty a0 = 9) (hx1 : inR x1) (hx2 : inR x2) (hx3 : inR x3) (h : pW_goAll N μ a0 x1 x2 x3 = some μe) : CtV l en yX8_goAll cX8_goAll 5 4 162 [vA en a0, vI x1, vI x2, vI x3] μ μe (VT μe) := by
  refine Tr.of false (fun h => by cases h) (by decide) (Nat.le_of_ble_eq_true rfl) (fun K Ra => ?_)
  unfold pW_goAll at h
  refine r_iload_n Ra (i := 1) dX8_goAll_0 rfl rfl ?_
  refine q_istore Ra dX8_goAll_1 rfl rfl ?_
  refine k_pW_goAll_L3 Ra ha0 hx2 hx3 ?_ _ _ _ _ h hx1 hV rfl rfl rfl rfl
  intro n57 h hn57 L9 
  cases h
  exact r_vret Ra hn57 dX8_goAll_57
noncomputable def pW_through_L2b (N : Nat) (c0 : Int) (c2 : Int) (k : Mem → Option (Mem)) (self : Int → Mem → Option (Mem)) (x3 : Int) (μ : Mem) : Option (Mem) := if x3 < c2 then (pW_goAll N μ c0 0 (μ 2 3) x3).bind fun m17 => (pW_dryUp N m17 c0 x3).bind fun m22 => (some (w32 (x3 + 1) : Int)).bind fun x3_25 => self x3_25 m22 else k μ
noncomputable def pW_through_L2 (N : Nat) (c0 : Int) (c2 : Int) (k : Mem → Option (Mem)) (n : Nat) : Int → Mem → Option (Mem) := lpF (fun _ _ => none) (pW_through_L2b N c0 c2 k) n
noncomputable def pW_through (N : Nat) (μ : Mem) (a0 : Int) (x1 : Int) (x2 : Int) : Option (Mem) := pW_through_L2 N a0 x2 (fun n31 => some n31) N x1 μ
theorem k_pW_through_L2 {l : Launch} {en : En} {μe : Mem} {N : Nat} {c0 : Int} {c2 : Int} {k : Mem → Option (Mem)} {K : KT} (Ra : Ru false (some (none, none, nCells, μe, 0, 0, (VT μe))) l en cX8_through yX8_through.cls 4 (rmN 5 186) K) (ht0 : ty c0 = 9) (hi2 : inR c2) (hk : ∀  (μ9 : Mem), k μ9 = some μe → VT μ9 → ∀ L9 : Lo, K ZN 31 L9 [] μ9) : ∀ (n : Nat) (x3 : Int) (μ : Mem) (L : Lo), pW_through_L2 N c0 c2 k n x3 μ = some μe → inR x3 → VT μ → L 0 = some (vA en c0) → L 2 = some (vI c2) → L 3 = some (vI x3) → K ZN 2 L [] μ := by
  intro n
  induction n with
  | zero => intro x3 μ L h; cases h
  | succ n ih =>
    intro x3 μ L h hx3 hV hL0 hL2 hL3
    replace h : pW_through_L2b N c0 c2 k (pW_through_L2 N c0 c2 k n) x3 μ = some μe := h
    unfold pW_through_L2b at h
    refine r_iload_n Ra (i := 3) dX8_through_2 rfl hL3 ?_
    refine r_iload_n Ra (i := 2) dX8_through_3 rfl hL2 ?_
    refine r_icmp_ge Ra 31 dX8_through_4 hx3 hi2 rfl (fun hc => ?_) (fun hc => ?_)
    · replace h := ineg hc h
      exact hk μ h  hV _ 
    · replace h := ipos hc h
      refine r_aload_n Ra (i := 0) dX8_through_7 rfl hL0 ?_
      refine r_iconst Ra dX8_through_8 ?_
      refine r_aload_n Ra (i := 0) dX8_through_9 rfl hL0 ?_
      refine q_getA Ra (b := 2) f_X8_36 ht0 rfl rfl rfl (hV.ref ht0 rfl (by decide)) (by decide) dX8_through_10 ?_
      refine q_getI Ra (x := μ 2 3) f_X8_88 t2 rfl rfl rfl rfl dX8_through_13 ?_
      refine r_iload_n Ra (i := 3) dX8_through_16 rfl hL3 ?_
      obtain ⟨m17, hr17, h⟩ := bd h
      refine q_callVV Ra (c_pW_goAll hV ht0 (Rk rfl) (hV.int t2 rfl) hx3 hr17) mw_X8_goAll mi_X8_goAll ht0 rfl rfl rfl rfl rfl k_X8_91 rfl rfl dX8_through_17 (fun ok17 => ?_)
      refine r_aload_n Ra (i := 0) dX8_through_20 rfl hL0 ?_
      refine r_iload_n Ra (i := 3) dX8_through_21 rfl hL3 ?_
      obtain ⟨m22, hr22, h⟩ := bd h
      refine q_callVV Ra (c_pW_dryUp ok17 ht0 hx3 hr22) mw_X8_dryUp mi_X8_dryUp ht0 rfl rfl rfl rfl rfl k_X8_95 rfl rfl dX8_through_22 (fun ok22 => ?_)
      obtain ⟨x3_25, ex3_25, h⟩ := bv h
      have ix3_25 : inR x3_25 := eqR ex3_25 (inR_32 _)
      refine q_iinc Ra dX8_through_25 hL3 ex3_25 ?_
      refine r_goto Ra 2 dX8_through_28 rfl ?_
      exact ih x3_25 m22 _ h ix3_25 ok22 hL0 hL2 rfl
set_option maxHeartbeats 4000000 in
theorem c_pW_through {l : Launch} {en : En} {N : Nat} {μ : Mem} {a0 : Int} {x1 : Int} {x2 : Int} {μe : Mem} (hV : VT μ) (ha0 : ty a0 = 9) (hx1 : inR x1) (hx2 : inR x2) (h : pW_through N μ a0 x1 x2 = some μe) : CtV l en yX8_through cX8_through 4 5 186 [vA en a0, vI x1, vI x2] μ μe (VT μe) := by
  refine Tr.of false (fun h => by cases h) (by decide) (Nat.le_of_ble_eq_true rfl) (fun K Ra => ?_)
  unfold pW_through at h
  refine r_iload_n Ra (i := 1) dX8_through_0 rfl rfl ?_
  refine q_istore_n Ra 3 dX8_through_1 rfl rfl rfl ?_
  refine k_pW_through_L2 Ra ha0 hx2 ?_ _ _ _ _ h hx1 hV rfl rfl rfl
  intro n31 h hn31 L9 
  cases h
  exact r_vret Ra hn31 dX8_through_31
noncomputable def pD_total_L4b (N : Nat) (μ : Mem) (c0 : Int) (c1 : Int) (k : Int → Option (Int)) (self : Int → Int → Option (Int)) (x2 : Int) (x3 : Int) : Option (Int) := if x3 < c1 then if x3 < (ln c0) then if 0 ≤ x3 ∧ x3 < (ln c0) then (some (w32 (x2 + (μ c0 x3)) : Int)).bind fun x2_20 => (some (w32 (x3 + 1) : Int)).bind fun x3_21 => self x2_20 x3_21 else none else k x2 else k x2
noncomputable def pD_total_L4 (N : Nat) (μ : Mem) (c0 : Int) (c1 : Int) (k : Int → Option (Int)) (n : Nat) : Int → Int → Option (Int) := lpF (fun _ _ => none) (pD_total_L4b N μ c0 c1 k) n
noncomputable def pD_total (N : Nat) (μ : Mem) (a0 : Int) (x1 : Int) : Option (Int) := pD_total_L4 N μ a0 x1 (fun z2_27 => some (z2_27)) N 0 0
theorem k_pD_total_L4 {l : Launch} {en : En} {re : Int} {N : Nat} {μ : Mem} (hV : VT μ) {c0 : Int} {c1 : Int} {k : Int → Option (Int)} {K : KT} (Ra : Ru false (some (some .int, some (vI re), nCells, μ, 0, 0, (inR re))) l en cX11_total yX11_total.cls 4 (rmN 0 60) K) (ht0 : ty c0 = 20) (hi1 : inR c1) (hk : ∀ (z2 : Int), k z2 = some re → inR z2 → ∀ L9 : Lo, L9 2 = some (vI z2) → K ZN 27 L9 [] μ) : ∀ (n : Nat) (x2 : Int) (x3 : Int) (L : Lo), pD_total_L4 N μ c0 c1 k n x2 x3 = some re → inR x2 → inR x3 → L 0 = some (vA en c0) → L 1 = some (vI c1) → L 2 = some (vI x2) → L 3 = some (vI x3) → K ZN 4 L [] μ := by
  intro n
  induction n with
  | zero => intro x2 x3 L h; cases h
  | succ n ih =>
    intro x2 x3 L h hx2 hx3 hL0 hL1 hL2 hL3
    replace h : pD_total_L4b N μ c0 c1 k (pD_total_L4 N μ c0 c1 k n) x2 x3 = some re := h
    unfold pD_total_L4b at h
    refine r_iload_n Ra (i := 3) dX11_total_4 rfl hL3 ?_
    refine r_iload_n Ra (i := 1) dX11_total_5 rfl hL1 ?_
    refine r_icmp_ge Ra 27 dX11_total_6 hx3 hi1 rfl (fun hc => ?_) (fun hc => ?_)
    · replace h := ineg hc h
      exact hk x2 h hx2 _ hL2
    · replace h := ipos hc h
      refine r_iload_n Ra (i := 3) dX11_total_9 rfl hL3 ?_
      refine r_aload_n Ra (i := 0) dX11_total_10 rfl hL0 ?_
      refine q_alen Ra ht0 rfl dX11_total_11 ?_
      refine r_icmp_ge Ra 27 dX11_total_12 hx3 (inR_ln _) rfl (fun hc => ?_) (fun hc => ?_)
      · replace h := ineg hc h
        exact hk x2 h hx2 _ hL2
      · replace h := ipos hc h
        refine r_iload_n Ra (i := 2) dX11_total_15 rfl hL2 ?_
        refine r_aload_n Ra (i := 0) dX11_total_16 rfl hL0 ?_
        refine r_iload_n Ra (i := 3) dX11_total_17 rfl hL3 ?_
        obtain ⟨gu18, h⟩ := gd h
        refine q_iald Ra ht0 rfl gu18 dX11_total_18 ?_
        refine r_iadd Ra dX11_total_19 ?_
        obtain ⟨x2_20, ex2_20, h⟩ := bv h
        have ix2_20 : inR x2_20 := eqR ex2_20 (inR_32 _)
        refine q_istore_n Ra 2 dX11_total_20 rfl rfl ex2_20 ?_
        obtain ⟨x3_21, ex3_21, h⟩ := bv h
        have ix3_21 : inR x3_21 := eqR ex3_21 (inR_32 _)
        refine q_iinc Ra dX11_total_21 hL3 ex3_21 ?_
        refine r_goto Ra 4 dX11_total_24 rfl ?_
        exact ih x2_20 x3_21 _ h ix2_20 ix3_21 hL0 hL1 rfl rfl
set_option maxHeartbeats 4000000 in
theorem c_pD_total {l : Launch} {en : En} {N : Nat} {μ : Mem} {a0 : Int} {x1 : Int} {re : Int} (hV : VT μ) (ha0 : ty a0 = 20) (hx1 : inR x1) (h : pD_total N μ a0 x1 = some re) : CtI l en yX11_total cX11_total 4 0 60 [vA en a0, vI x1] μ .int re μ (inR re) := by
  refine Tr.of false (fun h => by cases h) (by decide) (Nat.le_of_ble_eq_true rfl) (fun K Ra => ?_)
  unfold pD_total at h
  refine r_iconst Ra dX11_total_0 ?_
  refine q_istore_n Ra 2 dX11_total_1 rfl rfl rfl ?_
  refine r_iconst Ra dX11_total_2 ?_
  refine q_istore_n Ra 3 dX11_total_3 rfl rfl rfl ?_
  refine k_pD_total_L4 hV Ra ha0 hx1 ?_ _ _ _ _ h (Rk rfl) (Rk rfl) rfl rfl rfl rfl
  intro z2_27 h iz2_27 L9 f27_2
  refine r_iload_n Ra (i := 2) dX11_total_27 rfl f27_2 ?_
  cases h
  exact r_iret Ra iz2_27 dX11_total_28
noncomputable def pW_wrungByAll (N : Nat) (μ : Mem) (a0 : Int) : Option (Int) := (pD_total N μ (a0 + 5) (μ 2 3)).bind fun r11 => some (r11)
set_option maxHeartbeats 4000000 in
theorem c_pW_wrungByAll {l : Launch} {en : En} {N : Nat} {μ : Mem} {a0 : Int} {re : Int} (hV : VT μ) (ha0 : ty a0 = 9) (h : pW_wrungByAll N μ a0 = some re) : CtI l en yX8_wrungByAll cX8_wrungByAll 1 1 83 [vA en a0] μ .int re μ (inR re) := by
  refine Tr.of false (fun h => by cases h) (by decide) (Nat.le_of_ble_eq_true rfl) (fun K Ra => ?_)
  unfold pW_wrungByAll at h
  refine r_aload_n Ra (i := 0) dX8_wrungByAll_0 rfl rfl ?_
  refine q_getA Ra (b := (a0 + 5)) f_X8_24 ha0 rfl rfl rfl (hV.ref ha0 rfl (by decide)) (tin (tn9_5 ha0).1 rfl).1 dX8_wrungByAll_1 ?_
  refine r_aload_n Ra (i := 0) dX8_wrungByAll_4 rfl rfl ?_
  refine q_getA Ra (b := 2) f_X8_36 ha0 rfl rfl rfl (hV.ref ha0 rfl (by decide)) (by decide) dX8_wrungByAll_5 ?_
  refine q_getI Ra (x := μ 2 3) f_X8_88 t2 rfl rfl rfl rfl dX8_wrungByAll_8 ?_
  obtain ⟨r11, hr11, h⟩ := bd h
  refine q_callSNI Ra (c_pD_total hV (tn9_5 ha0).1 (hV.int t2 rfl) hr11) mw_X11_total ms_X11_total rfl rfl kn_X8_121 rfl rfl dX8_wrungByAll_11 (fun ok11 => ?_)
  cases h
  exact r_iret Ra ok11 dX8_wrungByAll_14
noncomputable def pW_live_L31b (N : Nat) (c0 : Int) (c1 : Int) (k : Int → Mem → Option (Int × Mem)) (self : Int → Int → Mem → Option (Int × Mem)) (x3 : Int) (x4 : Int) (μ : Mem) : Option (Int × Mem) := if x4 < μ 2 3 then if 0 ≤ x4 ∧ x4 < 6 then if 0 ≤ x4 ∧ x4 < 6 then if 0 ≤ x4 ∧ x4 < 6 then (some (w32 ((w32 ((μ (c0 + 5) x4) + (μ (c1 + 5) x4))) - (μ 8 x4)) : Int)).bind fun x5_69 => (if x5_69 < 0 then (some (mset μ c0 8 (o32 (μ c0 8) (shl32 1 x4)))).bind fun m86 => (some (w32 (x3 + 1) : Int)).bind fun x3_89 => some (x3_89, m86) else some (x3, μ)).bind fun (yl3_92, n92) => if 0 ≤ x4 ∧ x4 < 6 then (some (mset n92 (c1 + 5) x4 (max 0 (min 999 x5_69)))).bind fun m110 => (some (w32 (x4 + 1) : Int)).bind fun x4_111 => self yl3_92 x4_111 m110 else none else none else none else none else k x3 μ
noncomputable def pW_live_L31 (N : Nat) (c0 : Int) (c1 : Int) (k : Int → Mem → Option (Int × Mem)) (n : Nat) : Int → Int → Mem → Option (Int × Mem) := lpF (fun _ _ _ => none) (pW_live_L31b N c0 c1 k) n
noncomputable def pW_live (N : Nat) (μ : Mem) (a0 : Int) (a1 : Int) (x2 : Int) : Option (Int × Mem) := (some (if x2 = 0 then 1 else 2 : Int)).bind fun ys2_11 => (pW_begin N μ a0 a1 ys2_11).bind fun m11 => (pW_through N m11 a0 0 9).bind fun m18 => (some (mset m18 a0 8 0)).bind fun m23 => pW_live_L31 N a0 a1 (fun z3_117 n117 => (some (mcpy n117 (a0 + 1) 0 (a1 + 1) 0 64)).bind fun m129 => (pW_wrungByAll N m129 a0).bind fun r134 => (pS_keep m129 a1 r134 z3_117).bind fun m138 => (some (mset m138 a1 0 (min 999 (w32 ((m138 a1 0) + 1))))).bind fun m154 => (pW_wrungByAll N m154 a0).bind fun r158 => some (r158, m154)) N 0 0 m23
theorem k_pW_live_L31 {l : Launch} {en : En} {re : Int} {μe : Mem} {N : Nat} {c0 : Int} {c1 : Int} {k : Int → Mem → Option (Int × Mem)} {K : KT} (Ra : Ru false (some (some .int, some (vI re), nCells, μe, 0, 0, (VT μe ∧ inR re))) l en cX8_live yX8_live.cls 6 (rmN 6 209) K) (ht0 : ty c0 = 9) (ht1 : ty c1 = 6) (hk : ∀ (z3 : Int) (μ9 : Mem), k z3 μ9 = some (re, μe) → inR z3 → VT μ9 → ∀ L9 : Lo, L9 0 = some (vA en c0) → L9 1 = some (vA en c1) → L9 3 = some (vI z3) → K ZN 117 L9 [] μ9) : ∀ (n : Nat) (x3 : Int) (x4 : Int) (μ : Mem) (L : Lo), pW_live_L31 N c0 c1 k n x3 x4 μ = some (re, μe) → inR x3 → inR x4 → VT μ → L 0 = some (vA en c0) → L 1 = some (vA en c1) → L 3 = some (vI x3) → L 4 = some (vI x4) → K ZN 31 L [] μ := by
  intro n
  induction n with
  | zero => intro x3 x4 μ L h; cases h
  | succ n ih =>
    intro x3 x4 μ L h hx3 hx4 hV hL0 hL1 hL3 hL4
    replace h : pW_live_L31b N c0 c1 k (pW_live_L31 N c0 c1 k n) x3 x4 μ = some (re, μe) := h
    unfold pW_live_L31b at h
    refine r_iload Ra dX8_live_31 hL4 ?_
    refine r_aload_n Ra (i := 0) dX8_live_33 rfl hL0 ?_
    refine q_getA Ra (b := 2) f_X8_36 ht0 rfl rfl rfl (hV.ref ht0 rfl (by decide)) (by decide) dX8_live_34 ?_
    refine q_getI Ra (x := μ 2 3) f_X8_88 t2 rfl rfl rfl rfl dX8_live_37 ?_
    refine r_icmp_ge Ra 117 dX8_live_40 hx4 (hV.int t2 rfl) rfl (fun hc => ?_) (fun hc => ?_)
    · replace h := ineg hc h
      exact hk x3 μ h hx3 hV _ hL0 hL1 hL3
    · replace h := ipos hc h
      refine r_aload_n Ra (i := 0) dX8_live_43 rfl hL0 ?_
      refine q_getA Ra (b := (c0 + 5)) f_X8_24 ht0 rfl rfl rfl (hV.ref ht0 rfl (by decide)) (tin (tn9_5 ht0).1 rfl).1 dX8_live_44 ?_
      refine r_iload Ra dX8_live_47 hL4 ?_
      obtain ⟨gu49, h⟩ := gd h
      refine q_iald Ra (tn9_5 ht0).1 (tn9_5 ht0).2 gu49 dX8_live_49 ?_
      refine r_aload_n Ra (i := 1) dX8_live_50 rfl hL1 ?_
      refine q_getA Ra (b := (c1 + 5)) f_X8_135 ht1 rfl rfl rfl (hV.ref ht1 rfl (by decide)) (tin (tn6_5 ht1).1 rfl).1 dX8_live_51 ?_
      refine r_iload Ra dX8_live_54 hL4 ?_
      obtain ⟨gu56, h⟩ := gd h
      refine q_iald Ra (tn6_5 ht1).1 (tn6_5 ht1).2 gu56 dX8_live_56 ?_
      refine r_iadd Ra dX8_live_57 ?_
      refine r_aload_n Ra (i := 0) dX8_live_58 rfl hL0 ?_
      refine q_getA Ra (b := 2) f_X8_36 ht0 rfl rfl rfl (hV.ref ht0 rfl (by decide)) (by decide) dX8_live_59 ?_
      refine q_getA Ra (b := 8) f_X8_138 t2 rfl rfl rfl (hV.ref t2 rfl (by decide)) (by decide) dX8_live_62 ?_
      refine r_iload Ra dX8_live_65 hL4 ?_
      obtain ⟨gu67, h⟩ := gd h
      refine q_iald Ra t8 l8 gu67 dX8_live_67 ?_
      refine r_isub Ra dX8_live_68 ?_
      obtain ⟨x5_69, ex5_69, h⟩ := bv h
      have ix5_69 : inR x5_69 := eqR ex5_69 (inR_32 _)
      refine q_istore Ra dX8_live_69 rfl ex5_69 ?_
      refine r_iload Ra dX8_live_71 rfl ?_
      obtain ⟨⟨yl3_92, n92⟩, hj92, h⟩ := bd h
      have hJ : inR yl3_92 → VT n92 → ∀ L9 : Lo, L9 0 = some (vA en c0) → L9 1 = some (vA en c1) → L9 3 = some (vI yl3_92) → L9 4 = some (vI x4) → L9 5 = some (vI x5_69) → K ZN 92 L9 [] n92 := by
        intro iyl3_92 hn92 L9 f92_0 f92_1 f92_3 f92_4 f92_5
        refine r_aload_n Ra (i := 1) dX8_live_92 rfl f92_1 ?_
        refine q_getA Ra (b := (c1 + 5)) f_X8_135 ht1 rfl rfl rfl (hn92.ref ht1 rfl (by decide)) (tin (tn6_5 ht1).1 rfl).1 dX8_live_93 ?_
        refine r_iload Ra dX8_live_96 f92_4 ?_
        refine r_iconst Ra dX8_live_98 ?_
        refine r_sipush Ra dX8_live_99 rfl ?_
        refine r_iload Ra dX8_live_102 f92_5 ?_
        refine q_mmin Ra (Rk rfl) ix5_69 k_X8_85 rfl rfl dX8_live_104 ?_
        refine q_mmax Ra (Rk rfl) (inR_min (Rk rfl) ix5_69) k_X8_79 rfl rfl dX8_live_107 ?_
        obtain ⟨gu110, h⟩ := gd h
        obtain ⟨m110, em110, h⟩ := bv h
        have hm110 : VT m110 := eqV em110 (hn92.setI (tn6_5 ht1).1 (kd20 _) (inR_max (Rk rfl) (inR_min (Rk rfl) ix5_69)))
        refine q_iast Ra (tn6_5 ht1).1 (tn6_5 ht1).2 gu110 em110 dX8_live_110 ?_
        obtain ⟨x4_111, ex4_111, h⟩ := bv h
        have ix4_111 : inR x4_111 := eqR ex4_111 (inR_32 _)
        refine q_iinc Ra dX8_live_111 f92_4 ex4_111 ?_
        refine r_goto Ra 31 dX8_live_114 rfl ?_
        exact ih yl3_92 x4_111 m110 _ h iyl3_92 ix4_111 hm110 f92_0 f92_1 f92_3 rfl
      replace h := hj92
      refine r_if_ge Ra 92 dX8_live_73 ix5_69 rfl (fun hc => ?_) (fun hc => ?_)
      · replace h := ineg hc h
        cases h
        exact hJ hx3 hV _ hL0 hL1 hL3 hL4 rfl
      · replace h := ipos hc h
        refine r_aload_n Ra (i := 0) dX8_live_76 rfl hL0 ?_
        refine r_dupA Ra dX8_live_77 ?_
        refine q_getI Ra (x := μ c0 8) f_X8_132 ht0 rfl rfl rfl rfl dX8_live_78 ?_
        refine r_iconst Ra dX8_live_81 ?_
        refine r_iload Ra dX8_live_82 hL4 ?_
        refine r_ishl Ra dX8_live_84 ?_
        refine r_ior Ra dX8_live_85 ?_
        obtain ⟨m86, em86, h⟩ := bv h
        have hm86 : VT m86 := eqV em86 (hV.setI ht0 rfl (inR_32 _))
        refine q_putI Ra f_X8_132 p_X8_8 ht0 rfl rfl rfl em86 dX8_live_86 ?_
        obtain ⟨x3_89, ex3_89, h⟩ := bv h
        have ix3_89 : inR x3_89 := eqR ex3_89 (inR_32 _)
        refine q_iinc Ra dX8_live_89 hL3 ex3_89 ?_
        cases h
        exact hJ ix3_89 hm86 _ hL0 hL1 rfl hL4 rfl
set_option maxHeartbeats 4000000 in
theorem c_pW_live {l : Launch} {en : En} {N : Nat} {μ : Mem} {a0 : Int} {a1 : Int} {x2 : Int} {re : Int} {μe : Mem} (hV : VT μ) (ha0 : ty a0 = 9) (ha1 : ty a1 = 6) (hx2 : x2 = 0 ∨ x2 = 1) (h : pW_live N μ a0 a1 x2 = some (re, μe)) : CtI l en yX8_live cX8_live 6 6 209 [vA en a0, vA en a1, vI x2] μ .int re μe (VT μe ∧ inR re) := by
  refine Tr.of false (fun h => by cases h) (by decide) (Nat.le_of_ble_eq_true rfl) (fun K Ra => ?_)
  unfold pW_live at h
  refine r_aload_n Ra (i := 0) dX8_live_0 rfl rfl ?_
  refine r_aload_n Ra (i := 1) dX8_live_1 rfl rfl ?_
  refine r_iload_n Ra (i := 2) dX8_live_2 rfl rfl ?_
  obtain ⟨ys2_11, eys2_11, h⟩ := bv h
  have hJ : inR ys2_11 → ∀ L9 : Lo, L9 0 = some (vA en a0) → L9 1 = some (vA en a1) → K ZN 11 L9 [vI ys2_11, vA en a1, vA en a0] μ := by
    intro iys2_11 L9 f11_0 f11_1
    obtain ⟨m11, hr11, h⟩ := bd h
    refine q_callVV Ra (c_pW_begin hV ha0 ha1 iys2_11 hr11) mw_X8_begin mi_X8_begin ha0 rfl rfl rfl rfl rfl k_X8_125 rfl rfl dX8_live_11 (fun ok11 => ?_)
    refine r_aload_n Ra (i := 0) dX8_live_14 rfl f11_0 ?_
    refine r_iconst Ra dX8_live_15 ?_
    refine r_bipush Ra dX8_live_16 rfl ?_
    obtain ⟨m18, hr18, h⟩ := bd h
    refine q_callVV Ra (c_pW_through ok11 ha0 (Rk rfl) (Rk rfl) hr18) mw_X8_through mi_X8_through ha0 rfl rfl rfl rfl rfl k_X8_129 rfl rfl dX8_live_18 (fun ok18 => ?_)
    refine r_aload_n Ra (i := 0) dX8_live_21 rfl f11_0 ?_
    refine r_iconst Ra dX8_live_22 ?_
    obtain ⟨m23, em23, h⟩ := bv h
    have hm23 : VT m23 := eqV em23 (ok18.setI ha0 rfl (Rk rfl))
    refine q_putI Ra f_X8_132 p_X8_8 ha0 rfl rfl rfl em23 dX8_live_23 ?_
    refine r_iconst Ra dX8_live_26 ?_
    refine q_istore_n Ra 3 dX8_live_27 rfl rfl rfl ?_
    refine r_iconst Ra dX8_live_28 ?_
    refine q_istore Ra dX8_live_29 rfl rfl ?_
    refine k_pW_live_L31 Ra ha0 ha1 ?_ _ _ _ _ _ h (Rk rfl) (Rk rfl) hm23 f11_0 f11_1 rfl rfl
    intro z3_117 n117 h iz3_117 hn117 L9 f117_0 f117_1 f117_3
    refine r_aload_n Ra (i := 0) dX8_live_117 rfl f117_0 ?_
    refine q_getA Ra (b := (a0 + 1)) f_X8_9 ha0 rfl rfl rfl (hn117.ref ha0 rfl (by decide)) (tin (tn9_1 ha0).1 rfl).1 dX8_live_118 ?_
    refine r_iconst Ra dX8_live_121 ?_
    refine r_aload_n Ra (i := 1) dX8_live_122 rfl f117_1 ?_
    refine q_getA Ra (b := (a1 + 1)) f_X8_46 ha1 rfl rfl rfl (hn117.ref ha1 rfl (by decide)) (tin (tn6_1 ha1).1 rfl).1 dX8_live_123 ?_
    refine r_iconst Ra dX8_live_126 ?_
    refine r_bipush Ra dX8_live_127 rfl ?_
    obtain ⟨m129, em129, h⟩ := bv h
    have hm129 : VT m129 := eqV em129 (hn117.cpy (tn9_1 ha0).1 (tn6_1 ha1).1)
    refine q_copy Ra em129 (tn9_1 ha0).1 (tn6_1 ha1).1 (tn9_1 ha0).2 (tn6_1 ha1).2 (by decide) k_X8_47 rfl rfl dX8_live_129 ?_
    refine r_aload_n Ra (i := 1) dX8_live_132 rfl f117_1 ?_
    refine r_aload_n Ra (i := 0) dX8_live_133 rfl f117_0 ?_
    obtain ⟨r134, hr134, h⟩ := bd h
    refine q_callVI Ra (c_pW_wrungByAll hm129 ha0 hr134) mw_X8_wrungByAll mi_X8_wrungByAll ha0 rfl rfl rfl rfl rfl k_X8_141 rfl rfl dX8_live_134 (fun ok134 => ?_)
    refine r_iload_n Ra (i := 3) dX8_live_137 rfl f117_3 ?_
    obtain ⟨m138, hr138, h⟩ := bd h
    refine q_callVV Ra (c_pS_keep hm129 ha1 ok134 iz3_117 hr138) mw_X5_keep mi_X5_keep ha1 rfl rfl rfl rfl rfl k_X8_145 rfl rfl dX8_live_138 (fun ok138 => ?_)
    refine r_aload_n Ra (i := 1) dX8_live_141 rfl f117_1 ?_
    refine r_sipush Ra dX8_live_142 rfl ?_
    refine r_aload_n Ra (i := 1) dX8_live_145 rfl f117_1 ?_
    refine q_getI Ra (x := m138 a1 0) f_X8_40 ha1 rfl rfl rfl rfl dX8_live_146 ?_
    refine r_iconst Ra dX8_live_149 ?_
    refine r_iadd Ra dX8_live_150 ?_
    refine q_mmin Ra (Rk rfl) (inR_32 _) k_X8_85 rfl rfl dX8_live_151 ?_
    obtain ⟨m154, em154, h⟩ := bv h
    have hm154 : VT m154 := eqV em154 (ok138.setI ha1 rfl (inR_min (Rk rfl) (inR_32 _)))
    refine q_putI Ra f_X8_40 p_X5_0 ha1 rfl rfl rfl em154 dX8_live_154 ?_
    refine r_aload_n Ra (i := 0) dX8_live_157 rfl f117_0 ?_
    obtain ⟨r158, hr158, h⟩ := bd h
    refine q_callVI Ra (c_pW_wrungByAll hm154 ha0 hr158) mw_X8_wrungByAll mi_X8_wrungByAll ha0 rfl rfl rfl rfl rfl k_X8_141 rfl rfl dX8_live_158 (fun ok158 => ?_)
    cases h
    exact r_iret Ra ⟨hm154, ok158⟩ dX8_live_161
  refine r_if_eq Ra 10 dX8_live_3 (inR_01 hx2) rfl (fun hc => ?_) (fun hc => ?_)
  · replace eys2_11 := eys2_11.trans (if_pos hc)
    refine r_iconst Ra dX8_live_10 ?_
    subst eys2_11
    exact hJ (Rk rfl) _ rfl rfl
  · replace eys2_11 := eys2_11.trans (if_neg hc)
    refine r_iconst Ra dX8_live_6 ?_
    refine r_goto Ra 11 dX8_live_7 rfl ?_
    subst eys2_11
    exact hJ (Rk rfl) _ rfl rfl
noncomputable def pH_learn_L23b (N : Nat) (c2 : Int) (k : Mem → Option (Mem)) (self : Int → Mem → Option (Mem)) (x3 : Int) (μ : Mem) : Option (Mem) := if x3 < 6 then if 0 ≤ x3 ∧ x3 < 6 then (some (mset μ 388 x3 (-1))).bind fun m35 => (some (w32 (x3 + 1) : Int)).bind fun x3_36 => self x3_36 m35 else none else k μ
noncomputable def pH_learn_L23 (N : Nat) (c2 : Int) (k : Mem → Option (Mem)) (n : Nat) : Int → Mem → Option (Mem) := lpF (fun _ _ => none) (pH_learn_L23b N c2 k) n
noncomputable def pH_learn_L83b (N : Nat) (c2 : Int) (c3 : Int) (k : Mem → Option (Mem)) (self : Int → Mem → Option (Mem)) (x4 : Int) (μ : Mem) : Option (Mem) := if x4 < μ 2 3 then if 0 ≤ x4 ∧ x4 < 6 then if μ 388 x4 = (-1) then if a32 (shr32 (μ 389 8) x4) 1 = 1 then if 0 ≤ x4 ∧ x4 < 6 then (some (mset μ 388 x4 c3)).bind fun m129 => (some (w32 (x4 + 1) : Int)).bind fun x4_130 => self x4_130 m129 else none else (some (w32 (x4 + 1) : Int)).bind fun x4_130 => self x4_130 μ else (some (w32 (x4 + 1) : Int)).bind fun x4_130 => self x4_130 μ else none else k μ
noncomputable def pH_learn_L83 (N : Nat) (c2 : Int) (c3 : Int) (k : Mem → Option (Mem)) (n : Nat) : Int → Mem → Option (Mem) := lpF (fun _ _ => none) (pH_learn_L83b N c2 c3 k) n
noncomputable def pH_learn_L49b (N : Nat) (c2 : Int) (k : Mem → Option (Mem)) (self : Int → Mem → Option (Mem)) (x3 : Int) (μ : Mem) : Option (Mem) := if x3 < c2 then if x3 < 40 then (pW_live N μ 389 297 0).bind fun (r69, m69) => (pH_write m69 (w32 (x3 + 1))).bind fun m77 => pH_learn_L83 N c2 x3 (fun n136 => (some (w32 (x3 + 1) : Int)).bind fun x3_136 => self x3_136 n136) N 0 m77 else k μ else k μ
noncomputable def pH_learn_L49 (N : Nat) (c2 : Int) (k : Mem → Option (Mem)) (n : Nat) : Int → Mem → Option (Mem) := lpF (fun _ _ => none) (pH_learn_L49b N c2 k) n
noncomputable def pH_learn (N : Nat) (μ : Mem) (a1 : Int) (x2 : Int) : Option (Mem) := if μ 296 6 = 0 then (some (mset μ 296 6 1)).bind fun m10 => (pS_copyOf m10 297 a1).bind fun m18 => pH_learn_L23 N x2 (fun n42 => (pH_write n42 0).bind fun m44 => pH_learn_L49 N x2 (fun n142 => some n142) N 0 m44) N 0 m18 else some μ
theorem k_pH_learn_L23 {l : Launch} {en : En} {μe : Mem} {N : Nat} {c2 : Int} {k : Mem → Option (Mem)} {K : KT} (Ra : Ru false (some (none, none, nCells, μe, 0, 0, (VT μe))) l en cX1_learn yX1_learn.cls 5 (rmN 7 234) K) (hi2 : inR c2) (hk : ∀  (μ9 : Mem), k μ9 = some μe → VT μ9 → ∀ L9 : Lo, L9 0 = some (vA en 296) → L9 2 = some (vI c2) → K ZN 42 L9 [] μ9) : ∀ (n : Nat) (x3 : Int) (μ : Mem) (L : Lo), pH_learn_L23 N c2 k n x3 μ = some μe → inR x3 → VT μ → L 0 = some (vA en 296) → L 2 = some (vI c2) → L 3 = some (vI x3) → K ZN 23 L [] μ := by
  intro n
  induction n with
  | zero => intro x3 μ L h; cases h
  | succ n ih =>
    intro x3 μ L h hx3 hV hL0 hL2 hL3
    replace h : pH_learn_L23b N c2 k (pH_learn_L23 N c2 k n) x3 μ = some μe := h
    unfold pH_learn_L23b at h
    refine r_iload_n Ra (i := 3) dX1_learn_23 rfl hL3 ?_
    refine r_bipush Ra dX1_learn_24 rfl ?_
    refine r_icmp_ge Ra 42 dX1_learn_26 hx3 (Rk rfl) rfl (fun hc => ?_) (fun hc => ?_)
    · replace h := ineg hc h
      exact hk μ h  hV _ hL0 hL2
    · replace h := ipos hc h
      refine r_aload_n Ra (i := 0) dX1_learn_29 rfl hL0 ?_
      refine q_getA Ra (b := 388) f_X1_26 t296 rfl rfl rfl (hV.ref t296 rfl (by decide)) (by decide) dX1_learn_30 ?_
      refine r_iload_n Ra (i := 3) dX1_learn_33 rfl hL3 ?_
      refine r_iconst Ra dX1_learn_34 ?_
      obtain ⟨gu35, h⟩ := gd h
      obtain ⟨m35, em35, h⟩ := bv h
      have hm35 : VT m35 := eqV em35 (hV.setI t388 (kd20 _) (Rk rfl))
      refine q_iast Ra t388 l388 gu35 em35 dX1_learn_35 ?_
      obtain ⟨x3_36, ex3_36, h⟩ := bv h
      have ix3_36 : inR x3_36 := eqR ex3_36 (inR_32 _)
      refine q_iinc Ra dX1_learn_36 hL3 ex3_36 ?_
      refine r_goto Ra 23 dX1_learn_39 rfl ?_
      exact ih x3_36 m35 _ h ix3_36 hm35 hL0 hL2 rfl
theorem k_pH_learn_L83 {l : Launch} {en : En} {μe : Mem} {N : Nat} {c2 : Int} {c3 : Int} {k : Mem → Option (Mem)} {K : KT} (Ra : Ru false (some (none, none, nCells, μe, 0, 0, (VT μe))) l en cX1_learn yX1_learn.cls 5 (rmN 7 234) K) (hi2 : inR c2) (hi3 : inR c3) (hk : ∀  (μ9 : Mem), k μ9 = some μe → VT μ9 → ∀ L9 : Lo, L9 0 = some (vA en 296) → L9 2 = some (vI c2) → L9 3 = some (vI c3) → K ZN 136 L9 [] μ9) : ∀ (n : Nat) (x4 : Int) (μ : Mem) (L : Lo), pH_learn_L83 N c2 c3 k n x4 μ = some μe → inR x4 → VT μ → L 0 = some (vA en 296) → L 2 = some (vI c2) → L 3 = some (vI c3) → L 4 = some (vI x4) → K ZN 83 L [] μ := by
  intro n
  induction n with
  | zero => intro x4 μ L h; cases h
  | succ n ih =>
    intro x4 μ L h hx4 hV hL0 hL2 hL3 hL4
    replace h : pH_learn_L83b N c2 c3 k (pH_learn_L83 N c2 c3 k n) x4 μ = some μe := h
    unfold pH_learn_L83b at h
    refine r_iload Ra dX1_learn_83 hL4 ?_
    refine r_aload_n Ra (i := 0) dX1_learn_85 rfl hL0 ?_
    refine q_getA Ra (b := 2) f_X1_30 t296 rfl rfl rfl (hV.ref t296 rfl (by decide)) (by decide) dX1_learn_86 ?_
    refine q_getI Ra (x := μ 2 3) f_X1_59 t2 rfl rfl rfl rfl dX1_learn_89 ?_
    refine r_icmp_ge Ra 136 dX1_learn_92 hx4 (hV.int t2 rfl) rfl (fun hc => ?_) (fun hc => ?_)
    · replace h := ineg hc h
      exact hk μ h  hV _ hL0 hL2 hL3
    · replace h := ipos hc h
      refine r_aload_n Ra (i := 0) dX1_learn_95 rfl hL0 ?_
      refine q_getA Ra (b := 388) f_X1_26 t296 rfl rfl rfl (hV.ref t296 rfl (by decide)) (by decide) dX1_learn_96 ?_
      refine r_iload Ra dX1_learn_99 hL4 ?_
      obtain ⟨gu101, h⟩ := gd h
      refine q_iald Ra t388 l388 gu101 dX1_learn_101 ?_
      refine r_iconst Ra dX1_learn_102 ?_
      refine r_icmp_ne Ra 130 dX1_learn_103 (hV.int t388 (kd20 _)) (Rk rfl) rfl (fun hc => ?_) (fun hc => ?_)
      · replace h := ineg hc h
        obtain ⟨x4_130, ex4_130, h⟩ := bv h
        have ix4_130 : inR x4_130 := eqR ex4_130 (inR_32 _)
        refine q_iinc Ra dX1_learn_130 hL4 ex4_130 ?_
        refine r_goto Ra 83 dX1_learn_133 rfl ?_
        exact ih x4_130 μ _ h ix4_130 hV hL0 hL2 hL3 rfl
      · replace h := ipos hc h
        refine r_aload_n Ra (i := 0) dX1_learn_106 rfl hL0 ?_
        refine q_getA Ra (b := 389) f_X1_39 t296 rfl rfl rfl (hV.ref t296 rfl (by decide)) (by decide) dX1_learn_107 ?_
        refine q_getI Ra (x := μ 389 8) f_X1_65 t389 rfl rfl rfl rfl dX1_learn_110 ?_
        refine r_iload Ra dX1_learn_113 hL4 ?_
        refine r_ishr Ra dX1_learn_115 ?_
        refine r_iconst Ra dX1_learn_116 ?_
        refine r_iand Ra dX1_learn_117 ?_
        refine r_iconst Ra dX1_learn_118 ?_
        refine r_icmp_ne Ra 130 dX1_learn_119 (inR_32 _) (Rk rfl) rfl (fun hc => ?_) (fun hc => ?_)
        · replace h := ineg hc h
          obtain ⟨x4_130, ex4_130, h⟩ := bv h
          have ix4_130 : inR x4_130 := eqR ex4_130 (inR_32 _)
          refine q_iinc Ra dX1_learn_130 hL4 ex4_130 ?_
          refine r_goto Ra 83 dX1_learn_133 rfl ?_
          exact ih x4_130 μ _ h ix4_130 hV hL0 hL2 hL3 rfl
        · replace h := ipos hc h
          refine r_aload_n Ra (i := 0) dX1_learn_122 rfl hL0 ?_
          refine q_getA Ra (b := 388) f_X1_26 t296 rfl rfl rfl (hV.ref t296 rfl (by decide)) (by decide) dX1_learn_123 ?_
          refine r_iload Ra dX1_learn_126 hL4 ?_
          refine r_iload_n Ra (i := 3) dX1_learn_128 rfl hL3 ?_
          obtain ⟨gu129, h⟩ := gd h
          obtain ⟨m129, em129, h⟩ := bv h
          have hm129 : VT m129 := eqV em129 (hV.setI t388 (kd20 _) hi3)
          refine q_iast Ra t388 l388 gu129 em129 dX1_learn_129 ?_
          obtain ⟨x4_130, ex4_130, h⟩ := bv h
          have ix4_130 : inR x4_130 := eqR ex4_130 (inR_32 _)
          refine q_iinc Ra dX1_learn_130 hL4 ex4_130 ?_
          refine r_goto Ra 83 dX1_learn_133 rfl ?_
          exact ih x4_130 m129 _ h ix4_130 hm129 hL0 hL2 hL3 rfl
theorem k_pH_learn_L49 {l : Launch} {en : En} {μe : Mem} {N : Nat} {c2 : Int} {k : Mem → Option (Mem)} {K : KT} (Ra : Ru false (some (none, none, nCells, μe, 0, 0, (VT μe))) l en cX1_learn yX1_learn.cls 5 (rmN 7 234) K) (hi2 : inR c2) (hk : ∀  (μ9 : Mem), k μ9 = some μe → VT μ9 → ∀ L9 : Lo, K ZN 142 L9 [] μ9) : ∀ (n : Nat) (x3 : Int) (μ : Mem) (L : Lo), pH_learn_L49 N c2 k n x3 μ = some μe → inR x3 → VT μ → L 0 = some (vA en 296) → L 2 = some (vI c2) → L 3 = some (vI x3) → K ZN 49 L [] μ := by
  intro n
  induction n with
  | zero => intro x3 μ L h; cases h
  | succ n ih =>
    intro x3 μ L h hx3 hV hL0 hL2 hL3
    replace h : pH_learn_L49b N c2 k (pH_learn_L49 N c2 k n) x3 μ = some μe := h
    unfold pH_learn_L49b at h
    refine r_iload_n Ra (i := 3) dX1_learn_49 rfl hL3 ?_
    refine r_iload_n Ra (i := 2) dX1_learn_50 rfl hL2 ?_
    refine r_icmp_ge Ra 142 dX1_learn_51 hx3 hi2 rfl (fun hc => ?_) (fun hc => ?_)
    · replace h := ineg hc h
      exact hk μ h  hV _ 
    · replace h := ipos hc h
      refine r_iload_n Ra (i := 3) dX1_learn_54 rfl hL3 ?_
      refine r_bipush Ra dX1_learn_55 rfl ?_
      refine r_icmp_ge Ra 142 dX1_learn_57 hx3 (Rk rfl) rfl (fun hc => ?_) (fun hc => ?_)
      · replace h := ineg hc h
        exact hk μ h  hV _ 
      · replace h := ipos hc h
        refine r_aload_n Ra (i := 0) dX1_learn_60 rfl hL0 ?_
        refine q_getA Ra (b := 389) f_X1_39 t296 rfl rfl rfl (hV.ref t296 rfl (by decide)) (by decide) dX1_learn_61 ?_
        refine r_aload_n Ra (i := 0) dX1_learn_64 rfl hL0 ?_
        refine q_getA Ra (b := 297) f_X1_12 t296 rfl rfl rfl (hV.ref t296 rfl (by decide)) (by decide) dX1_learn_65 ?_
        refine r_iconst Ra dX1_learn_68 ?_
        obtain ⟨⟨r69, m69⟩, hr69, h⟩ := bd h
        refine q_callVI Ra (c_pW_live hV t389 t297 (Or.inl rfl) hr69) mw_X8_live mi_X8_live t389 rfl rfl rfl rfl rfl k_X1_55 rfl rfl dX1_learn_69 (fun ok69 => ?_)
        obtain ⟨hV69, ok69⟩ := ok69
        refine r_popI Ra dX1_learn_72 ?_
        refine r_aload_n Ra (i := 0) dX1_learn_73 rfl hL0 ?_
        refine r_iload_n Ra (i := 3) dX1_learn_74 rfl hL3 ?_
        refine r_iconst Ra dX1_learn_75 ?_
        refine r_iadd Ra dX1_learn_76 ?_
        obtain ⟨m77, hr77, h⟩ := bd h
        refine q_callVV Ra (c_pH_write hV69 (inR_32 _) hr77) mw_X1_write mi_X1_write t296 rfl rfl rfl rfl rfl k_X1_51 rfl rfl dX1_learn_77 (fun ok77 => ?_)
        refine r_iconst Ra dX1_learn_80 ?_
        refine q_istore Ra dX1_learn_81 rfl rfl ?_
        refine k_pH_learn_L83 Ra hi2 hx3 ?_ _ _ _ _ h (Rk rfl) ok77 hL0 hL2 hL3 rfl
        intro n136 h hn136 L9 f136_0 f136_2 f136_3
        obtain ⟨x3_136, ex3_136, h⟩ := bv h
        have ix3_136 : inR x3_136 := eqR ex3_136 (inR_32 _)
        refine q_iinc Ra dX1_learn_136 f136_3 ex3_136 ?_
        refine r_goto Ra 49 dX1_learn_139 rfl ?_
        exact ih x3_136 n136 _ h ix3_136 hn136 f136_0 f136_2 rfl
set_option maxHeartbeats 4000000 in
theorem c_pH_learn {l : Launch} {en : En} {N : Nat} {μ : Mem} {a1 : Int} {x2 : Int} {μe : Mem} (hV : VT μ) (ha1 : ty a1 = 6) (hx2 : inR x2) (h : pH_learn N μ a1 x2 = some μe) : CtV l en yX1_learn cX1_learn 5 7 234 [vA en 296, vA en a1, vI x2] μ μe (VT μe) := by
  refine Tr.of false (fun h => by cases h) (by decide) (Nat.le_of_ble_eq_true rfl) (fun K Ra => ?_)
  unfold pH_learn at h
  refine r_aload_n Ra (i := 0) dX1_learn_0 rfl rfl ?_
  refine q_getZ Ra (x := μ 296 6) f_X1_43 t296 rfl rfl rfl rfl dX1_learn_1 ?_
  refine r_if_eq Ra 8 dX1_learn_4 (inR_01 (hV.bool t296 rfl)) rfl (fun hc => ?_) (fun hc => ?_)
  · replace h := ipos hc h
    refine r_aload_n Ra (i := 0) dX1_learn_8 rfl rfl ?_
    refine r_iconst Ra dX1_learn_9 ?_
    obtain ⟨m10, em10, h⟩ := bv h
    have hm10 : VT m10 := eqV em10 (hV.setZ t296 rfl (Or.inr rfl))
    refine q_putZ Ra f_X1_43 p_X1_6 t296 rfl rfl rfl em10 (Or.inr rfl) dX1_learn_10 ?_
    refine r_aload_n Ra (i := 0) dX1_learn_13 rfl rfl ?_
    refine q_getA Ra (b := 297) f_X1_12 t296 rfl rfl rfl (hm10.ref t296 rfl (by decide)) (by decide) dX1_learn_14 ?_
    refine r_aload_n Ra (i := 1) dX1_learn_17 rfl rfl ?_
    obtain ⟨m18, hr18, h⟩ := bd h
    refine q_callVV Ra (c_pS_copyOf hm10 t297 ha1 hr18) mw_X5_copyOf mi_X5_copyOf t297 rfl rfl rfl rfl rfl k_X1_47 rfl rfl dX1_learn_18 (fun ok18 => ?_)
    refine r_iconst Ra dX1_learn_21 ?_
    refine q_istore_n Ra 3 dX1_learn_22 rfl rfl rfl ?_
    refine k_pH_learn_L23 Ra hx2 ?_ _ _ _ _ h (Rk rfl) ok18 rfl rfl rfl
    intro n42 h hn42 L9 f42_0 f42_2
    refine r_aload_n Ra (i := 0) dX1_learn_42 rfl f42_0 ?_
    refine r_iconst Ra dX1_learn_43 ?_
    obtain ⟨m44, hr44, h⟩ := bd h
    refine q_callVV Ra (c_pH_write hn42 (Rk rfl) hr44) mw_X1_write mi_X1_write t296 rfl rfl rfl rfl rfl k_X1_51 rfl rfl dX1_learn_44 (fun ok44 => ?_)
    refine r_iconst Ra dX1_learn_47 ?_
    refine q_istore_n Ra 3 dX1_learn_48 rfl rfl rfl ?_
    refine k_pH_learn_L49 Ra hx2 ?_ _ _ _ _ h (Rk rfl) ok44 f42_0 f42_2 rfl
    intro n142 h hn142 L9 
    cases h
    exact r_vret Ra hn142 dX1_learn_142
  · replace h := ineg hc h
    cases h
    exact r_vret Ra hV dX1_learn_7
noncomputable def pI_add (μ : Mem) (x1 : Int) : Option (Mem) := if μ 472 1 < 103 then if 0 ≤ μ 472 1 ∧ μ 472 1 < 103 then (some (mset μ 473 (μ 472 1) x1)).bind fun m18 => (some (mset m18 472 1 (w32 ((m18 472 1) + 1)))).bind fun m26 => some m26 else none else some μ
set_option maxHeartbeats 4000000 in
theorem c_pI_add {l : Launch} {en : En} {μ : Mem} {x1 : Int} {μe : Mem} (hV : VT μ) (hx1 : inR x1) (h : pI_add μ x1 = some μe) : CtV l en yX2_add cX2_add 2 0 60 [vA en 472, vI x1] μ μe (VT μe) := by
  refine Tr.of false (fun h => by cases h) (by decide) (Nat.le_of_ble_eq_true rfl) (fun K Ra => ?_)
  unfold pI_add at h
  refine r_aload_n Ra (i := 0) dX2_add_0 rfl rfl ?_
  refine q_getI Ra (x := μ 472 1) f_X2_15 t472 rfl rfl rfl rfl dX2_add_1 ?_
  refine r_bipush Ra dX2_add_4 rfl ?_
  refine r_icmp_ge Ra 29 dX2_add_6 (hV.int t472 rfl) (Rk rfl) rfl (fun hc => ?_) (fun hc => ?_)
  · replace h := ineg hc h
    cases h
    exact r_vret Ra hV dX2_add_29
  · replace h := ipos hc h
    refine r_aload_n Ra (i := 0) dX2_add_9 rfl rfl ?_
    refine q_getA Ra (b := 473) f_X2_11 t472 rfl rfl rfl (hV.ref t472 rfl (by decide)) (by decide) dX2_add_10 ?_
    refine r_aload_n Ra (i := 0) dX2_add_13 rfl rfl ?_
    refine q_getI Ra (x := μ 472 1) f_X2_15 t472 rfl rfl rfl rfl dX2_add_14 ?_
    refine r_iload_n Ra (i := 1) dX2_add_17 rfl rfl ?_
    obtain ⟨gu18, h⟩ := gd h
    obtain ⟨m18, em18, h⟩ := bv h
    have hm18 : VT m18 := eqV em18 (hV.setI t473 (kd20 _) hx1)
    refine q_iast Ra t473 l473 gu18 em18 dX2_add_18 ?_
    refine r_aload_n Ra (i := 0) dX2_add_19 rfl rfl ?_
    refine r_dupA Ra dX2_add_20 ?_
    refine q_getI Ra (x := m18 472 1) f_X2_15 t472 rfl rfl rfl rfl dX2_add_21 ?_
    refine r_iconst Ra dX2_add_24 ?_
    refine r_iadd Ra dX2_add_25 ?_
    obtain ⟨m26, em26, h⟩ := bv h
    have hm26 : VT m26 := eqV em26 (hm18.setI t472 rfl (inR_32 _))
    refine q_putI Ra f_X2_15 p_X2_1 t472 rfl rfl rfl em26 dX2_add_26 ?_
    cases h
    exact r_vret Ra hm26 dX2_add_29
noncomputable def pI_check_L6b (N : Nat) (μ : Mem) (c0 : Int) (c1 : Int) (k : Int → Option (Int)) (self : Int → Int → Option (Int)) (x2 : Int) (x3 : Int) : Option (Int) := if x3 < c1 then if x3 < (ln c0) then if 0 ≤ x3 ∧ x3 < (ln c0) then (some (r32 (w32 ((w32 (5 * x2)) + (μ c0 x3))) 251 : Int)).bind fun x2_28 => (some (w32 (x3 + 1) : Int)).bind fun x3_29 => self x2_28 x3_29 else none else k x2 else k x2
noncomputable def pI_check_L6 (N : Nat) (μ : Mem) (c0 : Int) (c1 : Int) (k : Int → Option (Int)) (n : Nat) : Int → Int → Option (Int) := lpF (fun _ _ => none) (pI_check_L6b N μ c0 c1 k) n
noncomputable def pI_check (N : Nat) (μ : Mem) (a0 : Int) (x1 : Int) : Option (Int) := pI_check_L6 N μ a0 x1 (fun z2_35 => some (z2_35)) N 223 0
theorem k_pI_check_L6 {l : Launch} {en : En} {re : Int} {N : Nat} {μ : Mem} (hV : VT μ) {c0 : Int} {c1 : Int} {k : Int → Option (Int)} {K : KT} (Ra : Ru false (some (some .int, some (vI re), nCells, μ, 0, 0, (inR re))) l en cX2_check yX2_check.cls 4 (rmN 0 60) K) (ht0 : ty c0 = 20) (hi1 : inR c1) (hk : ∀ (z2 : Int), k z2 = some re → inR z2 → ∀ L9 : Lo, L9 2 = some (vI z2) → K ZN 35 L9 [] μ) : ∀ (n : Nat) (x2 : Int) (x3 : Int) (L : Lo), pI_check_L6 N μ c0 c1 k n x2 x3 = some re → inR x2 → inR x3 → L 0 = some (vA en c0) → L 1 = some (vI c1) → L 2 = some (vI x2) → L 3 = some (vI x3) → K ZN 6 L [] μ := by
  intro n
  induction n with
  | zero => intro x2 x3 L h; cases h
  | succ n ih =>
    intro x2 x3 L h hx2 hx3 hL0 hL1 hL2 hL3
    replace h : pI_check_L6b N μ c0 c1 k (pI_check_L6 N μ c0 c1 k n) x2 x3 = some re := h
    unfold pI_check_L6b at h
    refine r_iload_n Ra (i := 3) dX2_check_6 rfl hL3 ?_
    refine r_iload_n Ra (i := 1) dX2_check_7 rfl hL1 ?_
    refine r_icmp_ge Ra 35 dX2_check_8 hx3 hi1 rfl (fun hc => ?_) (fun hc => ?_)
    · replace h := ineg hc h
      exact hk x2 h hx2 _ hL2
    · replace h := ipos hc h
      refine r_iload_n Ra (i := 3) dX2_check_11 rfl hL3 ?_
      refine r_aload_n Ra (i := 0) dX2_check_12 rfl hL0 ?_
      refine q_alen Ra ht0 rfl dX2_check_13 ?_
      refine r_icmp_ge Ra 35 dX2_check_14 hx3 (inR_ln _) rfl (fun hc => ?_) (fun hc => ?_)
      · replace h := ineg hc h
        exact hk x2 h hx2 _ hL2
      · replace h := ipos hc h
        refine r_iconst Ra dX2_check_17 ?_
        refine r_iload_n Ra (i := 2) dX2_check_18 rfl hL2 ?_
        refine r_imul Ra dX2_check_19 ?_
        refine r_aload_n Ra (i := 0) dX2_check_20 rfl hL0 ?_
        refine r_iload_n Ra (i := 3) dX2_check_21 rfl hL3 ?_
        obtain ⟨gu22, h⟩ := gd h
        refine q_iald Ra ht0 rfl gu22 dX2_check_22 ?_
        refine r_iadd Ra dX2_check_23 ?_
        refine r_sipush Ra dX2_check_24 rfl ?_
        refine r_irem Ra dX2_check_27 (Rk rfl) (by decide) ?_
        obtain ⟨x2_28, ex2_28, h⟩ := bv h
        have ix2_28 : inR x2_28 := eqR ex2_28 (inR_32 _)
        refine q_istore_n Ra 2 dX2_check_28 rfl rfl ex2_28 ?_
        obtain ⟨x3_29, ex3_29, h⟩ := bv h
        have ix3_29 : inR x3_29 := eqR ex3_29 (inR_32 _)
        refine q_iinc Ra dX2_check_29 hL3 ex3_29 ?_
        refine r_goto Ra 6 dX2_check_32 rfl ?_
        exact ih x2_28 x3_29 _ h ix2_28 ix3_29 hL0 hL1 rfl rfl
set_option maxHeartbeats 4000000 in
theorem c_pI_check {l : Launch} {en : En} {N : Nat} {μ : Mem} {a0 : Int} {x1 : Int} {re : Int} (hV : VT μ) (ha0 : ty a0 = 20) (hx1 : inR x1) (h : pI_check N μ a0 x1 = some re) : CtI l en yX2_check cX2_check 4 0 60 [vA en a0, vI x1] μ .int re μ (inR re) := by
  refine Tr.of false (fun h => by cases h) (by decide) (Nat.le_of_ble_eq_true rfl) (fun K Ra => ?_)
  unfold pI_check at h
  refine r_sipush Ra dX2_check_0 rfl ?_
  refine q_istore_n Ra 2 dX2_check_3 rfl rfl rfl ?_
  refine r_iconst Ra dX2_check_4 ?_
  refine q_istore_n Ra 3 dX2_check_5 rfl rfl rfl ?_
  refine k_pI_check_L6 hV Ra ha0 hx1 ?_ _ _ _ _ h (Rk rfl) (Rk rfl) rfl rfl rfl rfl
  intro z2_35 h iz2_35 L9 f35_2
  refine r_iload_n Ra (i := 2) dX2_check_35 rfl f35_2 ?_
  cases h
  exact r_iret Ra iz2_35 dX2_check_36
noncomputable def pI_write_L31b (N : Nat) (c2 : Int) (k : Mem → Option (Mem)) (self : Int → Mem → Option (Mem)) (x3 : Int) (μ : Mem) : Option (Mem) := if x3 < μ 2 2 then if 0 ≤ x3 ∧ x3 < 64 then (pI_add μ (μ (c2 + 1) x3)).bind fun m46 => (some (w32 (x3 + 1) : Int)).bind fun x3_49 => self x3_49 m46 else none else k μ
noncomputable def pI_write_L31 (N : Nat) (c2 : Int) (k : Mem → Option (Mem)) (n : Nat) : Int → Mem → Option (Mem) := lpF (fun _ _ => none) (pI_write_L31b N c2 k) n
noncomputable def pI_write_L57b (N : Nat) (c2 : Int) (k : Mem → Option (Mem)) (self : Int → Mem → Option (Mem)) (x3 : Int) (μ : Mem) : Option (Mem) := if x3 < μ 2 3 then if 0 ≤ x3 ∧ x3 < 6 then (pP_columnOf μ 2 (μ (c2 + 2) x3)).bind fun r73 => (pI_add μ r73).bind fun m76 => if 0 ≤ x3 ∧ x3 < 6 then (pP_rowOf m76 2 (m76 (c2 + 2) x3)).bind fun r87 => (pI_add m76 r87).bind fun m90 => if 0 ≤ x3 ∧ x3 < 6 then (pI_add m90 (m90 (c2 + 3) x3)).bind fun m100 => if 0 ≤ x3 ∧ x3 < 6 then (pI_add m100 (m100 (c2 + 4) x3)).bind fun m110 => if 0 ≤ x3 ∧ x3 < 6 then (pI_add m110 (d32 (m110 (c2 + 5) x3) 256)).bind fun m124 => if 0 ≤ x3 ∧ x3 < 6 then (pI_add m124 (r32 (m124 (c2 + 5) x3) 256)).bind fun m138 => (some (w32 (x3 + 1) : Int)).bind fun x3_141 => self x3_141 m138 else none else none else none else none else none else none else k μ
noncomputable def pI_write_L57 (N : Nat) (c2 : Int) (k : Mem → Option (Mem)) (n : Nat) : Int → Mem → Option (Mem) := lpF (fun _ _ => none) (pI_write_L57b N c2 k) n
noncomputable def pI_write (N : Nat) (μ : Mem) (a2 : Int) : Option (Mem) := (some (mset μ 472 1 0)).bind fun m2 => (pI_add m2 (d32 (m2 a2 0) 256)).bind fun m14 => (pI_add m14 (r32 (m14 a2 0) 256)).bind fun m26 => pI_write_L31 N a2 (fun n55 => pI_write_L57 N a2 (fun n147 => (pI_check N n147 473 (n147 472 1)).bind fun r156 => (pI_add n147 r156).bind fun m159 => some m159) N 0 n55) N 0 m26
theorem k_pI_write_L31 {l : Launch} {en : En} {μe : Mem} {N : Nat} {c2 : Int} {k : Mem → Option (Mem)} {K : KT} (Ra : Ru false (some (none, none, nCells, μe, 0, 0, (VT μe))) l en cX2_write yX2_write.cls 4 (rmN 1 83) K) (ht2 : ty c2 = 6) (hk : ∀  (μ9 : Mem), k μ9 = some μe → VT μ9 → ∀ L9 : Lo, L9 0 = some (vA en 472) → L9 1 = some (vA en 2) → L9 2 = some (vA en c2) → K ZN 55 L9 [] μ9) : ∀ (n : Nat) (x3 : Int) (μ : Mem) (L : Lo), pI_write_L31 N c2 k n x3 μ = some μe → inR x3 → VT μ → L 0 = some (vA en 472) → L 1 = some (vA en 2) → L 2 = some (vA en c2) → L 3 = some (vI x3) → K ZN 31 L [] μ := by
  intro n
  induction n with
  | zero => intro x3 μ L h; cases h
  | succ n ih =>
    intro x3 μ L h hx3 hV hL0 hL1 hL2 hL3
    replace h : pI_write_L31b N c2 k (pI_write_L31 N c2 k n) x3 μ = some μe := h
    unfold pI_write_L31b at h
    refine r_iload_n Ra (i := 3) dX2_write_31 rfl hL3 ?_
    refine r_aload_n Ra (i := 1) dX2_write_32 rfl hL1 ?_
    refine q_getI Ra (x := μ 2 2) f_X2_28 t2 rfl rfl rfl rfl dX2_write_33 ?_
    refine r_icmp_ge Ra 55 dX2_write_36 hx3 (hV.int t2 rfl) rfl (fun hc => ?_) (fun hc => ?_)
    · replace h := ineg hc h
      exact hk μ h  hV _ hL0 hL1 hL2
    · replace h := ipos hc h
      refine r_aload_n Ra (i := 0) dX2_write_39 rfl hL0 ?_
      refine r_aload_n Ra (i := 2) dX2_write_40 rfl hL2 ?_
      refine q_getA Ra (b := (c2 + 1)) f_X2_33 ht2 rfl rfl rfl (hV.ref ht2 rfl (by decide)) (tin (tn6_1 ht2).1 rfl).1 dX2_write_41 ?_
      refine r_iload_n Ra (i := 3) dX2_write_44 rfl hL3 ?_
      obtain ⟨gu45, h⟩ := gd h
      refine q_iald Ra (tn6_1 ht2).1 (tn6_1 ht2).2 gu45 dX2_write_45 ?_
      obtain ⟨m46, hr46, h⟩ := bd h
      refine q_callVV Ra (c_pI_add hV (hV.int (tn6_1 ht2).1 (kd20 _)) hr46) mw_X2_add mi_X2_add t472 rfl rfl rfl rfl rfl k_X2_24 rfl rfl dX2_write_46 (fun ok46 => ?_)
      obtain ⟨x3_49, ex3_49, h⟩ := bv h
      have ix3_49 : inR x3_49 := eqR ex3_49 (inR_32 _)
      refine q_iinc Ra dX2_write_49 hL3 ex3_49 ?_
      refine r_goto Ra 31 dX2_write_52 rfl ?_
      exact ih x3_49 m46 _ h ix3_49 ok46 hL0 hL1 hL2 rfl
theorem k_pI_write_L57 {l : Launch} {en : En} {μe : Mem} {N : Nat} {c2 : Int} {k : Mem → Option (Mem)} {K : KT} (Ra : Ru false (some (none, none, nCells, μe, 0, 0, (VT μe))) l en cX2_write yX2_write.cls 4 (rmN 1 83) K) (ht2 : ty c2 = 6) (hk : ∀  (μ9 : Mem), k μ9 = some μe → VT μ9 → ∀ L9 : Lo, L9 0 = some (vA en 472) → K ZN 147 L9 [] μ9) : ∀ (n : Nat) (x3 : Int) (μ : Mem) (L : Lo), pI_write_L57 N c2 k n x3 μ = some μe → inR x3 → VT μ → L 0 = some (vA en 472) → L 1 = some (vA en 2) → L 2 = some (vA en c2) → L 3 = some (vI x3) → K ZN 57 L [] μ := by
  intro n
  induction n with
  | zero => intro x3 μ L h; cases h
  | succ n ih =>
    intro x3 μ L h hx3 hV hL0 hL1 hL2 hL3
    replace h : pI_write_L57b N c2 k (pI_write_L57 N c2 k n) x3 μ = some μe := h
    unfold pI_write_L57b at h
    refine r_iload_n Ra (i := 3) dX2_write_57 rfl hL3 ?_
    refine r_aload_n Ra (i := 1) dX2_write_58 rfl hL1 ?_
    refine q_getI Ra (x := μ 2 3) f_X2_36 t2 rfl rfl rfl rfl dX2_write_59 ?_
    refine r_icmp_ge Ra 147 dX2_write_62 hx3 (hV.int t2 rfl) rfl (fun hc => ?_) (fun hc => ?_)
    · replace h := ineg hc h
      exact hk μ h  hV _ hL0
    · replace h := ipos hc h
      refine r_aload_n Ra (i := 0) dX2_write_65 rfl hL0 ?_
      refine r_aload_n Ra (i := 1) dX2_write_66 rfl hL1 ?_
      refine r_aload_n Ra (i := 2) dX2_write_67 rfl hL2 ?_
      refine q_getA Ra (b := (c2 + 2)) f_X2_39 ht2 rfl rfl rfl (hV.ref ht2 rfl (by decide)) (tin (tn6_2 ht2).1 rfl).1 dX2_write_68 ?_
      refine r_iload_n Ra (i := 3) dX2_write_71 rfl hL3 ?_
      obtain ⟨gu72, h⟩ := gd h
      refine q_iald Ra (tn6_2 ht2).1 (tn6_2 ht2).2 gu72 dX2_write_72 ?_
      obtain ⟨r73, hr73, h⟩ := bd h
      refine q_callVI Ra (c_pP_columnOf hV t2 (hV.int (tn6_2 ht2).1 (kd20 _)) hr73) mw_X3_columnOf mi_X3_columnOf t2 rfl rfl rfl rfl rfl k_X2_42 rfl rfl dX2_write_73 (fun ok73 => ?_)
      obtain ⟨m76, hr76, h⟩ := bd h
      refine q_callVV Ra (c_pI_add hV ok73 hr76) mw_X2_add mi_X2_add t472 rfl rfl rfl rfl rfl k_X2_24 rfl rfl dX2_write_76 (fun ok76 => ?_)
      refine r_aload_n Ra (i := 0) dX2_write_79 rfl hL0 ?_
      refine r_aload_n Ra (i := 1) dX2_write_80 rfl hL1 ?_
      refine r_aload_n Ra (i := 2) dX2_write_81 rfl hL2 ?_
      refine q_getA Ra (b := (c2 + 2)) f_X2_39 ht2 rfl rfl rfl (ok76.ref ht2 rfl (by decide)) (tin (tn6_2 ht2).1 rfl).1 dX2_write_82 ?_
      refine r_iload_n Ra (i := 3) dX2_write_85 rfl hL3 ?_
      obtain ⟨gu86, h⟩ := gd h
      refine q_iald Ra (tn6_2 ht2).1 (tn6_2 ht2).2 gu86 dX2_write_86 ?_
      obtain ⟨r87, hr87, h⟩ := bd h
      refine q_callVI Ra (c_pP_rowOf ok76 t2 (ok76.int (tn6_2 ht2).1 (kd20 _)) hr87) mw_X3_rowOf mi_X3_rowOf t2 rfl rfl rfl rfl rfl k_X2_46 rfl rfl dX2_write_87 (fun ok87 => ?_)
      obtain ⟨m90, hr90, h⟩ := bd h
      refine q_callVV Ra (c_pI_add ok76 ok87 hr90) mw_X2_add mi_X2_add t472 rfl rfl rfl rfl rfl k_X2_24 rfl rfl dX2_write_90 (fun ok90 => ?_)
      refine r_aload_n Ra (i := 0) dX2_write_93 rfl hL0 ?_
      refine r_aload_n Ra (i := 2) dX2_write_94 rfl hL2 ?_
      refine q_getA Ra (b := (c2 + 3)) f_X2_49 ht2 rfl rfl rfl (ok90.ref ht2 rfl (by decide)) (tin (tn6_3 ht2).1 rfl).1 dX2_write_95 ?_
      refine r_iload_n Ra (i := 3) dX2_write_98 rfl hL3 ?_
      obtain ⟨gu99, h⟩ := gd h
      refine q_iald Ra (tn6_3 ht2).1 (tn6_3 ht2).2 gu99 dX2_write_99 ?_
      obtain ⟨m100, hr100, h⟩ := bd h
      refine q_callVV Ra (c_pI_add ok90 (ok90.int (tn6_3 ht2).1 (kd20 _)) hr100) mw_X2_add mi_X2_add t472 rfl rfl rfl rfl rfl k_X2_24 rfl rfl dX2_write_100 (fun ok100 => ?_)
      refine r_aload_n Ra (i := 0) dX2_write_103 rfl hL0 ?_
      refine r_aload_n Ra (i := 2) dX2_write_104 rfl hL2 ?_
      refine q_getA Ra (b := (c2 + 4)) f_X2_52 ht2 rfl rfl rfl (ok100.ref ht2 rfl (by decide)) (tin (tn6_4 ht2).1 rfl).1 dX2_write_105 ?_
      refine r_iload_n Ra (i := 3) dX2_write_108 rfl hL3 ?_
      obtain ⟨gu109, h⟩ := gd h
      refine q_iald Ra (tn6_4 ht2).1 (tn6_4 ht2).2 gu109 dX2_write_109 ?_
      obtain ⟨m110, hr110, h⟩ := bd h
      refine q_callVV Ra (c_pI_add ok100 (ok100.int (tn6_4 ht2).1 (kd20 _)) hr110) mw_X2_add mi_X2_add t472 rfl rfl rfl rfl rfl k_X2_24 rfl rfl dX2_write_110 (fun ok110 => ?_)
      refine r_aload_n Ra (i := 0) dX2_write_113 rfl hL0 ?_
      refine r_aload_n Ra (i := 2) dX2_write_114 rfl hL2 ?_
      refine q_getA Ra (b := (c2 + 5)) f_X2_55 ht2 rfl rfl rfl (ok110.ref ht2 rfl (by decide)) (tin (tn6_5 ht2).1 rfl).1 dX2_write_115 ?_
      refine r_iload_n Ra (i := 3) dX2_write_118 rfl hL3 ?_
      obtain ⟨gu119, h⟩ := gd h
      refine q_iald Ra (tn6_5 ht2).1 (tn6_5 ht2).2 gu119 dX2_write_119 ?_
      refine r_sipush Ra dX2_write_120 rfl ?_
      refine r_idiv Ra dX2_write_123 (Rk rfl) (by decide) ?_
      obtain ⟨m124, hr124, h⟩ := bd h
      refine q_callVV Ra (c_pI_add ok110 (inR_32 _) hr124) mw_X2_add mi_X2_add t472 rfl rfl rfl rfl rfl k_X2_24 rfl rfl dX2_write_124 (fun ok124 => ?_)
      refine r_aload_n Ra (i := 0) dX2_write_127 rfl hL0 ?_
      refine r_aload_n Ra (i := 2) dX2_write_128 rfl hL2 ?_
      refine q_getA Ra (b := (c2 + 5)) f_X2_55 ht2 rfl rfl rfl (ok124.ref ht2 rfl (by decide)) (tin (tn6_5 ht2).1 rfl).1 dX2_write_129 ?_
      refine r_iload_n Ra (i := 3) dX2_write_132 rfl hL3 ?_
      obtain ⟨gu133, h⟩ := gd h
      refine q_iald Ra (tn6_5 ht2).1 (tn6_5 ht2).2 gu133 dX2_write_133 ?_
      refine r_sipush Ra dX2_write_134 rfl ?_
      refine r_irem Ra dX2_write_137 (Rk rfl) (by decide) ?_
      obtain ⟨m138, hr138, h⟩ := bd h
      refine q_callVV Ra (c_pI_add ok124 (inR_32 _) hr138) mw_X2_add mi_X2_add t472 rfl rfl rfl rfl rfl k_X2_24 rfl rfl dX2_write_138 (fun ok138 => ?_)
      obtain ⟨x3_141, ex3_141, h⟩ := bv h
      have ix3_141 : inR x3_141 := eqR ex3_141 (inR_32 _)
      refine q_iinc Ra dX2_write_141 hL3 ex3_141 ?_
      refine r_goto Ra 57 dX2_write_144 rfl ?_
      exact ih x3_141 m138 _ h ix3_141 ok138 hL0 hL1 hL2 rfl
set_option maxHeartbeats 4000000 in
theorem c_pI_write {l : Launch} {en : En} {N : Nat} {μ : Mem} {a2 : Int} {μe : Mem} (hV : VT μ) (ha2 : ty a2 = 6) (h : pI_write N μ a2 = some μe) : CtV l en yX2_write cX2_write 4 1 83 [vA en 472, vA en 2, vA en a2] μ μe (VT μe) := by
  refine Tr.of false (fun h => by cases h) (by decide) (Nat.le_of_ble_eq_true rfl) (fun K Ra => ?_)
  unfold pI_write at h
  refine r_aload_n Ra (i := 0) dX2_write_0 rfl rfl ?_
  refine r_iconst Ra dX2_write_1 ?_
  obtain ⟨m2, em2, h⟩ := bv h
  have hm2 : VT m2 := eqV em2 (hV.setI t472 rfl (Rk rfl))
  refine q_putI Ra f_X2_15 p_X2_1 t472 rfl rfl rfl em2 dX2_write_2 ?_
  refine r_aload_n Ra (i := 0) dX2_write_5 rfl rfl ?_
  refine r_aload_n Ra (i := 2) dX2_write_6 rfl rfl ?_
  refine q_getI Ra (x := m2 a2 0) f_X2_19 ha2 rfl rfl rfl rfl dX2_write_7 ?_
  refine r_sipush Ra dX2_write_10 rfl ?_
  refine r_idiv Ra dX2_write_13 (Rk rfl) (by decide) ?_
  obtain ⟨m14, hr14, h⟩ := bd h
  refine q_callVV Ra (c_pI_add hm2 (inR_32 _) hr14) mw_X2_add mi_X2_add t472 rfl rfl rfl rfl rfl k_X2_24 rfl rfl dX2_write_14 (fun ok14 => ?_)
  refine r_aload_n Ra (i := 0) dX2_write_17 rfl rfl ?_
  refine r_aload_n Ra (i := 2) dX2_write_18 rfl rfl ?_
  refine q_getI Ra (x := m14 a2 0) f_X2_19 ha2 rfl rfl rfl rfl dX2_write_19 ?_
  refine r_sipush Ra dX2_write_22 rfl ?_
  refine r_irem Ra dX2_write_25 (Rk rfl) (by decide) ?_
  obtain ⟨m26, hr26, h⟩ := bd h
  refine q_callVV Ra (c_pI_add ok14 (inR_32 _) hr26) mw_X2_add mi_X2_add t472 rfl rfl rfl rfl rfl k_X2_24 rfl rfl dX2_write_26 (fun ok26 => ?_)
  refine r_iconst Ra dX2_write_29 ?_
  refine q_istore_n Ra 3 dX2_write_30 rfl rfl rfl ?_
  refine k_pI_write_L31 Ra ha2 ?_ _ _ _ _ h (Rk rfl) ok26 rfl rfl rfl rfl
  intro n55 h hn55 L9 f55_0 f55_1 f55_2
  refine r_iconst Ra dX2_write_55 ?_
  refine q_istore_n Ra 3 dX2_write_56 rfl rfl rfl ?_
  refine k_pI_write_L57 Ra ha2 ?_ _ _ _ _ h (Rk rfl) hn55 f55_0 f55_1 f55_2 rfl
  intro n147 h hn147 L9 f147_0
  refine r_aload_n Ra (i := 0) dX2_write_147 rfl f147_0 ?_
  refine r_aload_n Ra (i := 0) dX2_write_148 rfl f147_0 ?_
  refine q_getA Ra (b := 473) f_X2_11 t472 rfl rfl rfl (hn147.ref t472 rfl (by decide)) (by decide) dX2_write_149 ?_
  refine r_aload_n Ra (i := 0) dX2_write_152 rfl f147_0 ?_
  refine q_getI Ra (x := n147 472 1) f_X2_15 t472 rfl rfl rfl rfl dX2_write_153 ?_
  obtain ⟨r156, hr156, h⟩ := bd h
  refine q_callSI Ra (c_pI_check hn147 t473 (hn147.int t472 rfl) hr156) mw_X2_check ms_X2_check rfl rfl k_X2_58 rfl rfl dX2_write_156 (fun ok156 => ?_)
  obtain ⟨m159, hr159, h⟩ := bd h
  refine q_callVV Ra (c_pI_add hn147 ok156 hr159) mw_X2_add mi_X2_add t472 rfl rfl rfl rfl rfl k_X2_24 rfl rfl dX2_write_159 (fun ok159 => ?_)
  cases h
  exact r_vret Ra ok159 dX2_write_162
noncomputable def pP_cellAt (μ : Mem) (a0 : Int) (x1 : Int) (x2 : Int) : Option (Int) := if x1 < 0 then some ((-1)) else if x1 < μ a0 0 then if x2 < 0 then some ((-1)) else if x2 < μ a0 1 then some (w32 ((w32 (x2 * (μ a0 0))) + x1)) else some ((-1)) else some ((-1))
set_option maxHeartbeats 4000000 in
theorem c_pP_cellAt {l : Launch} {en : En} {μ : Mem} {a0 : Int} {x1 : Int} {x2 : Int} {re : Int} (hV : VT μ) (ha0 : ty a0 = 4) (hx1 : inR x1) (hx2 : inR x2) (h : pP_cellAt μ a0 x1 x2 = some re) : CtI l en yX3_cellAt cX3_cellAt 3 0 60 [vA en a0, vI x1, vI x2] μ .int re μ (inR re) := by
  refine Tr.of false (fun h => by cases h) (by decide) (Nat.le_of_ble_eq_true rfl) (fun K Ra => ?_)
  unfold pP_cellAt at h
  refine r_iload_n Ra (i := 1) dX3_cellAt_0 rfl rfl ?_
  refine r_if_lt Ra 24 dX3_cellAt_1 hx1 rfl (fun hc => ?_) (fun hc => ?_)
  · replace h := ipos hc h
    refine r_iconst Ra dX3_cellAt_24 ?_
    cases h
    exact r_iret Ra (Rk rfl) dX3_cellAt_25
  · replace h := ineg hc h
    refine r_iload_n Ra (i := 1) dX3_cellAt_4 rfl rfl ?_
    refine r_aload_n Ra (i := 0) dX3_cellAt_5 rfl rfl ?_
    refine q_getI Ra (x := μ a0 0) f_X3_43 ha0 rfl rfl rfl rfl dX3_cellAt_6 ?_
    refine r_icmp_ge Ra 24 dX3_cellAt_9 hx1 (hV.int ha0 rfl) rfl (fun hc => ?_) (fun hc => ?_)
    · replace h := ineg hc h
      refine r_iconst Ra dX3_cellAt_24 ?_
      cases h
      exact r_iret Ra (Rk rfl) dX3_cellAt_25
    · replace h := ipos hc h
      refine r_iload_n Ra (i := 2) dX3_cellAt_12 rfl rfl ?_
      refine r_if_lt Ra 24 dX3_cellAt_13 hx2 rfl (fun hc => ?_) (fun hc => ?_)
      · replace h := ipos hc h
        refine r_iconst Ra dX3_cellAt_24 ?_
        cases h
        exact r_iret Ra (Rk rfl) dX3_cellAt_25
      · replace h := ineg hc h
        refine r_iload_n Ra (i := 2) dX3_cellAt_16 rfl rfl ?_
        refine r_aload_n Ra (i := 0) dX3_cellAt_17 rfl rfl ?_
        refine q_getI Ra (x := μ a0 1) f_X3_47 ha0 rfl rfl rfl rfl dX3_cellAt_18 ?_
        refine r_icmp_lt Ra 26 dX3_cellAt_21 hx2 (hV.int ha0 rfl) rfl (fun hc => ?_) (fun hc => ?_)
        · replace h := ipos hc h
          refine r_iload_n Ra (i := 2) dX3_cellAt_26 rfl rfl ?_
          refine r_aload_n Ra (i := 0) dX3_cellAt_27 rfl rfl ?_
          refine q_getI Ra (x := μ a0 0) f_X3_43 ha0 rfl rfl rfl rfl dX3_cellAt_28 ?_
          refine r_imul Ra dX3_cellAt_31 ?_
          refine r_iload_n Ra (i := 1) dX3_cellAt_32 rfl rfl ?_
          refine r_iadd Ra dX3_cellAt_33 ?_
          cases h
          exact r_iret Ra (inR_32 _) dX3_cellAt_34
        · replace h := ineg hc h
          refine r_iconst Ra dX3_cellAt_24 ?_
          cases h
          exact r_iret Ra (Rk rfl) dX3_cellAt_25
noncomputable def pI_restorePerson (μ : Mem) (x1 : Int) (a3 : Int) (x4 : Int) : Option (Int × Mem) := if 0 ≤ x1 ∧ x1 < 1600 then if 0 ≤ w32 (x1 + 1) ∧ w32 (x1 + 1) < 1600 then (pP_cellAt μ 2 (μ 1 x1) (μ 1 (w32 (x1 + 1)))).bind fun r9 => if 0 ≤ w32 (x1 + 3) ∧ w32 (x1 + 3) < 1600 then (some (μ 1 (w32 (x1 + 3)) : Int)).bind fun x6_19 => if 0 ≤ w32 (x1 + 4) ∧ w32 (x1 + 4) < 1600 then if 0 ≤ w32 (x1 + 5) ∧ w32 (x1 + 5) < 1600 then (some (w32 ((w32 ((μ 1 (w32 (x1 + 4))) * 256)) + (μ 1 (w32 (x1 + 5)))) : Int)).bind fun x7_36 => if 0 ≤ x4 ∧ x4 < 6 then (some (mset μ (a3 + 2) x4 r9)).bind fun m46 => if 0 ≤ w32 (x1 + 2) ∧ w32 (x1 + 2) < 1600 then if 0 ≤ x4 ∧ x4 < 6 then (some (mset m46 (a3 + 3) x4 (m46 1 (w32 (x1 + 2))))).bind fun m58 => if 0 ≤ x4 ∧ x4 < 6 then (some (mset m58 (a3 + 4) x4 x6_19)).bind fun m67 => if 0 ≤ x4 ∧ x4 < 6 then (some (mset m67 (a3 + 5) x4 x7_36)).bind fun m76 => if r9 = (-1) then some (0, m76) else if 0 ≤ w32 (x1 + 2) ∧ w32 (x1 + 2) < 1600 then if 8 < m76 1 (w32 (x1 + 2)) then some (0, m76) else if x6_19 < 1 then some (0, m76) else if 99 < x6_19 then some (0, m76) else if 999 < x7_36 then some (0, m76) else some (1, m76) else none else none else none else none else none else none else none else none else none else none else none
set_option maxHeartbeats 4000000 in
theorem c_pI_restorePerson {l : Launch} {en : En} {μ : Mem} {x1 : Int} {a3 : Int} {x4 : Int} {re : Int} {μe : Mem} (hV : VT μ) (hx1 : inR x1) (ha3 : ty a3 = 6) (hx4 : inR x4) (h : pI_restorePerson μ x1 a3 x4 = some (re, μe)) : CtI l en yX2_restorePerson cX2_restorePerson 8 1 82 [vA en 1, vI x1, vA en 2, vA en a3, vI x4] μ .boolean re μe (VT μe ∧ (re = 0 ∨ re = 1)) := by
  refine Tr.of false (fun h => by cases h) (by decide) (Nat.le_of_ble_eq_true rfl) (fun K Ra => ?_)
  unfold pI_restorePerson at h
  refine r_aload_n Ra (i := 2) dX2_restorePerson_0 rfl rfl ?_
  refine r_aload_n Ra (i := 0) dX2_restorePerson_1 rfl rfl ?_
  refine r_iload_n Ra (i := 1) dX2_restorePerson_2 rfl rfl ?_
  obtain ⟨gu3, h⟩ := gd h
  refine q_iald Ra t1 l1 gu3 dX2_restorePerson_3 ?_
  refine r_aload_n Ra (i := 0) dX2_restorePerson_4 rfl rfl ?_
  refine r_iload_n Ra (i := 1) dX2_restorePerson_5 rfl rfl ?_
  refine r_iconst Ra dX2_restorePerson_6 ?_
  refine r_iadd Ra dX2_restorePerson_7 ?_
  obtain ⟨gu8, h⟩ := gd h
  refine q_iald Ra t1 l1 gu8 dX2_restorePerson_8 ?_
  obtain ⟨r9, hr9, h⟩ := bd h
  refine q_callVI Ra (c_pP_cellAt hV t2 (hV.int t1 (kd20 _)) (hV.int t1 (kd20 _)) hr9) mw_X3_cellAt mi_X3_cellAt t2 rfl rfl rfl rfl rfl k_X2_69 rfl rfl dX2_restorePerson_9 (fun ok9 => ?_)
  refine q_istore Ra dX2_restorePerson_12 rfl rfl ?_
  refine r_aload_n Ra (i := 0) dX2_restorePerson_14 rfl rfl ?_
  refine r_iload_n Ra (i := 1) dX2_restorePerson_15 rfl rfl ?_
  refine r_iconst Ra dX2_restorePerson_16 ?_
  refine r_iadd Ra dX2_restorePerson_17 ?_
  obtain ⟨gu18, h⟩ := gd h
  refine q_iald Ra t1 l1 gu18 dX2_restorePerson_18 ?_
  obtain ⟨x6_19, ex6_19, h⟩ := bv h
  have ix6_19 : inR x6_19 := eqR ex6_19 (hV.int t1 (kd20 _))
  refine q_istore Ra dX2_restorePerson_19 rfl ex6_19 ?_
  refine r_aload_n Ra (i := 0) dX2_restorePerson_21 rfl rfl ?_
  refine r_iload_n Ra (i := 1) dX2_restorePerson_22 rfl rfl ?_
  refine r_iconst Ra dX2_restorePerson_23 ?_
  refine r_iadd Ra dX2_restorePerson_24 ?_
  obtain ⟨gu25, h⟩ := gd h
  refine q_iald Ra t1 l1 gu25 dX2_restorePerson_25 ?_
  refine r_sipush Ra dX2_restorePerson_26 rfl ?_
  refine r_imul Ra dX2_restorePerson_29 ?_
  refine r_aload_n Ra (i := 0) dX2_restorePerson_30 rfl rfl ?_
  refine r_iload_n Ra (i := 1) dX2_restorePerson_31 rfl rfl ?_
  refine r_iconst Ra dX2_restorePerson_32 ?_
  refine r_iadd Ra dX2_restorePerson_33 ?_
  obtain ⟨gu34, h⟩ := gd h
  refine q_iald Ra t1 l1 gu34 dX2_restorePerson_34 ?_
  refine r_iadd Ra dX2_restorePerson_35 ?_
  obtain ⟨x7_36, ex7_36, h⟩ := bv h
  have ix7_36 : inR x7_36 := eqR ex7_36 (inR_32 _)
  refine q_istore Ra dX2_restorePerson_36 rfl ex7_36 ?_
  refine r_aload_n Ra (i := 3) dX2_restorePerson_38 rfl rfl ?_
  refine q_getA Ra (b := (a3 + 2)) f_X2_39 ha3 rfl rfl rfl (hV.ref ha3 rfl (by decide)) (tin (tn6_2 ha3).1 rfl).1 dX2_restorePerson_39 ?_
  refine r_iload Ra dX2_restorePerson_42 rfl ?_
  refine r_iload Ra dX2_restorePerson_44 rfl ?_
  obtain ⟨gu46, h⟩ := gd h
  obtain ⟨m46, em46, h⟩ := bv h
  have hm46 : VT m46 := eqV em46 (hV.setI (tn6_2 ha3).1 (kd20 _) ok9)
  refine q_iast Ra (tn6_2 ha3).1 (tn6_2 ha3).2 gu46 em46 dX2_restorePerson_46 ?_
  refine r_aload_n Ra (i := 3) dX2_restorePerson_47 rfl rfl ?_
  refine q_getA Ra (b := (a3 + 3)) f_X2_49 ha3 rfl rfl rfl (hm46.ref ha3 rfl (by decide)) (tin (tn6_3 ha3).1 rfl).1 dX2_restorePerson_48 ?_
  refine r_iload Ra dX2_restorePerson_51 rfl ?_
  refine r_aload_n Ra (i := 0) dX2_restorePerson_53 rfl rfl ?_
  refine r_iload_n Ra (i := 1) dX2_restorePerson_54 rfl rfl ?_
  refine r_iconst Ra dX2_restorePerson_55 ?_
  refine r_iadd Ra dX2_restorePerson_56 ?_
  obtain ⟨gu57, h⟩ := gd h
  refine q_iald Ra t1 l1 gu57 dX2_restorePerson_57 ?_
  obtain ⟨gu58, h⟩ := gd h
  obtain ⟨m58, em58, h⟩ := bv h
  have hm58 : VT m58 := eqV em58 (hm46.setI (tn6_3 ha3).1 (kd20 _) (hm46.int t1 (kd20 _)))
  refine q_iast Ra (tn6_3 ha3).1 (tn6_3 ha3).2 gu58 em58 dX2_restorePerson_58 ?_
  refine r_aload_n Ra (i := 3) dX2_restorePerson_59 rfl rfl ?_
  refine q_getA Ra (b := (a3 + 4)) f_X2_52 ha3 rfl rfl rfl (hm58.ref ha3 rfl (by decide)) (tin (tn6_4 ha3).1 rfl).1 dX2_restorePerson_60 ?_
  refine r_iload Ra dX2_restorePerson_63 rfl ?_
  refine r_iload Ra dX2_restorePerson_65 rfl ?_
  obtain ⟨gu67, h⟩ := gd h
  obtain ⟨m67, em67, h⟩ := bv h
  have hm67 : VT m67 := eqV em67 (hm58.setI (tn6_4 ha3).1 (kd20 _) ix6_19)
  refine q_iast Ra (tn6_4 ha3).1 (tn6_4 ha3).2 gu67 em67 dX2_restorePerson_67 ?_
  refine r_aload_n Ra (i := 3) dX2_restorePerson_68 rfl rfl ?_
  refine q_getA Ra (b := (a3 + 5)) f_X2_55 ha3 rfl rfl rfl (hm67.ref ha3 rfl (by decide)) (tin (tn6_5 ha3).1 rfl).1 dX2_restorePerson_69 ?_
  refine r_iload Ra dX2_restorePerson_72 rfl ?_
  refine r_iload Ra dX2_restorePerson_74 rfl ?_
  obtain ⟨gu76, h⟩ := gd h
  obtain ⟨m76, em76, h⟩ := bv h
  have hm76 : VT m76 := eqV em76 (hm67.setI (tn6_5 ha3).1 (kd20 _) ix7_36)
  refine q_iast Ra (tn6_5 ha3).1 (tn6_5 ha3).2 gu76 em76 dX2_restorePerson_76 ?_
  refine r_iload Ra dX2_restorePerson_77 rfl ?_
  refine r_iconst Ra dX2_restorePerson_79 ?_
  refine r_icmp_eq Ra 118 dX2_restorePerson_80 ok9 (Rk rfl) rfl (fun hc => ?_) (fun hc => ?_)
  · replace h := ipos hc h
    refine r_iconst Ra dX2_restorePerson_118 ?_
    cases h
    exact r_zret Ra (Or.inl rfl) ⟨hm76, (Or.inl rfl)⟩ dX2_restorePerson_119
  · replace h := ineg hc h
    refine r_aload_n Ra (i := 0) dX2_restorePerson_83 rfl rfl ?_
    refine r_iload_n Ra (i := 1) dX2_restorePerson_84 rfl rfl ?_
    refine r_iconst Ra dX2_restorePerson_85 ?_
    refine r_iadd Ra dX2_restorePerson_86 ?_
    obtain ⟨gu87, h⟩ := gd h
    refine q_iald Ra t1 l1 gu87 dX2_restorePerson_87 ?_
    refine r_bipush Ra dX2_restorePerson_88 rfl ?_
    refine r_icmp_gt Ra 118 dX2_restorePerson_90 (hm76.int t1 (kd20 _)) (Rk rfl) rfl (fun hc => ?_) (fun hc => ?_)
    · replace h := ipos hc h
      refine r_iconst Ra dX2_restorePerson_118 ?_
      cases h
      exact r_zret Ra (Or.inl rfl) ⟨hm76, (Or.inl rfl)⟩ dX2_restorePerson_119
    · replace h := ineg hc h
      refine r_iload Ra dX2_restorePerson_93 rfl ?_
      refine r_iconst Ra dX2_restorePerson_95 ?_
      refine r_icmp_lt Ra 118 dX2_restorePerson_96 ix6_19 (Rk rfl) rfl (fun hc => ?_) (fun hc => ?_)
      · replace h := ipos hc h
        refine r_iconst Ra dX2_restorePerson_118 ?_
        cases h
        exact r_zret Ra (Or.inl rfl) ⟨hm76, (Or.inl rfl)⟩ dX2_restorePerson_119
      · replace h := ineg hc h
        refine r_iload Ra dX2_restorePerson_99 rfl ?_
        refine r_bipush Ra dX2_restorePerson_101 rfl ?_
        refine r_icmp_gt Ra 118 dX2_restorePerson_103 ix6_19 (Rk rfl) rfl (fun hc => ?_) (fun hc => ?_)
        · replace h := ipos hc h
          refine r_iconst Ra dX2_restorePerson_118 ?_
          cases h
          exact r_zret Ra (Or.inl rfl) ⟨hm76, (Or.inl rfl)⟩ dX2_restorePerson_119
        · replace h := ineg hc h
          refine r_iload Ra dX2_restorePerson_106 rfl ?_
          refine r_sipush Ra dX2_restorePerson_108 rfl ?_
          refine r_icmp_gt Ra 118 dX2_restorePerson_111 ix7_36 (Rk rfl) rfl (fun hc => ?_) (fun hc => ?_)
          · replace h := ipos hc h
            refine r_iconst Ra dX2_restorePerson_118 ?_
            cases h
            exact r_zret Ra (Or.inl rfl) ⟨hm76, (Or.inl rfl)⟩ dX2_restorePerson_119
          · replace h := ineg hc h
            refine r_iconst Ra dX2_restorePerson_114 ?_
            refine r_goto Ra 119 dX2_restorePerson_115 rfl ?_
            cases h
            exact r_zret Ra (Or.inr rfl) ⟨hm76, (Or.inr rfl)⟩ dX2_restorePerson_119
noncomputable def pI_restore_L84b (N : Nat) (c3 : Int) (c4 : Int) (k : Mem → Option (Int × Mem)) (self : Int → Mem → Option (Int × Mem)) (x6 : Int) (μ : Mem) : Option (Int × Mem) := if x6 < μ 2 2 then if 0 ≤ w32 (2 + x6) ∧ w32 (2 + x6) < 1600 then if 0 ≤ x6 ∧ x6 < 64 then (some (mset μ (c3 + 1) x6 (μ 1 (w32 (2 + x6))))).bind fun m105 => if 0 ≤ x6 ∧ x6 < 64 then if 99 < m105 (c3 + 1) x6 then some (0, m105) else (some (w32 (x6 + 1) : Int)).bind fun x6_120 => self x6_120 m105 else none else none else none else k μ
noncomputable def pI_restore_L84 (N : Nat) (c3 : Int) (c4 : Int) (k : Mem → Option (Int × Mem)) (n : Nat) : Int → Mem → Option (Int × Mem) := lpF (fun _ _ => none) (pI_restore_L84b N c3 c4 k) n
noncomputable def pI_restore_L129b (N : Nat) (c3 : Int) (c4 : Int) (k : Mem → Option (Int × Mem)) (self : Int → Mem → Option (Int × Mem)) (x6 : Int) (μ : Mem) : Option (Int × Mem) := if x6 < μ 2 3 then (pI_restorePerson μ (w32 (c4 + (w32 (x6 * 6)))) c3 x6).bind fun (r151, m151) => if r151 = 0 then some (0, m151) else (some (w32 (x6 + 1) : Int)).bind fun x6_159 => self x6_159 m151 else k μ
noncomputable def pI_restore_L129 (N : Nat) (c3 : Int) (c4 : Int) (k : Mem → Option (Int × Mem)) (n : Nat) : Int → Mem → Option (Int × Mem) := lpF (fun _ _ => none) (pI_restore_L129b N c3 c4 k) n
noncomputable def pI_restore (N : Nat) (μ : Mem) (x1 : Int) (a3 : Int) : Option (Int × Mem) := (some (w32 (2 + (μ 2 2)) : Int)).bind fun x4_6 => (some (w32 (x4_6 + (w32 ((μ 2 3) * 6))) : Int)).bind fun x5_18 => if x1 = w32 (x5_18 + 1) then if 1600 < x1 then some (0, μ) else if 0 ≤ x5_18 ∧ x5_18 < 1600 then (pI_check N μ 1 x5_18).bind fun r41 => if μ 1 x5_18 = r41 then (some (mset μ a3 7 0)).bind fun m51 => (some (mset m51 a3 0 (w32 ((w32 ((m51 1 0) * 256)) + (m51 1 1))))).bind fun m66 => if 999 < m66 a3 0 then some (0, m66) else pI_restore_L84 N a3 x4_6 (fun n126 => pI_restore_L129 N a3 x4_6 (fun n165 => some (1, n165)) N 0 n126) N 0 m66 else some (0, μ) else none else some (0, μ)
theorem k_pI_restore_L84 {l : Launch} {en : En} {re : Int} {μe : Mem} {N : Nat} {c3 : Int} {c4 : Int} {k : Mem → Option (Int × Mem)} {K : KT} (Ra : Ru false (some (some .boolean, some (vI re), nCells, μe, 0, 0, (VT μe ∧ (re = 0 ∨ re = 1)))) l en cX2_restore yX2_restore.cls 7 (rmN 2 109) K) (ht3 : ty c3 = 6) (hi4 : inR c4) (hk : ∀  (μ9 : Mem), k μ9 = some (re, μe) → VT μ9 → ∀ L9 : Lo, L9 0 = some (vA en 1) → L9 2 = some (vA en 2) → L9 3 = some (vA en c3) → L9 4 = some (vI c4) → K ZN 126 L9 [] μ9) : ∀ (n : Nat) (x6 : Int) (μ : Mem) (L : Lo), pI_restore_L84 N c3 c4 k n x6 μ = some (re, μe) → inR x6 → VT μ → L 0 = some (vA en 1) → L 2 = some (vA en 2) → L 3 = some (vA en c3) → L 4 = some (vI c4) → L 6 = some (vI x6) → K ZN 84 L [] μ := by
  intro n
  induction n with
  | zero => intro x6 μ L h; cases h
  | succ n ih =>
    intro x6 μ L h hx6 hV hL0 hL2 hL3 hL4 hL6
    replace h : pI_restore_L84b N c3 c4 k (pI_restore_L84 N c3 c4 k n) x6 μ = some (re, μe) := h
    unfold pI_restore_L84b at h
    refine r_iload Ra dX2_restore_84 hL6 ?_
    refine r_aload_n Ra (i := 2) dX2_restore_86 rfl hL2 ?_
    refine q_getI Ra (x := μ 2 2) f_X2_28 t2 rfl rfl rfl rfl dX2_restore_87 ?_
    refine r_icmp_ge Ra 126 dX2_restore_90 hx6 (hV.int t2 rfl) rfl (fun hc => ?_) (fun hc => ?_)
    · replace h := ineg hc h
      exact hk μ h  hV _ hL0 hL2 hL3 hL4
    · replace h := ipos hc h
      refine r_aload_n Ra (i := 3) dX2_restore_93 rfl hL3 ?_
      refine q_getA Ra (b := (c3 + 1)) f_X2_33 ht3 rfl rfl rfl (hV.ref ht3 rfl (by decide)) (tin (tn6_1 ht3).1 rfl).1 dX2_restore_94 ?_
      refine r_iload Ra dX2_restore_97 hL6 ?_
      refine r_aload_n Ra (i := 0) dX2_restore_99 rfl hL0 ?_
      refine r_iconst Ra dX2_restore_100 ?_
      refine r_iload Ra dX2_restore_101 hL6 ?_
      refine r_iadd Ra dX2_restore_103 ?_
      obtain ⟨gu104, h⟩ := gd h
      refine q_iald Ra t1 l1 gu104 dX2_restore_104 ?_
      obtain ⟨gu105, h⟩ := gd h
      obtain ⟨m105, em105, h⟩ := bv h
      have hm105 : VT m105 := eqV em105 (hV.setI (tn6_1 ht3).1 (kd20 _) (hV.int t1 (kd20 _)))
      refine q_iast Ra (tn6_1 ht3).1 (tn6_1 ht3).2 gu105 em105 dX2_restore_105 ?_
      refine r_aload_n Ra (i := 3) dX2_restore_106 rfl hL3 ?_
      refine q_getA Ra (b := (c3 + 1)) f_X2_33 ht3 rfl rfl rfl (hm105.ref ht3 rfl (by decide)) (tin (tn6_1 ht3).1 rfl).1 dX2_restore_107 ?_
      refine r_iload Ra dX2_restore_110 hL6 ?_
      obtain ⟨gu112, h⟩ := gd h
      refine q_iald Ra (tn6_1 ht3).1 (tn6_1 ht3).2 gu112 dX2_restore_112 ?_
      refine r_bipush Ra dX2_restore_113 rfl ?_
      refine r_icmp_le Ra 120 dX2_restore_115 (hm105.int (tn6_1 ht3).1 (kd20 _)) (Rk rfl) rfl (fun hc => ?_) (fun hc => ?_)
      · replace h := ineg hc h
        obtain ⟨x6_120, ex6_120, h⟩ := bv h
        have ix6_120 : inR x6_120 := eqR ex6_120 (inR_32 _)
        refine q_iinc Ra dX2_restore_120 hL6 ex6_120 ?_
        refine r_goto Ra 84 dX2_restore_123 rfl ?_
        exact ih x6_120 m105 _ h ix6_120 hm105 hL0 hL2 hL3 hL4 rfl
      · replace h := ipos hc h
        refine r_iconst Ra dX2_restore_118 ?_
        cases h
        exact r_zret Ra (Or.inl rfl) ⟨hm105, (Or.inl rfl)⟩ dX2_restore_119
theorem k_pI_restore_L129 {l : Launch} {en : En} {re : Int} {μe : Mem} {N : Nat} {c3 : Int} {c4 : Int} {k : Mem → Option (Int × Mem)} {K : KT} (Ra : Ru false (some (some .boolean, some (vI re), nCells, μe, 0, 0, (VT μe ∧ (re = 0 ∨ re = 1)))) l en cX2_restore yX2_restore.cls 7 (rmN 2 109) K) (ht3 : ty c3 = 6) (hi4 : inR c4) (hk : ∀  (μ9 : Mem), k μ9 = some (re, μe) → VT μ9 → ∀ L9 : Lo, K ZN 165 L9 [] μ9) : ∀ (n : Nat) (x6 : Int) (μ : Mem) (L : Lo), pI_restore_L129 N c3 c4 k n x6 μ = some (re, μe) → inR x6 → VT μ → L 0 = some (vA en 1) → L 2 = some (vA en 2) → L 3 = some (vA en c3) → L 4 = some (vI c4) → L 6 = some (vI x6) → K ZN 129 L [] μ := by
  intro n
  induction n with
  | zero => intro x6 μ L h; cases h
  | succ n ih =>
    intro x6 μ L h hx6 hV hL0 hL2 hL3 hL4 hL6
    replace h : pI_restore_L129b N c3 c4 k (pI_restore_L129 N c3 c4 k n) x6 μ = some (re, μe) := h
    unfold pI_restore_L129b at h
    refine r_iload Ra dX2_restore_129 hL6 ?_
    refine r_aload_n Ra (i := 2) dX2_restore_131 rfl hL2 ?_
    refine q_getI Ra (x := μ 2 3) f_X2_36 t2 rfl rfl rfl rfl dX2_restore_132 ?_
    refine r_icmp_ge Ra 165 dX2_restore_135 hx6 (hV.int t2 rfl) rfl (fun hc => ?_) (fun hc => ?_)
    · replace h := ineg hc h
      exact hk μ h  hV _ 
    · replace h := ipos hc h
      refine r_aload_n Ra (i := 0) dX2_restore_138 rfl hL0 ?_
      refine r_iload Ra dX2_restore_139 hL4 ?_
      refine r_iload Ra dX2_restore_141 hL6 ?_
      refine r_bipush Ra dX2_restore_143 rfl ?_
      refine r_imul Ra dX2_restore_145 ?_
      refine r_iadd Ra dX2_restore_146 ?_
      refine r_aload_n Ra (i := 2) dX2_restore_147 rfl hL2 ?_
      refine r_aload_n Ra (i := 3) dX2_restore_148 rfl hL3 ?_
      refine r_iload Ra dX2_restore_149 hL6 ?_
      obtain ⟨⟨r151, m151⟩, hr151, h⟩ := bd h
      refine q_callSI Ra (c_pI_restorePerson hV (inR_32 _) ht3 hx6 hr151) mw_X2_restorePerson ms_X2_restorePerson rfl rfl k_X2_65 rfl rfl dX2_restore_151 (fun ok151 => ?_)
      obtain ⟨hV151, ok151⟩ := ok151
      refine r_if_ne Ra 159 dX2_restore_154 (inR_01 ok151) rfl (fun hc => ?_) (fun hc => ?_)
      · replace h := ineg hc h
        obtain ⟨x6_159, ex6_159, h⟩ := bv h
        have ix6_159 : inR x6_159 := eqR ex6_159 (inR_32 _)
        refine q_iinc Ra dX2_restore_159 hL6 ex6_159 ?_
        refine r_goto Ra 129 dX2_restore_162 rfl ?_
        exact ih x6_159 m151 _ h ix6_159 hV151 hL0 hL2 hL3 hL4 rfl
      · replace h := ipos hc h
        refine r_iconst Ra dX2_restore_157 ?_
        cases h
        exact r_zret Ra (Or.inl rfl) ⟨hV151, (Or.inl rfl)⟩ dX2_restore_158
set_option maxHeartbeats 4000000 in
theorem c_pI_restore {l : Launch} {en : En} {N : Nat} {μ : Mem} {x1 : Int} {a3 : Int} {re : Int} {μe : Mem} (hV : VT μ) (hx1 : inR x1) (ha3 : ty a3 = 6) (h : pI_restore N μ x1 a3 = some (re, μe)) : CtI l en yX2_restore cX2_restore 7 2 109 [vA en 1, vI x1, vA en 2, vA en a3] μ .boolean re μe (VT μe ∧ (re = 0 ∨ re = 1)) := by
  refine Tr.of false (fun h => by cases h) (by decide) (Nat.le_of_ble_eq_true rfl) (fun K Ra => ?_)
  unfold pI_restore at h
  refine r_iconst Ra dX2_restore_0 ?_
  refine r_aload_n Ra (i := 2) dX2_restore_1 rfl rfl ?_
  refine q_getI Ra (x := μ 2 2) f_X2_28 t2 rfl rfl rfl rfl dX2_restore_2 ?_
  refine r_iadd Ra dX2_restore_5 ?_
  obtain ⟨x4_6, ex4_6, h⟩ := bv h
  have ix4_6 : inR x4_6 := eqR ex4_6 (inR_32 _)
  refine q_istore Ra dX2_restore_6 rfl ex4_6 ?_
  refine r_iload Ra dX2_restore_8 rfl ?_
  refine r_aload_n Ra (i := 2) dX2_restore_10 rfl rfl ?_
  refine q_getI Ra (x := μ 2 3) f_X2_36 t2 rfl rfl rfl rfl dX2_restore_11 ?_
  refine r_bipush Ra dX2_restore_14 rfl ?_
  refine r_imul Ra dX2_restore_16 ?_
  refine r_iadd Ra dX2_restore_17 ?_
  obtain ⟨x5_18, ex5_18, h⟩ := bv h
  have ix5_18 : inR x5_18 := eqR ex5_18 (inR_32 _)
  refine q_istore Ra dX2_restore_18 rfl ex5_18 ?_
  refine r_iload_n Ra (i := 1) dX2_restore_20 rfl rfl ?_
  refine r_iload Ra dX2_restore_21 rfl ?_
  refine r_iconst Ra dX2_restore_23 ?_
  refine r_iadd Ra dX2_restore_24 ?_
  refine r_icmp_ne Ra 47 dX2_restore_25 hx1 (inR_32 _) rfl (fun hc => ?_) (fun hc => ?_)
  · replace h := ineg hc h
    refine r_iconst Ra dX2_restore_47 ?_
    cases h
    exact r_zret Ra (Or.inl rfl) ⟨hV, (Or.inl rfl)⟩ dX2_restore_48
  · replace h := ipos hc h
    refine r_iload_n Ra (i := 1) dX2_restore_28 rfl rfl ?_
    refine r_aload_n Ra (i := 0) dX2_restore_29 rfl rfl ?_
    refine q_alen Ra t1 l1 dX2_restore_30 ?_
    refine r_icmp_gt Ra 47 dX2_restore_31 hx1 (Rk rfl) rfl (fun hc => ?_) (fun hc => ?_)
    · replace h := ipos hc h
      refine r_iconst Ra dX2_restore_47 ?_
      cases h
      exact r_zret Ra (Or.inl rfl) ⟨hV, (Or.inl rfl)⟩ dX2_restore_48
    · replace h := ineg hc h
      refine r_aload_n Ra (i := 0) dX2_restore_34 rfl rfl ?_
      refine r_iload Ra dX2_restore_35 rfl ?_
      obtain ⟨gu37, h⟩ := gd h
      refine q_iald Ra t1 l1 gu37 dX2_restore_37 ?_
      refine r_aload_n Ra (i := 0) dX2_restore_38 rfl rfl ?_
      refine r_iload Ra dX2_restore_39 rfl ?_
      obtain ⟨r41, hr41, h⟩ := bd h
      refine q_callSI Ra (c_pI_check hV t1 ix5_18 hr41) mw_X2_check ms_X2_check rfl rfl k_X2_58 rfl rfl dX2_restore_41 (fun ok41 => ?_)
      refine r_icmp_eq Ra 49 dX2_restore_44 (hV.int t1 (kd20 _)) ok41 rfl (fun hc => ?_) (fun hc => ?_)
      · replace h := ipos hc h
        refine r_aload_n Ra (i := 3) dX2_restore_49 rfl rfl ?_
        refine r_iconst Ra dX2_restore_50 ?_
        obtain ⟨m51, em51, h⟩ := bv h
        have hm51 : VT m51 := eqV em51 (hV.setI ha3 rfl (Rk rfl))
        refine q_putI Ra f_X2_62 p_X5_7 ha3 rfl rfl rfl em51 dX2_restore_51 ?_
        refine r_aload_n Ra (i := 3) dX2_restore_54 rfl rfl ?_
        refine r_aload_n Ra (i := 0) dX2_restore_55 rfl rfl ?_
        refine r_iconst Ra dX2_restore_56 ?_
        refine q_iald Ra t1 l1 (by decide) dX2_restore_57 ?_
        refine r_sipush Ra dX2_restore_58 rfl ?_
        refine r_imul Ra dX2_restore_61 ?_
        refine r_aload_n Ra (i := 0) dX2_restore_62 rfl rfl ?_
        refine r_iconst Ra dX2_restore_63 ?_
        refine q_iald Ra t1 l1 (by decide) dX2_restore_64 ?_
        refine r_iadd Ra dX2_restore_65 ?_
        obtain ⟨m66, em66, h⟩ := bv h
        have hm66 : VT m66 := eqV em66 (hm51.setI ha3 rfl (inR_32 _))
        refine q_putI Ra f_X2_19 p_X5_0 ha3 rfl rfl rfl em66 dX2_restore_66 ?_
        refine r_aload_n Ra (i := 3) dX2_restore_69 rfl rfl ?_
        refine q_getI Ra (x := m66 a3 0) f_X2_19 ha3 rfl rfl rfl rfl dX2_restore_70 ?_
        refine r_sipush Ra dX2_restore_73 rfl ?_
        refine r_icmp_le Ra 81 dX2_restore_76 (hm66.int ha3 rfl) (Rk rfl) rfl (fun hc => ?_) (fun hc => ?_)
        · replace h := ineg hc h
          refine r_iconst Ra dX2_restore_81 ?_
          refine q_istore Ra dX2_restore_82 rfl rfl ?_
          refine k_pI_restore_L84 Ra ha3 ix4_6 ?_ _ _ _ _ h (Rk rfl) hm66 rfl rfl rfl rfl rfl
          intro n126 h hn126 L9 f126_0 f126_2 f126_3 f126_4
          refine r_iconst Ra dX2_restore_126 ?_
          refine q_istore Ra dX2_restore_127 rfl rfl ?_
          refine k_pI_restore_L129 Ra ha3 ix4_6 ?_ _ _ _ _ h (Rk rfl) hn126 f126_0 f126_2 f126_3 f126_4 rfl
          intro n165 h hn165 L9 
          refine r_iconst Ra dX2_restore_165 ?_
          cases h
          exact r_zret Ra (Or.inr rfl) ⟨hn165, (Or.inr rfl)⟩ dX2_restore_166
        · replace h := ipos hc h
          refine r_iconst Ra dX2_restore_79 ?_
          cases h
          exact r_zret Ra (Or.inl rfl) ⟨hm66, (Or.inl rfl)⟩ dX2_restore_80
      · replace h := ineg hc h
        refine r_iconst Ra dX2_restore_47 ?_
        cases h
        exact r_zret Ra (Or.inl rfl) ⟨hV, (Or.inl rfl)⟩ dX2_restore_48
noncomputable def pU_clear (μ : Mem) (a0 : Int) : Option (Mem) := (some (mset μ a0 2 0)).bind fun m2 => some m2
set_option maxHeartbeats 4000000 in
theorem c_pU_clear {l : Launch} {en : En} {μ : Mem} {a0 : Int} {μe : Mem} (hV : VT μ) (ha0 : ty a0 = 7) (h : pU_clear μ a0 = some μe) : CtV l en yX6_clear cX6_clear 1 0 60 [vA en a0] μ μe (VT μe) := by
  refine Tr.of false (fun h => by cases h) (by decide) (Nat.le_of_ble_eq_true rfl) (fun K Ra => ?_)
  unfold pU_clear at h
  refine r_aload_n Ra (i := 0) dX6_clear_0 rfl rfl ?_
  refine r_iconst Ra dX6_clear_1 ?_
  obtain ⟨m2, em2, h⟩ := bv h
  have hm2 : VT m2 := eqV em2 (hV.setI ha0 rfl (Rk rfl))
  refine q_putI Ra f_X6_18 p_X6_2 ha0 rfl rfl rfl em2 dX6_clear_2 ?_
  cases h
  exact r_vret Ra hm2 dX6_clear_5
noncomputable def pP_clear_L32b (N : Nat) (c0 : Int) (k : Mem → Option (Mem)) (self : Int → Mem → Option (Mem)) (x1 : Int) (μ : Mem) : Option (Mem) := if x1 < 64 then if 0 ≤ x1 ∧ x1 < 64 then (some (mset μ (c0 + 1) x1 0)).bind fun m44 => (some (w32 (x1 + 1) : Int)).bind fun x1_45 => self x1_45 m44 else none else k μ
noncomputable def pP_clear_L32 (N : Nat) (c0 : Int) (k : Mem → Option (Mem)) (n : Nat) : Int → Mem → Option (Mem) := lpF (fun _ _ => none) (pP_clear_L32b N c0 k) n
noncomputable def pP_clear_L53b (N : Nat) (c0 : Int) (k : Mem → Option (Mem)) (self : Int → Mem → Option (Mem)) (x1 : Int) (μ : Mem) : Option (Mem) := if x1 < 36 then if 0 ≤ x1 ∧ x1 < 36 then (some (mset μ (c0 + 2) x1 0)).bind fun m68 => (some (w32 (x1 + 1) : Int)).bind fun x1_69 => self x1_69 m68 else none else k μ
noncomputable def pP_clear_L53 (N : Nat) (c0 : Int) (k : Mem → Option (Mem)) (n : Nat) : Int → Mem → Option (Mem) := lpF (fun _ _ => none) (pP_clear_L53b N c0 k) n
noncomputable def pP_clear (N : Nat) (μ : Mem) (a0 : Int) : Option (Mem) := (some (mset μ a0 0 0)).bind fun m2 => (some (mset m2 a0 1 0)).bind fun m7 => (some (mset m7 a0 2 0)).bind fun m12 => (some (mset m12 a0 3 0)).bind fun m17 => (some (mset m17 a0 4 0)).bind fun m22 => (some (mset m22 a0 5 0)).bind fun m27 => pP_clear_L32 N a0 (fun n51 => pP_clear_L53 N a0 (fun n75 => (pU_clear n75 (a0 + 7)).bind fun m79 => (pU_clear m79 (a0 + 10)).bind fun m86 => (pU_clear m86 (a0 + 13)).bind fun m93 => some m93) N 0 n51) N 0 m27
theorem k_pP_clear_L32 {l : Launch} {en : En} {μe : Mem} {N : Nat} {c0 : Int} {k : Mem → Option (Mem)} {K : KT} (Ra : Ru false (some (none, none, nCells, μe, 0, 0, (VT μe))) l en cX3_clear yX3_clear.cls 2 (rmN 1 80) K) (ht0 : ty c0 = 4) (hk : ∀  (μ9 : Mem), k μ9 = some μe → VT μ9 → ∀ L9 : Lo, L9 0 = some (vA en c0) → K ZN 51 L9 [] μ9) : ∀ (n : Nat) (x1 : Int) (μ : Mem) (L : Lo), pP_clear_L32 N c0 k n x1 μ = some μe → inR x1 → VT μ → L 0 = some (vA en c0) → L 1 = some (vI x1) → K ZN 32 L [] μ := by
  intro n
  induction n with
  | zero => intro x1 μ L h; cases h
  | succ n ih =>
    intro x1 μ L h hx1 hV hL0 hL1
    replace h : pP_clear_L32b N c0 k (pP_clear_L32 N c0 k n) x1 μ = some μe := h
    unfold pP_clear_L32b at h
    refine r_iload_n Ra (i := 1) dX3_clear_32 rfl hL1 ?_
    refine r_bipush Ra dX3_clear_33 rfl ?_
    refine r_icmp_ge Ra 51 dX3_clear_35 hx1 (Rk rfl) rfl (fun hc => ?_) (fun hc => ?_)
    · replace h := ineg hc h
      exact hk μ h  hV _ hL0
    · replace h := ipos hc h
      refine r_aload_n Ra (i := 0) dX3_clear_38 rfl hL0 ?_
      refine q_getA Ra (b := (c0 + 1)) f_X3_9 ht0 rfl rfl rfl (hV.ref ht0 rfl (by decide)) (tin (tn4_6 ht0).1 rfl).1 dX3_clear_39 ?_
      refine r_iload_n Ra (i := 1) dX3_clear_42 rfl hL1 ?_
      refine r_iconst Ra dX3_clear_43 ?_
      obtain ⟨gu44, h⟩ := gd h
      obtain ⟨m44, em44, h⟩ := bv h
      have hm44 : VT m44 := eqV em44 (hV.setI (tn4_6 ht0).1 (kd20 _) (Rk rfl))
      refine q_iast Ra (tn4_6 ht0).1 (tn4_6 ht0).2 gu44 em44 dX3_clear_44 ?_
      obtain ⟨x1_45, ex1_45, h⟩ := bv h
      have ix1_45 : inR x1_45 := eqR ex1_45 (inR_32 _)
      refine q_iinc Ra dX3_clear_45 hL1 ex1_45 ?_
      refine r_goto Ra 32 dX3_clear_48 rfl ?_
      exact ih x1_45 m44 _ h ix1_45 hm44 hL0 rfl
theorem k_pP_clear_L53 {l : Launch} {en : En} {μe : Mem} {N : Nat} {c0 : Int} {k : Mem → Option (Mem)} {K : KT} (Ra : Ru false (some (none, none, nCells, μe, 0, 0, (VT μe))) l en cX3_clear yX3_clear.cls 2 (rmN 1 80) K) (ht0 : ty c0 = 4) (hk : ∀  (μ9 : Mem), k μ9 = some μe → VT μ9 → ∀ L9 : Lo, L9 0 = some (vA en c0) → K ZN 75 L9 [] μ9) : ∀ (n : Nat) (x1 : Int) (μ : Mem) (L : Lo), pP_clear_L53 N c0 k n x1 μ = some μe → inR x1 → VT μ → L 0 = some (vA en c0) → L 1 = some (vI x1) → K ZN 53 L [] μ := by
  intro n
  induction n with
  | zero => intro x1 μ L h; cases h
  | succ n ih =>
    intro x1 μ L h hx1 hV hL0 hL1
    replace h : pP_clear_L53b N c0 k (pP_clear_L53 N c0 k n) x1 μ = some μe := h
    unfold pP_clear_L53b at h
    refine r_iload_n Ra (i := 1) dX3_clear_53 rfl hL1 ?_
    refine r_aload_n Ra (i := 0) dX3_clear_54 rfl hL0 ?_
    refine q_getA Ra (b := (c0 + 2)) f_X3_15 ht0 rfl rfl rfl (hV.ref ht0 rfl (by decide)) (tin (tn4_7 ht0).1 rfl).1 dX3_clear_55 ?_
    refine q_alen Ra (tn4_7 ht0).1 (tn4_7 ht0).2 dX3_clear_58 ?_
    refine r_icmp_ge Ra 75 dX3_clear_59 hx1 (Rk rfl) rfl (fun hc => ?_) (fun hc => ?_)
    · replace h := ineg hc h
      exact hk μ h  hV _ hL0
    · replace h := ipos hc h
      refine r_aload_n Ra (i := 0) dX3_clear_62 rfl hL0 ?_
      refine q_getA Ra (b := (c0 + 2)) f_X3_15 ht0 rfl rfl rfl (hV.ref ht0 rfl (by decide)) (tin (tn4_7 ht0).1 rfl).1 dX3_clear_63 ?_
      refine r_iload_n Ra (i := 1) dX3_clear_66 rfl hL1 ?_
      refine r_iconst Ra dX3_clear_67 ?_
      obtain ⟨gu68, h⟩ := gd h
      obtain ⟨m68, em68, h⟩ := bv h
      have hm68 : VT m68 := eqV em68 (hV.setI (tn4_7 ht0).1 (kd20 _) (Rk rfl))
      refine q_iast Ra (tn4_7 ht0).1 (tn4_7 ht0).2 gu68 em68 dX3_clear_68 ?_
      obtain ⟨x1_69, ex1_69, h⟩ := bv h
      have ix1_69 : inR x1_69 := eqR ex1_69 (inR_32 _)
      refine q_iinc Ra dX3_clear_69 hL1 ex1_69 ?_
      refine r_goto Ra 53 dX3_clear_72 rfl ?_
      exact ih x1_69 m68 _ h ix1_69 hm68 hL0 rfl
set_option maxHeartbeats 4000000 in
theorem c_pP_clear {l : Launch} {en : En} {N : Nat} {μ : Mem} {a0 : Int} {μe : Mem} (hV : VT μ) (ha0 : ty a0 = 4) (h : pP_clear N μ a0 = some μe) : CtV l en yX3_clear cX3_clear 2 1 80 [vA en a0] μ μe (VT μe) := by
  refine Tr.of false (fun h => by cases h) (by decide) (Nat.le_of_ble_eq_true rfl) (fun K Ra => ?_)
  unfold pP_clear at h
  refine r_aload_n Ra (i := 0) dX3_clear_0 rfl rfl ?_
  refine r_iconst Ra dX3_clear_1 ?_
  obtain ⟨m2, em2, h⟩ := bv h
  have hm2 : VT m2 := eqV em2 (hV.setI ha0 rfl (Rk rfl))
  refine q_putI Ra f_X3_43 p_X3_0 ha0 rfl rfl rfl em2 dX3_clear_2 ?_
  refine r_aload_n Ra (i := 0) dX3_clear_5 rfl rfl ?_
  refine r_iconst Ra dX3_clear_6 ?_
  obtain ⟨m7, em7, h⟩ := bv h
  have hm7 : VT m7 := eqV em7 (hm2.setI ha0 rfl (Rk rfl))
  refine q_putI Ra f_X3_47 p_X3_1 ha0 rfl rfl rfl em7 dX3_clear_7 ?_
  refine r_aload_n Ra (i := 0) dX3_clear_10 rfl rfl ?_
  refine r_iconst Ra dX3_clear_11 ?_
  obtain ⟨m12, em12, h⟩ := bv h
  have hm12 : VT m12 := eqV em12 (hm7.setI ha0 rfl (Rk rfl))
  refine q_putI Ra f_X3_50 p_X3_2 ha0 rfl rfl rfl em12 dX3_clear_12 ?_
  refine r_aload_n Ra (i := 0) dX3_clear_15 rfl rfl ?_
  refine r_iconst Ra dX3_clear_16 ?_
  obtain ⟨m17, em17, h⟩ := bv h
  have hm17 : VT m17 := eqV em17 (hm12.setI ha0 rfl (Rk rfl))
  refine q_putI Ra f_X3_53 p_X3_3 ha0 rfl rfl rfl em17 dX3_clear_17 ?_
  refine r_aload_n Ra (i := 0) dX3_clear_20 rfl rfl ?_
  refine r_iconst Ra dX3_clear_21 ?_
  obtain ⟨m22, em22, h⟩ := bv h
  have hm22 : VT m22 := eqV em22 (hm17.setI ha0 rfl (Rk rfl))
  refine q_putI Ra f_X3_56 p_X3_4 ha0 rfl rfl rfl em22 dX3_clear_22 ?_
  refine r_aload_n Ra (i := 0) dX3_clear_25 rfl rfl ?_
  refine r_iconst Ra dX3_clear_26 ?_
  obtain ⟨m27, em27, h⟩ := bv h
  have hm27 : VT m27 := eqV em27 (hm22.setI ha0 rfl (Rk rfl))
  refine q_putI Ra f_X3_59 p_X3_5 ha0 rfl rfl rfl em27 dX3_clear_27 ?_
  refine r_iconst Ra dX3_clear_30 ?_
  refine q_istore_n Ra 1 dX3_clear_31 rfl rfl rfl ?_
  refine k_pP_clear_L32 Ra ha0 ?_ _ _ _ _ h (Rk rfl) hm27 rfl rfl
  intro n51 h hn51 L9 f51_0
  refine r_iconst Ra dX3_clear_51 ?_
  refine q_istore_n Ra 1 dX3_clear_52 rfl rfl rfl ?_
  refine k_pP_clear_L53 Ra ha0 ?_ _ _ _ _ h (Rk rfl) hn51 f51_0 rfl
  intro n75 h hn75 L9 f75_0
  refine r_aload_n Ra (i := 0) dX3_clear_75 rfl f75_0 ?_
  refine q_getA Ra (b := (a0 + 7)) f_X3_33 ha0 rfl rfl rfl (hn75.ref ha0 rfl (by decide)) (tin (tn4_12 ha0) rfl).1 dX3_clear_76 ?_
  obtain ⟨m79, hr79, h⟩ := bd h
  refine q_callVV Ra (c_pU_clear hn75 (tn4_12 ha0) hr79) mw_X6_clear mi_X6_clear (tn4_12 ha0) rfl rfl rfl rfl rfl k_X3_62 rfl rfl dX3_clear_79 (fun ok79 => ?_)
  refine r_aload_n Ra (i := 0) dX3_clear_82 rfl f75_0 ?_
  refine q_getA Ra (b := (a0 + 10)) f_X3_37 ha0 rfl rfl rfl (ok79.ref ha0 rfl (by decide)) (tin (tn4_13 ha0) rfl).1 dX3_clear_83 ?_
  obtain ⟨m86, hr86, h⟩ := bd h
  refine q_callVV Ra (c_pU_clear ok79 (tn4_13 ha0) hr86) mw_X6_clear mi_X6_clear (tn4_13 ha0) rfl rfl rfl rfl rfl k_X3_62 rfl rfl dX3_clear_86 (fun ok86 => ?_)
  refine r_aload_n Ra (i := 0) dX3_clear_89 rfl f75_0 ?_
  refine q_getA Ra (b := (a0 + 13)) f_X3_40 ha0 rfl rfl rfl (ok86.ref ha0 rfl (by decide)) (tin (tn4_14 ha0) rfl).1 dX3_clear_90 ?_
  obtain ⟨m93, hr93, h⟩ := bd h
  refine q_callVV Ra (c_pU_clear ok86 (tn4_14 ha0) hr93) mw_X6_clear mi_X6_clear (tn4_14 ha0) rfl rfl rfl rfl rfl k_X3_62 rfl rfl dX3_clear_93 (fun ok93 => ?_)
  cases h
  exact r_vret Ra ok93 dX3_clear_96
noncomputable def pU_copyOf (μ : Mem) (a0 : Int) (a1 : Int) : Option (Mem) := (some (mset μ a0 2 (μ a1 2))).bind fun m5 => if 0 ≤ (0 : Int) ∧ 0 ≤ (0 : Int) ∧ 0 ≤ m5 a0 2 ∧ (0 : Int) + (m5 a0 2) ≤ 1600 ∧ (0 : Int) + (m5 a0 2) ≤ 1600 then (some (mcpy m5 (a1 + 1) 0 (a0 + 1) 0 (m5 a0 2))).bind fun m22 => some m22 else none
set_option maxHeartbeats 4000000 in
theorem c_pU_copyOf {l : Launch} {en : En} {μ : Mem} {a0 : Int} {a1 : Int} {μe : Mem} (hV : VT μ) (ha0 : ty a0 = 7) (ha1 : ty a1 = 7) (h : pU_copyOf μ a0 a1 = some μe) : CtV l en yX6_copyOf cX6_copyOf 2 1 60 [vA en a0, vA en a1] μ μe (VT μe) := by
  refine Tr.of false (fun h => by cases h) (by decide) (Nat.le_of_ble_eq_true rfl) (fun K Ra => ?_)
  unfold pU_copyOf at h
  refine r_aload_n Ra (i := 0) dX6_copyOf_0 rfl rfl ?_
  refine r_aload_n Ra (i := 1) dX6_copyOf_1 rfl rfl ?_
  refine q_getI Ra (x := μ a1 2) f_X6_18 ha1 rfl rfl rfl rfl dX6_copyOf_2 ?_
  obtain ⟨m5, em5, h⟩ := bv h
  have hm5 : VT m5 := eqV em5 (hV.setI ha0 rfl (hV.int ha1 rfl))
  refine q_putI Ra f_X6_18 p_X6_2 ha0 rfl rfl rfl em5 dX6_copyOf_5 ?_
  refine r_aload_n Ra (i := 1) dX6_copyOf_8 rfl rfl ?_
  refine q_getA Ra (b := (a1 + 1)) f_X6_9 ha1 rfl rfl rfl (hm5.ref ha1 rfl (by decide)) (tin (tn7_0 ha1).1 rfl).1 dX6_copyOf_9 ?_
  refine r_iconst Ra dX6_copyOf_12 ?_
  refine r_aload_n Ra (i := 0) dX6_copyOf_13 rfl rfl ?_
  refine q_getA Ra (b := (a0 + 1)) f_X6_9 ha0 rfl rfl rfl (hm5.ref ha0 rfl (by decide)) (tin (tn7_0 ha0).1 rfl).1 dX6_copyOf_14 ?_
  refine r_iconst Ra dX6_copyOf_17 ?_
  refine r_aload_n Ra (i := 0) dX6_copyOf_18 rfl rfl ?_
  refine q_getI Ra (x := m5 a0 2) f_X6_18 ha0 rfl rfl rfl rfl dX6_copyOf_19 ?_
  obtain ⟨gu22, h⟩ := gd h
  obtain ⟨m22, em22, h⟩ := bv h
  have hm22 : VT m22 := eqV em22 (hm5.cpy (tn7_0 ha1).1 (tn7_0 ha0).1)
  refine q_copy Ra em22 (tn7_0 ha1).1 (tn7_0 ha0).1 (tn7_0 ha1).2 (tn7_0 ha0).2 gu22 k_X6_22 rfl rfl dX6_copyOf_22 ?_
  cases h
  exact r_vret Ra hm22 dX6_copyOf_25
noncomputable def pP_copyOf (μ : Mem) (a0 : Int) (a1 : Int) : Option (Mem) := (some (mset μ a0 0 (μ a1 0))).bind fun m5 => (some (mset m5 a0 1 (m5 a1 1))).bind fun m13 => (some (mset m13 a0 2 (m13 a1 2))).bind fun m21 => (some (mset m21 a0 3 (m21 a1 3))).bind fun m29 => (some (mset m29 a0 4 (m29 a1 4))).bind fun m37 => (some (mset m37 a0 5 (m37 a1 5))).bind fun m45 => (some (mcpy m45 (a1 + 1) 0 (a0 + 1) 0 64)).bind fun m60 => (some (mcpy m60 (a1 + 2) 0 (a0 + 2) 0 36)).bind fun m75 => (some (mcpy m75 (a1 + 3) 0 (a0 + 3) 0 6)).bind fun m90 => (some (mcpy m90 (a1 + 4) 0 (a0 + 4) 0 6)).bind fun m105 => (some (mcpy m105 (a1 + 5) 0 (a0 + 5) 0 6)).bind fun m120 => (some (mcpy m120 (a1 + 6) 0 (a0 + 6) 0 6)).bind fun m135 => (pU_copyOf m135 (a0 + 7) (a1 + 7)).bind fun m146 => (pU_copyOf m146 (a0 + 10) (a1 + 10)).bind fun m157 => (pU_copyOf m157 (a0 + 13) (a1 + 13)).bind fun m168 => some m168
set_option maxHeartbeats 4000000 in
theorem c_pP_copyOf {l : Launch} {en : En} {μ : Mem} {a0 : Int} {a1 : Int} {μe : Mem} (hV : VT μ) (ha0 : ty a0 = 4) (ha1 : ty a1 = 4) (h : pP_copyOf μ a0 a1 = some μe) : CtV l en yX3_copyOf cX3_copyOf 2 2 81 [vA en a0, vA en a1] μ μe (VT μe) := by
  refine Tr.of false (fun h => by cases h) (by decide) (Nat.le_of_ble_eq_true rfl) (fun K Ra => ?_)
  unfold pP_copyOf at h
  refine r_aload_n Ra (i := 0) dX3_copyOf_0 rfl rfl ?_
  refine r_aload_n Ra (i := 1) dX3_copyOf_1 rfl rfl ?_
  refine q_getI Ra (x := μ a1 0) f_X3_43 ha1 rfl rfl rfl rfl dX3_copyOf_2 ?_
  obtain ⟨m5, em5, h⟩ := bv h
  have hm5 : VT m5 := eqV em5 (hV.setI ha0 rfl (hV.int ha1 rfl))
  refine q_putI Ra f_X3_43 p_X3_0 ha0 rfl rfl rfl em5 dX3_copyOf_5 ?_
  refine r_aload_n Ra (i := 0) dX3_copyOf_8 rfl rfl ?_
  refine r_aload_n Ra (i := 1) dX3_copyOf_9 rfl rfl ?_
  refine q_getI Ra (x := m5 a1 1) f_X3_47 ha1 rfl rfl rfl rfl dX3_copyOf_10 ?_
  obtain ⟨m13, em13, h⟩ := bv h
  have hm13 : VT m13 := eqV em13 (hm5.setI ha0 rfl (hm5.int ha1 rfl))
  refine q_putI Ra f_X3_47 p_X3_1 ha0 rfl rfl rfl em13 dX3_copyOf_13 ?_
  refine r_aload_n Ra (i := 0) dX3_copyOf_16 rfl rfl ?_
  refine r_aload_n Ra (i := 1) dX3_copyOf_17 rfl rfl ?_
  refine q_getI Ra (x := m13 a1 2) f_X3_50 ha1 rfl rfl rfl rfl dX3_copyOf_18 ?_
  obtain ⟨m21, em21, h⟩ := bv h
  have hm21 : VT m21 := eqV em21 (hm13.setI ha0 rfl (hm13.int ha1 rfl))
  refine q_putI Ra f_X3_50 p_X3_2 ha0 rfl rfl rfl em21 dX3_copyOf_21 ?_
  refine r_aload_n Ra (i := 0) dX3_copyOf_24 rfl rfl ?_
  refine r_aload_n Ra (i := 1) dX3_copyOf_25 rfl rfl ?_
  refine q_getI Ra (x := m21 a1 3) f_X3_53 ha1 rfl rfl rfl rfl dX3_copyOf_26 ?_
  obtain ⟨m29, em29, h⟩ := bv h
  have hm29 : VT m29 := eqV em29 (hm21.setI ha0 rfl (hm21.int ha1 rfl))
  refine q_putI Ra f_X3_53 p_X3_3 ha0 rfl rfl rfl em29 dX3_copyOf_29 ?_
  refine r_aload_n Ra (i := 0) dX3_copyOf_32 rfl rfl ?_
  refine r_aload_n Ra (i := 1) dX3_copyOf_33 rfl rfl ?_
  refine q_getI Ra (x := m29 a1 4) f_X3_56 ha1 rfl rfl rfl rfl dX3_copyOf_34 ?_
  obtain ⟨m37, em37, h⟩ := bv h
  have hm37 : VT m37 := eqV em37 (hm29.setI ha0 rfl (hm29.int ha1 rfl))
  refine q_putI Ra f_X3_56 p_X3_4 ha0 rfl rfl rfl em37 dX3_copyOf_37 ?_
  refine r_aload_n Ra (i := 0) dX3_copyOf_40 rfl rfl ?_
  refine r_aload_n Ra (i := 1) dX3_copyOf_41 rfl rfl ?_
  refine q_getI Ra (x := m37 a1 5) f_X3_59 ha1 rfl rfl rfl rfl dX3_copyOf_42 ?_
  obtain ⟨m45, em45, h⟩ := bv h
  have hm45 : VT m45 := eqV em45 (hm37.setI ha0 rfl (hm37.int ha1 rfl))
  refine q_putI Ra f_X3_59 p_X3_5 ha0 rfl rfl rfl em45 dX3_copyOf_45 ?_
  refine r_aload_n Ra (i := 1) dX3_copyOf_48 rfl rfl ?_
  refine q_getA Ra (b := (a1 + 1)) f_X3_9 ha1 rfl rfl rfl (hm45.ref ha1 rfl (by decide)) (tin (tn4_6 ha1).1 rfl).1 dX3_copyOf_49 ?_
  refine r_iconst Ra dX3_copyOf_52 ?_
  refine r_aload_n Ra (i := 0) dX3_copyOf_53 rfl rfl ?_
  refine q_getA Ra (b := (a0 + 1)) f_X3_9 ha0 rfl rfl rfl (hm45.ref ha0 rfl (by decide)) (tin (tn4_6 ha0).1 rfl).1 dX3_copyOf_54 ?_
  refine r_iconst Ra dX3_copyOf_57 ?_
  refine r_bipush Ra dX3_copyOf_58 rfl ?_
  obtain ⟨m60, em60, h⟩ := bv h
  have hm60 : VT m60 := eqV em60 (hm45.cpy (tn4_6 ha1).1 (tn4_6 ha0).1)
  refine q_copy Ra em60 (tn4_6 ha1).1 (tn4_6 ha0).1 (tn4_6 ha1).2 (tn4_6 ha0).2 (by decide) k_X3_65 rfl rfl dX3_copyOf_60 ?_
  refine r_aload_n Ra (i := 1) dX3_copyOf_63 rfl rfl ?_
  refine q_getA Ra (b := (a1 + 2)) f_X3_15 ha1 rfl rfl rfl (hm60.ref ha1 rfl (by decide)) (tin (tn4_7 ha1).1 rfl).1 dX3_copyOf_64 ?_
  refine r_iconst Ra dX3_copyOf_67 ?_
  refine r_aload_n Ra (i := 0) dX3_copyOf_68 rfl rfl ?_
  refine q_getA Ra (b := (a0 + 2)) f_X3_15 ha0 rfl rfl rfl (hm60.ref ha0 rfl (by decide)) (tin (tn4_7 ha0).1 rfl).1 dX3_copyOf_69 ?_
  refine r_iconst Ra dX3_copyOf_72 ?_
  refine r_bipush Ra dX3_copyOf_73 rfl ?_
  obtain ⟨m75, em75, h⟩ := bv h
  have hm75 : VT m75 := eqV em75 (hm60.cpy (tn4_7 ha1).1 (tn4_7 ha0).1)
  refine q_copy Ra em75 (tn4_7 ha1).1 (tn4_7 ha0).1 (tn4_7 ha1).2 (tn4_7 ha0).2 (by decide) k_X3_65 rfl rfl dX3_copyOf_75 ?_
  refine r_aload_n Ra (i := 1) dX3_copyOf_78 rfl rfl ?_
  refine q_getA Ra (b := (a1 + 3)) f_X3_18 ha1 rfl rfl rfl (hm75.ref ha1 rfl (by decide)) (tin (tn4_8 ha1).1 rfl).1 dX3_copyOf_79 ?_
  refine r_iconst Ra dX3_copyOf_82 ?_
  refine r_aload_n Ra (i := 0) dX3_copyOf_83 rfl rfl ?_
  refine q_getA Ra (b := (a0 + 3)) f_X3_18 ha0 rfl rfl rfl (hm75.ref ha0 rfl (by decide)) (tin (tn4_8 ha0).1 rfl).1 dX3_copyOf_84 ?_
  refine r_iconst Ra dX3_copyOf_87 ?_
  refine r_bipush Ra dX3_copyOf_88 rfl ?_
  obtain ⟨m90, em90, h⟩ := bv h
  have hm90 : VT m90 := eqV em90 (hm75.cpy (tn4_8 ha1).1 (tn4_8 ha0).1)
  refine q_copy Ra em90 (tn4_8 ha1).1 (tn4_8 ha0).1 (tn4_8 ha1).2 (tn4_8 ha0).2 (by decide) k_X3_65 rfl rfl dX3_copyOf_90 ?_
  refine r_aload_n Ra (i := 1) dX3_copyOf_93 rfl rfl ?_
  refine q_getA Ra (b := (a1 + 4)) f_X3_21 ha1 rfl rfl rfl (hm90.ref ha1 rfl (by decide)) (tin (tn4_9 ha1).1 rfl).1 dX3_copyOf_94 ?_
  refine r_iconst Ra dX3_copyOf_97 ?_
  refine r_aload_n Ra (i := 0) dX3_copyOf_98 rfl rfl ?_
  refine q_getA Ra (b := (a0 + 4)) f_X3_21 ha0 rfl rfl rfl (hm90.ref ha0 rfl (by decide)) (tin (tn4_9 ha0).1 rfl).1 dX3_copyOf_99 ?_
  refine r_iconst Ra dX3_copyOf_102 ?_
  refine r_bipush Ra dX3_copyOf_103 rfl ?_
  obtain ⟨m105, em105, h⟩ := bv h
  have hm105 : VT m105 := eqV em105 (hm90.cpy (tn4_9 ha1).1 (tn4_9 ha0).1)
  refine q_copy Ra em105 (tn4_9 ha1).1 (tn4_9 ha0).1 (tn4_9 ha1).2 (tn4_9 ha0).2 (by decide) k_X3_65 rfl rfl dX3_copyOf_105 ?_
  refine r_aload_n Ra (i := 1) dX3_copyOf_108 rfl rfl ?_
  refine q_getA Ra (b := (a1 + 5)) f_X3_24 ha1 rfl rfl rfl (hm105.ref ha1 rfl (by decide)) (tin (tn4_10 ha1).1 rfl).1 dX3_copyOf_109 ?_
  refine r_iconst Ra dX3_copyOf_112 ?_
  refine r_aload_n Ra (i := 0) dX3_copyOf_113 rfl rfl ?_
  refine q_getA Ra (b := (a0 + 5)) f_X3_24 ha0 rfl rfl rfl (hm105.ref ha0 rfl (by decide)) (tin (tn4_10 ha0).1 rfl).1 dX3_copyOf_114 ?_
  refine r_iconst Ra dX3_copyOf_117 ?_
  refine r_bipush Ra dX3_copyOf_118 rfl ?_
  obtain ⟨m120, em120, h⟩ := bv h
  have hm120 : VT m120 := eqV em120 (hm105.cpy (tn4_10 ha1).1 (tn4_10 ha0).1)
  refine q_copy Ra em120 (tn4_10 ha1).1 (tn4_10 ha0).1 (tn4_10 ha1).2 (tn4_10 ha0).2 (by decide) k_X3_65 rfl rfl dX3_copyOf_120 ?_
  refine r_aload_n Ra (i := 1) dX3_copyOf_123 rfl rfl ?_
  refine q_getA Ra (b := (a1 + 6)) f_X3_27 ha1 rfl rfl rfl (hm120.ref ha1 rfl (by decide)) (tin (tn4_11 ha1).1 rfl).1 dX3_copyOf_124 ?_
  refine r_iconst Ra dX3_copyOf_127 ?_
  refine r_aload_n Ra (i := 0) dX3_copyOf_128 rfl rfl ?_
  refine q_getA Ra (b := (a0 + 6)) f_X3_27 ha0 rfl rfl rfl (hm120.ref ha0 rfl (by decide)) (tin (tn4_11 ha0).1 rfl).1 dX3_copyOf_129 ?_
  refine r_iconst Ra dX3_copyOf_132 ?_
  refine r_bipush Ra dX3_copyOf_133 rfl ?_
  obtain ⟨m135, em135, h⟩ := bv h
  have hm135 : VT m135 := eqV em135 (hm120.cpy (tn4_11 ha1).1 (tn4_11 ha0).1)
  refine q_copy Ra em135 (tn4_11 ha1).1 (tn4_11 ha0).1 (tn4_11 ha1).2 (tn4_11 ha0).2 (by decide) k_X3_65 rfl rfl dX3_copyOf_135 ?_
  refine r_aload_n Ra (i := 0) dX3_copyOf_138 rfl rfl ?_
  refine q_getA Ra (b := (a0 + 7)) f_X3_33 ha0 rfl rfl rfl (hm135.ref ha0 rfl (by decide)) (tin (tn4_12 ha0) rfl).1 dX3_copyOf_139 ?_
  refine r_aload_n Ra (i := 1) dX3_copyOf_142 rfl rfl ?_
  refine q_getA Ra (b := (a1 + 7)) f_X3_33 ha1 rfl rfl rfl (hm135.ref ha1 rfl (by decide)) (tin (tn4_12 ha1) rfl).1 dX3_copyOf_143 ?_
  obtain ⟨m146, hr146, h⟩ := bd h
  refine q_callVV Ra (c_pU_copyOf hm135 (tn4_12 ha0) (tn4_12 ha1) hr146) mw_X6_copyOf mi_X6_copyOf (tn4_12 ha0) rfl rfl rfl rfl rfl k_X3_71 rfl rfl dX3_copyOf_146 (fun ok146 => ?_)
  refine r_aload_n Ra (i := 0) dX3_copyOf_149 rfl rfl ?_
  refine q_getA Ra (b := (a0 + 10)) f_X3_37 ha0 rfl rfl rfl (ok146.ref ha0 rfl (by decide)) (tin (tn4_13 ha0) rfl).1 dX3_copyOf_150 ?_
  refine r_aload_n Ra (i := 1) dX3_copyOf_153 rfl rfl ?_
  refine q_getA Ra (b := (a1 + 10)) f_X3_37 ha1 rfl rfl rfl (ok146.ref ha1 rfl (by decide)) (tin (tn4_13 ha1) rfl).1 dX3_copyOf_154 ?_
  obtain ⟨m157, hr157, h⟩ := bd h
  refine q_callVV Ra (c_pU_copyOf ok146 (tn4_13 ha0) (tn4_13 ha1) hr157) mw_X6_copyOf mi_X6_copyOf (tn4_13 ha0) rfl rfl rfl rfl rfl k_X3_71 rfl rfl dX3_copyOf_157 (fun ok157 => ?_)
  refine r_aload_n Ra (i := 0) dX3_copyOf_160 rfl rfl ?_
  refine q_getA Ra (b := (a0 + 13)) f_X3_40 ha0 rfl rfl rfl (ok157.ref ha0 rfl (by decide)) (tin (tn4_14 ha0) rfl).1 dX3_copyOf_161 ?_
  refine r_aload_n Ra (i := 1) dX3_copyOf_164 rfl rfl ?_
  refine q_getA Ra (b := (a1 + 13)) f_X3_40 ha1 rfl rfl rfl (ok157.ref ha1 rfl (by decide)) (tin (tn4_14 ha1) rfl).1 dX3_copyOf_165 ?_
  obtain ⟨m168, hr168, h⟩ := bd h
  refine q_callVV Ra (c_pU_copyOf ok157 (tn4_14 ha0) (tn4_14 ha1) hr168) mw_X6_copyOf mi_X6_copyOf (tn4_14 ha0) rfl rfl rfl rfl rfl k_X3_71 rfl rfl dX3_copyOf_168 (fun ok168 => ?_)
  cases h
  exact r_vret Ra ok168 dX3_copyOf_171
noncomputable def pP_hasPerson (μ : Mem) (a0 : Int) (x1 : Int) : Option (Int) := if x1 < 0 then some (0) else if x1 < μ a0 3 then some (1) else some (0)
set_option maxHeartbeats 4000000 in
theorem c_pP_hasPerson {l : Launch} {en : En} {μ : Mem} {a0 : Int} {x1 : Int} {re : Int} (hV : VT μ) (ha0 : ty a0 = 4) (hx1 : inR x1) (h : pP_hasPerson μ a0 x1 = some re) : CtI l en yX3_hasPerson cX3_hasPerson 2 0 60 [vA en a0, vI x1] μ .boolean re μ ((re = 0 ∨ re = 1)) := by
  refine Tr.of false (fun h => by cases h) (by decide) (Nat.le_of_ble_eq_true rfl) (fun K Ra => ?_)
  unfold pP_hasPerson at h
  refine r_iload_n Ra (i := 1) dX3_hasPerson_0 rfl rfl ?_
  refine r_if_lt Ra 16 dX3_hasPerson_1 hx1 rfl (fun hc => ?_) (fun hc => ?_)
  · replace h := ipos hc h
    refine r_iconst Ra dX3_hasPerson_16 ?_
    cases h
    exact r_zret Ra (Or.inl rfl) (Or.inl rfl) dX3_hasPerson_17
  · replace h := ineg hc h
    refine r_iload_n Ra (i := 1) dX3_hasPerson_4 rfl rfl ?_
    refine r_aload_n Ra (i := 0) dX3_hasPerson_5 rfl rfl ?_
    refine q_getI Ra (x := μ a0 3) f_X3_53 ha0 rfl rfl rfl rfl dX3_hasPerson_6 ?_
    refine r_icmp_ge Ra 16 dX3_hasPerson_9 hx1 (hV.int ha0 rfl) rfl (fun hc => ?_) (fun hc => ?_)
    · replace h := ineg hc h
      refine r_iconst Ra dX3_hasPerson_16 ?_
      cases h
      exact r_zret Ra (Or.inl rfl) (Or.inl rfl) dX3_hasPerson_17
    · replace h := ipos hc h
      refine r_iconst Ra dX3_hasPerson_12 ?_
      refine r_goto Ra 17 dX3_hasPerson_13 rfl ?_
      cases h
      exact r_zret Ra (Or.inr rfl) (Or.inr rfl) dX3_hasPerson_17
noncomputable def pU_add (μ : Mem) (a0 : Int) (x1 : Int) (x2 : Int) : Option (Mem) := if μ a0 2 < 1600 then if 0 ≤ μ a0 2 ∧ μ a0 2 < 1600 then (some (mset μ (a0 + 1) (μ a0 2) (o32 (shl32 x2 4) x1))).bind fun m23 => (some (mset m23 a0 2 (w32 ((m23 a0 2) + 1)))).bind fun m31 => some m31 else none else some μ
set_option maxHeartbeats 4000000 in
theorem c_pU_add {l : Launch} {en : En} {μ : Mem} {a0 : Int} {x1 : Int} {x2 : Int} {μe : Mem} (hV : VT μ) (ha0 : ty a0 = 7) (hx1 : inR x1) (hx2 : inR x2) (h : pU_add μ a0 x1 x2 = some μe) : CtV l en yX6_add cX6_add 3 0 60 [vA en a0, vI x1, vI x2] μ μe (VT μe) := by
  refine Tr.of false (fun h => by cases h) (by decide) (Nat.le_of_ble_eq_true rfl) (fun K Ra => ?_)
  unfold pU_add at h
  refine r_aload_n Ra (i := 0) dX6_add_0 rfl rfl ?_
  refine q_getI Ra (x := μ a0 2) f_X6_18 ha0 rfl rfl rfl rfl dX6_add_1 ?_
  refine r_sipush Ra dX6_add_4 rfl ?_
  refine r_icmp_ge Ra 34 dX6_add_7 (hV.int ha0 rfl) (Rk rfl) rfl (fun hc => ?_) (fun hc => ?_)
  · replace h := ineg hc h
    cases h
    exact r_vret Ra hV dX6_add_34
  · replace h := ipos hc h
    refine r_aload_n Ra (i := 0) dX6_add_10 rfl rfl ?_
    refine q_getA Ra (b := (a0 + 1)) f_X6_9 ha0 rfl rfl rfl (hV.ref ha0 rfl (by decide)) (tin (tn7_0 ha0).1 rfl).1 dX6_add_11 ?_
    refine r_aload_n Ra (i := 0) dX6_add_14 rfl rfl ?_
    refine q_getI Ra (x := μ a0 2) f_X6_18 ha0 rfl rfl rfl rfl dX6_add_15 ?_
    refine r_iload_n Ra (i := 2) dX6_add_18 rfl rfl ?_
    refine r_iconst Ra dX6_add_19 ?_
    refine r_ishl Ra dX6_add_20 ?_
    refine r_iload_n Ra (i := 1) dX6_add_21 rfl rfl ?_
    refine r_ior Ra dX6_add_22 ?_
    obtain ⟨gu23, h⟩ := gd h
    obtain ⟨m23, em23, h⟩ := bv h
    have hm23 : VT m23 := eqV em23 (hV.setI (tn7_0 ha0).1 (kd20 _) (inR_32 _))
    refine q_iast Ra (tn7_0 ha0).1 (tn7_0 ha0).2 gu23 em23 dX6_add_23 ?_
    refine r_aload_n Ra (i := 0) dX6_add_24 rfl rfl ?_
    refine r_dupA Ra dX6_add_25 ?_
    refine q_getI Ra (x := m23 a0 2) f_X6_18 ha0 rfl rfl rfl rfl dX6_add_26 ?_
    refine r_iconst Ra dX6_add_29 ?_
    refine r_iadd Ra dX6_add_30 ?_
    obtain ⟨m31, em31, h⟩ := bv h
    have hm31 : VT m31 := eqV em31 (hm23.setI ha0 rfl (inR_32 _))
    refine q_putI Ra f_X6_18 p_X6_2 ha0 rfl rfl rfl em31 dX6_add_31 ?_
    cases h
    exact r_vret Ra hm31 dX6_add_34
noncomputable def pS_startOf_L72b (N : Nat) (c0 : Int) (k : Mem → Option (Mem)) (self : Int → Mem → Option (Mem)) (x2 : Int) (μ : Mem) : Option (Mem) := if x2 < 6 then if 0 ≤ x2 ∧ x2 < 6 then (some (mset μ (c0 + 5) x2 0)).bind fun m84 => (some (w32 (x2 + 1) : Int)).bind fun x2_85 => self x2_85 m84 else none else k μ
noncomputable def pS_startOf_L72 (N : Nat) (c0 : Int) (k : Mem → Option (Mem)) (n : Nat) : Int → Mem → Option (Mem) := lpF (fun _ _ => none) (pS_startOf_L72b N c0 k) n
noncomputable def pS_startOf (N : Nat) (μ : Mem) (a0 : Int) : Option (Mem) := (some (mset μ a0 0 0)).bind fun m2 => (some (mset m2 a0 7 0)).bind fun m7 => (some (mcpy m7 3 0 (a0 + 1) 0 64)).bind fun m22 => (some (mcpy m22 5 0 (a0 + 2) 0 6)).bind fun m37 => (some (mcpy m37 6 0 (a0 + 3) 0 6)).bind fun m52 => (some (mcpy m52 7 0 (a0 + 4) 0 6)).bind fun m67 => pS_startOf_L72 N a0 (fun n91 => some n91) N 0 m67
theorem k_pS_startOf_L72 {l : Launch} {en : En} {μe : Mem} {N : Nat} {c0 : Int} {k : Mem → Option (Mem)} {K : KT} (Ra : Ru false (some (none, none, nCells, μe, 0, 0, (VT μe))) l en cX5_startOf yX5_startOf.cls 3 (rmN 1 60) K) (ht0 : ty c0 = 6) (hk : ∀  (μ9 : Mem), k μ9 = some μe → VT μ9 → ∀ L9 : Lo, K ZN 91 L9 [] μ9) : ∀ (n : Nat) (x2 : Int) (μ : Mem) (L : Lo), pS_startOf_L72 N c0 k n x2 μ = some μe → inR x2 → VT μ → L 0 = some (vA en c0) → L 2 = some (vI x2) → K ZN 72 L [] μ := by
  intro n
  induction n with
  | zero => intro x2 μ L h; cases h
  | succ n ih =>
    intro x2 μ L h hx2 hV hL0 hL2
    replace h : pS_startOf_L72b N c0 k (pS_startOf_L72 N c0 k n) x2 μ = some μe := h
    unfold pS_startOf_L72b at h
    refine r_iload_n Ra (i := 2) dX5_startOf_72 rfl hL2 ?_
    refine r_bipush Ra dX5_startOf_73 rfl ?_
    refine r_icmp_ge Ra 91 dX5_startOf_75 hx2 (Rk rfl) rfl (fun hc => ?_) (fun hc => ?_)
    · replace h := ineg hc h
      exact hk μ h  hV _ 
    · replace h := ipos hc h
      refine r_aload_n Ra (i := 0) dX5_startOf_78 rfl hL0 ?_
      refine q_getA Ra (b := (c0 + 5)) f_X5_24 ht0 rfl rfl rfl (hV.ref ht0 rfl (by decide)) (tin (tn6_5 ht0).1 rfl).1 dX5_startOf_79 ?_
      refine r_iload_n Ra (i := 2) dX5_startOf_82 rfl hL2 ?_
      refine r_iconst Ra dX5_startOf_83 ?_
      obtain ⟨gu84, h⟩ := gd h
      obtain ⟨m84, em84, h⟩ := bv h
      have hm84 : VT m84 := eqV em84 (hV.setI (tn6_5 ht0).1 (kd20 _) (Rk rfl))
      refine q_iast Ra (tn6_5 ht0).1 (tn6_5 ht0).2 gu84 em84 dX5_startOf_84 ?_
      obtain ⟨x2_85, ex2_85, h⟩ := bv h
      have ix2_85 : inR x2_85 := eqR ex2_85 (inR_32 _)
      refine q_iinc Ra dX5_startOf_85 hL2 ex2_85 ?_
      refine r_goto Ra 72 dX5_startOf_88 rfl ?_
      exact ih x2_85 m84 _ h ix2_85 hm84 hL0 rfl
set_option maxHeartbeats 4000000 in
theorem c_pS_startOf {l : Launch} {en : En} {N : Nat} {μ : Mem} {a0 : Int} {μe : Mem} (hV : VT μ) (ha0 : ty a0 = 6) (h : pS_startOf N μ a0 = some μe) : CtV l en yX5_startOf cX5_startOf 3 1 60 [vA en a0, vA en 2] μ μe (VT μe) := by
  refine Tr.of false (fun h => by cases h) (by decide) (Nat.le_of_ble_eq_true rfl) (fun K Ra => ?_)
  unfold pS_startOf at h
  refine r_aload_n Ra (i := 0) dX5_startOf_0 rfl rfl ?_
  refine r_iconst Ra dX5_startOf_1 ?_
  obtain ⟨m2, em2, h⟩ := bv h
  have hm2 : VT m2 := eqV em2 (hV.setI ha0 rfl (Rk rfl))
  refine q_putI Ra f_X5_30 p_X5_0 ha0 rfl rfl rfl em2 dX5_startOf_2 ?_
  refine r_aload_n Ra (i := 0) dX5_startOf_5 rfl rfl ?_
  refine r_iconst Ra dX5_startOf_6 ?_
  obtain ⟨m7, em7, h⟩ := bv h
  have hm7 : VT m7 := eqV em7 (hm2.setI ha0 rfl (Rk rfl))
  refine q_putI Ra f_X5_34 p_X5_7 ha0 rfl rfl rfl em7 dX5_startOf_7 ?_
  refine r_aload_n Ra (i := 1) dX5_startOf_10 rfl rfl ?_
  refine q_getA Ra (b := 3) f_X5_37 t2 rfl rfl rfl (hm7.ref t2 rfl (by decide)) (by decide) dX5_startOf_11 ?_
  refine r_iconst Ra dX5_startOf_14 ?_
  refine r_aload_n Ra (i := 0) dX5_startOf_15 rfl rfl ?_
  refine q_getA Ra (b := (a0 + 1)) f_X5_9 ha0 rfl rfl rfl (hm7.ref ha0 rfl (by decide)) (tin (tn6_1 ha0).1 rfl).1 dX5_startOf_16 ?_
  refine r_iconst Ra dX5_startOf_19 ?_
  refine r_bipush Ra dX5_startOf_20 rfl ?_
  obtain ⟨m22, em22, h⟩ := bv h
  have hm22 : VT m22 := eqV em22 (hm7.cpy t3 (tn6_1 ha0).1)
  refine q_copy Ra em22 t3 (tn6_1 ha0).1 l3 (tn6_1 ha0).2 (by decide) k_X5_40 rfl rfl dX5_startOf_22 ?_
  refine r_aload_n Ra (i := 1) dX5_startOf_25 rfl rfl ?_
  refine q_getA Ra (b := 5) f_X5_46 t2 rfl rfl rfl (hm22.ref t2 rfl (by decide)) (by decide) dX5_startOf_26 ?_
  refine r_iconst Ra dX5_startOf_29 ?_
  refine r_aload_n Ra (i := 0) dX5_startOf_30 rfl rfl ?_
  refine q_getA Ra (b := (a0 + 2)) f_X5_15 ha0 rfl rfl rfl (hm22.ref ha0 rfl (by decide)) (tin (tn6_2 ha0).1 rfl).1 dX5_startOf_31 ?_
  refine r_iconst Ra dX5_startOf_34 ?_
  refine r_bipush Ra dX5_startOf_35 rfl ?_
  obtain ⟨m37, em37, h⟩ := bv h
  have hm37 : VT m37 := eqV em37 (hm22.cpy t5 (tn6_2 ha0).1)
  refine q_copy Ra em37 t5 (tn6_2 ha0).1 l5 (tn6_2 ha0).2 (by decide) k_X5_40 rfl rfl dX5_startOf_37 ?_
  refine r_aload_n Ra (i := 1) dX5_startOf_40 rfl rfl ?_
  refine q_getA Ra (b := 6) f_X5_47 t2 rfl rfl rfl (hm37.ref t2 rfl (by decide)) (by decide) dX5_startOf_41 ?_
  refine r_iconst Ra dX5_startOf_44 ?_
  refine r_aload_n Ra (i := 0) dX5_startOf_45 rfl rfl ?_
  refine q_getA Ra (b := (a0 + 3)) f_X5_18 ha0 rfl rfl rfl (hm37.ref ha0 rfl (by decide)) (tin (tn6_3 ha0).1 rfl).1 dX5_startOf_46 ?_
  refine r_iconst Ra dX5_startOf_49 ?_
  refine r_bipush Ra dX5_startOf_50 rfl ?_
  obtain ⟨m52, em52, h⟩ := bv h
  have hm52 : VT m52 := eqV em52 (hm37.cpy t6 (tn6_3 ha0).1)
  refine q_copy Ra em52 t6 (tn6_3 ha0).1 l6 (tn6_3 ha0).2 (by decide) k_X5_40 rfl rfl dX5_startOf_52 ?_
  refine r_aload_n Ra (i := 1) dX5_startOf_55 rfl rfl ?_
  refine q_getA Ra (b := 7) f_X5_48 t2 rfl rfl rfl (hm52.ref t2 rfl (by decide)) (by decide) dX5_startOf_56 ?_
  refine r_iconst Ra dX5_startOf_59 ?_
  refine r_aload_n Ra (i := 0) dX5_startOf_60 rfl rfl ?_
  refine q_getA Ra (b := (a0 + 4)) f_X5_21 ha0 rfl rfl rfl (hm52.ref ha0 rfl (by decide)) (tin (tn6_4 ha0).1 rfl).1 dX5_startOf_61 ?_
  refine r_iconst Ra dX5_startOf_64 ?_
  refine r_bipush Ra dX5_startOf_65 rfl ?_
  obtain ⟨m67, em67, h⟩ := bv h
  have hm67 : VT m67 := eqV em67 (hm52.cpy t7 (tn6_4 ha0).1)
  refine q_copy Ra em67 t7 (tn6_4 ha0).1 l7 (tn6_4 ha0).2 (by decide) k_X5_40 rfl rfl dX5_startOf_67 ?_
  refine r_iconst Ra dX5_startOf_70 ?_
  refine q_istore_n Ra 2 dX5_startOf_71 rfl rfl rfl ?_
  refine k_pS_startOf_L72 Ra ha0 ?_ _ _ _ _ h (Rk rfl) hm67 rfl rfl
  intro n91 h hn91 L9 
  cases h
  exact r_vret Ra hn91 dX5_startOf_91
noncomputable def pT_forget (μ : Mem)  : Option (Mem) := (some (mset μ 201 13 0)).bind fun m2 => (some (mset m2 201 14 0)).bind fun m7 => some m7
set_option maxHeartbeats 4000000 in
theorem c_pT_forget {l : Launch} {en : En} {μ : Mem}  {μe : Mem} (hV : VT μ)  (h : pT_forget μ = some μe) : CtV l en yX7_forget cX7_forget 1 0 60 [vA en 201] μ μe (VT μe) := by
  refine Tr.of false (fun h => by cases h) (by decide) (Nat.le_of_ble_eq_true rfl) (fun K Ra => ?_)
  unfold pT_forget at h
  refine r_aload_n Ra (i := 0) dX7_forget_0 rfl rfl ?_
  refine r_iconst Ra dX7_forget_1 ?_
  obtain ⟨m2, em2, h⟩ := bv h
  have hm2 : VT m2 := eqV em2 (hV.setZ t201 rfl (Or.inl rfl))
  refine q_putZ Ra f_X7_51 p_X7_13 t201 rfl rfl rfl em2 (Or.inl rfl) dX7_forget_2 ?_
  refine r_aload_n Ra (i := 0) dX7_forget_5 rfl rfl ?_
  refine r_iconst Ra dX7_forget_6 ?_
  obtain ⟨m7, em7, h⟩ := bv h
  have hm7 : VT m7 := eqV em7 (hm2.setZ t201 rfl (Or.inl rfl))
  refine q_putZ Ra f_X7_55 p_X7_14 t201 rfl rfl rfl em7 (Or.inl rfl) dX7_forget_7 ?_
  cases h
  exact r_vret Ra hm7 dX7_forget_10
noncomputable def pW_copyOf (μ : Mem) (a0 : Int) (a1 : Int) : Option (Mem) := (some (mset μ a0 9 (μ a1 9))).bind fun m5 => (some (mset m5 a0 7 (m5 a1 7))).bind fun m13 => (some (mcpy m13 (a1 + 1) 0 (a0 + 1) 0 64)).bind fun m28 => (some (mcpy m28 (a1 + 2) 0 (a0 + 2) 0 6)).bind fun m43 => (some (mcpy m43 (a1 + 3) 0 (a0 + 3) 0 6)).bind fun m58 => (some (mcpy m58 (a1 + 4) 0 (a0 + 4) 0 6)).bind fun m73 => (some (mcpy m73 (a1 + 5) 0 (a0 + 5) 0 6)).bind fun m88 => some m88
set_option maxHeartbeats 4000000 in
theorem c_pW_copyOf {l : Launch} {en : En} {μ : Mem} {a0 : Int} {a1 : Int} {μe : Mem} (hV : VT μ) (ha0 : ty a0 = 9) (ha1 : ty a1 = 9) (h : pW_copyOf μ a0 a1 = some μe) : CtV l en yX8_copyOf cX8_copyOf 2 1 60 [vA en a0, vA en a1] μ μe (VT μe) := by
  refine Tr.of false (fun h => by cases h) (by decide) (Nat.le_of_ble_eq_true rfl) (fun K Ra => ?_)
  unfold pW_copyOf at h
  refine r_aload_n Ra (i := 0) dX8_copyOf_0 rfl rfl ?_
  refine r_aload_n Ra (i := 1) dX8_copyOf_1 rfl rfl ?_
  refine q_getI Ra (x := μ a1 9) f_X8_45 ha1 rfl rfl rfl rfl dX8_copyOf_2 ?_
  obtain ⟨m5, em5, h⟩ := bv h
  have hm5 : VT m5 := eqV em5 (hV.setI ha0 rfl (hV.int ha1 rfl))
  refine q_putI Ra f_X8_45 p_X8_9 ha0 rfl rfl rfl em5 dX8_copyOf_5 ?_
  refine r_aload_n Ra (i := 0) dX8_copyOf_8 rfl rfl ?_
  refine r_aload_n Ra (i := 1) dX8_copyOf_9 rfl rfl ?_
  refine q_getI Ra (x := m5 a1 7) f_X8_32 ha1 rfl rfl rfl rfl dX8_copyOf_10 ?_
  obtain ⟨m13, em13, h⟩ := bv h
  have hm13 : VT m13 := eqV em13 (hm5.setI ha0 rfl (hm5.int ha1 rfl))
  refine q_putI Ra f_X8_32 p_X8_7 ha0 rfl rfl rfl em13 dX8_copyOf_13 ?_
  refine r_aload_n Ra (i := 1) dX8_copyOf_16 rfl rfl ?_
  refine q_getA Ra (b := (a1 + 1)) f_X8_9 ha1 rfl rfl rfl (hm13.ref ha1 rfl (by decide)) (tin (tn9_1 ha1).1 rfl).1 dX8_copyOf_17 ?_
  refine r_iconst Ra dX8_copyOf_20 ?_
  refine r_aload_n Ra (i := 0) dX8_copyOf_21 rfl rfl ?_
  refine q_getA Ra (b := (a0 + 1)) f_X8_9 ha0 rfl rfl rfl (hm13.ref ha0 rfl (by decide)) (tin (tn9_1 ha0).1 rfl).1 dX8_copyOf_22 ?_
  refine r_iconst Ra dX8_copyOf_25 ?_
  refine r_bipush Ra dX8_copyOf_26 rfl ?_
  obtain ⟨m28, em28, h⟩ := bv h
  have hm28 : VT m28 := eqV em28 (hm13.cpy (tn9_1 ha1).1 (tn9_1 ha0).1)
  refine q_copy Ra em28 (tn9_1 ha1).1 (tn9_1 ha0).1 (tn9_1 ha1).2 (tn9_1 ha0).2 (by decide) k_X8_47 rfl rfl dX8_copyOf_28 ?_
  refine r_aload_n Ra (i := 1) dX8_copyOf_31 rfl rfl ?_
  refine q_getA Ra (b := (a1 + 2)) f_X8_15 ha1 rfl rfl rfl (hm28.ref ha1 rfl (by decide)) (tin (tn9_2 ha1).1 rfl).1 dX8_copyOf_32 ?_
  refine r_iconst Ra dX8_copyOf_35 ?_
  refine r_aload_n Ra (i := 0) dX8_copyOf_36 rfl rfl ?_
  refine q_getA Ra (b := (a0 + 2)) f_X8_15 ha0 rfl rfl rfl (hm28.ref ha0 rfl (by decide)) (tin (tn9_2 ha0).1 rfl).1 dX8_copyOf_37 ?_
  refine r_iconst Ra dX8_copyOf_40 ?_
  refine r_bipush Ra dX8_copyOf_41 rfl ?_
  obtain ⟨m43, em43, h⟩ := bv h
  have hm43 : VT m43 := eqV em43 (hm28.cpy (tn9_2 ha1).1 (tn9_2 ha0).1)
  refine q_copy Ra em43 (tn9_2 ha1).1 (tn9_2 ha0).1 (tn9_2 ha1).2 (tn9_2 ha0).2 (by decide) k_X8_47 rfl rfl dX8_copyOf_43 ?_
  refine r_aload_n Ra (i := 1) dX8_copyOf_46 rfl rfl ?_
  refine q_getA Ra (b := (a1 + 3)) f_X8_18 ha1 rfl rfl rfl (hm43.ref ha1 rfl (by decide)) (tin (tn9_3 ha1).1 rfl).1 dX8_copyOf_47 ?_
  refine r_iconst Ra dX8_copyOf_50 ?_
  refine r_aload_n Ra (i := 0) dX8_copyOf_51 rfl rfl ?_
  refine q_getA Ra (b := (a0 + 3)) f_X8_18 ha0 rfl rfl rfl (hm43.ref ha0 rfl (by decide)) (tin (tn9_3 ha0).1 rfl).1 dX8_copyOf_52 ?_
  refine r_iconst Ra dX8_copyOf_55 ?_
  refine r_bipush Ra dX8_copyOf_56 rfl ?_
  obtain ⟨m58, em58, h⟩ := bv h
  have hm58 : VT m58 := eqV em58 (hm43.cpy (tn9_3 ha1).1 (tn9_3 ha0).1)
  refine q_copy Ra em58 (tn9_3 ha1).1 (tn9_3 ha0).1 (tn9_3 ha1).2 (tn9_3 ha0).2 (by decide) k_X8_47 rfl rfl dX8_copyOf_58 ?_
  refine r_aload_n Ra (i := 1) dX8_copyOf_61 rfl rfl ?_
  refine q_getA Ra (b := (a1 + 4)) f_X8_21 ha1 rfl rfl rfl (hm58.ref ha1 rfl (by decide)) (tin (tn9_4 ha1).1 rfl).1 dX8_copyOf_62 ?_
  refine r_iconst Ra dX8_copyOf_65 ?_
  refine r_aload_n Ra (i := 0) dX8_copyOf_66 rfl rfl ?_
  refine q_getA Ra (b := (a0 + 4)) f_X8_21 ha0 rfl rfl rfl (hm58.ref ha0 rfl (by decide)) (tin (tn9_4 ha0).1 rfl).1 dX8_copyOf_67 ?_
  refine r_iconst Ra dX8_copyOf_70 ?_
  refine r_bipush Ra dX8_copyOf_71 rfl ?_
  obtain ⟨m73, em73, h⟩ := bv h
  have hm73 : VT m73 := eqV em73 (hm58.cpy (tn9_4 ha1).1 (tn9_4 ha0).1)
  refine q_copy Ra em73 (tn9_4 ha1).1 (tn9_4 ha0).1 (tn9_4 ha1).2 (tn9_4 ha0).2 (by decide) k_X8_47 rfl rfl dX8_copyOf_73 ?_
  refine r_aload_n Ra (i := 1) dX8_copyOf_76 rfl rfl ?_
  refine q_getA Ra (b := (a1 + 5)) f_X8_24 ha1 rfl rfl rfl (hm73.ref ha1 rfl (by decide)) (tin (tn9_5 ha1).1 rfl).1 dX8_copyOf_77 ?_
  refine r_iconst Ra dX8_copyOf_80 ?_
  refine r_aload_n Ra (i := 0) dX8_copyOf_81 rfl rfl ?_
  refine q_getA Ra (b := (a0 + 5)) f_X8_24 ha0 rfl rfl rfl (hm73.ref ha0 rfl (by decide)) (tin (tn9_5 ha0).1 rfl).1 dX8_copyOf_82 ?_
  refine r_iconst Ra dX8_copyOf_85 ?_
  refine r_bipush Ra dX8_copyOf_86 rfl ?_
  obtain ⟨m88, em88, h⟩ := bv h
  have hm88 : VT m88 := eqV em88 (hm73.cpy (tn9_5 ha1).1 (tn9_5 ha0).1)
  refine q_copy Ra em88 (tn9_5 ha1).1 (tn9_5 ha0).1 (tn9_5 ha1).2 (tn9_5 ha0).2 (by decide) k_X8_47 rfl rfl dX8_copyOf_88 ?_
  cases h
  exact r_vret Ra hm88 dX8_copyOf_91
noncomputable def pT_learn_L35b (N : Nat)  (k : Mem → Option (Mem)) (self : Int → Mem → Option (Mem)) (x2 : Int) (μ : Mem) : Option (Mem) := if x2 < 9 then (pW_through N μ 243 x2 (w32 (x2 + 1))).bind fun m49 => if 0 ≤ x2 ∧ x2 < 9 then (some (mcpy m49 244 0 (202 + 1 + x2) 0 64)).bind fun m69 => if 0 ≤ x2 ∧ x2 < 9 then (some (mcpy m69 247 0 (212 + 1 + x2) 0 6)).bind fun m89 => if 0 ≤ x2 ∧ x2 < 9 then (some (mcpy m89 248 0 (222 + 1 + x2) 0 6)).bind fun m109 => (some (w32 (x2 + 1) : Int)).bind fun x2_112 => self x2_112 m109 else none else none else none else k μ
noncomputable def pT_learn_L35 (N : Nat)  (k : Mem → Option (Mem)) (n : Nat) : Int → Mem → Option (Mem) := lpF (fun _ _ => none) (pT_learn_L35b N k) n
noncomputable def pT_learn_L120b (N : Nat)  (k : Mem → Option (Mem)) (self : Int → Mem → Option (Mem)) (x2 : Int) (μ : Mem) : Option (Mem) := if x2 < 6 then if 0 ≤ x2 ∧ x2 < 6 then (some (mset μ 232 x2 (-1))).bind fun m132 => if 0 ≤ x2 ∧ x2 < 6 then (some (mset m132 234 x2 (-1))).bind fun m139 => (some (w32 (x2 + 1) : Int)).bind fun x2_140 => self x2_140 m139 else none else none else k μ
noncomputable def pT_learn_L120 (N : Nat)  (k : Mem → Option (Mem)) (n : Nat) : Int → Mem → Option (Mem) := lpF (fun _ _ => none) (pT_learn_L120b N k) n
noncomputable def pT_learn (N : Nat) (μ : Mem) (a1 : Int) : Option (Mem) := if μ 201 13 = 0 then (some (mset μ 201 13 1)).bind fun m10 => (pW_begin N m10 236 a1 1).bind fun m19 => (pW_copyOf m19 243 236).bind fun m30 => pT_learn_L35 N (fun n118 => pT_learn_L120 N (fun n146 => some n146) N 0 n118) N 0 m30 else some μ
theorem k_pT_learn_L35 {l : Launch} {en : En} {μe : Mem} {N : Nat}  {k : Mem → Option (Mem)} {K : KT} (Ra : Ru false (some (none, none, nCells, μe, 0, 0, (VT μe))) l en cX7_learn yX7_learn.cls 3 (rmN 6 209) K)  (hk : ∀  (μ9 : Mem), k μ9 = some μe → VT μ9 → ∀ L9 : Lo, L9 0 = some (vA en 201) → K ZN 118 L9 [] μ9) : ∀ (n : Nat) (x2 : Int) (μ : Mem) (L : Lo), pT_learn_L35 N k n x2 μ = some μe → inR x2 → VT μ → L 0 = some (vA en 201) → L 2 = some (vI x2) → K ZN 35 L [] μ := by
  intro n
  induction n with
  | zero => intro x2 μ L h; cases h
  | succ n ih =>
    intro x2 μ L h hx2 hV hL0 hL2
    replace h : pT_learn_L35b N k (pT_learn_L35 N k n) x2 μ = some μe := h
    unfold pT_learn_L35b at h
    refine r_iload_n Ra (i := 2) dX7_learn_35 rfl hL2 ?_
    refine r_bipush Ra dX7_learn_36 rfl ?_
    refine r_icmp_ge Ra 118 dX7_learn_38 hx2 (Rk rfl) rfl (fun hc => ?_) (fun hc => ?_)
    · replace h := ineg hc h
      exact hk μ h  hV _ hL0
    · replace h := ipos hc h
      refine r_aload_n Ra (i := 0) dX7_learn_41 rfl hL0 ?_
      refine q_getA Ra (b := 243) f_X7_48 t201 rfl rfl rfl (hV.ref t201 rfl (by decide)) (by decide) dX7_learn_42 ?_
      refine r_iload_n Ra (i := 2) dX7_learn_45 rfl hL2 ?_
      refine r_iload_n Ra (i := 2) dX7_learn_46 rfl hL2 ?_
      refine r_iconst Ra dX7_learn_47 ?_
      refine r_iadd Ra dX7_learn_48 ?_
      obtain ⟨m49, hr49, h⟩ := bd h
      refine q_callVV Ra (c_pW_through hV t243 hx2 (inR_32 _) hr49) mw_X8_through mi_X8_through t243 rfl rfl rfl rfl rfl k_X7_66 rfl rfl dX7_learn_49 (fun ok49 => ?_)
      refine r_aload_n Ra (i := 0) dX7_learn_52 rfl hL0 ?_
      refine q_getA Ra (b := 243) f_X7_48 t201 rfl rfl rfl (ok49.ref t201 rfl (by decide)) (by decide) dX7_learn_53 ?_
      refine q_getA Ra (b := 244) f_X7_70 t243 rfl rfl rfl (ok49.ref t243 rfl (by decide)) (by decide) dX7_learn_56 ?_
      refine r_iconst Ra dX7_learn_59 ?_
      refine r_aload_n Ra (i := 0) dX7_learn_60 rfl hL0 ?_
      refine q_getA Ra (b := 202) f_X7_11 t201 rfl rfl rfl (ok49.ref t201 rfl (by decide)) (by decide) dX7_learn_61 ?_
      refine r_iload_n Ra (i := 2) dX7_learn_64 rfl hL2 ?_
      obtain ⟨gu65, h⟩ := gd h
      have hg1 := g202 gu65
      refine q_aald Ra (b := (202 + 1 + x2)) t202 (by decide) l202 gu65 (ok49.ref t202 rfl gu65.1) (tin hg1.1 rfl).1 dX7_learn_65 ?_
      refine r_iconst Ra dX7_learn_66 ?_
      refine r_bipush Ra dX7_learn_67 rfl ?_
      obtain ⟨m69, em69, h⟩ := bv h
      have hm69 : VT m69 := eqV em69 (ok49.cpy t244 hg1.1)
      refine q_copy Ra em69 t244 hg1.1 l244 hg1.2 (by decide) k_X7_73 rfl rfl dX7_learn_69 ?_
      refine r_aload_n Ra (i := 0) dX7_learn_72 rfl hL0 ?_
      refine q_getA Ra (b := 243) f_X7_48 t201 rfl rfl rfl (hm69.ref t201 rfl (by decide)) (by decide) dX7_learn_73 ?_
      refine q_getA Ra (b := 247) f_X7_79 t243 rfl rfl rfl (hm69.ref t243 rfl (by decide)) (by decide) dX7_learn_76 ?_
      refine r_iconst Ra dX7_learn_79 ?_
      refine r_aload_n Ra (i := 0) dX7_learn_80 rfl hL0 ?_
      refine q_getA Ra (b := 212) f_X7_16 t201 rfl rfl rfl (hm69.ref t201 rfl (by decide)) (by decide) dX7_learn_81 ?_
      refine r_iload_n Ra (i := 2) dX7_learn_84 rfl hL2 ?_
      obtain ⟨gu85, h⟩ := gd h
      have hg2 := g212 gu85
      refine q_aald Ra (b := (212 + 1 + x2)) t212 (by decide) l212 gu85 (hm69.ref t212 rfl gu85.1) (tin hg2.1 rfl).1 dX7_learn_85 ?_
      refine r_iconst Ra dX7_learn_86 ?_
      refine r_bipush Ra dX7_learn_87 rfl ?_
      obtain ⟨m89, em89, h⟩ := bv h
      have hm89 : VT m89 := eqV em89 (hm69.cpy t247 hg2.1)
      refine q_copy Ra em89 t247 hg2.1 l247 hg2.2 (by decide) k_X7_73 rfl rfl dX7_learn_89 ?_
      refine r_aload_n Ra (i := 0) dX7_learn_92 rfl hL0 ?_
      refine q_getA Ra (b := 243) f_X7_48 t201 rfl rfl rfl (hm89.ref t201 rfl (by decide)) (by decide) dX7_learn_93 ?_
      refine q_getA Ra (b := 248) f_X7_82 t243 rfl rfl rfl (hm89.ref t243 rfl (by decide)) (by decide) dX7_learn_96 ?_
      refine r_iconst Ra dX7_learn_99 ?_
      refine r_aload_n Ra (i := 0) dX7_learn_100 rfl hL0 ?_
      refine q_getA Ra (b := 222) f_X7_19 t201 rfl rfl rfl (hm89.ref t201 rfl (by decide)) (by decide) dX7_learn_101 ?_
      refine r_iload_n Ra (i := 2) dX7_learn_104 rfl hL2 ?_
      obtain ⟨gu105, h⟩ := gd h
      have hg3 := g222 gu105
      refine q_aald Ra (b := (222 + 1 + x2)) t222 (by decide) l222 gu105 (hm89.ref t222 rfl gu105.1) (tin hg3.1 rfl).1 dX7_learn_105 ?_
      refine r_iconst Ra dX7_learn_106 ?_
      refine r_bipush Ra dX7_learn_107 rfl ?_
      obtain ⟨m109, em109, h⟩ := bv h
      have hm109 : VT m109 := eqV em109 (hm89.cpy t248 hg3.1)
      refine q_copy Ra em109 t248 hg3.1 l248 hg3.2 (by decide) k_X7_73 rfl rfl dX7_learn_109 ?_
      obtain ⟨x2_112, ex2_112, h⟩ := bv h
      have ix2_112 : inR x2_112 := eqR ex2_112 (inR_32 _)
      refine q_iinc Ra dX7_learn_112 hL2 ex2_112 ?_
      refine r_goto Ra 35 dX7_learn_115 rfl ?_
      exact ih x2_112 m109 _ h ix2_112 hm109 hL0 rfl
theorem k_pT_learn_L120 {l : Launch} {en : En} {μe : Mem} {N : Nat}  {k : Mem → Option (Mem)} {K : KT} (Ra : Ru false (some (none, none, nCells, μe, 0, 0, (VT μe))) l en cX7_learn yX7_learn.cls 3 (rmN 6 209) K)  (hk : ∀  (μ9 : Mem), k μ9 = some μe → VT μ9 → ∀ L9 : Lo, K ZN 146 L9 [] μ9) : ∀ (n : Nat) (x2 : Int) (μ : Mem) (L : Lo), pT_learn_L120 N k n x2 μ = some μe → inR x2 → VT μ → L 0 = some (vA en 201) → L 2 = some (vI x2) → K ZN 120 L [] μ := by
  intro n
  induction n with
  | zero => intro x2 μ L h; cases h
  | succ n ih =>
    intro x2 μ L h hx2 hV hL0 hL2
    replace h : pT_learn_L120b N k (pT_learn_L120 N k n) x2 μ = some μe := h
    unfold pT_learn_L120b at h
    refine r_iload_n Ra (i := 2) dX7_learn_120 rfl hL2 ?_
    refine r_bipush Ra dX7_learn_121 rfl ?_
    refine r_icmp_ge Ra 146 dX7_learn_123 hx2 (Rk rfl) rfl (fun hc => ?_) (fun hc => ?_)
    · replace h := ineg hc h
      exact hk μ h  hV _ 
    · replace h := ipos hc h
      refine r_aload_n Ra (i := 0) dX7_learn_126 rfl hL0 ?_
      refine q_getA Ra (b := 232) f_X7_22 t201 rfl rfl rfl (hV.ref t201 rfl (by decide)) (by decide) dX7_learn_127 ?_
      refine r_iload_n Ra (i := 2) dX7_learn_130 rfl hL2 ?_
      refine r_iconst Ra dX7_learn_131 ?_
      obtain ⟨gu132, h⟩ := gd h
      obtain ⟨m132, em132, h⟩ := bv h
      have hm132 : VT m132 := eqV em132 (hV.setI t232 (kd20 _) (Rk rfl))
      refine q_iast Ra t232 l232 gu132 em132 dX7_learn_132 ?_
      refine r_aload_n Ra (i := 0) dX7_learn_133 rfl hL0 ?_
      refine q_getA Ra (b := 234) f_X7_29 t201 rfl rfl rfl (hm132.ref t201 rfl (by decide)) (by decide) dX7_learn_134 ?_
      refine r_iload_n Ra (i := 2) dX7_learn_137 rfl hL2 ?_
      refine r_iconst Ra dX7_learn_138 ?_
      obtain ⟨gu139, h⟩ := gd h
      obtain ⟨m139, em139, h⟩ := bv h
      have hm139 : VT m139 := eqV em139 (hm132.setI t234 (kd20 _) (Rk rfl))
      refine q_iast Ra t234 l234 gu139 em139 dX7_learn_139 ?_
      obtain ⟨x2_140, ex2_140, h⟩ := bv h
      have ix2_140 : inR x2_140 := eqR ex2_140 (inR_32 _)
      refine q_iinc Ra dX7_learn_140 hL2 ex2_140 ?_
      refine r_goto Ra 120 dX7_learn_143 rfl ?_
      exact ih x2_140 m139 _ h ix2_140 hm139 hL0 rfl
set_option maxHeartbeats 4000000 in
theorem c_pT_learn {l : Launch} {en : En} {N : Nat} {μ : Mem} {a1 : Int} {μe : Mem} (hV : VT μ) (ha1 : ty a1 = 6) (h : pT_learn N μ a1 = some μe) : CtV l en yX7_learn cX7_learn 3 6 209 [vA en 201, vA en a1] μ μe (VT μe) := by
  refine Tr.of false (fun h => by cases h) (by decide) (Nat.le_of_ble_eq_true rfl) (fun K Ra => ?_)
  unfold pT_learn at h
  refine r_aload_n Ra (i := 0) dX7_learn_0 rfl rfl ?_
  refine q_getZ Ra (x := μ 201 13) f_X7_51 t201 rfl rfl rfl rfl dX7_learn_1 ?_
  refine r_if_eq Ra 8 dX7_learn_4 (inR_01 (hV.bool t201 rfl)) rfl (fun hc => ?_) (fun hc => ?_)
  · replace h := ipos hc h
    refine r_aload_n Ra (i := 0) dX7_learn_8 rfl rfl ?_
    refine r_iconst Ra dX7_learn_9 ?_
    obtain ⟨m10, em10, h⟩ := bv h
    have hm10 : VT m10 := eqV em10 (hV.setZ t201 rfl (Or.inr rfl))
    refine q_putZ Ra f_X7_51 p_X7_13 t201 rfl rfl rfl em10 (Or.inr rfl) dX7_learn_10 ?_
    refine r_aload_n Ra (i := 0) dX7_learn_13 rfl rfl ?_
    refine q_getA Ra (b := 236) f_X7_44 t201 rfl rfl rfl (hm10.ref t201 rfl (by decide)) (by decide) dX7_learn_14 ?_
    refine r_aload_n Ra (i := 1) dX7_learn_17 rfl rfl ?_
    refine r_iconst Ra dX7_learn_18 ?_
    obtain ⟨m19, hr19, h⟩ := bd h
    refine q_callVV Ra (c_pW_begin hm10 t236 ha1 (Rk rfl) hr19) mw_X8_begin mi_X8_begin t236 rfl rfl rfl rfl rfl k_X7_58 rfl rfl dX7_learn_19 (fun ok19 => ?_)
    refine r_aload_n Ra (i := 0) dX7_learn_22 rfl rfl ?_
    refine q_getA Ra (b := 243) f_X7_48 t201 rfl rfl rfl (ok19.ref t201 rfl (by decide)) (by decide) dX7_learn_23 ?_
    refine r_aload_n Ra (i := 0) dX7_learn_26 rfl rfl ?_
    refine q_getA Ra (b := 236) f_X7_44 t201 rfl rfl rfl (ok19.ref t201 rfl (by decide)) (by decide) dX7_learn_27 ?_
    obtain ⟨m30, hr30, h⟩ := bd h
    refine q_callVV Ra (c_pW_copyOf ok19 t243 t236 hr30) mw_X8_copyOf mi_X8_copyOf t243 rfl rfl rfl rfl rfl k_X7_62 rfl rfl dX7_learn_30 (fun ok30 => ?_)
    refine r_iconst Ra dX7_learn_33 ?_
    refine q_istore_n Ra 2 dX7_learn_34 rfl rfl rfl ?_
    refine k_pT_learn_L35 Ra ?_ _ _ _ _ h (Rk rfl) ok30 rfl rfl
    intro n118 h hn118 L9 f118_0
    refine r_iconst Ra dX7_learn_118 ?_
    refine q_istore_n Ra 2 dX7_learn_119 rfl rfl rfl ?_
    refine k_pT_learn_L120 Ra ?_ _ _ _ _ h (Rk rfl) hn118 f118_0 rfl
    intro n146 h hn146 L9 
    cases h
    exact r_vret Ra hn146 dX7_learn_146
  · replace h := ineg hc h
    cases h
    exact r_vret Ra hV dX7_learn_7
noncomputable def pT_findRise_L20b (N : Nat) (c1 : Int) (k : Mem → Option (Mem)) (self : Int → Mem → Option (Mem)) (x2 : Int) (μ : Mem) : Option (Mem) := if x2 < 9 then (pW_copyOf μ 243 236).bind fun m34 => if 0 ≤ c1 ∧ c1 < 6 then (some (mset m34 245 c1 x2)).bind fun m46 => (pW_through N m46 243 0 9).bind fun m54 => if 0 ≤ c1 ∧ c1 < 6 then if 0 ≤ c1 ∧ c1 < 6 then if m54 233 c1 < m54 248 c1 then if 0 ≤ c1 ∧ c1 < 6 then if 0 ≤ c1 ∧ c1 < 6 then (some (mset m54 233 c1 (m54 248 c1))).bind fun m89 => if 0 ≤ c1 ∧ c1 < 6 then (some (mset m89 232 c1 x2)).bind fun m96 => (some (w32 (x2 + 1) : Int)).bind fun x2_97 => self x2_97 m96 else none else none else none else (some (w32 (x2 + 1) : Int)).bind fun x2_97 => self x2_97 m54 else none else none else none else k μ
noncomputable def pT_findRise_L20 (N : Nat) (c1 : Int) (k : Mem → Option (Mem)) (n : Nat) : Int → Mem → Option (Mem) := lpF (fun _ _ => none) (pT_findRise_L20b N c1 k) n
noncomputable def pT_findRise (N : Nat) (μ : Mem) (x1 : Int) : Option (Mem) := if 0 ≤ x1 ∧ x1 < 6 then if μ 232 x1 = (-1) then if 0 ≤ x1 ∧ x1 < 6 then (some (mset μ 233 x1 (-1))).bind fun m17 => pT_findRise_L20 N x1 (fun n103 => some n103) N 0 m17 else none else some μ else none
theorem k_pT_findRise_L20 {l : Launch} {en : En} {μe : Mem} {N : Nat} {c1 : Int} {k : Mem → Option (Mem)} {K : KT} (Ra : Ru false (some (none, none, nCells, μe, 0, 0, (VT μe))) l en cX7_findRise yX7_findRise.cls 3 (rmN 6 209) K) (hi1 : inR c1) (hk : ∀  (μ9 : Mem), k μ9 = some μe → VT μ9 → ∀ L9 : Lo, K ZN 103 L9 [] μ9) : ∀ (n : Nat) (x2 : Int) (μ : Mem) (L : Lo), pT_findRise_L20 N c1 k n x2 μ = some μe → inR x2 → VT μ → L 0 = some (vA en 201) → L 1 = some (vI c1) → L 2 = some (vI x2) → K ZN 20 L [] μ := by
  intro n
  induction n with
  | zero => intro x2 μ L h; cases h
  | succ n ih =>
    intro x2 μ L h hx2 hV hL0 hL1 hL2
    replace h : pT_findRise_L20b N c1 k (pT_findRise_L20 N c1 k n) x2 μ = some μe := h
    unfold pT_findRise_L20b at h
    refine r_iload_n Ra (i := 2) dX7_findRise_20 rfl hL2 ?_
    refine r_bipush Ra dX7_findRise_21 rfl ?_
    refine r_icmp_ge Ra 103 dX7_findRise_23 hx2 (Rk rfl) rfl (fun hc => ?_) (fun hc => ?_)
    · replace h := ineg hc h
      exact hk μ h  hV _ 
    · replace h := ipos hc h
      refine r_aload_n Ra (i := 0) dX7_findRise_26 rfl hL0 ?_
      refine q_getA Ra (b := 243) f_X7_48 t201 rfl rfl rfl (hV.ref t201 rfl (by decide)) (by decide) dX7_findRise_27 ?_
      refine r_aload_n Ra (i := 0) dX7_findRise_30 rfl hL0 ?_
      refine q_getA Ra (b := 236) f_X7_44 t201 rfl rfl rfl (hV.ref t201 rfl (by decide)) (by decide) dX7_findRise_31 ?_
      obtain ⟨m34, hr34, h⟩ := bd h
      refine q_callVV Ra (c_pW_copyOf hV t243 t236 hr34) mw_X8_copyOf mi_X8_copyOf t243 rfl rfl rfl rfl rfl k_X7_62 rfl rfl dX7_findRise_34 (fun ok34 => ?_)
      refine r_aload_n Ra (i := 0) dX7_findRise_37 rfl hL0 ?_
      refine q_getA Ra (b := 243) f_X7_48 t201 rfl rfl rfl (ok34.ref t201 rfl (by decide)) (by decide) dX7_findRise_38 ?_
      refine q_getA Ra (b := 245) f_X7_85 t243 rfl rfl rfl (ok34.ref t243 rfl (by decide)) (by decide) dX7_findRise_41 ?_
      refine r_iload_n Ra (i := 1) dX7_findRise_44 rfl hL1 ?_
      refine r_iload_n Ra (i := 2) dX7_findRise_45 rfl hL2 ?_
      obtain ⟨gu46, h⟩ := gd h
      obtain ⟨m46, em46, h⟩ := bv h
      have hm46 : VT m46 := eqV em46 (ok34.setI t245 (kd20 _) hx2)
      refine q_iast Ra t245 l245 gu46 em46 dX7_findRise_46 ?_
      refine r_aload_n Ra (i := 0) dX7_findRise_47 rfl hL0 ?_
      refine q_getA Ra (b := 243) f_X7_48 t201 rfl rfl rfl (hm46.ref t201 rfl (by decide)) (by decide) dX7_findRise_48 ?_
      refine r_iconst Ra dX7_findRise_51 ?_
      refine r_bipush Ra dX7_findRise_52 rfl ?_
      obtain ⟨m54, hr54, h⟩ := bd h
      refine q_callVV Ra (c_pW_through hm46 t243 (Rk rfl) (Rk rfl) hr54) mw_X8_through mi_X8_through t243 rfl rfl rfl rfl rfl k_X7_66 rfl rfl dX7_findRise_54 (fun ok54 => ?_)
      refine r_aload_n Ra (i := 0) dX7_findRise_57 rfl hL0 ?_
      refine q_getA Ra (b := 243) f_X7_48 t201 rfl rfl rfl (ok54.ref t201 rfl (by decide)) (by decide) dX7_findRise_58 ?_
      refine q_getA Ra (b := 248) f_X7_82 t243 rfl rfl rfl (ok54.ref t243 rfl (by decide)) (by decide) dX7_findRise_61 ?_
      refine r_iload_n Ra (i := 1) dX7_findRise_64 rfl hL1 ?_
      obtain ⟨gu65, h⟩ := gd h
      refine q_iald Ra t248 l248 gu65 dX7_findRise_65 ?_
      refine r_aload_n Ra (i := 0) dX7_findRise_66 rfl hL0 ?_
      refine q_getA Ra (b := 233) f_X7_26 t201 rfl rfl rfl (ok54.ref t201 rfl (by decide)) (by decide) dX7_findRise_67 ?_
      refine r_iload_n Ra (i := 1) dX7_findRise_70 rfl hL1 ?_
      obtain ⟨gu71, h⟩ := gd h
      refine q_iald Ra t233 l233 gu71 dX7_findRise_71 ?_
      refine r_icmp_le Ra 97 dX7_findRise_72 (ok54.int t248 (kd20 _)) (ok54.int t233 (kd20 _)) rfl (fun hc => ?_) (fun hc => ?_)
      · replace h := ineg hc h
        obtain ⟨x2_97, ex2_97, h⟩ := bv h
        have ix2_97 : inR x2_97 := eqR ex2_97 (inR_32 _)
        refine q_iinc Ra dX7_findRise_97 hL2 ex2_97 ?_
        refine r_goto Ra 20 dX7_findRise_100 rfl ?_
        exact ih x2_97 m54 _ h ix2_97 ok54 hL0 hL1 rfl
      · replace h := ipos hc h
        refine r_aload_n Ra (i := 0) dX7_findRise_75 rfl hL0 ?_
        refine q_getA Ra (b := 233) f_X7_26 t201 rfl rfl rfl (ok54.ref t201 rfl (by decide)) (by decide) dX7_findRise_76 ?_
        refine r_iload_n Ra (i := 1) dX7_findRise_79 rfl hL1 ?_
        refine r_aload_n Ra (i := 0) dX7_findRise_80 rfl hL0 ?_
        refine q_getA Ra (b := 243) f_X7_48 t201 rfl rfl rfl (ok54.ref t201 rfl (by decide)) (by decide) dX7_findRise_81 ?_
        refine q_getA Ra (b := 248) f_X7_82 t243 rfl rfl rfl (ok54.ref t243 rfl (by decide)) (by decide) dX7_findRise_84 ?_
        refine r_iload_n Ra (i := 1) dX7_findRise_87 rfl hL1 ?_
        obtain ⟨gu88, h⟩ := gd h
        refine q_iald Ra t248 l248 gu88 dX7_findRise_88 ?_
        obtain ⟨gu89, h⟩ := gd h
        obtain ⟨m89, em89, h⟩ := bv h
        have hm89 : VT m89 := eqV em89 (ok54.setI t233 (kd20 _) (ok54.int t248 (kd20 _)))
        refine q_iast Ra t233 l233 gu89 em89 dX7_findRise_89 ?_
        refine r_aload_n Ra (i := 0) dX7_findRise_90 rfl hL0 ?_
        refine q_getA Ra (b := 232) f_X7_22 t201 rfl rfl rfl (hm89.ref t201 rfl (by decide)) (by decide) dX7_findRise_91 ?_
        refine r_iload_n Ra (i := 1) dX7_findRise_94 rfl hL1 ?_
        refine r_iload_n Ra (i := 2) dX7_findRise_95 rfl hL2 ?_
        obtain ⟨gu96, h⟩ := gd h
        obtain ⟨m96, em96, h⟩ := bv h
        have hm96 : VT m96 := eqV em96 (hm89.setI t232 (kd20 _) hx2)
        refine q_iast Ra t232 l232 gu96 em96 dX7_findRise_96 ?_
        obtain ⟨x2_97, ex2_97, h⟩ := bv h
        have ix2_97 : inR x2_97 := eqR ex2_97 (inR_32 _)
        refine q_iinc Ra dX7_findRise_97 hL2 ex2_97 ?_
        refine r_goto Ra 20 dX7_findRise_100 rfl ?_
        exact ih x2_97 m96 _ h ix2_97 hm96 hL0 hL1 rfl
set_option maxHeartbeats 4000000 in
theorem c_pT_findRise {l : Launch} {en : En} {N : Nat} {μ : Mem} {x1 : Int} {μe : Mem} (hV : VT μ) (hx1 : inR x1) (h : pT_findRise N μ x1 = some μe) : CtV l en yX7_findRise cX7_findRise 3 6 209 [vA en 201, vI x1] μ μe (VT μe) := by
  refine Tr.of false (fun h => by cases h) (by decide) (Nat.le_of_ble_eq_true rfl) (fun K Ra => ?_)
  unfold pT_findRise at h
  refine r_aload_n Ra (i := 0) dX7_findRise_0 rfl rfl ?_
  refine q_getA Ra (b := 232) f_X7_22 t201 rfl rfl rfl (hV.ref t201 rfl (by decide)) (by decide) dX7_findRise_1 ?_
  refine r_iload_n Ra (i := 1) dX7_findRise_4 rfl rfl ?_
  obtain ⟨gu5, h⟩ := gd h
  refine q_iald Ra t232 l232 gu5 dX7_findRise_5 ?_
  refine r_iconst Ra dX7_findRise_6 ?_
  refine r_icmp_eq Ra 11 dX7_findRise_7 (hV.int t232 (kd20 _)) (Rk rfl) rfl (fun hc => ?_) (fun hc => ?_)
  · replace h := ipos hc h
    refine r_aload_n Ra (i := 0) dX7_findRise_11 rfl rfl ?_
    refine q_getA Ra (b := 233) f_X7_26 t201 rfl rfl rfl (hV.ref t201 rfl (by decide)) (by decide) dX7_findRise_12 ?_
    refine r_iload_n Ra (i := 1) dX7_findRise_15 rfl rfl ?_
    refine r_iconst Ra dX7_findRise_16 ?_
    obtain ⟨gu17, h⟩ := gd h
    obtain ⟨m17, em17, h⟩ := bv h
    have hm17 : VT m17 := eqV em17 (hV.setI t233 (kd20 _) (Rk rfl))
    refine q_iast Ra t233 l233 gu17 em17 dX7_findRise_17 ?_
    refine r_iconst Ra dX7_findRise_18 ?_
    refine q_istore_n Ra 2 dX7_findRise_19 rfl rfl rfl ?_
    refine k_pT_findRise_L20 Ra hx1 ?_ _ _ _ _ h (Rk rfl) hm17 rfl rfl rfl
    intro n103 h hn103 L9 
    cases h
    exact r_vret Ra hn103 dX7_findRise_103
  · replace h := ineg hc h
    cases h
    exact r_vret Ra hV dX7_findRise_10
noncomputable def pT_findHome_L20b (N : Nat) (c1 : Int) (k : Mem → Option (Mem)) (self : Int → Mem → Option (Mem)) (x2 : Int) (μ : Mem) : Option (Mem) := if x2 < μ 2 2 then (pW_copyOf μ 243 236).bind fun m39 => if 0 ≤ c1 ∧ c1 < 6 then (some (mset m39 247 c1 x2)).bind fun m51 => (pW_through N m51 243 0 9).bind fun m59 => if 0 ≤ c1 ∧ c1 < 6 then if 0 ≤ c1 ∧ c1 < 6 then if m59 235 c1 < m59 248 c1 then if 0 ≤ c1 ∧ c1 < 6 then if 0 ≤ c1 ∧ c1 < 6 then (some (mset m59 235 c1 (m59 248 c1))).bind fun m94 => if 0 ≤ c1 ∧ c1 < 6 then (some (mset m94 234 c1 x2)).bind fun m101 => (some (w32 (x2 + 1) : Int)).bind fun x2_102 => self x2_102 m101 else none else none else none else (some (w32 (x2 + 1) : Int)).bind fun x2_102 => self x2_102 m59 else none else none else none else k μ
noncomputable def pT_findHome_L20 (N : Nat) (c1 : Int) (k : Mem → Option (Mem)) (n : Nat) : Int → Mem → Option (Mem) := lpF (fun _ _ => none) (pT_findHome_L20b N c1 k) n
noncomputable def pT_findHome (N : Nat) (μ : Mem) (x1 : Int) : Option (Mem) := if 0 ≤ x1 ∧ x1 < 6 then if μ 234 x1 = (-1) then if 0 ≤ x1 ∧ x1 < 6 then (some (mset μ 235 x1 (-1))).bind fun m17 => pT_findHome_L20 N x1 (fun n108 => some n108) N 0 m17 else none else some μ else none
theorem k_pT_findHome_L20 {l : Launch} {en : En} {μe : Mem} {N : Nat} {c1 : Int} {k : Mem → Option (Mem)} {K : KT} (Ra : Ru false (some (none, none, nCells, μe, 0, 0, (VT μe))) l en cX7_findHome yX7_findHome.cls 3 (rmN 6 209) K) (hi1 : inR c1) (hk : ∀  (μ9 : Mem), k μ9 = some μe → VT μ9 → ∀ L9 : Lo, K ZN 108 L9 [] μ9) : ∀ (n : Nat) (x2 : Int) (μ : Mem) (L : Lo), pT_findHome_L20 N c1 k n x2 μ = some μe → inR x2 → VT μ → L 0 = some (vA en 201) → L 1 = some (vI c1) → L 2 = some (vI x2) → K ZN 20 L [] μ := by
  intro n
  induction n with
  | zero => intro x2 μ L h; cases h
  | succ n ih =>
    intro x2 μ L h hx2 hV hL0 hL1 hL2
    replace h : pT_findHome_L20b N c1 k (pT_findHome_L20 N c1 k n) x2 μ = some μe := h
    unfold pT_findHome_L20b at h
    refine r_iload_n Ra (i := 2) dX7_findHome_20 rfl hL2 ?_
    refine r_aload_n Ra (i := 0) dX7_findHome_21 rfl hL0 ?_
    refine q_getA Ra (b := 2) f_X7_35 t201 rfl rfl rfl (hV.ref t201 rfl (by decide)) (by decide) dX7_findHome_22 ?_
    refine q_getI Ra (x := μ 2 2) f_X7_88 t2 rfl rfl rfl rfl dX7_findHome_25 ?_
    refine r_icmp_ge Ra 108 dX7_findHome_28 hx2 (hV.int t2 rfl) rfl (fun hc => ?_) (fun hc => ?_)
    · replace h := ineg hc h
      exact hk μ h  hV _ 
    · replace h := ipos hc h
      refine r_aload_n Ra (i := 0) dX7_findHome_31 rfl hL0 ?_
      refine q_getA Ra (b := 243) f_X7_48 t201 rfl rfl rfl (hV.ref t201 rfl (by decide)) (by decide) dX7_findHome_32 ?_
      refine r_aload_n Ra (i := 0) dX7_findHome_35 rfl hL0 ?_
      refine q_getA Ra (b := 236) f_X7_44 t201 rfl rfl rfl (hV.ref t201 rfl (by decide)) (by decide) dX7_findHome_36 ?_
      obtain ⟨m39, hr39, h⟩ := bd h
      refine q_callVV Ra (c_pW_copyOf hV t243 t236 hr39) mw_X8_copyOf mi_X8_copyOf t243 rfl rfl rfl rfl rfl k_X7_62 rfl rfl dX7_findHome_39 (fun ok39 => ?_)
      refine r_aload_n Ra (i := 0) dX7_findHome_42 rfl hL0 ?_
      refine q_getA Ra (b := 243) f_X7_48 t201 rfl rfl rfl (ok39.ref t201 rfl (by decide)) (by decide) dX7_findHome_43 ?_
      refine q_getA Ra (b := 247) f_X7_79 t243 rfl rfl rfl (ok39.ref t243 rfl (by decide)) (by decide) dX7_findHome_46 ?_
      refine r_iload_n Ra (i := 1) dX7_findHome_49 rfl hL1 ?_
      refine r_iload_n Ra (i := 2) dX7_findHome_50 rfl hL2 ?_
      obtain ⟨gu51, h⟩ := gd h
      obtain ⟨m51, em51, h⟩ := bv h
      have hm51 : VT m51 := eqV em51 (ok39.setI t247 (kd20 _) hx2)
      refine q_iast Ra t247 l247 gu51 em51 dX7_findHome_51 ?_
      refine r_aload_n Ra (i := 0) dX7_findHome_52 rfl hL0 ?_
      refine q_getA Ra (b := 243) f_X7_48 t201 rfl rfl rfl (hm51.ref t201 rfl (by decide)) (by decide) dX7_findHome_53 ?_
      refine r_iconst Ra dX7_findHome_56 ?_
      refine r_bipush Ra dX7_findHome_57 rfl ?_
      obtain ⟨m59, hr59, h⟩ := bd h
      refine q_callVV Ra (c_pW_through hm51 t243 (Rk rfl) (Rk rfl) hr59) mw_X8_through mi_X8_through t243 rfl rfl rfl rfl rfl k_X7_66 rfl rfl dX7_findHome_59 (fun ok59 => ?_)
      refine r_aload_n Ra (i := 0) dX7_findHome_62 rfl hL0 ?_
      refine q_getA Ra (b := 243) f_X7_48 t201 rfl rfl rfl (ok59.ref t201 rfl (by decide)) (by decide) dX7_findHome_63 ?_
      refine q_getA Ra (b := 248) f_X7_82 t243 rfl rfl rfl (ok59.ref t243 rfl (by decide)) (by decide) dX7_findHome_66 ?_
      refine r_iload_n Ra (i := 1) dX7_findHome_69 rfl hL1 ?_
      obtain ⟨gu70, h⟩ := gd h
      refine q_iald Ra t248 l248 gu70 dX7_findHome_70 ?_
      refine r_aload_n Ra (i := 0) dX7_findHome_71 rfl hL0 ?_
      refine q_getA Ra (b := 235) f_X7_32 t201 rfl rfl rfl (ok59.ref t201 rfl (by decide)) (by decide) dX7_findHome_72 ?_
      refine r_iload_n Ra (i := 1) dX7_findHome_75 rfl hL1 ?_
      obtain ⟨gu76, h⟩ := gd h
      refine q_iald Ra t235 l235 gu76 dX7_findHome_76 ?_
      refine r_icmp_le Ra 102 dX7_findHome_77 (ok59.int t248 (kd20 _)) (ok59.int t235 (kd20 _)) rfl (fun hc => ?_) (fun hc => ?_)
      · replace h := ineg hc h
        obtain ⟨x2_102, ex2_102, h⟩ := bv h
        have ix2_102 : inR x2_102 := eqR ex2_102 (inR_32 _)
        refine q_iinc Ra dX7_findHome_102 hL2 ex2_102 ?_
        refine r_goto Ra 20 dX7_findHome_105 rfl ?_
        exact ih x2_102 m59 _ h ix2_102 ok59 hL0 hL1 rfl
      · replace h := ipos hc h
        refine r_aload_n Ra (i := 0) dX7_findHome_80 rfl hL0 ?_
        refine q_getA Ra (b := 235) f_X7_32 t201 rfl rfl rfl (ok59.ref t201 rfl (by decide)) (by decide) dX7_findHome_81 ?_
        refine r_iload_n Ra (i := 1) dX7_findHome_84 rfl hL1 ?_
        refine r_aload_n Ra (i := 0) dX7_findHome_85 rfl hL0 ?_
        refine q_getA Ra (b := 243) f_X7_48 t201 rfl rfl rfl (ok59.ref t201 rfl (by decide)) (by decide) dX7_findHome_86 ?_
        refine q_getA Ra (b := 248) f_X7_82 t243 rfl rfl rfl (ok59.ref t243 rfl (by decide)) (by decide) dX7_findHome_89 ?_
        refine r_iload_n Ra (i := 1) dX7_findHome_92 rfl hL1 ?_
        obtain ⟨gu93, h⟩ := gd h
        refine q_iald Ra t248 l248 gu93 dX7_findHome_93 ?_
        obtain ⟨gu94, h⟩ := gd h
        obtain ⟨m94, em94, h⟩ := bv h
        have hm94 : VT m94 := eqV em94 (ok59.setI t235 (kd20 _) (ok59.int t248 (kd20 _)))
        refine q_iast Ra t235 l235 gu94 em94 dX7_findHome_94 ?_
        refine r_aload_n Ra (i := 0) dX7_findHome_95 rfl hL0 ?_
        refine q_getA Ra (b := 234) f_X7_29 t201 rfl rfl rfl (hm94.ref t201 rfl (by decide)) (by decide) dX7_findHome_96 ?_
        refine r_iload_n Ra (i := 1) dX7_findHome_99 rfl hL1 ?_
        refine r_iload_n Ra (i := 2) dX7_findHome_100 rfl hL2 ?_
        obtain ⟨gu101, h⟩ := gd h
        obtain ⟨m101, em101, h⟩ := bv h
        have hm101 : VT m101 := eqV em101 (hm94.setI t234 (kd20 _) hx2)
        refine q_iast Ra t234 l234 gu101 em101 dX7_findHome_101 ?_
        obtain ⟨x2_102, ex2_102, h⟩ := bv h
        have ix2_102 : inR x2_102 := eqR ex2_102 (inR_32 _)
        refine q_iinc Ra dX7_findHome_102 hL2 ex2_102 ?_
        refine r_goto Ra 20 dX7_findHome_105 rfl ?_
        exact ih x2_102 m101 _ h ix2_102 hm101 hL0 hL1 rfl
set_option maxHeartbeats 4000000 in
theorem c_pT_findHome {l : Launch} {en : En} {N : Nat} {μ : Mem} {x1 : Int} {μe : Mem} (hV : VT μ) (hx1 : inR x1) (h : pT_findHome N μ x1 = some μe) : CtV l en yX7_findHome cX7_findHome 3 6 209 [vA en 201, vI x1] μ μe (VT μe) := by
  refine Tr.of false (fun h => by cases h) (by decide) (Nat.le_of_ble_eq_true rfl) (fun K Ra => ?_)
  unfold pT_findHome at h
  refine r_aload_n Ra (i := 0) dX7_findHome_0 rfl rfl ?_
  refine q_getA Ra (b := 234) f_X7_29 t201 rfl rfl rfl (hV.ref t201 rfl (by decide)) (by decide) dX7_findHome_1 ?_
  refine r_iload_n Ra (i := 1) dX7_findHome_4 rfl rfl ?_
  obtain ⟨gu5, h⟩ := gd h
  refine q_iald Ra t234 l234 gu5 dX7_findHome_5 ?_
  refine r_iconst Ra dX7_findHome_6 ?_
  refine r_icmp_eq Ra 11 dX7_findHome_7 (hV.int t234 (kd20 _)) (Rk rfl) rfl (fun hc => ?_) (fun hc => ?_)
  · replace h := ipos hc h
    refine r_aload_n Ra (i := 0) dX7_findHome_11 rfl rfl ?_
    refine q_getA Ra (b := 235) f_X7_32 t201 rfl rfl rfl (hV.ref t201 rfl (by decide)) (by decide) dX7_findHome_12 ?_
    refine r_iload_n Ra (i := 1) dX7_findHome_15 rfl rfl ?_
    refine r_iconst Ra dX7_findHome_16 ?_
    obtain ⟨gu17, h⟩ := gd h
    obtain ⟨m17, em17, h⟩ := bv h
    have hm17 : VT m17 := eqV em17 (hV.setI t235 (kd20 _) (Rk rfl))
    refine q_iast Ra t235 l235 gu17 em17 dX7_findHome_17 ?_
    refine r_iconst Ra dX7_findHome_18 ?_
    refine q_istore_n Ra 2 dX7_findHome_19 rfl rfl rfl ?_
    refine k_pT_findHome_L20 Ra hx1 ?_ _ _ _ _ h (Rk rfl) hm17 rfl rfl rfl
    intro n108 h hn108 L9 
    cases h
    exact r_vret Ra hn108 dX7_findHome_108
  · replace h := ineg hc h
    cases h
    exact r_vret Ra hV dX7_findHome_10
noncomputable def pT_tryChange (N : Nat) (μ : Mem) (x1 : Int) (x2 : Int) : Option (Mem) := (pW_copyOf μ 243 236).bind fun m8 => if 0 ≤ x2 ∧ x2 < 6 then if 0 ≤ x1 ∧ x1 < 6 then (some (mset m8 246 x1 (m8 239 x2))).bind fun m28 => if 0 ≤ x1 ∧ x1 < 6 then if 0 ≤ x2 ∧ x2 < 6 then (some (mset m28 246 x2 (m28 239 x1))).bind fun m46 => (pW_through N m46 243 0 9).bind fun m54 => (pW_wrungByAll N m54 243).bind fun r61 => if m54 201 12 < r61 then (pW_wrungByAll N m54 243).bind fun r76 => (some (mset m54 201 12 r76)).bind fun m79 => (some (mset m79 201 10 x1)).bind fun m84 => (some (mset m84 201 11 x2)).bind fun m89 => some m89 else some m54 else none else none else none else none
set_option maxHeartbeats 4000000 in
theorem c_pT_tryChange {l : Launch} {en : En} {N : Nat} {μ : Mem} {x1 : Int} {x2 : Int} {μe : Mem} (hV : VT μ) (hx1 : inR x1) (hx2 : inR x2) (h : pT_tryChange N μ x1 x2 = some μe) : CtV l en yX7_tryChange cX7_tryChange 3 6 209 [vA en 201, vI x1, vI x2] μ μe (VT μe) := by
  refine Tr.of false (fun h => by cases h) (by decide) (Nat.le_of_ble_eq_true rfl) (fun K Ra => ?_)
  unfold pT_tryChange at h
  refine r_aload_n Ra (i := 0) dX7_tryChange_0 rfl rfl ?_
  refine q_getA Ra (b := 243) f_X7_48 t201 rfl rfl rfl (hV.ref t201 rfl (by decide)) (by decide) dX7_tryChange_1 ?_
  refine r_aload_n Ra (i := 0) dX7_tryChange_4 rfl rfl ?_
  refine q_getA Ra (b := 236) f_X7_44 t201 rfl rfl rfl (hV.ref t201 rfl (by decide)) (by decide) dX7_tryChange_5 ?_
  obtain ⟨m8, hr8, h⟩ := bd h
  refine q_callVV Ra (c_pW_copyOf hV t243 t236 hr8) mw_X8_copyOf mi_X8_copyOf t243 rfl rfl rfl rfl rfl k_X7_62 rfl rfl dX7_tryChange_8 (fun ok8 => ?_)
  refine r_aload_n Ra (i := 0) dX7_tryChange_11 rfl rfl ?_
  refine q_getA Ra (b := 243) f_X7_48 t201 rfl rfl rfl (ok8.ref t201 rfl (by decide)) (by decide) dX7_tryChange_12 ?_
  refine q_getA Ra (b := 246) f_X7_110 t243 rfl rfl rfl (ok8.ref t243 rfl (by decide)) (by decide) dX7_tryChange_15 ?_
  refine r_iload_n Ra (i := 1) dX7_tryChange_18 rfl rfl ?_
  refine r_aload_n Ra (i := 0) dX7_tryChange_19 rfl rfl ?_
  refine q_getA Ra (b := 236) f_X7_44 t201 rfl rfl rfl (ok8.ref t201 rfl (by decide)) (by decide) dX7_tryChange_20 ?_
  refine q_getA Ra (b := 239) f_X7_110 t236 rfl rfl rfl (ok8.ref t236 rfl (by decide)) (by decide) dX7_tryChange_23 ?_
  refine r_iload_n Ra (i := 2) dX7_tryChange_26 rfl rfl ?_
  obtain ⟨gu27, h⟩ := gd h
  refine q_iald Ra t239 l239 gu27 dX7_tryChange_27 ?_
  obtain ⟨gu28, h⟩ := gd h
  obtain ⟨m28, em28, h⟩ := bv h
  have hm28 : VT m28 := eqV em28 (ok8.setI t246 (kd20 _) (ok8.int t239 (kd20 _)))
  refine q_iast Ra t246 l246 gu28 em28 dX7_tryChange_28 ?_
  refine r_aload_n Ra (i := 0) dX7_tryChange_29 rfl rfl ?_
  refine q_getA Ra (b := 243) f_X7_48 t201 rfl rfl rfl (hm28.ref t201 rfl (by decide)) (by decide) dX7_tryChange_30 ?_
  refine q_getA Ra (b := 246) f_X7_110 t243 rfl rfl rfl (hm28.ref t243 rfl (by decide)) (by decide) dX7_tryChange_33 ?_
  refine r_iload_n Ra (i := 2) dX7_tryChange_36 rfl rfl ?_
  refine r_aload_n Ra (i := 0) dX7_tryChange_37 rfl rfl ?_
  refine q_getA Ra (b := 236) f_X7_44 t201 rfl rfl rfl (hm28.ref t201 rfl (by decide)) (by decide) dX7_tryChange_38 ?_
  refine q_getA Ra (b := 239) f_X7_110 t236 rfl rfl rfl (hm28.ref t236 rfl (by decide)) (by decide) dX7_tryChange_41 ?_
  refine r_iload_n Ra (i := 1) dX7_tryChange_44 rfl rfl ?_
  obtain ⟨gu45, h⟩ := gd h
  refine q_iald Ra t239 l239 gu45 dX7_tryChange_45 ?_
  obtain ⟨gu46, h⟩ := gd h
  obtain ⟨m46, em46, h⟩ := bv h
  have hm46 : VT m46 := eqV em46 (hm28.setI t246 (kd20 _) (hm28.int t239 (kd20 _)))
  refine q_iast Ra t246 l246 gu46 em46 dX7_tryChange_46 ?_
  refine r_aload_n Ra (i := 0) dX7_tryChange_47 rfl rfl ?_
  refine q_getA Ra (b := 243) f_X7_48 t201 rfl rfl rfl (hm46.ref t201 rfl (by decide)) (by decide) dX7_tryChange_48 ?_
  refine r_iconst Ra dX7_tryChange_51 ?_
  refine r_bipush Ra dX7_tryChange_52 rfl ?_
  obtain ⟨m54, hr54, h⟩ := bd h
  refine q_callVV Ra (c_pW_through hm46 t243 (Rk rfl) (Rk rfl) hr54) mw_X8_through mi_X8_through t243 rfl rfl rfl rfl rfl k_X7_66 rfl rfl dX7_tryChange_54 (fun ok54 => ?_)
  refine r_aload_n Ra (i := 0) dX7_tryChange_57 rfl rfl ?_
  refine q_getA Ra (b := 243) f_X7_48 t201 rfl rfl rfl (ok54.ref t201 rfl (by decide)) (by decide) dX7_tryChange_58 ?_
  obtain ⟨r61, hr61, h⟩ := bd h
  refine q_callVI Ra (c_pW_wrungByAll ok54 t243 hr61) mw_X8_wrungByAll mi_X8_wrungByAll t243 rfl rfl rfl rfl rfl k_X7_113 rfl rfl dX7_tryChange_61 (fun ok61 => ?_)
  refine r_aload_n Ra (i := 0) dX7_tryChange_64 rfl rfl ?_
  refine q_getI Ra (x := m54 201 12) f_X7_104 t201 rfl rfl rfl rfl dX7_tryChange_65 ?_
  refine r_icmp_le Ra 92 dX7_tryChange_68 ok61 (ok54.int t201 rfl) rfl (fun hc => ?_) (fun hc => ?_)
  · replace h := ineg hc h
    cases h
    exact r_vret Ra ok54 dX7_tryChange_92
  · replace h := ipos hc h
    refine r_aload_n Ra (i := 0) dX7_tryChange_71 rfl rfl ?_
    refine r_aload_n Ra (i := 0) dX7_tryChange_72 rfl rfl ?_
    refine q_getA Ra (b := 243) f_X7_48 t201 rfl rfl rfl (ok54.ref t201 rfl (by decide)) (by decide) dX7_tryChange_73 ?_
    obtain ⟨r76, hr76, h⟩ := bd h
    refine q_callVI Ra (c_pW_wrungByAll ok54 t243 hr76) mw_X8_wrungByAll mi_X8_wrungByAll t243 rfl rfl rfl rfl rfl k_X7_113 rfl rfl dX7_tryChange_76 (fun ok76 => ?_)
    obtain ⟨m79, em79, h⟩ := bv h
    have hm79 : VT m79 := eqV em79 (ok54.setI t201 rfl ok76)
    refine q_putI Ra f_X7_104 p_X7_12 t201 rfl rfl rfl em79 dX7_tryChange_79 ?_
    refine r_aload_n Ra (i := 0) dX7_tryChange_82 rfl rfl ?_
    refine r_iload_n Ra (i := 1) dX7_tryChange_83 rfl rfl ?_
    obtain ⟨m84, em84, h⟩ := bv h
    have hm84 : VT m84 := eqV em84 (hm79.setI t201 rfl hx1)
    refine q_putI Ra f_X7_94 p_X7_10 t201 rfl rfl rfl em84 dX7_tryChange_84 ?_
    refine r_aload_n Ra (i := 0) dX7_tryChange_87 rfl rfl ?_
    refine r_iload_n Ra (i := 2) dX7_tryChange_88 rfl rfl ?_
    obtain ⟨m89, em89, h⟩ := bv h
    have hm89 : VT m89 := eqV em89 (hm84.setI t201 rfl hx2)
    refine q_putI Ra f_X7_117 p_X7_11 t201 rfl rfl rfl em89 dX7_tryChange_89 ?_
    cases h
    exact r_vret Ra hm89 dX7_tryChange_92
noncomputable def pT_findChange_L56b (N : Nat) (c1 : Int) (k : Mem → Option (Mem)) (self : Int → Mem → Option (Mem)) (x2 : Int) (μ : Mem) : Option (Mem) := if x2 < μ 2 3 then (pT_tryChange N μ c1 x2).bind fun m70 => (some (w32 (x2 + 1) : Int)).bind fun x2_73 => self x2_73 m70 else k μ
noncomputable def pT_findChange_L56 (N : Nat) (c1 : Int) (k : Mem → Option (Mem)) (n : Nat) : Int → Mem → Option (Mem) := lpF (fun _ _ => none) (pT_findChange_L56b N c1 k) n
noncomputable def pT_findChange_L41b (N : Nat)  (k : Mem → Option (Mem)) (self : Int → Mem → Option (Mem)) (x1 : Int) (μ : Mem) : Option (Mem) := if x1 < μ 2 3 then (some (w32 (x1 + 1) : Int)).bind fun x2_55 => pT_findChange_L56 N x1 (fun n79 => (some (w32 (x1 + 1) : Int)).bind fun x1_79 => self x1_79 n79) N x2_55 μ else k μ
noncomputable def pT_findChange_L41 (N : Nat)  (k : Mem → Option (Mem)) (n : Nat) : Int → Mem → Option (Mem) := lpF (fun _ _ => none) (pT_findChange_L41b N k) n
noncomputable def pT_findChange (N : Nat) (μ : Mem)  : Option (Mem) := if μ 201 14 = 0 then (some (mset μ 201 14 1)).bind fun m10 => (some (mset m10 201 10 (-1))).bind fun m15 => (pD_total N m15 231 (m15 2 3)).bind fun r33 => (some (mset m15 201 12 r33)).bind fun m36 => pT_findChange_L41 N (fun n85 => some n85) N 0 m36 else some μ
theorem k_pT_findChange_L56 {l : Launch} {en : En} {μe : Mem} {N : Nat} {c1 : Int} {k : Mem → Option (Mem)} {K : KT} (Ra : Ru false (some (none, none, nCells, μe, 0, 0, (VT μe))) l en cX7_findChange yX7_findChange.cls 3 (rmN 7 231) K) (hi1 : inR c1) (hk : ∀  (μ9 : Mem), k μ9 = some μe → VT μ9 → ∀ L9 : Lo, L9 0 = some (vA en 201) → L9 1 = some (vI c1) → K ZN 79 L9 [] μ9) : ∀ (n : Nat) (x2 : Int) (μ : Mem) (L : Lo), pT_findChange_L56 N c1 k n x2 μ = some μe → inR x2 → VT μ → L 0 = some (vA en 201) → L 1 = some (vI c1) → L 2 = some (vI x2) → K ZN 56 L [] μ := by
  intro n
  induction n with
  | zero => intro x2 μ L h; cases h
  | succ n ih =>
    intro x2 μ L h hx2 hV hL0 hL1 hL2
    replace h : pT_findChange_L56b N c1 k (pT_findChange_L56 N c1 k n) x2 μ = some μe := h
    unfold pT_findChange_L56b at h
    refine r_iload_n Ra (i := 2) dX7_findChange_56 rfl hL2 ?_
    refine r_aload_n Ra (i := 0) dX7_findChange_57 rfl hL0 ?_
    refine q_getA Ra (b := 2) f_X7_35 t201 rfl rfl rfl (hV.ref t201 rfl (by decide)) (by decide) dX7_findChange_58 ?_
    refine q_getI Ra (x := μ 2 3) f_X7_97 t2 rfl rfl rfl rfl dX7_findChange_61 ?_
    refine r_icmp_ge Ra 79 dX7_findChange_64 hx2 (hV.int t2 rfl) rfl (fun hc => ?_) (fun hc => ?_)
    · replace h := ineg hc h
      exact hk μ h  hV _ hL0 hL1
    · replace h := ipos hc h
      refine r_aload_n Ra (i := 0) dX7_findChange_67 rfl hL0 ?_
      refine r_iload_n Ra (i := 1) dX7_findChange_68 rfl hL1 ?_
      refine r_iload_n Ra (i := 2) dX7_findChange_69 rfl hL2 ?_
      obtain ⟨m70, hr70, h⟩ := bd h
      refine q_callVV Ra (c_pT_tryChange hV hi1 hx2 hr70) mw_X7_tryChange mi_X7_tryChange t201 rfl rfl rfl rfl rfl k_X7_107 rfl rfl dX7_findChange_70 (fun ok70 => ?_)
      obtain ⟨x2_73, ex2_73, h⟩ := bv h
      have ix2_73 : inR x2_73 := eqR ex2_73 (inR_32 _)
      refine q_iinc Ra dX7_findChange_73 hL2 ex2_73 ?_
      refine r_goto Ra 56 dX7_findChange_76 rfl ?_
      exact ih x2_73 m70 _ h ix2_73 ok70 hL0 hL1 rfl
theorem k_pT_findChange_L41 {l : Launch} {en : En} {μe : Mem} {N : Nat}  {k : Mem → Option (Mem)} {K : KT} (Ra : Ru false (some (none, none, nCells, μe, 0, 0, (VT μe))) l en cX7_findChange yX7_findChange.cls 3 (rmN 7 231) K)  (hk : ∀  (μ9 : Mem), k μ9 = some μe → VT μ9 → ∀ L9 : Lo, K ZN 85 L9 [] μ9) : ∀ (n : Nat) (x1 : Int) (μ : Mem) (L : Lo), pT_findChange_L41 N k n x1 μ = some μe → inR x1 → VT μ → L 0 = some (vA en 201) → L 1 = some (vI x1) → K ZN 41 L [] μ := by
  intro n
  induction n with
  | zero => intro x1 μ L h; cases h
  | succ n ih =>
    intro x1 μ L h hx1 hV hL0 hL1
    replace h : pT_findChange_L41b N k (pT_findChange_L41 N k n) x1 μ = some μe := h
    unfold pT_findChange_L41b at h
    refine r_iload_n Ra (i := 1) dX7_findChange_41 rfl hL1 ?_
    refine r_aload_n Ra (i := 0) dX7_findChange_42 rfl hL0 ?_
    refine q_getA Ra (b := 2) f_X7_35 t201 rfl rfl rfl (hV.ref t201 rfl (by decide)) (by decide) dX7_findChange_43 ?_
    refine q_getI Ra (x := μ 2 3) f_X7_97 t2 rfl rfl rfl rfl dX7_findChange_46 ?_
    refine r_icmp_ge Ra 85 dX7_findChange_49 hx1 (hV.int t2 rfl) rfl (fun hc => ?_) (fun hc => ?_)
    · replace h := ineg hc h
      exact hk μ h  hV _ 
    · replace h := ipos hc h
      refine r_iload_n Ra (i := 1) dX7_findChange_52 rfl hL1 ?_
      refine r_iconst Ra dX7_findChange_53 ?_
      refine r_iadd Ra dX7_findChange_54 ?_
      obtain ⟨x2_55, ex2_55, h⟩ := bv h
      have ix2_55 : inR x2_55 := eqR ex2_55 (inR_32 _)
      refine q_istore_n Ra 2 dX7_findChange_55 rfl rfl ex2_55 ?_
      refine k_pT_findChange_L56 Ra hx1 ?_ _ _ _ _ h ix2_55 hV hL0 hL1 rfl
      intro n79 h hn79 L9 f79_0 f79_1
      obtain ⟨x1_79, ex1_79, h⟩ := bv h
      have ix1_79 : inR x1_79 := eqR ex1_79 (inR_32 _)
      refine q_iinc Ra dX7_findChange_79 f79_1 ex1_79 ?_
      refine r_goto Ra 41 dX7_findChange_82 rfl ?_
      exact ih x1_79 n79 _ h ix1_79 hn79 f79_0 rfl
set_option maxHeartbeats 4000000 in
theorem c_pT_findChange {l : Launch} {en : En} {N : Nat} {μ : Mem}  {μe : Mem} (hV : VT μ)  (h : pT_findChange N μ = some μe) : CtV l en yX7_findChange cX7_findChange 3 7 231 [vA en 201] μ μe (VT μe) := by
  refine Tr.of false (fun h => by cases h) (by decide) (Nat.le_of_ble_eq_true rfl) (fun K Ra => ?_)
  unfold pT_findChange at h
  refine r_aload_n Ra (i := 0) dX7_findChange_0 rfl rfl ?_
  refine q_getZ Ra (x := μ 201 14) f_X7_55 t201 rfl rfl rfl rfl dX7_findChange_1 ?_
  refine r_if_eq Ra 8 dX7_findChange_4 (inR_01 (hV.bool t201 rfl)) rfl (fun hc => ?_) (fun hc => ?_)
  · replace h := ipos hc h
    refine r_aload_n Ra (i := 0) dX7_findChange_8 rfl rfl ?_
    refine r_iconst Ra dX7_findChange_9 ?_
    obtain ⟨m10, em10, h⟩ := bv h
    have hm10 : VT m10 := eqV em10 (hV.setZ t201 rfl (Or.inr rfl))
    refine q_putZ Ra f_X7_55 p_X7_14 t201 rfl rfl rfl em10 (Or.inr rfl) dX7_findChange_10 ?_
    refine r_aload_n Ra (i := 0) dX7_findChange_13 rfl rfl ?_
    refine r_iconst Ra dX7_findChange_14 ?_
    obtain ⟨m15, em15, h⟩ := bv h
    have hm15 : VT m15 := eqV em15 (hm10.setI t201 rfl (Rk rfl))
    refine q_putI Ra f_X7_94 p_X7_10 t201 rfl rfl rfl em15 dX7_findChange_15 ?_
    refine r_aload_n Ra (i := 0) dX7_findChange_18 rfl rfl ?_
    refine r_aload_n Ra (i := 0) dX7_findChange_19 rfl rfl ?_
    refine q_getA Ra (b := 222) f_X7_19 t201 rfl rfl rfl (hm15.ref t201 rfl (by decide)) (by decide) dX7_findChange_20 ?_
    refine r_bipush Ra dX7_findChange_23 rfl ?_
    have hg1 := g222 (k := 8) (by decide)
    refine q_aald Ra (b := 231) t222 (by decide) l222 (by decide) (hm15.ref t222 rfl (by decide)) (by decide) dX7_findChange_25 ?_
    refine r_aload_n Ra (i := 0) dX7_findChange_26 rfl rfl ?_
    refine q_getA Ra (b := 2) f_X7_35 t201 rfl rfl rfl (hm15.ref t201 rfl (by decide)) (by decide) dX7_findChange_27 ?_
    refine q_getI Ra (x := m15 2 3) f_X7_97 t2 rfl rfl rfl rfl dX7_findChange_30 ?_
    obtain ⟨r33, hr33, h⟩ := bd h
    refine q_callSNI Ra (c_pD_total hm15 hg1.1 (hm15.int t2 rfl) hr33) mw_X11_total ms_X11_total rfl rfl kn_X7_100 rfl rfl dX7_findChange_33 (fun ok33 => ?_)
    obtain ⟨m36, em36, h⟩ := bv h
    have hm36 : VT m36 := eqV em36 (hm15.setI t201 rfl ok33)
    refine q_putI Ra f_X7_104 p_X7_12 t201 rfl rfl rfl em36 dX7_findChange_36 ?_
    refine r_iconst Ra dX7_findChange_39 ?_
    refine q_istore_n Ra 1 dX7_findChange_40 rfl rfl rfl ?_
    refine k_pT_findChange_L41 Ra ?_ _ _ _ _ h (Rk rfl) hm36 rfl rfl
    intro n85 h hn85 L9 
    cases h
    exact r_vret Ra hn85 dX7_findChange_85
  · replace h := ineg hc h
    cases h
    exact r_vret Ra hV dX7_findChange_7
noncomputable def pK_forget (μ : Mem)  : Option (Mem) := (some (mset μ 396 11 0)).bind fun m2 => (some (mset m2 396 12 0)).bind fun m7 => some m7
set_option maxHeartbeats 4000000 in
theorem c_pK_forget {l : Launch} {en : En} {μ : Mem}  {μe : Mem} (hV : VT μ)  (h : pK_forget μ = some μe) : CtV l en yX9_forget cX9_forget 1 0 60 [vA en 396] μ μe (VT μe) := by
  refine Tr.of false (fun h => by cases h) (by decide) (Nat.le_of_ble_eq_true rfl) (fun K Ra => ?_)
  unfold pK_forget at h
  refine r_aload_n Ra (i := 0) dX9_forget_0 rfl rfl ?_
  refine r_iconst Ra dX9_forget_1 ?_
  obtain ⟨m2, em2, h⟩ := bv h
  have hm2 : VT m2 := eqV em2 (hV.setZ t396 rfl (Or.inl rfl))
  refine q_putZ Ra f_X9_39 p_X9_11 t396 rfl rfl rfl em2 (Or.inl rfl) dX9_forget_2 ?_
  refine r_aload_n Ra (i := 0) dX9_forget_5 rfl rfl ?_
  refine r_iconst Ra dX9_forget_6 ?_
  obtain ⟨m7, em7, h⟩ := bv h
  have hm7 : VT m7 := eqV em7 (hm2.setZ t396 rfl (Or.inl rfl))
  refine q_putZ Ra f_X9_43 p_X9_12 t396 rfl rfl rfl em7 (Or.inl rfl) dX9_forget_7 ?_
  cases h
  exact r_vret Ra hm7 dX9_forget_10
noncomputable def pK_forgetSeen (μ : Mem)  : Option (Mem) := (some (mset μ 396 3 0)).bind fun m2 => some m2
set_option maxHeartbeats 4000000 in
theorem c_pK_forgetSeen {l : Launch} {en : En} {μ : Mem}  {μe : Mem} (hV : VT μ)  (h : pK_forgetSeen μ = some μe) : CtV l en yX9_forgetSeen cX9_forgetSeen 1 0 60 [vA en 396] μ μe (VT μe) := by
  refine Tr.of false (fun h => by cases h) (by decide) (Nat.le_of_ble_eq_true rfl) (fun K Ra => ?_)
  unfold pK_forgetSeen at h
  refine r_aload_n Ra (i := 0) dX9_forgetSeen_0 rfl rfl ?_
  refine r_iconst Ra dX9_forgetSeen_1 ?_
  obtain ⟨m2, em2, h⟩ := bv h
  have hm2 : VT m2 := eqV em2 (hV.setI t396 rfl (Rk rfl))
  refine q_putI Ra f_X9_46 p_X9_3 t396 rfl rfl rfl em2 dX9_forgetSeen_2 ?_
  cases h
  exact r_vret Ra hm2 dX9_forgetSeen_5
noncomputable def pK_look_L33b (N : Nat) (μ : Mem) (c2 : Int) (c3 : Int) (k : Unit → Option (Int × Mem)) (self : Int → Option (Int × Mem)) (x4 : Int) : Option (Int × Mem) := if x4 < c2 then if 0 ≤ w32 (x4 + 1) ∧ w32 (x4 + 1) < 1600 then if 0 ≤ w32 (x4 + 2) ∧ w32 (x4 + 2) < 1600 then (pP_cellAt μ 2 (μ 1 (w32 (x4 + 1))) (μ 1 (w32 (x4 + 2)))).bind fun r55 => (some (if r55 = (-1) then 0 else 1 : Int)).bind fun ys0_67 => if ys0_67 = 0 then some (0, μ) else if 0 ≤ x4 ∧ x4 < 1600 then if 8 < μ 1 x4 then some (0, μ) else if 0 ≤ w32 (x4 + 3) ∧ w32 (x4 + 3) < 1600 then if 99 < μ 1 (w32 (x4 + 3)) then some (0, μ) else (some (w32 (x4 + 4) : Int)).bind fun x4_96 => self x4_96 else none else none else none else none else k ()
noncomputable def pK_look_L33 (N : Nat) (μ : Mem) (c2 : Int) (c3 : Int) (k : Unit → Option (Int × Mem)) (n : Nat) : Int → Option (Int × Mem) := lpF (fun _ => none) (pK_look_L33b N μ c2 c3 k) n
noncomputable def pK_look (N : Nat) (μ : Mem) (x2 : Int) : Option (Int × Mem) := (some (d32 x2 4 : Int)).bind fun x3_3 => if x3_3 < 1 then some (0, μ) else if 16 < x3_3 then some (0, μ) else if w32 (x3_3 * 4) = x2 then if 1600 < x2 then some (0, μ) else pK_look_L33 N μ x2 x3_3 (fun (_ : Unit) => if 0 ≤ (0 : Int) ∧ 0 ≤ (0 : Int) ∧ 0 ≤ x2 ∧ (0 : Int) + x2 ≤ 1600 ∧ (0 : Int) + x2 ≤ 64 then (some (mcpy μ 1 0 397 0 x2)).bind fun m110 => (some (mset m110 396 3 x3_3)).bind fun m115 => (pK_forget m115).bind fun m119 => some (1, m119) else none) N 0 else some (0, μ)
theorem k_pK_look_L33 {l : Launch} {en : En} {re : Int} {μe : Mem} {N : Nat} {μ : Mem} (hV : VT μ) {c2 : Int} {c3 : Int} {k : Unit → Option (Int × Mem)} {K : KT} (Ra : Ru false (some (some .boolean, some (vI re), nCells, μe, 0, 0, (VT μe ∧ (re = 0 ∨ re = 1)))) l en cX9_look yX9_look.cls 6 (rmN 1 82) K) (hi2 : inR c2) (hi3 : inR c3) (hk : k () = some (re, μe) → ∀ L9 : Lo, L9 0 = some (vA en 396) → L9 1 = some (vA en 1) → L9 2 = some (vI c2) → L9 3 = some (vI c3) → K ZN 102 L9 [] μ) : ∀ (n : Nat) (x4 : Int) (L : Lo), pK_look_L33 N μ c2 c3 k n x4 = some (re, μe) → inR x4 → L 0 = some (vA en 396) → L 1 = some (vA en 1) → L 2 = some (vI c2) → L 3 = some (vI c3) → L 4 = some (vI x4) → K ZN 33 L [] μ := by
  intro n
  induction n with
  | zero => intro x4 L h; cases h
  | succ n ih =>
    intro x4 L h hx4 hL0 hL1 hL2 hL3 hL4
    replace h : pK_look_L33b N μ c2 c3 k (pK_look_L33 N μ c2 c3 k n) x4 = some (re, μe) := h
    unfold pK_look_L33b at h
    refine r_iload Ra dX9_look_33 hL4 ?_
    refine r_iload_n Ra (i := 2) dX9_look_35 rfl hL2 ?_
    refine r_icmp_ge Ra 102 dX9_look_36 hx4 hi2 rfl (fun hc => ?_) (fun hc => ?_)
    · replace h := ineg hc h
      exact hk h  _ hL0 hL1 hL2 hL3
    · replace h := ipos hc h
      refine r_aload_n Ra (i := 0) dX9_look_39 rfl hL0 ?_
      refine q_getA Ra (b := 2) f_X9_26 t396 rfl rfl rfl (hV.ref t396 rfl (by decide)) (by decide) dX9_look_40 ?_
      refine r_aload_n Ra (i := 1) dX9_look_43 rfl hL1 ?_
      refine r_iload Ra dX9_look_44 hL4 ?_
      refine r_iconst Ra dX9_look_46 ?_
      refine r_iadd Ra dX9_look_47 ?_
      obtain ⟨gu48, h⟩ := gd h
      refine q_iald Ra t1 l1 gu48 dX9_look_48 ?_
      refine r_aload_n Ra (i := 1) dX9_look_49 rfl hL1 ?_
      refine r_iload Ra dX9_look_50 hL4 ?_
      refine r_iconst Ra dX9_look_52 ?_
      refine r_iadd Ra dX9_look_53 ?_
      obtain ⟨gu54, h⟩ := gd h
      refine q_iald Ra t1 l1 gu54 dX9_look_54 ?_
      obtain ⟨r55, hr55, h⟩ := bd h
      refine q_callVI Ra (c_pP_cellAt hV t2 (hV.int t1 (kd20 _)) (hV.int t1 (kd20 _)) hr55) mw_X3_cellAt mi_X3_cellAt t2 rfl rfl rfl rfl rfl k_X9_50 rfl rfl dX9_look_55 (fun ok55 => ?_)
      refine r_iconst Ra dX9_look_58 ?_
      obtain ⟨ys0_67, eys0_67, h⟩ := bv h
      have hJ : inR ys0_67 → (ys0_67 = 0 ∨ ys0_67 = 1) → ∀ L9 : Lo, L9 0 = some (vA en 396) → L9 1 = some (vA en 1) → L9 2 = some (vI c2) → L9 3 = some (vI c3) → L9 4 = some (vI x4) → K ZN 67 L9 [vI ys0_67] μ := by
        intro iys0_67 bys0_67 L9 f67_0 f67_1 f67_2 f67_3 f67_4
        refine q_istore Ra dX9_look_67 rfl rfl ?_
        refine r_iload Ra dX9_look_69 rfl ?_
        refine r_if_eq Ra 94 dX9_look_71 iys0_67 rfl (fun hc => ?_) (fun hc => ?_)
        · replace h := ipos hc h
          refine r_iconst Ra dX9_look_94 ?_
          cases h
          exact r_zret Ra (Or.inl rfl) ⟨hV, (Or.inl rfl)⟩ dX9_look_95
        · replace h := ineg hc h
          refine r_aload_n Ra (i := 1) dX9_look_74 rfl f67_1 ?_
          refine r_iload Ra dX9_look_75 f67_4 ?_
          obtain ⟨gu77, h⟩ := gd h
          refine q_iald Ra t1 l1 gu77 dX9_look_77 ?_
          refine r_bipush Ra dX9_look_78 rfl ?_
          refine r_icmp_gt Ra 94 dX9_look_80 (hV.int t1 (kd20 _)) (Rk rfl) rfl (fun hc => ?_) (fun hc => ?_)
          · replace h := ipos hc h
            refine r_iconst Ra dX9_look_94 ?_
            cases h
            exact r_zret Ra (Or.inl rfl) ⟨hV, (Or.inl rfl)⟩ dX9_look_95
          · replace h := ineg hc h
            refine r_aload_n Ra (i := 1) dX9_look_83 rfl f67_1 ?_
            refine r_iload Ra dX9_look_84 f67_4 ?_
            refine r_iconst Ra dX9_look_86 ?_
            refine r_iadd Ra dX9_look_87 ?_
            obtain ⟨gu88, h⟩ := gd h
            refine q_iald Ra t1 l1 gu88 dX9_look_88 ?_
            refine r_bipush Ra dX9_look_89 rfl ?_
            refine r_icmp_le Ra 96 dX9_look_91 (hV.int t1 (kd20 _)) (Rk rfl) rfl (fun hc => ?_) (fun hc => ?_)
            · replace h := ineg hc h
              obtain ⟨x4_96, ex4_96, h⟩ := bv h
              have ix4_96 : inR x4_96 := eqR ex4_96 (inR_32 _)
              refine q_iinc Ra dX9_look_96 f67_4 ex4_96 ?_
              refine r_goto Ra 33 dX9_look_99 rfl ?_
              exact ih x4_96 _ h ix4_96 f67_0 f67_1 f67_2 f67_3 rfl
            · replace h := ipos hc h
              refine r_iconst Ra dX9_look_94 ?_
              cases h
              exact r_zret Ra (Or.inl rfl) ⟨hV, (Or.inl rfl)⟩ dX9_look_95
      refine r_icmp_eq Ra 66 dX9_look_59 ok55 (Rk rfl) rfl (fun hc => ?_) (fun hc => ?_)
      · replace eys0_67 := eys0_67.trans (if_pos hc)
        refine r_iconst Ra dX9_look_66 ?_
        subst eys0_67
        exact hJ (Rk rfl) (Or.inl rfl) _ hL0 hL1 hL2 hL3 hL4
      · replace eys0_67 := eys0_67.trans (if_neg hc)
        refine r_iconst Ra dX9_look_62 ?_
        refine r_goto Ra 67 dX9_look_63 rfl ?_
        subst eys0_67
        exact hJ (Rk rfl) (Or.inr rfl) _ hL0 hL1 hL2 hL3 hL4
set_option maxHeartbeats 4000000 in
theorem c_pK_look {l : Launch} {en : En} {N : Nat} {μ : Mem} {x2 : Int} {re : Int} {μe : Mem} (hV : VT μ) (hx2 : inR x2) (h : pK_look N μ x2 = some (re, μe)) : CtI l en yX9_look cX9_look 6 1 82 [vA en 396, vA en 1, vI x2] μ .boolean re μe (VT μe ∧ (re = 0 ∨ re = 1)) := by
  refine Tr.of false (fun h => by cases h) (by decide) (Nat.le_of_ble_eq_true rfl) (fun K Ra => ?_)
  unfold pK_look at h
  refine r_iload_n Ra (i := 2) dX9_look_0 rfl rfl ?_
  refine r_iconst Ra dX9_look_1 ?_
  refine r_idiv Ra dX9_look_2 (Rk rfl) (by decide) ?_
  obtain ⟨x3_3, ex3_3, h⟩ := bv h
  have ix3_3 : inR x3_3 := eqR ex3_3 (inR_32 _)
  refine q_istore_n Ra 3 dX9_look_3 rfl rfl ex3_3 ?_
  refine r_iload_n Ra (i := 3) dX9_look_4 rfl rfl ?_
  refine r_iconst Ra dX9_look_5 ?_
  refine r_icmp_lt Ra 28 dX9_look_6 ix3_3 (Rk rfl) rfl (fun hc => ?_) (fun hc => ?_)
  · replace h := ipos hc h
    refine r_iconst Ra dX9_look_28 ?_
    cases h
    exact r_zret Ra (Or.inl rfl) ⟨hV, (Or.inl rfl)⟩ dX9_look_29
  · replace h := ineg hc h
    refine r_iload_n Ra (i := 3) dX9_look_9 rfl rfl ?_
    refine r_bipush Ra dX9_look_10 rfl ?_
    refine r_icmp_gt Ra 28 dX9_look_12 ix3_3 (Rk rfl) rfl (fun hc => ?_) (fun hc => ?_)
    · replace h := ipos hc h
      refine r_iconst Ra dX9_look_28 ?_
      cases h
      exact r_zret Ra (Or.inl rfl) ⟨hV, (Or.inl rfl)⟩ dX9_look_29
    · replace h := ineg hc h
      refine r_iload_n Ra (i := 3) dX9_look_15 rfl rfl ?_
      refine r_iconst Ra dX9_look_16 ?_
      refine r_imul Ra dX9_look_17 ?_
      refine r_iload_n Ra (i := 2) dX9_look_18 rfl rfl ?_
      refine r_icmp_ne Ra 28 dX9_look_19 (inR_32 _) hx2 rfl (fun hc => ?_) (fun hc => ?_)
      · replace h := ineg hc h
        refine r_iconst Ra dX9_look_28 ?_
        cases h
        exact r_zret Ra (Or.inl rfl) ⟨hV, (Or.inl rfl)⟩ dX9_look_29
      · replace h := ipos hc h
        refine r_iload_n Ra (i := 2) dX9_look_22 rfl rfl ?_
        refine r_aload_n Ra (i := 1) dX9_look_23 rfl rfl ?_
        refine q_alen Ra t1 l1 dX9_look_24 ?_
        refine r_icmp_le Ra 30 dX9_look_25 hx2 (Rk rfl) rfl (fun hc => ?_) (fun hc => ?_)
        · replace h := ineg hc h
          refine r_iconst Ra dX9_look_30 ?_
          refine q_istore Ra dX9_look_31 rfl rfl ?_
          refine k_pK_look_L33 hV Ra hx2 ix3_3 ?_ _ _ _ h (Rk rfl) rfl rfl rfl rfl rfl
          intro h L9 f102_0 f102_1 f102_2 f102_3
          refine r_aload_n Ra (i := 1) dX9_look_102 rfl f102_1 ?_
          refine r_iconst Ra dX9_look_103 ?_
          refine r_aload_n Ra (i := 0) dX9_look_104 rfl f102_0 ?_
          refine q_getA Ra (b := 397) f_X9_9 t396 rfl rfl rfl (hV.ref t396 rfl (by decide)) (by decide) dX9_look_105 ?_
          refine r_iconst Ra dX9_look_108 ?_
          refine r_iload_n Ra (i := 2) dX9_look_109 rfl f102_2 ?_
          obtain ⟨gu110, h⟩ := gd h
          obtain ⟨m110, em110, h⟩ := bv h
          have hm110 : VT m110 := eqV em110 (hV.cpy t1 t397)
          refine q_copy Ra em110 t1 t397 l1 l397 gu110 k_X9_56 rfl rfl dX9_look_110 ?_
          refine r_aload_n Ra (i := 0) dX9_look_113 rfl f102_0 ?_
          refine r_iload_n Ra (i := 3) dX9_look_114 rfl f102_3 ?_
          obtain ⟨m115, em115, h⟩ := bv h
          have hm115 : VT m115 := eqV em115 (hm110.setI t396 rfl ix3_3)
          refine q_putI Ra f_X9_46 p_X9_3 t396 rfl rfl rfl em115 dX9_look_115 ?_
          refine r_aload_n Ra (i := 0) dX9_look_118 rfl f102_0 ?_
          obtain ⟨m119, hr119, h⟩ := bd h
          refine q_callVV Ra (c_pK_forget hm115 hr119) mw_X9_forget mi_X9_forget t396 rfl rfl rfl rfl rfl k_X9_62 rfl rfl dX9_look_119 (fun ok119 => ?_)
          refine r_iconst Ra dX9_look_122 ?_
          cases h
          exact r_zret Ra (Or.inr rfl) ⟨ok119, (Or.inr rfl)⟩ dX9_look_123
        · replace h := ipos hc h
          refine r_iconst Ra dX9_look_28 ?_
          cases h
          exact r_zret Ra (Or.inl rfl) ⟨hV, (Or.inl rfl)⟩ dX9_look_29
noncomputable def pK_isSo_L2b (N : Nat) (μ : Mem) (c1 : Int) (k : Unit → Option (Int)) (self : Int → Option (Int)) (x2 : Int) : Option (Int) := if x2 < w32 ((μ 396 3) * 4) then if 0 ≤ w32 (x2 + 1) ∧ w32 (x2 + 1) < 64 then if 0 ≤ w32 (x2 + 2) ∧ w32 (x2 + 2) < 64 then (pP_cellAt μ 2 (μ 397 (w32 (x2 + 1))) (μ 397 (w32 (x2 + 2)))).bind fun r32 => if r32 = (-1) then some (0) else if 0 ≤ c1 ∧ c1 < 64 then if 0 ≤ x2 ∧ x2 < 64 then if 0 ≤ w32 ((w32 ((μ 397 x2) * 64)) + r32) ∧ w32 ((w32 ((μ 397 x2) * 64)) + r32) < 576 then if 0 ≤ w32 (x2 + 3) ∧ w32 (x2 + 3) < 64 then if μ (398 + 1 + c1) (w32 ((w32 ((μ 397 x2) * 64)) + r32)) = μ 397 (w32 (x2 + 3)) then (some (w32 (x2 + 4) : Int)).bind fun x2_72 => self x2_72 else some (0) else none else none else none else none else none else none else k ()
noncomputable def pK_isSo_L2 (N : Nat) (μ : Mem) (c1 : Int) (k : Unit → Option (Int)) (n : Nat) : Int → Option (Int) := lpF (fun _ => none) (pK_isSo_L2b N μ c1 k) n
noncomputable def pK_isSo (N : Nat) (μ : Mem) (x1 : Int) : Option (Int) := pK_isSo_L2 N μ x1 (fun (_ : Unit) => some (1)) N 0
theorem k_pK_isSo_L2 {l : Launch} {en : En} {re : Int} {N : Nat} {μ : Mem} (hV : VT μ) {c1 : Int} {k : Unit → Option (Int)} {K : KT} (Ra : Ru false (some (some .boolean, some (vI re), nCells, μ, 0, 0, ((re = 0 ∨ re = 1)))) l en cX9_isSo yX9_isSo.cls 4 (rmN 1 82) K) (hi1 : inR c1) (hk : k () = some re → ∀ L9 : Lo, K ZN 78 L9 [] μ) : ∀ (n : Nat) (x2 : Int) (L : Lo), pK_isSo_L2 N μ c1 k n x2 = some re → inR x2 → L 0 = some (vA en 396) → L 1 = some (vI c1) → L 2 = some (vI x2) → K ZN 2 L [] μ := by
  intro n
  induction n with
  | zero => intro x2 L h; cases h
  | succ n ih =>
    intro x2 L h hx2 hL0 hL1 hL2
    replace h : pK_isSo_L2b N μ c1 k (pK_isSo_L2 N μ c1 k n) x2 = some re := h
    unfold pK_isSo_L2b at h
    refine r_iload_n Ra (i := 2) dX9_isSo_2 rfl hL2 ?_
    refine r_aload_n Ra (i := 0) dX9_isSo_3 rfl hL0 ?_
    refine q_getI Ra (x := μ 396 3) f_X9_46 t396 rfl rfl rfl rfl dX9_isSo_4 ?_
    refine r_iconst Ra dX9_isSo_7 ?_
    refine r_imul Ra dX9_isSo_8 ?_
    refine r_icmp_ge Ra 78 dX9_isSo_9 hx2 (inR_32 _) rfl (fun hc => ?_) (fun hc => ?_)
    · replace h := ineg hc h
      exact hk h  _ 
    · replace h := ipos hc h
      refine r_aload_n Ra (i := 0) dX9_isSo_12 rfl hL0 ?_
      refine q_getA Ra (b := 2) f_X9_26 t396 rfl rfl rfl (hV.ref t396 rfl (by decide)) (by decide) dX9_isSo_13 ?_
      refine r_aload_n Ra (i := 0) dX9_isSo_16 rfl hL0 ?_
      refine q_getA Ra (b := 397) f_X9_9 t396 rfl rfl rfl (hV.ref t396 rfl (by decide)) (by decide) dX9_isSo_17 ?_
      refine r_iload_n Ra (i := 2) dX9_isSo_20 rfl hL2 ?_
      refine r_iconst Ra dX9_isSo_21 ?_
      refine r_iadd Ra dX9_isSo_22 ?_
      obtain ⟨gu23, h⟩ := gd h
      refine q_iald Ra t397 l397 gu23 dX9_isSo_23 ?_
      refine r_aload_n Ra (i := 0) dX9_isSo_24 rfl hL0 ?_
      refine q_getA Ra (b := 397) f_X9_9 t396 rfl rfl rfl (hV.ref t396 rfl (by decide)) (by decide) dX9_isSo_25 ?_
      refine r_iload_n Ra (i := 2) dX9_isSo_28 rfl hL2 ?_
      refine r_iconst Ra dX9_isSo_29 ?_
      refine r_iadd Ra dX9_isSo_30 ?_
      obtain ⟨gu31, h⟩ := gd h
      refine q_iald Ra t397 l397 gu31 dX9_isSo_31 ?_
      obtain ⟨r32, hr32, h⟩ := bd h
      refine q_callVI Ra (c_pP_cellAt hV t2 (hV.int t397 (kd20 _)) (hV.int t397 (kd20 _)) hr32) mw_X3_cellAt mi_X3_cellAt t2 rfl rfl rfl rfl rfl k_X9_50 rfl rfl dX9_isSo_32 (fun ok32 => ?_)
      refine q_istore_n Ra 3 dX9_isSo_35 rfl rfl rfl ?_
      refine r_iload_n Ra (i := 3) dX9_isSo_36 rfl rfl ?_
      refine r_iconst Ra dX9_isSo_37 ?_
      refine r_icmp_eq Ra 70 dX9_isSo_38 ok32 (Rk rfl) rfl (fun hc => ?_) (fun hc => ?_)
      · replace h := ipos hc h
        refine r_iconst Ra dX9_isSo_70 ?_
        cases h
        exact r_zret Ra (Or.inl rfl) (Or.inl rfl) dX9_isSo_71
      · replace h := ineg hc h
        refine r_aload_n Ra (i := 0) dX9_isSo_41 rfl hL0 ?_
        refine q_getA Ra (b := 398) f_X9_17 t396 rfl rfl rfl (hV.ref t396 rfl (by decide)) (by decide) dX9_isSo_42 ?_
        refine r_iload_n Ra (i := 1) dX9_isSo_45 rfl hL1 ?_
        obtain ⟨gu46, h⟩ := gd h
        have hg1 := g398 gu46
        refine q_aald Ra (b := (398 + 1 + c1)) t398 (by decide) l398 gu46 (hV.ref t398 rfl gu46.1) (tin hg1.1 rfl).1 dX9_isSo_46 ?_
        refine r_aload_n Ra (i := 0) dX9_isSo_47 rfl hL0 ?_
        refine q_getA Ra (b := 397) f_X9_9 t396 rfl rfl rfl (hV.ref t396 rfl (by decide)) (by decide) dX9_isSo_48 ?_
        refine r_iload_n Ra (i := 2) dX9_isSo_51 rfl hL2 ?_
        obtain ⟨gu52, h⟩ := gd h
        refine q_iald Ra t397 l397 gu52 dX9_isSo_52 ?_
        refine r_bipush Ra dX9_isSo_53 rfl ?_
        refine r_imul Ra dX9_isSo_55 ?_
        refine r_iload_n Ra (i := 3) dX9_isSo_56 rfl rfl ?_
        refine r_iadd Ra dX9_isSo_57 ?_
        obtain ⟨gu58, h⟩ := gd h
        refine q_iald Ra hg1.1 hg1.2 gu58 dX9_isSo_58 ?_
        refine r_aload_n Ra (i := 0) dX9_isSo_59 rfl hL0 ?_
        refine q_getA Ra (b := 397) f_X9_9 t396 rfl rfl rfl (hV.ref t396 rfl (by decide)) (by decide) dX9_isSo_60 ?_
        refine r_iload_n Ra (i := 2) dX9_isSo_63 rfl hL2 ?_
        refine r_iconst Ra dX9_isSo_64 ?_
        refine r_iadd Ra dX9_isSo_65 ?_
        obtain ⟨gu66, h⟩ := gd h
        refine q_iald Ra t397 l397 gu66 dX9_isSo_66 ?_
        refine r_icmp_eq Ra 72 dX9_isSo_67 (hV.int hg1.1 (kd20 _)) (hV.int t397 (kd20 _)) rfl (fun hc => ?_) (fun hc => ?_)
        · replace h := ipos hc h
          obtain ⟨x2_72, ex2_72, h⟩ := bv h
          have ix2_72 : inR x2_72 := eqR ex2_72 (inR_32 _)
          refine q_iinc Ra dX9_isSo_72 hL2 ex2_72 ?_
          refine r_goto Ra 2 dX9_isSo_75 rfl ?_
          exact ih x2_72 _ h ix2_72 hL0 hL1 rfl
        · replace h := ineg hc h
          refine r_iconst Ra dX9_isSo_70 ?_
          cases h
          exact r_zret Ra (Or.inl rfl) (Or.inl rfl) dX9_isSo_71
set_option maxHeartbeats 4000000 in
theorem c_pK_isSo {l : Launch} {en : En} {N : Nat} {μ : Mem} {x1 : Int} {re : Int} (hV : VT μ) (hx1 : inR x1) (h : pK_isSo N μ x1 = some re) : CtI l en yX9_isSo cX9_isSo 4 1 82 [vA en 396, vI x1] μ .boolean re μ ((re = 0 ∨ re = 1)) := by
  refine Tr.of false (fun h => by cases h) (by decide) (Nat.le_of_ble_eq_true rfl) (fun K Ra => ?_)
  unfold pK_isSo at h
  refine r_iconst Ra dX9_isSo_0 ?_
  refine q_istore_n Ra 2 dX9_isSo_1 rfl rfl rfl ?_
  refine k_pK_isSo_L2 hV Ra hx1 ?_ _ _ _ h (Rk rfl) rfl rfl rfl
  intro h L9 
  refine r_iconst Ra dX9_isSo_78 ?_
  cases h
  exact r_zret Ra (Or.inr rfl) (Or.inr rfl) dX9_isSo_79
noncomputable def pK_learn_L57b (N : Nat) (c1 : Int) (c2 : Int) (k : Mem → Option (Mem)) (self : Int → Mem → Option (Mem)) (x3 : Int) (μ : Mem) : Option (Mem) := if x3 < 9 then (pW_through N μ 465 x3 (w32 (x3 + 1))).bind fun m71 => if 0 ≤ c2 ∧ c2 < 64 then if 0 ≤ (0 : Int) ∧ 0 ≤ w32 (x3 * 64) ∧ 0 ≤ (64 : Int) ∧ (0 : Int) + 64 ≤ 64 ∧ (w32 (x3 * 64)) + 64 ≤ 576 then (some (mcpy m71 466 0 (398 + 1 + c2) (w32 (x3 * 64)) 64)).bind fun m94 => (some (w32 (x3 + 1) : Int)).bind fun x3_97 => self x3_97 m94 else none else none else k μ
noncomputable def pK_learn_L57 (N : Nat) (c1 : Int) (c2 : Int) (k : Mem → Option (Mem)) (n : Nat) : Int → Mem → Option (Mem) := lpF (fun _ _ => none) (pK_learn_L57b N c1 c2 k) n
noncomputable def pK_learn_L20b (N : Nat) (c1 : Int) (k : Mem → Option (Mem)) (self : Int → Mem → Option (Mem)) (x2 : Int) (μ : Mem) : Option (Mem) := if x2 < shl32 1 (μ 2 3) then if 63 < x2 then k μ else (pW_copyOf μ 465 c1).bind fun m44 => (some (mset m44 465 7 x2)).bind fun m52 => pK_learn_L57 N c1 x2 (fun n103 => (pK_isSo N n103 x2).bind fun r105 => if r105 = 0 then (some (w32 (x2 + 1) : Int)).bind fun x2_131 => self x2_131 n103 else if 0 ≤ n103 396 6 ∧ n103 396 6 < 64 then (some (mset n103 463 (n103 396 6) x2)).bind fun m120 => (some (mset m120 396 6 (w32 ((m120 396 6) + 1)))).bind fun m128 => (some (w32 (x2 + 1) : Int)).bind fun x2_131 => self x2_131 m128 else none) N 0 m52 else k μ
noncomputable def pK_learn_L20 (N : Nat) (c1 : Int) (k : Mem → Option (Mem)) (n : Nat) : Int → Mem → Option (Mem) := lpF (fun _ _ => none) (pK_learn_L20b N c1 k) n
noncomputable def pK_learn (N : Nat) (μ : Mem) (a1 : Int) : Option (Mem) := if μ 396 11 = 0 then (some (mset μ 396 11 1)).bind fun m10 => (some (mset m10 396 6 0)).bind fun m15 => pK_learn_L20 N a1 (fun n137 => some n137) N 0 m15 else some μ
theorem k_pK_learn_L57 {l : Launch} {en : En} {μe : Mem} {N : Nat} {c1 : Int} {c2 : Int} {k : Mem → Option (Mem)} {K : KT} (Ra : Ru false (some (none, none, nCells, μe, 0, 0, (VT μe))) l en cX9_learn yX9_learn.cls 4 (rmN 6 209) K) (ht1 : ty c1 = 9) (hi2 : inR c2) (hk : ∀  (μ9 : Mem), k μ9 = some μe → VT μ9 → ∀ L9 : Lo, L9 0 = some (vA en 396) → L9 1 = some (vA en c1) → L9 2 = some (vI c2) → K ZN 103 L9 [] μ9) : ∀ (n : Nat) (x3 : Int) (μ : Mem) (L : Lo), pK_learn_L57 N c1 c2 k n x3 μ = some μe → inR x3 → VT μ → L 0 = some (vA en 396) → L 1 = some (vA en c1) → L 2 = some (vI c2) → L 3 = some (vI x3) → K ZN 57 L [] μ := by
  intro n
  induction n with
  | zero => intro x3 μ L h; cases h
  | succ n ih =>
    intro x3 μ L h hx3 hV hL0 hL1 hL2 hL3
    replace h : pK_learn_L57b N c1 c2 k (pK_learn_L57 N c1 c2 k n) x3 μ = some μe := h
    unfold pK_learn_L57b at h
    refine r_iload_n Ra (i := 3) dX9_learn_57 rfl hL3 ?_
    refine r_bipush Ra dX9_learn_58 rfl ?_
    refine r_icmp_ge Ra 103 dX9_learn_60 hx3 (Rk rfl) rfl (fun hc => ?_) (fun hc => ?_)
    · replace h := ineg hc h
      exact hk μ h  hV _ hL0 hL1 hL2
    · replace h := ipos hc h
      refine r_aload_n Ra (i := 0) dX9_learn_63 rfl hL0 ?_
      refine q_getA Ra (b := 465) f_X9_35 t396 rfl rfl rfl (hV.ref t396 rfl (by decide)) (by decide) dX9_learn_64 ?_
      refine r_iload_n Ra (i := 3) dX9_learn_67 rfl hL3 ?_
      refine r_iload_n Ra (i := 3) dX9_learn_68 rfl hL3 ?_
      refine r_iconst Ra dX9_learn_69 ?_
      refine r_iadd Ra dX9_learn_70 ?_
      obtain ⟨m71, hr71, h⟩ := bd h
      refine q_callVV Ra (c_pW_through hV t465 hx3 (inR_32 _) hr71) mw_X8_through mi_X8_through t465 rfl rfl rfl rfl rfl k_X9_78 rfl rfl dX9_learn_71 (fun ok71 => ?_)
      refine r_aload_n Ra (i := 0) dX9_learn_74 rfl hL0 ?_
      refine q_getA Ra (b := 465) f_X9_35 t396 rfl rfl rfl (ok71.ref t396 rfl (by decide)) (by decide) dX9_learn_75 ?_
      refine q_getA Ra (b := 466) f_X9_82 t465 rfl rfl rfl (ok71.ref t465 rfl (by decide)) (by decide) dX9_learn_78 ?_
      refine r_iconst Ra dX9_learn_81 ?_
      refine r_aload_n Ra (i := 0) dX9_learn_82 rfl hL0 ?_
      refine q_getA Ra (b := 398) f_X9_17 t396 rfl rfl rfl (ok71.ref t396 rfl (by decide)) (by decide) dX9_learn_83 ?_
      refine r_iload_n Ra (i := 2) dX9_learn_86 rfl hL2 ?_
      obtain ⟨gu87, h⟩ := gd h
      have hg1 := g398 gu87
      refine q_aald Ra (b := (398 + 1 + c2)) t398 (by decide) l398 gu87 (ok71.ref t398 rfl gu87.1) (tin hg1.1 rfl).1 dX9_learn_87 ?_
      refine r_iload_n Ra (i := 3) dX9_learn_88 rfl hL3 ?_
      refine r_bipush Ra dX9_learn_89 rfl ?_
      refine r_imul Ra dX9_learn_91 ?_
      refine r_bipush Ra dX9_learn_92 rfl ?_
      obtain ⟨gu94, h⟩ := gd h
      obtain ⟨m94, em94, h⟩ := bv h
      have hm94 : VT m94 := eqV em94 (ok71.cpy t466 hg1.1)
      refine q_copy Ra em94 t466 hg1.1 l466 hg1.2 gu94 k_X9_56 rfl rfl dX9_learn_94 ?_
      obtain ⟨x3_97, ex3_97, h⟩ := bv h
      have ix3_97 : inR x3_97 := eqR ex3_97 (inR_32 _)
      refine q_iinc Ra dX9_learn_97 hL3 ex3_97 ?_
      refine r_goto Ra 57 dX9_learn_100 rfl ?_
      exact ih x3_97 m94 _ h ix3_97 hm94 hL0 hL1 hL2 rfl
theorem k_pK_learn_L20 {l : Launch} {en : En} {μe : Mem} {N : Nat} {c1 : Int} {k : Mem → Option (Mem)} {K : KT} (Ra : Ru false (some (none, none, nCells, μe, 0, 0, (VT μe))) l en cX9_learn yX9_learn.cls 4 (rmN 6 209) K) (ht1 : ty c1 = 9) (hk : ∀  (μ9 : Mem), k μ9 = some μe → VT μ9 → ∀ L9 : Lo, K ZN 137 L9 [] μ9) : ∀ (n : Nat) (x2 : Int) (μ : Mem) (L : Lo), pK_learn_L20 N c1 k n x2 μ = some μe → inR x2 → VT μ → L 0 = some (vA en 396) → L 1 = some (vA en c1) → L 2 = some (vI x2) → K ZN 20 L [] μ := by
  intro n
  induction n with
  | zero => intro x2 μ L h; cases h
  | succ n ih =>
    intro x2 μ L h hx2 hV hL0 hL1 hL2
    replace h : pK_learn_L20b N c1 k (pK_learn_L20 N c1 k n) x2 μ = some μe := h
    unfold pK_learn_L20b at h
    refine r_iload_n Ra (i := 2) dX9_learn_20 rfl hL2 ?_
    refine r_iconst Ra dX9_learn_21 ?_
    refine r_aload_n Ra (i := 0) dX9_learn_22 rfl hL0 ?_
    refine q_getA Ra (b := 2) f_X9_26 t396 rfl rfl rfl (hV.ref t396 rfl (by decide)) (by decide) dX9_learn_23 ?_
    refine q_getI Ra (x := μ 2 3) f_X9_68 t2 rfl rfl rfl rfl dX9_learn_26 ?_
    refine r_ishl Ra dX9_learn_29 ?_
    refine r_icmp_ge Ra 137 dX9_learn_30 hx2 (inR_32 _) rfl (fun hc => ?_) (fun hc => ?_)
    · replace h := ineg hc h
      exact hk μ h  hV _ 
    · replace h := ipos hc h
      refine r_iload_n Ra (i := 2) dX9_learn_33 rfl hL2 ?_
      refine r_bipush Ra dX9_learn_34 rfl ?_
      refine r_icmp_gt Ra 137 dX9_learn_36 hx2 (Rk rfl) rfl (fun hc => ?_) (fun hc => ?_)
      · replace h := ipos hc h
        exact hk μ h  hV _ 
      · replace h := ineg hc h
        refine r_aload_n Ra (i := 0) dX9_learn_39 rfl hL0 ?_
        refine q_getA Ra (b := 465) f_X9_35 t396 rfl rfl rfl (hV.ref t396 rfl (by decide)) (by decide) dX9_learn_40 ?_
        refine r_aload_n Ra (i := 1) dX9_learn_43 rfl hL1 ?_
        obtain ⟨m44, hr44, h⟩ := bd h
        refine q_callVV Ra (c_pW_copyOf hV t465 ht1 hr44) mw_X8_copyOf mi_X8_copyOf t465 rfl rfl rfl rfl rfl k_X9_71 rfl rfl dX9_learn_44 (fun ok44 => ?_)
        refine r_aload_n Ra (i := 0) dX9_learn_47 rfl hL0 ?_
        refine q_getA Ra (b := 465) f_X9_35 t396 rfl rfl rfl (ok44.ref t396 rfl (by decide)) (by decide) dX9_learn_48 ?_
        refine r_iload_n Ra (i := 2) dX9_learn_51 rfl hL2 ?_
        obtain ⟨m52, em52, h⟩ := bv h
        have hm52 : VT m52 := eqV em52 (ok44.setI t465 rfl hx2)
        refine q_putI Ra f_X9_75 p_X8_7 t465 rfl rfl rfl em52 dX9_learn_52 ?_
        refine r_iconst Ra dX9_learn_55 ?_
        refine q_istore_n Ra 3 dX9_learn_56 rfl rfl rfl ?_
        refine k_pK_learn_L57 Ra ht1 hx2 ?_ _ _ _ _ h (Rk rfl) hm52 hL0 hL1 hL2 rfl
        intro n103 h hn103 L9 f103_0 f103_1 f103_2
        refine r_aload_n Ra (i := 0) dX9_learn_103 rfl f103_0 ?_
        refine r_iload_n Ra (i := 2) dX9_learn_104 rfl f103_2 ?_
        obtain ⟨r105, hr105, h⟩ := bd h
        refine q_callVI Ra (c_pK_isSo hn103 hx2 hr105) mw_X9_isSo mi_X9_isSo t396 rfl rfl rfl rfl rfl k_X9_85 rfl rfl dX9_learn_105 (fun ok105 => ?_)
        refine r_if_eq Ra 131 dX9_learn_108 (inR_01 ok105) rfl (fun hc => ?_) (fun hc => ?_)
        · replace h := ipos hc h
          obtain ⟨x2_131, ex2_131, h⟩ := bv h
          have ix2_131 : inR x2_131 := eqR ex2_131 (inR_32 _)
          refine q_iinc Ra dX9_learn_131 f103_2 ex2_131 ?_
          refine r_goto Ra 20 dX9_learn_134 rfl ?_
          exact ih x2_131 n103 _ h ix2_131 hn103 f103_0 f103_1 rfl
        · replace h := ineg hc h
          refine r_aload_n Ra (i := 0) dX9_learn_111 rfl f103_0 ?_
          refine q_getA Ra (b := 463) f_X9_20 t396 rfl rfl rfl (hn103.ref t396 rfl (by decide)) (by decide) dX9_learn_112 ?_
          refine r_aload_n Ra (i := 0) dX9_learn_115 rfl f103_0 ?_
          refine q_getI Ra (x := n103 396 6) f_X9_65 t396 rfl rfl rfl rfl dX9_learn_116 ?_
          refine r_iload_n Ra (i := 2) dX9_learn_119 rfl f103_2 ?_
          obtain ⟨gu120, h⟩ := gd h
          obtain ⟨m120, em120, h⟩ := bv h
          have hm120 : VT m120 := eqV em120 (hn103.setI t463 (kd20 _) hx2)
          refine q_iast Ra t463 l463 gu120 em120 dX9_learn_120 ?_
          refine r_aload_n Ra (i := 0) dX9_learn_121 rfl f103_0 ?_
          refine r_dupA Ra dX9_learn_122 ?_
          refine q_getI Ra (x := m120 396 6) f_X9_65 t396 rfl rfl rfl rfl dX9_learn_123 ?_
          refine r_iconst Ra dX9_learn_126 ?_
          refine r_iadd Ra dX9_learn_127 ?_
          obtain ⟨m128, em128, h⟩ := bv h
          have hm128 : VT m128 := eqV em128 (hm120.setI t396 rfl (inR_32 _))
          refine q_putI Ra f_X9_65 p_X9_6 t396 rfl rfl rfl em128 dX9_learn_128 ?_
          obtain ⟨x2_131, ex2_131, h⟩ := bv h
          have ix2_131 : inR x2_131 := eqR ex2_131 (inR_32 _)
          refine q_iinc Ra dX9_learn_131 f103_2 ex2_131 ?_
          refine r_goto Ra 20 dX9_learn_134 rfl ?_
          exact ih x2_131 m128 _ h ix2_131 hm128 f103_0 f103_1 rfl
set_option maxHeartbeats 4000000 in
theorem c_pK_learn {l : Launch} {en : En} {N : Nat} {μ : Mem} {a1 : Int} {μe : Mem} (hV : VT μ) (ha1 : ty a1 = 9) (h : pK_learn N μ a1 = some μe) : CtV l en yX9_learn cX9_learn 4 6 209 [vA en 396, vA en a1] μ μe (VT μe) := by
  refine Tr.of false (fun h => by cases h) (by decide) (Nat.le_of_ble_eq_true rfl) (fun K Ra => ?_)
  unfold pK_learn at h
  refine r_aload_n Ra (i := 0) dX9_learn_0 rfl rfl ?_
  refine q_getZ Ra (x := μ 396 11) f_X9_39 t396 rfl rfl rfl rfl dX9_learn_1 ?_
  refine r_if_eq Ra 8 dX9_learn_4 (inR_01 (hV.bool t396 rfl)) rfl (fun hc => ?_) (fun hc => ?_)
  · replace h := ipos hc h
    refine r_aload_n Ra (i := 0) dX9_learn_8 rfl rfl ?_
    refine r_iconst Ra dX9_learn_9 ?_
    obtain ⟨m10, em10, h⟩ := bv h
    have hm10 : VT m10 := eqV em10 (hV.setZ t396 rfl (Or.inr rfl))
    refine q_putZ Ra f_X9_39 p_X9_11 t396 rfl rfl rfl em10 (Or.inr rfl) dX9_learn_10 ?_
    refine r_aload_n Ra (i := 0) dX9_learn_13 rfl rfl ?_
    refine r_iconst Ra dX9_learn_14 ?_
    obtain ⟨m15, em15, h⟩ := bv h
    have hm15 : VT m15 := eqV em15 (hm10.setI t396 rfl (Rk rfl))
    refine q_putI Ra f_X9_65 p_X9_6 t396 rfl rfl rfl em15 dX9_learn_15 ?_
    refine r_iconst Ra dX9_learn_18 ?_
    refine q_istore_n Ra 2 dX9_learn_19 rfl rfl rfl ?_
    refine k_pK_learn_L20 Ra ha1 ?_ _ _ _ _ h (Rk rfl) hm15 rfl rfl rfl
    intro n137 h hn137 L9 
    cases h
    exact r_vret Ra hn137 dX9_learn_137
  · replace h := ineg hc h
    cases h
    exact r_vret Ra hV dX9_learn_7
noncomputable def pK_mostLeft_L4b (N : Nat) (c1 : Int) (c2 : Int) (k : Mem → Option (Int × Mem)) (self : Int → Mem → Option (Int × Mem)) (x3 : Int) (μ : Mem) : Option (Int × Mem) := if x3 < 100 then if 0 ≤ x3 ∧ x3 < 100 then (some (mset μ 464 x3 0)).bind fun m19 => (some (w32 (x3 + 1) : Int)).bind fun x3_20 => self x3_20 m19 else none else k μ
noncomputable def pK_mostLeft_L4 (N : Nat) (c1 : Int) (c2 : Int) (k : Mem → Option (Int × Mem)) (n : Nat) : Int → Mem → Option (Int × Mem) := lpF (fun _ _ => none) (pK_mostLeft_L4b N c1 c2 k) n
noncomputable def pK_mostLeft_L28b (N : Nat) (c1 : Int) (k : Int → Mem → Option (Int × Mem)) (self : Int → Int → Mem → Option (Int × Mem)) (x2 : Int) (x3 : Int) (μ : Mem) : Option (Int × Mem) := if x3 < μ 396 6 then if 0 ≤ x3 ∧ x3 < 64 then if 0 ≤ μ 463 x3 ∧ μ 463 x3 < 64 then if 0 ≤ c1 ∧ c1 < 576 then (some (μ (398 + 1 + (μ 463 x3)) c1 : Int)).bind fun x4_49 => if x4_49 < 0 then (some (w32 (x3 + 1) : Int)).bind fun x3_89 => self x2 x3_89 μ else if x4_49 < 100 then if 0 ≤ x4_49 ∧ x4_49 < 100 then if 0 ≤ x4_49 ∧ x4_49 < 100 then (some (mset μ 464 x4_49 (w32 ((μ 464 x4_49) + 1)))).bind fun m76 => if 0 ≤ x4_49 ∧ x4_49 < 100 then (some (max x2 (m76 464 x4_49) : Int)).bind fun x2_88 => (some (w32 (x3 + 1) : Int)).bind fun x3_89 => self x2_88 x3_89 m76 else none else none else none else (some (w32 (x3 + 1) : Int)).bind fun x3_89 => self x2 x3_89 μ else none else none else none else k x2 μ
noncomputable def pK_mostLeft_L28 (N : Nat) (c1 : Int) (k : Int → Mem → Option (Int × Mem)) (n : Nat) : Int → Int → Mem → Option (Int × Mem) := lpF (fun _ _ _ => none) (pK_mostLeft_L28b N c1 k) n
noncomputable def pK_mostLeft (N : Nat) (μ : Mem) (x1 : Int) : Option (Int × Mem) := pK_mostLeft_L4 N x1 0 (fun n26 => pK_mostLeft_L28 N x1 (fun z2_95 n95 => some (z2_95, n95)) N 0 0 n26) N 0 μ
theorem k_pK_mostLeft_L4 {l : Launch} {en : En} {re : Int} {μe : Mem} {N : Nat} {c1 : Int} {c2 : Int} {k : Mem → Option (Int × Mem)} {K : KT} (Ra : Ru false (some (some .int, some (vI re), nCells, μe, 0, 0, (VT μe ∧ inR re))) l en cX9_mostLeft yX9_mostLeft.cls 5 (rmN 1 81) K) (hi1 : inR c1) (hi2 : inR c2) (hb2 : c2 = 0 ∨ c2 = 1) (hk : ∀  (μ9 : Mem), k μ9 = some (re, μe) → VT μ9 → ∀ L9 : Lo, L9 0 = some (vA en 396) → L9 1 = some (vI c1) → L9 2 = some (vI c2) → K ZN 26 L9 [] μ9) : ∀ (n : Nat) (x3 : Int) (μ : Mem) (L : Lo), pK_mostLeft_L4 N c1 c2 k n x3 μ = some (re, μe) → inR x3 → VT μ → L 0 = some (vA en 396) → L 1 = some (vI c1) → L 2 = some (vI c2) → L 3 = some (vI x3) → K ZN 4 L [] μ := by
  intro n
  induction n with
  | zero => intro x3 μ L h; cases h
  | succ n ih =>
    intro x3 μ L h hx3 hV hL0 hL1 hL2 hL3
    replace h : pK_mostLeft_L4b N c1 c2 k (pK_mostLeft_L4 N c1 c2 k n) x3 μ = some (re, μe) := h
    unfold pK_mostLeft_L4b at h
    refine r_iload_n Ra (i := 3) dX9_mostLeft_4 rfl hL3 ?_
    refine r_aload_n Ra (i := 0) dX9_mostLeft_5 rfl hL0 ?_
    refine q_getA Ra (b := 464) f_X9_23 t396 rfl rfl rfl (hV.ref t396 rfl (by decide)) (by decide) dX9_mostLeft_6 ?_
    refine q_alen Ra t464 l464 dX9_mostLeft_9 ?_
    refine r_icmp_ge Ra 26 dX9_mostLeft_10 hx3 (Rk rfl) rfl (fun hc => ?_) (fun hc => ?_)
    · replace h := ineg hc h
      exact hk μ h  hV _ hL0 hL1 hL2
    · replace h := ipos hc h
      refine r_aload_n Ra (i := 0) dX9_mostLeft_13 rfl hL0 ?_
      refine q_getA Ra (b := 464) f_X9_23 t396 rfl rfl rfl (hV.ref t396 rfl (by decide)) (by decide) dX9_mostLeft_14 ?_
      refine r_iload_n Ra (i := 3) dX9_mostLeft_17 rfl hL3 ?_
      refine r_iconst Ra dX9_mostLeft_18 ?_
      obtain ⟨gu19, h⟩ := gd h
      obtain ⟨m19, em19, h⟩ := bv h
      have hm19 : VT m19 := eqV em19 (hV.setI t464 (kd20 _) (Rk rfl))
      refine q_iast Ra t464 l464 gu19 em19 dX9_mostLeft_19 ?_
      obtain ⟨x3_20, ex3_20, h⟩ := bv h
      have ix3_20 : inR x3_20 := eqR ex3_20 (inR_32 _)
      refine q_iinc Ra dX9_mostLeft_20 hL3 ex3_20 ?_
      refine r_goto Ra 4 dX9_mostLeft_23 rfl ?_
      exact ih x3_20 m19 _ h ix3_20 hm19 hL0 hL1 hL2 rfl
theorem k_pK_mostLeft_L28 {l : Launch} {en : En} {re : Int} {μe : Mem} {N : Nat} {c1 : Int} {k : Int → Mem → Option (Int × Mem)} {K : KT} (Ra : Ru false (some (some .int, some (vI re), nCells, μe, 0, 0, (VT μe ∧ inR re))) l en cX9_mostLeft yX9_mostLeft.cls 5 (rmN 1 81) K) (hi1 : inR c1) (hk : ∀ (z2 : Int) (μ9 : Mem), k z2 μ9 = some (re, μe) → inR z2 → VT μ9 → ∀ L9 : Lo, L9 2 = some (vI z2) → K ZN 95 L9 [] μ9) : ∀ (n : Nat) (x2 : Int) (x3 : Int) (μ : Mem) (L : Lo), pK_mostLeft_L28 N c1 k n x2 x3 μ = some (re, μe) → inR x2 → inR x3 → VT μ → L 0 = some (vA en 396) → L 1 = some (vI c1) → L 2 = some (vI x2) → L 3 = some (vI x3) → K ZN 28 L [] μ := by
  intro n
  induction n with
  | zero => intro x2 x3 μ L h; cases h
  | succ n ih =>
    intro x2 x3 μ L h hx2 hx3 hV hL0 hL1 hL2 hL3
    replace h : pK_mostLeft_L28b N c1 k (pK_mostLeft_L28 N c1 k n) x2 x3 μ = some (re, μe) := h
    unfold pK_mostLeft_L28b at h
    refine r_iload_n Ra (i := 3) dX9_mostLeft_28 rfl hL3 ?_
    refine r_aload_n Ra (i := 0) dX9_mostLeft_29 rfl hL0 ?_
    refine q_getI Ra (x := μ 396 6) f_X9_65 t396 rfl rfl rfl rfl dX9_mostLeft_30 ?_
    refine r_icmp_ge Ra 95 dX9_mostLeft_33 hx3 (hV.int t396 rfl) rfl (fun hc => ?_) (fun hc => ?_)
    · replace h := ineg hc h
      exact hk x2 μ h hx2 hV _ hL2
    · replace h := ipos hc h
      refine r_aload_n Ra (i := 0) dX9_mostLeft_36 rfl hL0 ?_
      refine q_getA Ra (b := 398) f_X9_17 t396 rfl rfl rfl (hV.ref t396 rfl (by decide)) (by decide) dX9_mostLeft_37 ?_
      refine r_aload_n Ra (i := 0) dX9_mostLeft_40 rfl hL0 ?_
      refine q_getA Ra (b := 463) f_X9_20 t396 rfl rfl rfl (hV.ref t396 rfl (by decide)) (by decide) dX9_mostLeft_41 ?_
      refine r_iload_n Ra (i := 3) dX9_mostLeft_44 rfl hL3 ?_
      obtain ⟨gu45, h⟩ := gd h
      refine q_iald Ra t463 l463 gu45 dX9_mostLeft_45 ?_
      obtain ⟨gu46, h⟩ := gd h
      have hg1 := g398 gu46
      refine q_aald Ra (b := (398 + 1 + (μ 463 x3))) t398 (by decide) l398 gu46 (hV.ref t398 rfl gu46.1) (tin hg1.1 rfl).1 dX9_mostLeft_46 ?_
      refine r_iload_n Ra (i := 1) dX9_mostLeft_47 rfl hL1 ?_
      obtain ⟨gu48, h⟩ := gd h
      refine q_iald Ra hg1.1 hg1.2 gu48 dX9_mostLeft_48 ?_
      obtain ⟨x4_49, ex4_49, h⟩ := bv h
      have ix4_49 : inR x4_49 := eqR ex4_49 (hV.int hg1.1 (kd20 _))
      refine q_istore Ra dX9_mostLeft_49 rfl ex4_49 ?_
      refine r_iload Ra dX9_mostLeft_51 rfl ?_
      refine r_if_lt Ra 89 dX9_mostLeft_53 ix4_49 rfl (fun hc => ?_) (fun hc => ?_)
      · replace h := ipos hc h
        obtain ⟨x3_89, ex3_89, h⟩ := bv h
        have ix3_89 : inR x3_89 := eqR ex3_89 (inR_32 _)
        refine q_iinc Ra dX9_mostLeft_89 hL3 ex3_89 ?_
        refine r_goto Ra 28 dX9_mostLeft_92 rfl ?_
        exact ih x2 x3_89 μ _ h hx2 ix3_89 hV hL0 hL1 hL2 rfl
      · replace h := ineg hc h
        refine r_iload Ra dX9_mostLeft_56 rfl ?_
        refine r_aload_n Ra (i := 0) dX9_mostLeft_58 rfl hL0 ?_
        refine q_getA Ra (b := 464) f_X9_23 t396 rfl rfl rfl (hV.ref t396 rfl (by decide)) (by decide) dX9_mostLeft_59 ?_
        refine q_alen Ra t464 l464 dX9_mostLeft_62 ?_
        refine r_icmp_ge Ra 89 dX9_mostLeft_63 ix4_49 (Rk rfl) rfl (fun hc => ?_) (fun hc => ?_)
        · replace h := ineg hc h
          obtain ⟨x3_89, ex3_89, h⟩ := bv h
          have ix3_89 : inR x3_89 := eqR ex3_89 (inR_32 _)
          refine q_iinc Ra dX9_mostLeft_89 hL3 ex3_89 ?_
          refine r_goto Ra 28 dX9_mostLeft_92 rfl ?_
          exact ih x2 x3_89 μ _ h hx2 ix3_89 hV hL0 hL1 hL2 rfl
        · replace h := ipos hc h
          refine r_aload_n Ra (i := 0) dX9_mostLeft_66 rfl hL0 ?_
          refine q_getA Ra (b := 464) f_X9_23 t396 rfl rfl rfl (hV.ref t396 rfl (by decide)) (by decide) dX9_mostLeft_67 ?_
          refine r_iload Ra dX9_mostLeft_70 rfl ?_
          refine r_dup2 Ra dX9_mostLeft_72 ?_
          obtain ⟨gu73, h⟩ := gd h
          refine q_iald Ra t464 l464 gu73 dX9_mostLeft_73 ?_
          refine r_iconst Ra dX9_mostLeft_74 ?_
          refine r_iadd Ra dX9_mostLeft_75 ?_
          obtain ⟨gu76, h⟩ := gd h
          obtain ⟨m76, em76, h⟩ := bv h
          have hm76 : VT m76 := eqV em76 (hV.setI t464 (kd20 _) (inR_32 _))
          refine q_iast Ra t464 l464 gu76 em76 dX9_mostLeft_76 ?_
          refine r_iload_n Ra (i := 2) dX9_mostLeft_77 rfl hL2 ?_
          refine r_aload_n Ra (i := 0) dX9_mostLeft_78 rfl hL0 ?_
          refine q_getA Ra (b := 464) f_X9_23 t396 rfl rfl rfl (hm76.ref t396 rfl (by decide)) (by decide) dX9_mostLeft_79 ?_
          refine r_iload Ra dX9_mostLeft_82 rfl ?_
          obtain ⟨gu84, h⟩ := gd h
          refine q_iald Ra t464 l464 gu84 dX9_mostLeft_84 ?_
          refine q_mmax Ra hx2 (hm76.int t464 (kd20 _)) k_X9_105 rfl rfl dX9_mostLeft_85 ?_
          obtain ⟨x2_88, ex2_88, h⟩ := bv h
          have ix2_88 : inR x2_88 := eqR ex2_88 (inR_max hx2 (hm76.int t464 (kd20 _)))
          refine q_istore_n Ra 2 dX9_mostLeft_88 rfl rfl ex2_88 ?_
          obtain ⟨x3_89, ex3_89, h⟩ := bv h
          have ix3_89 : inR x3_89 := eqR ex3_89 (inR_32 _)
          refine q_iinc Ra dX9_mostLeft_89 hL3 ex3_89 ?_
          refine r_goto Ra 28 dX9_mostLeft_92 rfl ?_
          exact ih x2_88 x3_89 m76 _ h ix2_88 ix3_89 hm76 hL0 hL1 rfl rfl
set_option maxHeartbeats 4000000 in
theorem c_pK_mostLeft {l : Launch} {en : En} {N : Nat} {μ : Mem} {x1 : Int} {re : Int} {μe : Mem} (hV : VT μ) (hx1 : inR x1) (h : pK_mostLeft N μ x1 = some (re, μe)) : CtI l en yX9_mostLeft cX9_mostLeft 5 1 81 [vA en 396, vI x1] μ .int re μe (VT μe ∧ inR re) := by
  refine Tr.of false (fun h => by cases h) (by decide) (Nat.le_of_ble_eq_true rfl) (fun K Ra => ?_)
  unfold pK_mostLeft at h
  refine r_iconst Ra dX9_mostLeft_0 ?_
  refine q_istore_n Ra 2 dX9_mostLeft_1 rfl rfl rfl ?_
  refine r_iconst Ra dX9_mostLeft_2 ?_
  refine q_istore_n Ra 3 dX9_mostLeft_3 rfl rfl rfl ?_
  refine k_pK_mostLeft_L4 Ra hx1 (Rk rfl) (Or.inl rfl) ?_ _ _ _ _ h (Rk rfl) hV rfl rfl rfl rfl
  intro n26 h hn26 L9 f26_0 f26_1 f26_2
  refine r_iconst Ra dX9_mostLeft_26 ?_
  refine q_istore_n Ra 3 dX9_mostLeft_27 rfl rfl rfl ?_
  refine k_pK_mostLeft_L28 Ra hx1 ?_ _ _ _ _ _ h (Rk rfl) (Rk rfl) hn26 f26_0 f26_1 f26_2 rfl
  intro z2_95 n95 h iz2_95 hn95 L9 f95_2
  refine r_iload_n Ra (i := 2) dX9_mostLeft_95 rfl f95_2 ?_
  cases h
  exact r_iret Ra ⟨hn95, iz2_95⟩ dX9_mostLeft_96
noncomputable def pK_findTelling_L33b (N : Nat) (c1 : Int) (k : Mem → Option (Mem)) (self : Int → Mem → Option (Mem)) (x2 : Int) (μ : Mem) : Option (Mem) := if x2 < μ 2 2 then (pK_mostLeft N μ (w32 ((w32 (c1 * 64)) + x2))).bind fun (r51, m51) => if r51 < m51 396 10 then (some (mset m51 396 10 r51)).bind fun m65 => (some (mset m65 396 8 c1)).bind fun m70 => (some (mset m70 396 9 x2)).bind fun m75 => (some (w32 (x2 + 1) : Int)).bind fun x2_78 => self x2_78 m75 else (some (w32 (x2 + 1) : Int)).bind fun x2_78 => self x2_78 m51 else k μ
noncomputable def pK_findTelling_L33 (N : Nat) (c1 : Int) (k : Mem → Option (Mem)) (n : Nat) : Int → Mem → Option (Mem) := lpF (fun _ _ => none) (pK_findTelling_L33b N c1 k) n
noncomputable def pK_findTelling_L25b (N : Nat)  (k : Mem → Option (Mem)) (self : Int → Mem → Option (Mem)) (x1 : Int) (μ : Mem) : Option (Mem) := if x1 < 9 then pK_findTelling_L33 N x1 (fun n84 => (some (w32 (x1 + 1) : Int)).bind fun x1_84 => self x1_84 n84) N 0 μ else k μ
noncomputable def pK_findTelling_L25 (N : Nat)  (k : Mem → Option (Mem)) (n : Nat) : Int → Mem → Option (Mem) := lpF (fun _ _ => none) (pK_findTelling_L25b N k) n
noncomputable def pK_findTelling (N : Nat) (μ : Mem)  : Option (Mem) := if μ 396 12 = 0 then (some (mset μ 396 12 1)).bind fun m10 => (some (mset m10 396 10 (w32 ((m10 396 6) + 1)))).bind fun m20 => pK_findTelling_L25 N (fun n90 => some n90) N 0 m20 else some μ
theorem k_pK_findTelling_L33 {l : Launch} {en : En} {μe : Mem} {N : Nat} {c1 : Int} {k : Mem → Option (Mem)} {K : KT} (Ra : Ru false (some (none, none, nCells, μe, 0, 0, (VT μe))) l en cX9_findTelling yX9_findTelling.cls 4 (rmN 2 105) K) (hi1 : inR c1) (hk : ∀  (μ9 : Mem), k μ9 = some μe → VT μ9 → ∀ L9 : Lo, L9 0 = some (vA en 396) → L9 1 = some (vI c1) → K ZN 84 L9 [] μ9) : ∀ (n : Nat) (x2 : Int) (μ : Mem) (L : Lo), pK_findTelling_L33 N c1 k n x2 μ = some μe → inR x2 → VT μ → L 0 = some (vA en 396) → L 1 = some (vI c1) → L 2 = some (vI x2) → K ZN 33 L [] μ := by
  intro n
  induction n with
  | zero => intro x2 μ L h; cases h
  | succ n ih =>
    intro x2 μ L h hx2 hV hL0 hL1 hL2
    replace h : pK_findTelling_L33b N c1 k (pK_findTelling_L33 N c1 k n) x2 μ = some μe := h
    unfold pK_findTelling_L33b at h
    refine r_iload_n Ra (i := 2) dX9_findTelling_33 rfl hL2 ?_
    refine r_aload_n Ra (i := 0) dX9_findTelling_34 rfl hL0 ?_
    refine q_getA Ra (b := 2) f_X9_26 t396 rfl rfl rfl (hV.ref t396 rfl (by decide)) (by decide) dX9_findTelling_35 ?_
    refine q_getI Ra (x := μ 2 2) f_X9_92 t2 rfl rfl rfl rfl dX9_findTelling_38 ?_
    refine r_icmp_ge Ra 84 dX9_findTelling_41 hx2 (hV.int t2 rfl) rfl (fun hc => ?_) (fun hc => ?_)
    · replace h := ineg hc h
      exact hk μ h  hV _ hL0 hL1
    · replace h := ipos hc h
      refine r_aload_n Ra (i := 0) dX9_findTelling_44 rfl hL0 ?_
      refine r_iload_n Ra (i := 1) dX9_findTelling_45 rfl hL1 ?_
      refine r_bipush Ra dX9_findTelling_46 rfl ?_
      refine r_imul Ra dX9_findTelling_48 ?_
      refine r_iload_n Ra (i := 2) dX9_findTelling_49 rfl hL2 ?_
      refine r_iadd Ra dX9_findTelling_50 ?_
      obtain ⟨⟨r51, m51⟩, hr51, h⟩ := bd h
      refine q_callVI Ra (c_pK_mostLeft hV (inR_32 _) hr51) mw_X9_mostLeft mi_X9_mostLeft t396 rfl rfl rfl rfl rfl k_X9_95 rfl rfl dX9_findTelling_51 (fun ok51 => ?_)
      obtain ⟨hV51, ok51⟩ := ok51
      refine q_istore_n Ra 3 dX9_findTelling_54 rfl rfl rfl ?_
      refine r_iload_n Ra (i := 3) dX9_findTelling_55 rfl rfl ?_
      refine r_aload_n Ra (i := 0) dX9_findTelling_56 rfl hL0 ?_
      refine q_getI Ra (x := m51 396 10) f_X9_89 t396 rfl rfl rfl rfl dX9_findTelling_57 ?_
      refine r_icmp_ge Ra 78 dX9_findTelling_60 ok51 (hV51.int t396 rfl) rfl (fun hc => ?_) (fun hc => ?_)
      · replace h := ineg hc h
        obtain ⟨x2_78, ex2_78, h⟩ := bv h
        have ix2_78 : inR x2_78 := eqR ex2_78 (inR_32 _)
        refine q_iinc Ra dX9_findTelling_78 hL2 ex2_78 ?_
        refine r_goto Ra 33 dX9_findTelling_81 rfl ?_
        exact ih x2_78 m51 _ h ix2_78 hV51 hL0 hL1 rfl
      · replace h := ipos hc h
        refine r_aload_n Ra (i := 0) dX9_findTelling_63 rfl hL0 ?_
        refine r_iload_n Ra (i := 3) dX9_findTelling_64 rfl rfl ?_
        obtain ⟨m65, em65, h⟩ := bv h
        have hm65 : VT m65 := eqV em65 (hV51.setI t396 rfl ok51)
        refine q_putI Ra f_X9_89 p_X9_10 t396 rfl rfl rfl em65 dX9_findTelling_65 ?_
        refine r_aload_n Ra (i := 0) dX9_findTelling_68 rfl hL0 ?_
        refine r_iload_n Ra (i := 1) dX9_findTelling_69 rfl hL1 ?_
        obtain ⟨m70, em70, h⟩ := bv h
        have hm70 : VT m70 := eqV em70 (hm65.setI t396 rfl hi1)
        refine q_putI Ra f_X9_99 p_X9_8 t396 rfl rfl rfl em70 dX9_findTelling_70 ?_
        refine r_aload_n Ra (i := 0) dX9_findTelling_73 rfl hL0 ?_
        refine r_iload_n Ra (i := 2) dX9_findTelling_74 rfl hL2 ?_
        obtain ⟨m75, em75, h⟩ := bv h
        have hm75 : VT m75 := eqV em75 (hm70.setI t396 rfl hx2)
        refine q_putI Ra f_X9_102 p_X9_9 t396 rfl rfl rfl em75 dX9_findTelling_75 ?_
        obtain ⟨x2_78, ex2_78, h⟩ := bv h
        have ix2_78 : inR x2_78 := eqR ex2_78 (inR_32 _)
        refine q_iinc Ra dX9_findTelling_78 hL2 ex2_78 ?_
        refine r_goto Ra 33 dX9_findTelling_81 rfl ?_
        exact ih x2_78 m75 _ h ix2_78 hm75 hL0 hL1 rfl
theorem k_pK_findTelling_L25 {l : Launch} {en : En} {μe : Mem} {N : Nat}  {k : Mem → Option (Mem)} {K : KT} (Ra : Ru false (some (none, none, nCells, μe, 0, 0, (VT μe))) l en cX9_findTelling yX9_findTelling.cls 4 (rmN 2 105) K)  (hk : ∀  (μ9 : Mem), k μ9 = some μe → VT μ9 → ∀ L9 : Lo, K ZN 90 L9 [] μ9) : ∀ (n : Nat) (x1 : Int) (μ : Mem) (L : Lo), pK_findTelling_L25 N k n x1 μ = some μe → inR x1 → VT μ → L 0 = some (vA en 396) → L 1 = some (vI x1) → K ZN 25 L [] μ := by
  intro n
  induction n with
  | zero => intro x1 μ L h; cases h
  | succ n ih =>
    intro x1 μ L h hx1 hV hL0 hL1
    replace h : pK_findTelling_L25b N k (pK_findTelling_L25 N k n) x1 μ = some μe := h
    unfold pK_findTelling_L25b at h
    refine r_iload_n Ra (i := 1) dX9_findTelling_25 rfl hL1 ?_
    refine r_bipush Ra dX9_findTelling_26 rfl ?_
    refine r_icmp_ge Ra 90 dX9_findTelling_28 hx1 (Rk rfl) rfl (fun hc => ?_) (fun hc => ?_)
    · replace h := ineg hc h
      exact hk μ h  hV _ 
    · replace h := ipos hc h
      refine r_iconst Ra dX9_findTelling_31 ?_
      refine q_istore_n Ra 2 dX9_findTelling_32 rfl rfl rfl ?_
      refine k_pK_findTelling_L33 Ra hx1 ?_ _ _ _ _ h (Rk rfl) hV hL0 hL1 rfl
      intro n84 h hn84 L9 f84_0 f84_1
      obtain ⟨x1_84, ex1_84, h⟩ := bv h
      have ix1_84 : inR x1_84 := eqR ex1_84 (inR_32 _)
      refine q_iinc Ra dX9_findTelling_84 f84_1 ex1_84 ?_
      refine r_goto Ra 25 dX9_findTelling_87 rfl ?_
      exact ih x1_84 n84 _ h ix1_84 hn84 f84_0 rfl
set_option maxHeartbeats 4000000 in
theorem c_pK_findTelling {l : Launch} {en : En} {N : Nat} {μ : Mem}  {μe : Mem} (hV : VT μ)  (h : pK_findTelling N μ = some μe) : CtV l en yX9_findTelling cX9_findTelling 4 2 105 [vA en 396] μ μe (VT μe) := by
  refine Tr.of false (fun h => by cases h) (by decide) (Nat.le_of_ble_eq_true rfl) (fun K Ra => ?_)
  unfold pK_findTelling at h
  refine r_aload_n Ra (i := 0) dX9_findTelling_0 rfl rfl ?_
  refine q_getZ Ra (x := μ 396 12) f_X9_43 t396 rfl rfl rfl rfl dX9_findTelling_1 ?_
  refine r_if_eq Ra 8 dX9_findTelling_4 (inR_01 (hV.bool t396 rfl)) rfl (fun hc => ?_) (fun hc => ?_)
  · replace h := ipos hc h
    refine r_aload_n Ra (i := 0) dX9_findTelling_8 rfl rfl ?_
    refine r_iconst Ra dX9_findTelling_9 ?_
    obtain ⟨m10, em10, h⟩ := bv h
    have hm10 : VT m10 := eqV em10 (hV.setZ t396 rfl (Or.inr rfl))
    refine q_putZ Ra f_X9_43 p_X9_12 t396 rfl rfl rfl em10 (Or.inr rfl) dX9_findTelling_10 ?_
    refine r_aload_n Ra (i := 0) dX9_findTelling_13 rfl rfl ?_
    refine r_aload_n Ra (i := 0) dX9_findTelling_14 rfl rfl ?_
    refine q_getI Ra (x := m10 396 6) f_X9_65 t396 rfl rfl rfl rfl dX9_findTelling_15 ?_
    refine r_iconst Ra dX9_findTelling_18 ?_
    refine r_iadd Ra dX9_findTelling_19 ?_
    obtain ⟨m20, em20, h⟩ := bv h
    have hm20 : VT m20 := eqV em20 (hm10.setI t396 rfl (inR_32 _))
    refine q_putI Ra f_X9_89 p_X9_10 t396 rfl rfl rfl em20 dX9_findTelling_20 ?_
    refine r_iconst Ra dX9_findTelling_23 ?_
    refine q_istore_n Ra 1 dX9_findTelling_24 rfl rfl rfl ?_
    refine k_pK_findTelling_L25 Ra ?_ _ _ _ _ h (Rk rfl) hm20 rfl rfl
    intro n90 h hn90 L9 
    cases h
    exact r_vret Ra hn90 dX9_findTelling_90
  · replace h := ineg hc h
    cases h
    exact r_vret Ra hV dX9_findTelling_7
