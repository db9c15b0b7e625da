/-! VALLEY: statements side by side: FIELD, the first -/
def STA (RT : Int → Mem → Prop) (ib : Int) (mr : Mem) : Prop := LVr RT 0 mr ∧ mr 475 29 = ib ∧ mr 475 28 = 0 ∧ (mr 480 ib = 0 ∧ mr 485 ib = 0) ∧ (∀ c, 0 ≤ c → c < 64 → mr 479 (64 * ib + c) = 0) ∧ ∀ w, 0 ≤ w → w < 3 → mr 486 (3 * ib + w) = -1
def CLR (mc : Mem) : Prop := (mc 19 3 = 0 ∧ mc 19 4 = 0) ∧ (∀ p, 0 ≤ p → p < 64 → mc 20 p = 0) ∧ (mc 26 2 = 0 ∧ mc 29 2 = 0 ∧ mc 32 2 = 0)
theorem SQt.up {t : Mem} {RT : Int → Mem → Prop} {ib k0 : Int} {mc0 : Mem} {pre pre' : Mem → Mem → Prop} {rf rf' : Mem → Option Mem} {X : Option (Int × Mem)} (h : Rn X (SQt t RT ib k0 mc0 pre' rf')) (he : ∀ mr0 mr, pre mr0 mr → ∀ Q, (∀ m', pre' mr0 m' → Rn (rf' m') Q) → Rn (rf mr) Q) : Rn X (SQt t RT ib k0 mc0 pre rf) := by
  refine rn_q h (fun r hr => ⟨hr.1, ?_⟩)
  rcases hr.2 with ⟨a1, k', b1, c1, d1⟩ | ⟨a1, b1, c1⟩
  · exact Or.inl ⟨a1, k', b1, c1, fun mr0 mr hp => he mr0 mr hp _ (fun m' hm => d1 mr0 m' hm)⟩
  · exact Or.inr ⟨a1, b1, fun mr0 mr hp => he mr0 mr hp _ (fun m' hm => c1 mr0 m' hm)⟩
def FFd (ib : Int) : Int → Int → Prop := fun b j => FRa b j ∨ ((b = 477 ∨ b = 478) ∧ j = ib)
def FPr (RT : Int → Mem → Prop) (ib k : Int) (D : Mem → Prop) : Mem → Mem → Prop := fun mr0 mr => STA RT ib mr0 ∧ LVr RT k mr ∧ Fr (FFd ib) mr0 mr ∧ D mr
theorem FPr_LVf {RT : Int → Mem → Prop} {ib k : Int} {D : Mem → Prop} : LVf RT ib k (FPr RT ib k D) := by
  intro mr0 mr h
  refine ⟨h.2.1, h.2.2.1.mono (fun b j c => ?_), ?_⟩
  · rcases c with c | c
    · exact FV_a c
    · exact Or.inr (Or.inl ⟨by omega, c.2⟩)
  · rw [h.2.2.1 475 29 (by unfold FFd FRa; omega)]
    exact h.1.2.1
theorem FPr_nx {RT : Int → Mem → Prop} {ib k k' : Int} {D : Mem → Prop} (hD : ∀ m m', Fr FRa m m' → D m → D m') {mr0 m' : Mem} (h : nxP RT k' (FPr RT ib k D) mr0 m') : FPr RT ib k' D mr0 m' := by
  obtain ⟨mr, h1, h2, h3⟩ := h
  exact ⟨h1.1, h3, h1.2.2.1.trans (h2.mono (fun b j c => Or.inl c)), hD _ _ h2 h1.2.2.2⟩
noncomputable def GF3 : Int × Mem → Option Mem := fun (r42, m42) => if 0 ≤ m42 475 29 ∧ m42 475 29 < 2 then (some (mset m42 478 (m42 475 29) r42)).bind fun m45 => some m45 else none
noncomputable def GF2 (ib : Int) : Int × Mem → Option Mem := fun (r42, m42) => if 0 ≤ ib ∧ ib < 2 then (some (mset m42 478 ib r42)).bind fun m45 => some m45 else none
noncomputable def GF1b (N : Nat) : Mem → Option Mem := fun m27 => (pM_number N m27 2 8).bind fun (r42, m42) => if 0 ≤ m27 475 29 ∧ m27 475 29 < 2 then (some (mset m42 478 (m27 475 29) r42)).bind fun m45 => some m45 else none
noncomputable def GF1 (N : Nat) (ib : Int) : Int × Mem → Option Mem := fun (r19, m19) => if 0 ≤ ib ∧ ib < 2 then (some (mset m19 477 ib r19)).bind fun m22 => (pM_must_ N m22 25209).bind (GF1b N) else none
noncomputable def GF0 (N : Nat) : Mem → Option Mem := fun m4 => (pM_number N m4 2 8).bind fun (r19, m19) => if 0 ≤ m4 475 29 ∧ m4 475 29 < 2 then (some (mset m19 477 (m4 475 29) r19)).bind fun m22 => (pM_must_ N m22 25209).bind (GF1b N) else none
theorem e_fielding {N : Nat} {m : Mem} : pM_fielding N m = (pM_must_ N m 439854918756).bind (GF0 N) := rfl
theorem FV_z {ib b : Int} (hb : b = 477 ∨ b = 478) : FV ib b ib := Or.inr (Or.inl ⟨by omega, rfl⟩)
theorem GF2_dd {ib v : Int} (hib : ib = 0 ∨ ib = 1) : DDk ib (fun m => GF2 ib (v, m)) := by
  intro m h8 h29
  show Rn (if 0 ≤ ib ∧ ib < 2 then _ else _) _
  refine rn_t (by omega) (rn_v (rn_s ⟨mset_o (by omega), mset_o (by omega), Fr.rfl'.set (FV_z (Or.inr rfl))⟩))
theorem GF1b_dd {N : Nat} {ib : Int} (hib : ib = 0 ∨ ib = 1) : DDk ib (GF1b N) := by
  intro m h8 h29
  unfold GF1b
  rw [rd_num h8]
  refine rn_v ?_
  show Rn (if 0 ≤ m 475 29 ∧ m 475 29 < 2 then _ else _) _
  rw [h29]
  exact GF2_dd (v := 0) hib m h8 h29
theorem GF1_dd {N : Nat} {ib v : Int} (hib : ib = 0 ∨ ib = 1) : DDk ib (fun m => GF1 N ib (v, m)) := by
  intro m h8 h29
  show Rn (if 0 ≤ ib ∧ ib < 2 then _ else _) _
  refine rn_t (by omega) (rn_v ?_)
  have g8 : mset m 477 ib v 475 8 = m 475 8 := mset_o (by omega)
  have g9 : mset m 477 ib v 475 9 = m 475 9 := mset_o (by omega)
  have g29 : mset m 477 ib v 475 29 = ib := (mset_o (by omega)).trans h29
  rw [rd_must (by omega)]
  refine rn_v (rn_q (GF1b_dd hib _ (by omega) g29) (fun m' hm => ⟨hm.1.trans g8, hm.2.1.trans g9, (Fr.rfl'.set (FV_z (Or.inl rfl))).trans hm.2.2⟩))
theorem GF0_dd {N : Nat} {ib : Int} (hib : ib = 0 ∨ ib = 1) : DDk ib (GF0 N) := by
  intro m h8 h29
  unfold GF0
  rw [rd_num h8]
  refine rn_v ?_
  show Rn (if 0 ≤ m 475 29 ∧ m 475 29 < 2 then _ else _) _
  rw [h29]
  exact GF1_dd (N := N) (v := 0) hib m h8 h29
/-- what both hold behind the field -/
theorem field_DR {RT : Int → Mem → Prop} {ib C R : Int} {mc mF mr0 mrF : Mem} (hib : ib = 0 ∨ ib = 1) (hC : (2 ≤ C ∧ C ≤ 8) ∧ (2 ≤ R ∧ R ≤ 8)) (hcl : CLR mc) (hs : STA RT ib mr0) (F1 : Fr (fun b j => b = 18 ∨ (b = 19 ∧ j ≤ 2)) mc mF) (F2 : Fr (FFd ib) mr0 mrF) (v0 : mF 19 0 = C) (v1 : mF 19 1 = R) (v2 : mF 19 2 = C * R) (w0 : mrF 477 ib = C) (w1 : mrF 478 ib = R) : DR (NP ib mF mrF) := by
  obtain ⟨-, -, s28, ⟨s480, s485⟩, s479, s486⟩ := hs
  obtain ⟨⟨c3, c4⟩, c20, c26, c29, c32⟩ := hcl
  have p : ∀ b j, 2 ≤ b ∧ b ≤ 17 → NP ib mF mrF b j = mF (b + 17) j := fun b j h => NP_pl h
  have r : ∀ b j, 479 ≤ b → NP ib mF mrF b j = mr0 b j := fun b j h => by
    rw [NP_rf (by omega) (by omega)]
    exact F2 _ _ (by unfold FFd FRa; omega)
  have q28 : NP ib mF mrF 475 28 = 0 := by
    rw [NP_rf (by omega) (by omega), F2 _ _ (by unfold FFd FRa; omega)]
    exact s28
  have q13 : NP ib mF mrF 475 13 = ib := NP_bk
  have q41 : NP ib mF mrF 475 41 = 1 := by
    unfold NP
    rw [if_neg (by omega), if_neg (by omega), if_pos ⟨rfl, rfl⟩]
  have a0 : NP ib mF mrF 2 0 = C := (p 2 0 (by omega)).trans v0
  have a1 : NP ib mF mrF 2 1 = R := (p 2 1 (by omega)).trans v1
  have a2 : NP ib mF mrF 2 2 = C * R := (p 2 2 (by omega)).trans v2
  have a3 : NP ib mF mrF 2 3 = 0 := by rw [p 2 3 (by omega), F1 _ _ (by omega)]; exact c3
  have a4 : NP ib mF mrF 2 4 = 0 := by rw [p 2 4 (by omega), F1 _ _ (by omega)]; exact c4
  have b20 : ∀ x, 0 ≤ x → x < 64 → NP ib mF mrF 3 x = 0 := fun x x0 x1 => by rw [p 3 x (by omega), F1 _ _ (by omega)]; exact c20 x x0 x1
  have b477 : NP ib mF mrF 477 ib = C := by rw [NP_rf (by omega) (by omega)]; exact w0
  have b478 : NP ib mF mrF 478 ib = R := by rw [NP_rf (by omega) (by omega)]; exact w1
  have bl : ∀ w, 0 ≤ w → w < 3 → NP ib mF mrF (9 + 3 * w) 2 = 0 := fun w w0' w1' => by
    rw [p _ 2 (by omega), F1 _ _ (by omega)]
    rcases (show w = 0 ∨ w = 1 ∨ w = 2 by omega) with rfl | rfl | rfl
    · exact c26
    · exact c29
    · exact c32
  have hCR : C * R ≤ 8 * 8 := Int.mul_le_mul hC.1.2 hC.2.2 (by omega) (by decide)
  refine ⟨⟨by rw [a0, a1]; exact hC, by rw [a0, a1, a2], by rw [q13]; omega, by rw [q13, a0]; exact b477, by rw [q13, a1]; exact b478, q41⟩, ⟨by omega, by rw [q13, r 485 _ (by omega), a4]; exact s485⟩, ⟨fun x x0 x1 => ?_, fun c c0 c1 _ => ?_⟩, ⟨by omega, by rw [q13, r 480 _ (by omega), a3]; exact s480, fun i i0 i1 => by omega⟩, fun w w0' w1' => ⟨?_, ?_, ?_, ?_⟩, by omega⟩
  · rw [a2] at x1
    rw [b20 x x0 (by omega), q13, r 479 _ (by omega)]
    refine ⟨by decide, ?_⟩
    have hph : 0 ≤ ph (NP ib mF mrF) x ∧ ph (NP ib mF mrF) x < 64 := by
      unfold ph
      rw [a0]
      have h1 := Int.emod_nonneg x (show C ≠ 0 by omega)
      have h2 := Int.emod_lt_of_pos x (show 0 < C by omega)
      have h3 : 0 ≤ x / C := Int.ediv_nonneg x0 (by omega)
      have h4 : x / C < R := Int.ediv_lt_of_lt_mul (by omega) (by rw [Int.mul_comm]; exact x1)
      omega
    exact s479 _ hph.1 hph.2
  · rw [q13, r 479 _ (by omega)]
    exact s479 c c0 c1
  · rw [bl w w0' w1']; decide
  · intro h
    rw [bl w w0' w1'] at h
    exact absurd h (by decide)
  · refine Or.inl ⟨bl w w0' w1', ?_⟩
    rw [q13, r 486 _ (by omega)]
    exact s486 w w0' w1'
  · intro h
    rw [bl w w0' w1'] at h
    exact absurd h (by decide)
theorem o_field {N : Nat} {t mc : Mem} {RT : Int → Mem → Prop} {ib : Int} (hL : LX N t RT) (hz : NXt t) (hib : ib = 0 ∨ ib = 1) (h : CKt t mc 0) (hcl : CLR mc) : Rn (pR_readStatement N mc 1) (SQt t RT ib 0 mc (fun a b => b = a ∧ STA RT ib a) (pM_fielding N)) := by
  have hz1 := hz.1
  have h01 := h.1
  refine SQt.cg (rf := fun mr => (pM_must_ N mr 439854918756).bind (GF0 N)) ?_ (fun _ _ _ => rfl)
  refine SQt.mo (pre := FPr RT ib 0 (fun _ => True)) ?_ (fun mr0 mr hp => by
    obtain ⟨rfl, hs⟩ := hp
    exact ⟨hs, hs.1, Fr.rfl', trivial⟩)
  unfold pR_readStatement
  rw [h.2.1, h.2.2.1 35 0 (by omega)]
  refine rn_t (by omega) ?_
  by_cases q0 : t 35 0 = 0
  case neg =>
    rw [if_neg q0]
    refine rn_v (rn_f (by decide) (rn_b (ck_astray hz h) (fun r hr => ?_)))
    obtain ⟨r1, r2⟩ := r
    have hb : BADk 1 (plcT t 0) mc r2 := hr.2
    refine rn_s (SQt.bad FPr_LVf Fr.rfl' hb (by decide) ⟨hr.1, Fr.rfl'⟩ (fun mr0 mr hp => ?_))
    refine rn_b (rk_word 0 hL hz.2 h.1 (by decide) rfl hp.2.1) (fun s hs => ?_)
    rcases hs with ⟨c, -⟩ | ⟨-, e⟩
    · exact absurd c q0
    · exact BADr.dd (GF0_dd hib) e (by decide) (FPr_LVf mr0 mr hp).2.2
  rw [if_pos q0]
  refine rn_v (rn_t rfl (rn_t (by omega) (rn_t q0 ?_)))
  have hk1 := hz.2 0 (by omega) (by omega) (by omega) (by omega)
  have hp := ck_pass hz h hk1
  have fp : Fr FCv mc (mset mc 18 7 (0 + 1)) := Fr.rfl'.set (by unfold FCv; omega)
  refine rn_b (P := SQt t RT ib 0 mc (FPr RT ib 0 (fun _ => True)) (fun mr => (pM_must_ N mr 439854918756).bind (GF0 N))) ?_ (fun r hr => rn_s hr)
  refine SQt.up (pre' := FPr RT ib (0 + 1) (fun _ => True)) (rf' := GF0 N) ?_ (fun mr0 mr hpp Q hQ => ?_)
  case refine_2 =>
    refine rn_b (rk_word 0 hL hz.2 h.1 (by decide) rfl hpp.2.1) (fun s hs => ?_)
    rcases hs with ⟨-, l, f⟩ | ⟨c, -⟩
    · exact hQ s (FPr_nx (fun _ _ _ c => c) ⟨mr, hpp, f, l⟩)
    · exact absurd q0 c
  unfold pR_readField
  refine rn_e hp.1 ?_
  refine SQt.cg (rf := fun mr => (pM_number N mr 2 8).bind (GF1 N ib)) ?_ (fun mr0 mr hpp => by
    show GF0 N mr = _
    unfold GF0
    rw [(FPr_LVf mr0 mr hpp).2.2]
    rfl)
  refine j_num hL hz fp hp.2 FPr_LVf (fun m' => if_pos rfl) (fun v => GF1_dd hib) (fun q1 q2 q3 q4 => ?_)
  refine rn_f (by decide) (rn_e q3 (rn_v ?_))
  refine SQt.up (pre' := FPr RT ib (0 + 1 + 1) (fun m => m 477 ib = t 37 (0 + 1))) (rf' := fun m => (pM_must_ N m 25209).bind (GF1b N)) ?_ (fun mr0 mr hpp Q hQ => ?_)
  case refine_2 =>
    have hpp' := FPr_nx (k' := 0 + 1 + 1) (fun _ _ _ c => c) hpp
    show Rn (if 0 ≤ ib ∧ ib < 2 then _ else _) Q
    refine rn_t (by omega) (rn_v (hQ _ ⟨hpp'.1, ⟨hL.2.1 _ _ _ hpp'.2.1.1 (fun b j c => mset_o (by omega)), by rw [mset_o (by omega)]; exact hpp'.2.1.2⟩, hpp'.2.2.1.set (Or.inr ⟨Or.inl rfl, rfl⟩), mset_s rfl rfl⟩))
  have f2 : Fr FCv mc (mset (mset (mset mc 18 7 (0 + 1)) 18 7 (0 + 1 + 1)) 19 0 (t 37 (0 + 1))) := (fp.set (by unfold FCv; omega)).set (by unfold FCv; omega)
  have q4' : CKt t (mset (mset (mset mc 18 7 (0 + 1)) 18 7 (0 + 1 + 1)) 19 0 (t 37 (0 + 1))) (0 + 1 + 1) := q4.fr (S := fun b _ => b = 19) (Fr.rfl'.set rfl) (fun b j c => by omega)
  refine j_word 1 (by decide) rfl hL hz f2 q4' FPr_LVf (fun m' => if_pos rfl) (GF1b_dd hib) (fun p1 c1 => ?_)
  refine rn_f (by decide) ?_
  have f3 : Fr FCv mc (mset (mset (mset (mset mc 18 7 (0 + 1)) 18 7 (0 + 1 + 1)) 19 0 (t 37 (0 + 1))) 18 7 (0 + 1 + 1 + 1)) := f2.set (by unfold FCv; omega)
  have stD : ∀ m m', Fr FRa m m' → m 477 ib = t 37 (0 + 1) → m' 477 ib = t 37 (0 + 1) := fun m m' f e => (f 477 ib (by unfold FRa; omega)).trans e
  refine SQt.mo (pre := FPr RT ib (0 + 1 + 1 + 1) (fun m => m 477 ib = t 37 (0 + 1))) ?_ (fun mr0 mr hpp => FPr_nx stD hpp)
  refine SQt.cg (rf := fun mr => (pM_number N mr 2 8).bind (GF2 ib)) ?_ (fun mr0 mr hpp => by
    show GF1b N mr = _
    unfold GF1b
    rw [(FPr_LVf mr0 mr hpp).2.2]
    rfl)
  refine j_num hL hz f3 c1 FPr_LVf (fun m' => if_pos rfl) (fun v => GF2_dd hib) (fun u1 u2 u3 u4 => ?_)
  refine rn_f (by decide) (rn_e u3 (rn_v ?_))
  have e0 : mset (mset (mset (mset (mset (mset mc 18 7 (0 + 1)) 18 7 (0 + 1 + 1)) 19 0 (t 37 (0 + 1))) 18 7 (0 + 1 + 1 + 1)) 18 7 (0 + 1 + 1 + 1 + 1)) 19 1 (t 37 (0 + 1 + 1 + 1)) 19 0 = t 37 (0 + 1) := by simp (disch := omega) only [mset_o, mset_s]
  have e1 : mset (mset (mset (mset (mset (mset mc 18 7 (0 + 1)) 18 7 (0 + 1 + 1)) 19 0 (t 37 (0 + 1))) 18 7 (0 + 1 + 1 + 1)) 18 7 (0 + 1 + 1 + 1 + 1)) 19 1 (t 37 (0 + 1 + 1 + 1)) 19 1 = t 37 (0 + 1 + 1 + 1) := mset_s rfl rfl
  have ff : Fr (fun b j => b = 18 ∨ (b = 19 ∧ j ≤ 2)) mc (mset (mset (mset (mset (mset (mset mc 18 7 (0 + 1)) 18 7 (0 + 1 + 1)) 19 0 (t 37 (0 + 1))) 18 7 (0 + 1 + 1 + 1)) 18 7 (0 + 1 + 1 + 1 + 1)) 19 1 (t 37 (0 + 1 + 1 + 1))) := (((((Fr.rfl'.set (Or.inl rfl)).set (Or.inl rfl)).set (Or.inr ⟨rfl, by decide⟩)).set (Or.inl rfl)).set (Or.inl rfl)).set (Or.inr ⟨rfl, by decide⟩)
  have fc : Fr FCv mc (mset (mset (mset (mset (mset (mset mc 18 7 (0 + 1)) 18 7 (0 + 1 + 1)) 19 0 (t 37 (0 + 1))) 18 7 (0 + 1 + 1 + 1)) 18 7 (0 + 1 + 1 + 1 + 1)) 19 1 (t 37 (0 + 1 + 1 + 1))) := (f3.set (by unfold FCv; omega)).set (by unfold FCv; omega)
  have u5 : CKt t (mset (mset (mset (mset (mset (mset mc 18 7 (0 + 1)) 18 7 (0 + 1 + 1)) 19 0 (t 37 (0 + 1))) 18 7 (0 + 1 + 1 + 1)) 18 7 (0 + 1 + 1 + 1 + 1)) 19 1 (t 37 (0 + 1 + 1 + 1))) (0 + 1 + 1 + 1 + 1) := u4.fr (S := fun b _ => b = 19) (Fr.rfl'.set rfl) (fun b j c => by omega)
  generalize mset (mset (mset (mset (mset (mset mc 18 7 (0 + 1)) 18 7 (0 + 1 + 1)) 19 0 (t 37 (0 + 1))) 18 7 (0 + 1 + 1 + 1)) 18 7 (0 + 1 + 1 + 1 + 1)) 19 1 (t 37 (0 + 1 + 1 + 1)) = mF at e0 e1 ff fc u5 ⊢
  have hm : 0 ≤ t 37 (0 + 1) * t 37 (0 + 1 + 1 + 1) ∧ t 37 (0 + 1) * t 37 (0 + 1 + 1 + 1) ≤ 8 * 8 := ⟨Int.mul_nonneg (by omega) (by omega), Int.mul_le_mul q2.2 u2.2 (by omega) (by decide)⟩
  rw [e0, e1, w32_eq (x := t 37 (0 + 1) * t 37 (0 + 1 + 1 + 1)) (by omega) (by omega)]
  have ff' : Fr (fun b j => b = 18 ∨ (b = 19 ∧ j ≤ 2)) mc (mset mF 19 2 (t 37 (0 + 1) * t 37 (0 + 1 + 1 + 1))) := ff.set (Or.inr ⟨rfl, by decide⟩)
  refine rn_v (rn_s ⟨?_, Or.inl ⟨rfl, 0 + 1 + 1 + 1 + 1, by omega, u5.fr (S := fun b _ => b = 19) (Fr.rfl'.set rfl) (fun b j c => by omega), fun mr0 mr hpp => ?_⟩⟩)
  · exact fc.set (by unfold FCv; omega)
  have hpp' := FPr_nx (k' := 0 + 1 + 1 + 1 + 1) stD hpp
  obtain ⟨hs, hlv, hfr, h477⟩ := hpp'
  show Rn (if 0 ≤ ib ∧ ib < 2 then _ else _) _
  have fr' : Fr (FFd ib) mr0 (mset mr 478 ib (t 37 (0 + 1 + 1 + 1))) := hfr.set (Or.inr ⟨Or.inr rfl, rfl⟩)
  refine rn_t (by omega) (rn_v (rn_s ⟨⟨⟨hL.2.1 _ _ _ hlv.1 (fun b j c => mset_o (by omega)), by rw [mset_o (by omega)]; exact hlv.2⟩, ?_, ?_, ?_⟩, ?_⟩))
  · rw [fr' _ _ (by unfold FFd FRa; omega)]
    exact hs.2.1
  · show DR (NP ib (mset mF 19 2 (t 37 (0 + 1) * t 37 (0 + 1 + 1 + 1))) (mset mr 478 ib (t 37 (0 + 1 + 1 + 1))))
    exact field_DR (R := t 37 (0 + 1 + 1 + 1)) hib ⟨q2, u2⟩ hcl hs ff' fr' ((mset_o (by omega)).trans e0) ((mset_o (by omega)).trans e1) (mset_s rfl rfl) ((mset_o (by omega)).trans h477) (mset_s rfl rfl)
  · show mset mr 478 ib (t 37 (0 + 1 + 1 + 1)) 475 28 ≤ _
    rw [fr' _ _ (by unfold FFd FRa; omega), hs.2.2.1]
    omega
  · exact fr'.mono (fun b j c => by
      rcases c with c | c
      · exact FV_a c
      · exact Or.inr (Or.inl ⟨by omega, c.2⟩))
