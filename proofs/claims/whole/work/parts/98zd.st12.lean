/-! VALLEY: statements side by side: PERSON, behind the name -/
noncomputable def CW (iw a b cell i : Int) (K : Mem → Option (Int × Mem)) : Mem → Option (Int × Mem) := fun m => (pR_take m iw).bind fun (r1, m1) => if r1 = 0 then some (0, m1) else (pR_takeNumber m1 a b).bind fun (r2, m2) => if r2 = 0 then some (0, m2) else (pR_lastValue m2).bind fun v => if 0 ≤ i ∧ i < 6 then (some (mset m2 cell i v)).bind K else none
noncomputable def CC (i : Int) (K : Mem → Option (Int × Mem)) : Mem → Option (Int × Mem) := fun m => (pR_take m 4).bind fun (r1, m1) => if r1 = 0 then some (0, m1) else (pR_takeCell m1).bind fun (r87, m87) => if 0 ≤ i ∧ i < 6 then (some (mset m87 22 i r87)).bind fun m90 => if 0 ≤ i ∧ i < 6 then if m90 22 i = (-1) then some (0, m90) else K m90 else none else none
theorem o_pstep {N : Nat} {t mc m : Mem} {RT : Int → Mem → Prop} {ib k0 k i x w a b cell bc : Int} {vals : Int → Int} {D : Int → Prop} {K : Mem → Option (Int × Mem)} {KR : Mem → Option Mem} (iw : Nat) (hiw : iw < 24) (hw : w = ownW iw) (hL : LX N t RT) (hz : NXt t) (hib : ib = 0 ∨ ib = 1) (hi : 0 ≤ i ∧ i < 6) (hx : x = 6 * ib + i) (hbc : (481 ≤ bc ∧ bc ≤ 484) ∨ bc = 490) (hD : ∀ b, D b → b ≠ 475) (hKR : DDk ib KR) (hc : CKt t m k) (hf : Fr FCv mc m) (hcell : 19 ≤ cell ∧ cell ≤ 34) (hv : vals bc = t 37 (k + 1))
    (hk : (a ≤ t 37 (k + 1) ∧ t 37 (k + 1) ≤ b) → CKt t (mset (mset (mset m 18 7 (k + 1)) 18 7 (k + 1 + 1)) cell i (t 37 (k + 1))) (k + 1 + 1) → Fr FCv mc (mset (mset (mset m 18 7 (k + 1)) 18 7 (k + 1 + 1)) cell i (t 37 (k + 1))) → Rn (K (mset (mset (mset m 18 7 (k + 1)) 18 7 (k + 1 + 1)) cell i (t 37 (k + 1)))) (SQt t RT ib k0 mc (PN RT ib k0 mc x vals (fun c => D c ∨ c = bc) (k + 1 + 1)) KR)) :
    Rn (CW iw a b cell i K m) (SQt t RT ib k0 mc (PN RT ib k0 mc x vals D k) (fun m => (pM_must_ N m w).bind fun m => (pM_number N m a b).bind (GI bc x KR))) := by
  have f1 : Fr FCv mc (mset m 18 7 (k + 1)) := hf.set (by unfold FCv; omega)
  have f2 : Fr FCv mc (mset (mset m 18 7 (k + 1)) 18 7 (k + 1 + 1)) := f1.set (by unfold FCv; omega)
  unfold CW
  refine j_word iw hiw hw hL hz hf hc (PN_LVf hi hx) (fun m' => if_pos rfl) (DDk.num (fun _ => GI_dd hib hi hx hbc hKR)) (fun q1 c1 => ?_)
  refine rn_f (by decide) (SQt.mo (pre := PN RT ib k0 mc x vals D (k + 1)) ?_ (fun mr0 mr hp => PN_nx hD hp))
  refine j_num hL hz f1 c1 (PN_LVf hi hx) (fun m' => if_pos rfl) (fun _ => GI_dd hib hi hx hbc hKR) (fun q2 q3 q4 c2 => ?_)
  refine rn_f (by decide) (rn_e q4 (rn_t hi (rn_v ?_)))
  refine SQt.mo (pre := PN RT ib k0 mc x vals D (k + 1 + 1)) ?_ (fun mr0 mr hp => PN_nx hD hp)
  refine j_note hL hib hi hx hbc hv ?_
  exact hk q3 (c2.fr (S := fun c _ => c = cell) (Fr.rfl'.set rfl) (fun c j q => by omega)) (f2.set (by unfold FCv; omega))
theorem o_pcell {N : Nat} {t mc m : Mem} {RT : Int → Mem → Prop} {ib k0 k i x : Int} {vals : Int → Int} {D : Int → Prop} {K : Mem → Option (Int × Mem)} {KR : Mem → Option Mem} (hL : LX N t RT) (hz : NXt t) (hib : ib = 0 ∨ ib = 1) (hi : 0 ≤ i ∧ i < 6) (hx : x = 6 * ib + i) (hD : ∀ b, D b → b ≠ 475) (hKR : DDk ib KR) (hcz : CZm mc) (hc : CKt t m k) (hf : Fr FCv mc m) (h0 : m 19 0 = mc 19 0) (h1 : m 19 1 = mc 19 1) (hv : vals 481 = 8 * t 37 (k + 1 + 1) + t 37 (k + 1))
    (hk : (0 ≤ t 37 (k + 1) ∧ t 37 (k + 1) < mc 19 0) → (0 ≤ t 37 (k + 1 + 1) ∧ t 37 (k + 1 + 1) < mc 19 1) → CKt t (mset (mset (mset (mset m 18 7 (k + 1)) 18 7 (k + 1 + 1)) 18 7 (k + 1 + 1 + 1)) 22 i (t 37 (k + 1 + 1) * mc 19 0 + t 37 (k + 1))) (k + 1 + 1 + 1) → Fr FCv mc (mset (mset (mset (mset m 18 7 (k + 1)) 18 7 (k + 1 + 1)) 18 7 (k + 1 + 1 + 1)) 22 i (t 37 (k + 1 + 1) * mc 19 0 + t 37 (k + 1))) → Rn (K (mset (mset (mset (mset m 18 7 (k + 1)) 18 7 (k + 1 + 1)) 18 7 (k + 1 + 1 + 1)) 22 i (t 37 (k + 1 + 1) * mc 19 0 + t 37 (k + 1)))) (SQt t RT ib k0 mc (PN RT ib k0 mc x vals (fun c => D c ∨ c = 481) (k + 1 + 1 + 1)) KR)) :
    Rn (CC i K m) (SQt t RT ib k0 mc (PN RT ib k0 mc x vals D k) (fun m => (pM_must_ N m 24948).bind fun m => (pM_cellTold N m).bind (GI 481 x KR))) := by
  have f1 : Fr FCv mc (mset m 18 7 (k + 1)) := hf.set (by unfold FCv; omega)
  have f3 : Fr FCv mc (mset (mset (mset m 18 7 (k + 1)) 18 7 (k + 1 + 1)) 18 7 (k + 1 + 1 + 1)) := (f1.set (by unfold FCv; omega)).set (by unfold FCv; omega)
  unfold CC
  refine j_word 4 (by decide) rfl hL hz hf hc (PN_LVf hi hx) (fun m' => if_pos rfl) (DDk.cell hib (fun _ => GI_dd hib hi hx (by omega) hKR)) (fun q1 c1 => ?_)
  refine rn_f (by decide) (SQt.mo (pre := PN RT ib k0 mc x vals D (k + 1)) ?_ (fun mr0 mr hp => PN_nx hD hp))
  refine j_cell' (C := mc 19 0) (R := mc 19 1) hL hz hib hcz.1 (by rw [mset_o (by omega)]; exact h0) (by rw [mset_o (by omega)]; exact h1) (fun mr0 mr hp => ?_) f1 c1 (PN_LVf hi hx) (fun m' => ?_) (fun _ => GI_dd hib hi hx (by omega) hKR) (fun hX hY c2 => ?_)
  · have := hp.1.z
    rw [hp.2.2.1 477 ib (by unfold FNi FRa; omega), hp.2.2.1 478 ib (by unfold FNi FRa; omega)]
    exact ⟨this.1, this.2.1⟩
  · refine rn_t hi (rn_v (rn_t hi (rn_t (mset_s rfl rfl) (rn_s ⟨rfl, Fr.rfl'.set (by unfold FCw; omega)⟩))))
  · have hat := at_lt hX hY
    refine rn_t hi (rn_v (rn_t hi (rn_f ?_ ?_)))
    · rw [mset_s rfl rfl]; omega
    · refine SQt.mo (pre := PN RT ib k0 mc x vals D (k + 1 + 1 + 1)) ?_ (fun mr0 mr hp => ?_)
      · refine j_note hL hib hi hx (by omega) hv ?_
        exact hk hX hY (c2.fr (S := fun c _ => c = 22) (Fr.rfl'.set rfl) (fun c j q => by omega)) (f3.set (by unfold FCv; omega))
      · obtain ⟨mr1, h2, h3, h4⟩ := hp
        exact PN_nx hD ⟨mr1, PN_nx hD h2, h3, h4⟩
