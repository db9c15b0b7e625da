/-! VALLEY: statements side by side: DEW, the statement -/
def CZm (mc : Mem) : Prop := ((2 ≤ mc 19 0 ∧ mc 19 0 ≤ 8) ∧ (2 ≤ mc 19 1 ∧ mc 19 1 ≤ 8)) ∧ (0 ≤ mc 19 3 ∧ mc 19 3 ≤ 6)
def GdB (c : Int) : Int × Mem → Option Mem := fun (r18, m18) => if m18 475 8 = 0 then if 0 ≤ w32 ((w32 (64 * (m18 475 29))) + c) ∧ w32 ((w32 (64 * (m18 475 29))) + c) < 128 then (some (mset m18 479 (w32 ((w32 (64 * (m18 475 29))) + c)) r18)).bind fun m43 => some m43 else none else some m18
noncomputable def GdA (N : Nat) : Int × Mem → Option Mem := fun (r10, m10) => (pM_number N m10 0 99).bind (GdB r10)
noncomputable def Gd (N : Nat) : Int × Mem → Option Mem := fun (r2, m2) => if r2 = 0 then some m2 else (pM_cellTold N m2).bind (GdA N)
theorem GdB_dd {ib c v : Int} : DDk ib (fun m => GdB c (v, m)) := by
  intro m h8 h29
  show Rn (if m 475 8 = 0 then _ else _) _
  exact rn_f (by omega) (rn_s ⟨rfl, rfl, Fr.rfl'⟩)
theorem GdA_dd {N : Nat} {ib v : Int} : DDk ib (fun m => GdA N (v, m)) := by
  intro m h8 h29
  show Rn ((pM_number N m 0 99).bind (GdB v)) _
  rw [rd_num h8]
  exact GdB_dd (ib := ib) (c := v) (v := 0) m h8 h29
theorem o_stdew {N : Nat} {t mc : Mem} {RT : Int → Mem → Prop} {ib k : Int} (hL : LX N t RT) (hz : NXt t) (hib : ib = 0 ∨ ib = 1) (hcz : CZm mc) (h : CKt t mc k) (hk : t 35 k = 2) : Rn (pR_readDew mc) (STM t RT ib k mc (pM_dewing N)) := by
  have hk1 := hz.2 k h.1.1 h.1.2 (by omega) (by omega)
  have hp := ck_pass hz h hk1
  have fp : Fr FCv mc (mset mc 18 7 (k + 1)) := Fr.rfl'.set (by unfold FCv; omega)
  refine rn_q ?_ (fun r hr => SQt.stm hr)
  refine SQt.cg (rf := fun mr => (pM_counts N mr 0).bind (Gd N)) ?_ (fun _ _ _ => rfl)
  unfold pR_readDew
  refine rn_e hp.1 (j_cnt0 hL ⟨h.1.1, hk1⟩ pre0_LVf ?_)
  refine SQt.cg (rf := fun m' => (pM_cellTold N m').bind (GdA N)) ?_ (fun _ m' _ => by unfold Gd; exact if_neg (show ¬ (1 : Int) = 0 by decide))
  refine j_cell (C := mc 19 0) (R := mc 19 1) hL hz hib hcz.1 (by rw [mset_o (by omega)]) (by rw [mset_o (by omega)]) (fun mr0 mr hpp => ?_) fp hp.2 (nxP_LVf pre0_LVf) (fun m' => if_pos rfl) (fun v => GdA_dd) (fun hx hy hc2 => ?_)
  · have hq := nxP_PRf pre0_PRf mr0 mr hpp
    have := hq.1.z
    rw [hq.2 477 ib (by unfold FRa; omega), hq.2 478 ib (by unfold FRa; omega)]
    exact ⟨this.1, this.2.1⟩
  have hat := at_lt hx hy
  have hfz := hcz.1
  have hsz : mc 19 0 * mc 19 1 ≤ 8 * 8 := Int.mul_le_mul hcz.1.1.2 hcz.1.2.2 (by have := hcz.1.2.1; omega) (by decide)
  have f2 : Fr FCv mc (mset (mset (mset mc 18 7 (k + 1)) 18 7 (k + 1 + 1)) 18 7 (k + 1 + 1 + 1)) := (fp.set (by unfold FCv; omega)).set (by unfold FCv; omega)
  refine rn_f (by omega) ?_
  refine j_num hL hz f2 hc2 (nxP_LVf (nxP_LVf (nxP_LVf pre0_LVf))) (fun m' => if_pos rfl) (fun v => GdB_dd) (fun q1 q2 q3 q4 => ?_)
  refine rn_f (by decide) (rn_e q3 (rn_t ⟨hat.1, by omega⟩ (rn_v (rn_s ⟨?_, Or.inl ⟨rfl, k + 1 + 1 + 1 + 1, by omega, ?_, fun mr0 mr hpp => ?_⟩⟩))))
  · exact (f2.set (by unfold FCv; omega)).set (by unfold FCv; omega)
  · exact q4.fr (S := fun b j => b = 20) (Fr.rfl'.set rfl) (fun b j c => by omega)
  have hq := nxP_PRf (k' := k + 1 + 1 + 1 + 1) (nxP_PRf (k' := k + 1 + 1 + 1) (nxP_PRf (k' := k + 1 + 1) (nxP_PRf (k' := k + 1) (pre0_PRf (RT := RT) (ib := ib) (k := k) (mc := mc))))) mr0 mr hpp
  obtain ⟨mrp, -, -, hlv⟩ := hpp
  have e29 : mr 475 29 = ib := by rw [hq.2 _ _ (by unfold FRa; omega)]; exact hq.1.2.1
  show Rn (if mr 475 8 = 0 then _ else _) _
  rw [e29, w32_eq (x := 64 * ib) (by omega) (by omega), w32_eq (x := 64 * ib + (8 * t 37 (k + 1 + 1) + t 37 (k + 1))) (by omega) (by omega)]
  refine rn_t hlv.2 (rn_t (by omega) (rn_v (rn_s ⟨⟨⟨hL.2.1 _ _ _ hlv.1 (fun b j c => mset_o (by omega)), by rw [mset_o (by omega)]; exact hlv.2⟩, by rw [mset_o (by omega)]; exact e29, ?_, ?_⟩, ?_⟩)))
  · have hD := hq.1.2.2.1
    have F1 : Fr (fun b j => (b = 18 ∧ j = 7) ∨ (b = 20 ∧ j = t 37 (k + 1 + 1) * mc 19 0 + t 37 (k + 1))) mc (mset (mset (mset (mset (mset mc 18 7 (k + 1)) 18 7 (k + 1 + 1)) 18 7 (k + 1 + 1 + 1)) 18 7 (k + 1 + 1 + 1 + 1)) 20 (t 37 (k + 1 + 1) * mc 19 0 + t 37 (k + 1)) (t 37 (k + 1 + 1 + 1))) := ((((Fr.rfl'.set (by omega)).set (by omega)).set (by omega)).set (by omega)).set (by omega)
    have F2 : Fr (fun b j => FRa b j ∨ (b = 479 ∧ j = 64 * ib + (8 * t 37 (k + 1 + 1) + t 37 (k + 1)))) mr0 (mset mr 479 (64 * ib + (8 * t 37 (k + 1 + 1) + t 37 (k + 1))) (t 37 (k + 1 + 1 + 1))) := (hq.2.mono (fun b j c => Or.inl c)).set (Or.inr ⟨rfl, rfl⟩)
    show DR (NP ib (mset (mset (mset (mset (mset mc 18 7 (k + 1)) 18 7 (k + 1 + 1)) 18 7 (k + 1 + 1 + 1)) 18 7 (k + 1 + 1 + 1 + 1)) 20 (t 37 (k + 1 + 1) * mc 19 0 + t 37 (k + 1)) (t 37 (k + 1 + 1 + 1))) (mset mr 479 (64 * ib + (8 * t 37 (k + 1 + 1) + t 37 (k + 1))) (t 37 (k + 1 + 1 + 1))))
    have P1 : ∀ b j, ¬ ((b = 3 ∧ j = t 37 (k + 1 + 1) * mc 19 0 + t 37 (k + 1)) ∨ (b = 479 ∧ j = 64 * ib + (8 * t 37 (k + 1 + 1) + t 37 (k + 1)))) → ¬ FRa b j → NP ib (mset (mset (mset (mset (mset mc 18 7 (k + 1)) 18 7 (k + 1 + 1)) 18 7 (k + 1 + 1 + 1)) 18 7 (k + 1 + 1 + 1 + 1)) 20 (t 37 (k + 1 + 1) * mc 19 0 + t 37 (k + 1)) (t 37 (k + 1 + 1 + 1))) (mset mr 479 (64 * ib + (8 * t 37 (k + 1 + 1) + t 37 (k + 1))) (t 37 (k + 1 + 1 + 1))) b j = NP ib mc mr0 b j := by
      intro b j c d
      refine NP_fr F1 F2 (fun z w => c (by omega)) (fun z => Or.inr (fun w => ?_))
      rcases w with w | w
      · exact d w
      · exact c (Or.inr w)
    generalize hP' : NP ib (mset (mset (mset (mset (mset mc 18 7 (k + 1)) 18 7 (k + 1 + 1)) 18 7 (k + 1 + 1 + 1)) 18 7 (k + 1 + 1 + 1 + 1)) 20 (t 37 (k + 1 + 1) * mc 19 0 + t 37 (k + 1)) (t 37 (k + 1 + 1 + 1))) (mset mr 479 (64 * ib + (8 * t 37 (k + 1 + 1) + t 37 (k + 1))) (t 37 (k + 1 + 1 + 1))) = P' at P1 ⊢
    have g1 : P' 3 (t 37 (k + 1 + 1) * mc 19 0 + t 37 (k + 1)) = t 37 (k + 1 + 1 + 1) := by
      rw [← hP', NP_pl (by omega)]
      exact mset_s rfl rfl
    have g2 : P' 479 (64 * ib + (8 * t 37 (k + 1 + 1) + t 37 (k + 1))) = t 37 (k + 1 + 1 + 1) := by
      rw [← hP', NP_rf (by omega) (by omega)]
      exact mset_s rfl rfl
    have n20 : NP ib mc mr0 2 0 = mc 19 0 := NP_pl (by omega)
    have n21 : NP ib mc mr0 2 1 = mc 19 1 := NP_pl (by omega)
    have n13 : NP ib mc mr0 475 13 = ib := NP_bk
    have P4 : ∀ b j, ((b = 475 ∧ (j = 13 ∨ j = 41 ∨ j = 28)) ∨ (b ≠ 475 ∧ ¬ ((b = 3 ∧ j = t 37 (k + 1 + 1) * mc 19 0 + t 37 (k + 1)) ∨ (b = 479 ∧ j = 64 * ib + (8 * t 37 (k + 1 + 1) + t 37 (k + 1)))))) → P' b j = NP ib mc mr0 b j := fun b j c => P1 b j (by omega) (fun w => by unfold FRa at w; omega)
    have e28 : P' 475 28 = NP ib mc mr0 475 28 := P4 _ _ (by omega)
    refine ⟨hD.1.fr (fun b j c => P4 b j (by omega)), hD.2.1.fr (fun b j c => P4 b j (by omega)), ?_, hD.2.2.2.1.fr (fun b j c => P4 b j (by omega)), fun w w0 w1 => (hD.2.2.2.2.1 w w0 w1).fr (fun b j c => P4 b j (by omega)) (by rw [e28]; exact Int.le_refl _), by rw [e28]; exact hD.2.2.2.2.2⟩
    refine Dd.put (x := t 37 (k + 1)) (y := t 37 (k + 1 + 1)) (v := t 37 (k + 1 + 1 + 1)) hD.PG hD.1 hD.2.2.1 (by rw [n20]; exact hx) (by rw [n21]; exact hy) q2 (fun b j c => ?_) (by rw [n20]; exact g1) (by rw [n13]; exact g2)
    rw [n20, n13] at c
    exact P4 b j (by omega)
  · rw [mset_o (by omega), hq.2 _ _ (by unfold FRa; omega)]
    have := hq.1.2.2.2
    omega
  · exact (hq.2.mono (fun b j c => FV_a c)).set (Or.inr (Or.inr (Or.inl ⟨rfl, by omega⟩)))
