/-! WHAT HOLDS BETWEEN CALLS, the answers that are kept with it -/
def CH (pl S m : Mem) : Prop := ITod pl S m ∧ IWay pl S m ∧ IAhd pl S m ∧ ISet pl S m
def Inv (m : Mem) : Prop := Core m ∧ CH (vP m) (vS m 38) m
def ICt (b j : Int) : Prop := (201 ≤ b ∧ b ≤ 241)
def ICw (b j : Int) : Prop := (b = 250 ∧ 4 ≤ j ∧ j ≤ 6) ∨ b = 253
def ICa (b j : Int) : Prop := (b = 296 ∧ j = 6) ∨ (305 ≤ b ∧ b ≤ 388)
def ICs (b j : Int) : Prop := (b = 396 ∧ 3 ≤ j) ∨ b = 397 ∨ (399 ≤ b ∧ b ≤ 463)
def ICp (b j : Int) : Prop := plc b ∨ prc b j ∨ (38 ≤ b ∧ b ≤ 44)
theorem NoC.ch {pl S m : Mem} (h : NoC m) : CH pl S m := by
  obtain ⟨h1, h2, h3, h4, h5⟩ := h
  exact ⟨Or.inl h1, Or.inl h2, Or.inl h3, Or.inl h4, Or.inl h5⟩
/-- the plan and the state that the kept answers speak of -/
theorem icp {S : Int → Int → Prop} {m m' : Mem} (f : Fr S m m') (hs : ∀ b j, ICp b j → ¬ S b j) : vP m' = vP m ∧ vS m' 38 = vS m 38 :=
  ⟨vP_Fr f (fun b j q => hs b j (q.elim (fun c => Or.inl c) (fun c => Or.inr (Or.inl c)))), vS_fr (fun b j h1 h2 _ => f b j (hs b j (Or.inr (Or.inr ⟨h1, by omega⟩))))⟩
theorem Inv.of {m m' : Mem} (hc : Core m') (e : vP m' = vP m ∧ vS m' 38 = vS m 38) (t : ITod (vP m) (vS m 38) m') (w : IWay (vP m) (vS m 38) m') (a : IAhd (vP m) (vS m 38) m') (s : ISet (vP m) (vS m 38) m') : Inv m' := by
  refine ⟨hc, ?_⟩
  rw [e.1, e.2]
  exact ⟨t, w, a, s⟩
theorem Inv.g {m : Mem} (h : Inv m) : PG (vP m) := h.1.2.2.2.2.1.1
theorem Inv.fr {S : Int → Int → Prop} {m m' : Mem} (h : Inv m) (hc : Core m') (f : Fr S m m') (hs : ∀ b j, (ICp b j ∨ ICt b j ∨ ICw b j ∨ ICa b j ∨ ICs b j) → ¬ S b j) : Inv m' := by
  obtain ⟨t, w, a, s⟩ := h.2
  exact Inv.of hc (icp f (fun b j q => hs b j (Or.inl q))) (t.fr (fun b j h1 h2 => f b j (hs b j (Or.inr (Or.inl ⟨h1, h2⟩))))) (w.fr (fun b j q => f b j (hs b j (Or.inr (Or.inr (Or.inl q)))))) (a.fr (fun b j q => f b j (hs b j (Or.inr (Or.inr (Or.inr (Or.inl q))))))) (s.fr h.g (fun b j q => f b j (hs b j (Or.inr (Or.inr (Or.inr (Or.inr q)))))))
theorem Inv.no {m : Mem} (hc : Core m) (h : NoC m) : Inv m := ⟨hc, h.ch⟩
theorem fsm_out {b j : Int} (h : ICp b j ∨ ICt b j ∨ ICw b j ∨ ICa b j ∨ ICs b j) : ¬ FSm b j := by
  unfold ICp ICt ICw ICa ICs plc prc at h
  unfold FSm
  omega
theorem OkS.inv {m m2 : Mem} (h : Inv m) (k : OkS m m2) : Inv m2 := h.fr k.1 k.2 (fun b j q => fsm_out q)
theorem OkA.inv {m m2 : Mem} (h : Inv m) (k : OkA m m2) : Inv m2 := by
  obtain ⟨hc, k | k⟩ := k
  · exact h.fr hc k (fun b j q => fsm_out q)
  · exact Inv.no hc k
theorem OkO.inv {m m2 : Mem} (h : Inv m) (k : OkO m m2) : Inv m2 := by
  obtain ⟨hc, k | k⟩ := k
  · exact h.fr hc k (fun b j q => by
      unfold ICp ICt ICw ICa ICs plc prc at q
      unfold FOn FRe FLy
      omega)
  · exact Inv.no hc k
theorem img_inv {m m2 : Mem} (h : Inv m) (hc : Core m2) (f : Fr (fun b j => (b = 472 ∧ j = 1) ∨ b = 473 ∨ (b = 475 ∧ j = 76) ∨ b = 522) m m2) : Inv m2 := h.fr hc f (fun b j q => by
  unfold ICp ICt ICw ICa ICs plc prc at q
  omega)
theorem OkE.inv {m m2 : Mem} (h : Inv m) (k : OkE m m2) : Inv m2 := by
  obtain ⟨hc, ⟨f, k1, k2⟩ | k⟩ := k
  · obtain ⟨t, w, a, s⟩ := h.2
    refine Inv.of hc (icp f (fun b j q => ?_)) (t.fr (fun b j h1 h2 => f b j ?_)) (w.fr (fun b j q => f b j ?_)) (a.fr (fun b j q => f b j ?_)) ⟨Or.inl k1, Or.inl k2⟩
    · unfold ICp plc prc at q
      unfold FSe
      omega
    · unfold FSe; omega
    · unfold FSe; omega
    · unfold FSe; omega
  · exact h.fr hc k (fun b j q => fsm_out q)
theorem OkT.inv {m m2 : Mem} (h : Inv m) (k : OkT m m2) : Inv m2 := by
  obtain ⟨hc, t, f⟩ := k
  obtain ⟨-, w, a, s⟩ := h.2
  refine Inv.of hc (icp f (fun b j q => ?_)) t (w.fr (fun b j q => f b j ?_)) (a.fr (fun b j q => f b j ?_)) (s.fr h.g (fun b j q => f b j ?_))
  · unfold ICp plc prc at q
    unfold FT2 FTd FRr
    omega
  · unfold FT2 FTd FRr; omega
  · unfold FT2 FTd FRr; omega
  · unfold FT2 FTd FRr; omega
theorem OkU.inv {m m2 : Mem} (h : Inv m) (k : OkU m m2) : Inv m2 := by
  obtain ⟨hc, t, f⟩ := k
  obtain ⟨-, w, a, s⟩ := h.2
  refine Inv.of hc (icp f (fun b j q => ?_)) t (w.fr (fun b j q => f b j ?_)) (a.fr (fun b j q => f b j ?_)) (s.fr h.g (fun b j q => f b j ?_))
  · unfold ICp plc prc at q
    unfold FT3 FTd FRq FRr FLy
    omega
  · unfold FT3 FTd FRq FRr FLy; omega
  · unfold FT3 FTd FRq FRr FLy; omega
  · unfold FT3 FTd FRq FRr FLy; omega
theorem OkH.inv {m m2 : Mem} (h : Inv m) (k : OkH m m2) : Inv m2 := by
  obtain ⟨hc, a, f⟩ := k
  obtain ⟨t, w, -, s⟩ := h.2
  refine Inv.of hc (icp f (fun b j q => ?_)) (t.fr (fun b j h1 h2 => f b j ?_)) (w.fr (fun b j q => f b j ?_)) a (s.fr h.g (fun b j q => f b j ?_))
  · unfold ICp plc prc at q
    unfold FH FAh FRp FLy
    omega
  · unfold FH FAh FRp FLy; omega
  · unfold FH FAh FRp FLy; omega
  · unfold FH FAh FRp FLy; omega
theorem OkK.inv {m m2 : Mem} (h : Inv m) (k : OkK m m2) : Inv m2 := by
  obtain ⟨hc, t, s, f⟩ := k
  obtain ⟨-, w, a, -⟩ := h.2
  refine Inv.of hc (icp f (fun b j q => ?_)) t (w.fr (fun b j q => f b j ?_)) (a.fr (fun b j q => f b j ?_)) s
  · unfold ICp plc prc at q
    unfold FK FTd FKl FKt FRl
    omega
  · unfold FK FTd FKl FKt FRl; omega
  · unfold FK FTd FKl FKt FRl; omega
theorem OkY.inv {m m2 : Mem} (h : Inv m) (k : OkY m m2) : Inv m2 := by
  obtain ⟨hc, t, w, f⟩ := k
  obtain ⟨-, -, a, s⟩ := h.2
  refine Inv.of hc (icp f (fun b j q => ?_)) t w (a.fr (fun b j q => f b j ?_)) (s.fr h.g (fun b j q => f b j ?_))
  · unfold ICp plc prc at q
    unfold FWy FTd FYf FRy
    omega
  · unfold FWy FTd FYf FRy; omega
  · unfold FWy FTd FYf FRy; omega
theorem OkV.inv {m m2 : Mem} (h : Inv m) (k : OkV m m2) : Inv m2 := by
  obtain ⟨hc, k | ⟨ag, f⟩⟩ := k
  · exact Inv.no hc k
  · obtain ⟨t, w, a, s⟩ := h.2
    have e : vS m2 38 = vS m 38 := vS_fr (fun b j h1 h2 _ => f b j (by unfold FVl; omega))
    refine ⟨hc, ?_⟩
    rw [e]
    exact ⟨ag_tod ag (t.fr (fun b j h1 h2 => f b j (by unfold FVl; omega))), ag_way ag (w.fr (fun b j q => f b j (by unfold FVl; omega))), ag_ahd ag (a.fr (fun b j q => f b j (by unfold FVl; omega))), ag_set ag (s.fr h.g (fun b j q => f b j (by unfold FVl; omega)))⟩
/-- every call, both sides alike -/
theorem okAll_Inv : okAll Inv 4000 := by
  refine ⟨?_, ?_, ?_, ?_, ?_, ?_, ?_, ?_, ?_, ?_, ?_, ?_, ?_, ?_, ?_, ?_, ?_, ?_, ?_, ?_, ?_, ?_, ?_, ?_, ?_, ?_, ?_, ?_, ?_, ?_, ?_, ?_⟩
  · intro m x1 x2 x3 x4 x5 _ h _ _ _ _ _
    obtain ⟨r, m1, m2, a, b, c⟩ := o_feed (N := 4000) (by decide) h.1 x1 x2 x3 x4 x5
    exact ⟨r, m1, m2, a, b, c.inv h⟩
  · intro m x1 _ h _
    obtain ⟨r, m1, m2, a, b, c⟩ := o_end h.1 x1
    exact ⟨r, m1, m2, a, b, c.inv h⟩
  · intro m _ h
    obtain ⟨r, m1, m2, a, b, c⟩ := o_valley (N := 4000) (by decide) h.1
    exact ⟨r, m1, m2, a, b, c.inv h⟩
  · intro m x1 _ h _
    obtain ⟨r, a, b⟩ := e_fault h.1 x1
    exact ⟨r, m, m, a, rfl, b, rfl, h⟩
  · intro m x1 _ h _
    obtain ⟨r, a, b⟩ := e_has (N := 4000) (by decide) h.1 x1
    exact ⟨r, m, m, a, rfl, b, rfl, h⟩
  · intro m x1 x2 _ h _ _
    obtain ⟨r, a, b⟩ := e_letter (N := 4000) (by decide) h.1 x1 x2
    exact ⟨r, m, m, a, rfl, b, rfl, h⟩
  · intro m x1 x2 _ h _ _
    obtain ⟨r, a, b⟩ := e_cell h.1 x1 x2
    exact ⟨r, m, m, a, rfl, b, rfl, h⟩
  · intro m x1 x2 _ h _ _
    obtain ⟨r, a, b⟩ := e_person h.1 x1 x2
    exact ⟨r, m, m, a, rfl, b, rfl, h⟩
  · intro m x1 x2 x3 _ h _ _ _
    obtain ⟨r, m1, m2, a, b, c⟩ := o_today (N := 4000) (by decide) h.1 h.2.1 x1 x2 x3
    exact ⟨r, m1, m2, a, b, c.inv h⟩
  · intro m x1 x2 x3 _ h _ _ _
    obtain ⟨r, m1, m2, a, b, c⟩ := o_dew (N := 4000) (by decide) h.1 h.2.1 x1 x2 x3
    exact ⟨r, m1, m2, a, b, c.inv h⟩
  · intro m x1 x2 _ h _ _
    obtain ⟨r, m1, m2, a, b, c⟩ := o_up (N := 4000) (by decide) h.1 h.2.1 x1 x2
    exact ⟨r, m1, m2, a, b, c.inv h⟩
  · intro m x1 x2 _ h _ _
    obtain ⟨r, m1, m2, a, b, c⟩ := o_home (N := 4000) (by decide) h.1 h.2.1 x1 x2
    exact ⟨r, m1, m2, a, b, c.inv h⟩
  · intro m x1 x2 x3 _ h _ _ _
    obtain ⟨r, m1, m2, a, b, c⟩ := o_way (N := 4000) (by decide) h.1 h.2.1 h.2.2.1 x1 x2 x3
    exact ⟨r, m1, m2, a, b, c.inv h⟩
  · intro m x1 _ h _
    obtain ⟨r, m1, m2, a, b, c⟩ := o_changed (N := 4000) (by decide) h.1 h.2.1 x1
    exact ⟨r, m1, m2, a, b, c.inv h⟩
  · intro m x1 x2 x3 _ h _ _ _
    obtain ⟨r, m1, m2, a, b, c⟩ := o_later (N := 4000) (by decide) h.1 h.2.2.2.1 x1 x2 x3
    exact ⟨r, m1, m2, a, b, c.inv h⟩
  · intro m x1 x2 _ h _ _
    obtain ⟨r, m1, m2, a, b, c⟩ := o_purse (N := 4000) (by decide) h.1 h.2.2.2.1 x1 x2
    exact ⟨r, m1, m2, a, b, c.inv h⟩
  · intro m x1 _ h _
    obtain ⟨r, m1, m2, a, b, c⟩ := o_dry (N := 4000) (by decide) h.1 h.2.2.2.1 x1
    exact ⟨r, m1, m2, a, b, c.inv h⟩
  · intro m _ h
    obtain ⟨r, m1, m2, a, b, c⟩ := o_see (N := 4000) (by decide) h.1
    exact ⟨r, m1, m2, a, b, c.inv h⟩
  · intro m x1 _ h _
    obtain ⟨r, m1, m2, a, b, c⟩ := o_walkers (N := 4000) (by decide) h.1 h.2.1 h.2.2.2.2 x1
    exact ⟨r, m1, m2, a, b, c.inv h⟩
  · intro m x1 _ h _
    obtain ⟨r, m1, m2, a, b, c⟩ := o_tells (N := 4000) (by decide) h.1 h.2.1 h.2.2.2.2 x1
    exact ⟨r, m1, m2, a, b, c.inv h⟩
  · intro m x1 _ h _
    obtain ⟨r, m1, m2, a, b, c⟩ := o_days (N := 4000) (by decide) h.1 x1
    exact ⟨r, m1, m2, a, b, c.inv h⟩
  · intro m x1 _ h _
    obtain ⟨r, m1, m2, a, b, c⟩ := o_chance (N := 4000) (by decide) h.1 x1
    exact ⟨r, m1, m2, a, b, c.inv h⟩
  · intro m x1 x2 _ h _ _
    obtain ⟨r, m1, m2, a, b, c⟩ := o_rise (N := 4000) (by decide) h.1 x1 x2
    exact ⟨r, m1, m2, a, b, c.inv h⟩
  · intro m x1 x2 x3 _ h _ _ _
    obtain ⟨r, m1, m2, a, b, c⟩ := o_move (N := 4000) (by decide) h.1 x1 x2 x3
    exact ⟨r, m1, m2, a, b, c.inv h⟩
  · intro m x1 x2 _ h _ _
    obtain ⟨r, m1, m2, a, b, c⟩ := o_weave (N := 4000) (by decide) h.1 x1 x2
    exact ⟨r, m1, m2, a, b, c.inv h⟩
  · intro m _ h
    obtain ⟨r, m1, m2, a, b, c⟩ := o_undo (N := 4000) (by decide) h.1
    exact ⟨r, m1, m2, a, b, c.inv h⟩
  · intro m x1 _ h q
    obtain ⟨r, m1, m2, a, b, c⟩ := o_seed h.1 (x := x1) q.2
    exact ⟨r, m1, m2, a, b, c.inv h⟩
  · intro m x1 x2 _ h _ _
    obtain ⟨r, a, b⟩ := e_kept h.1 x1 x2
    exact ⟨r, m, m, a, rfl, b, rfl, h⟩
  · intro m _ h
    obtain ⟨r, m1, m2, a, b, c, f⟩ := o_image (N := 4000) (by decide) h.1
    exact ⟨r, m1, m2, a, b, img_inv h c f⟩
  · intro m x1 _ h _
    obtain ⟨r, a, b⟩ := e_octet h.1 x1
    exact ⟨r, m, m, a, rfl, b, rfl, h⟩
  · intro m _ h
    obtain ⟨r, m1, m2, a, b, c⟩ := o_on (N := 4000) (by decide) h.1
    exact ⟨r, m1, m2, a, b, c.inv h⟩
  · intro m x1 _ h _
    obtain ⟨r, a, b⟩ := e_status h.1 x1
    exact ⟨r, m, m, a, rfl, b, rfl, h⟩
