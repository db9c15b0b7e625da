/-! VALLEY: both answers, what holds afterwards -/
def AGv (pl pl' : Mem) : Prop := ∀ b j, plc b → pl' b j = pl b j
def FVl : Int → Int → Prop := fun b j => (b = 0 ∧ j = 1) ∨ (18 ≤ b ∧ b ≤ 37) ∨ b = 474 ∨ b = 497 ∨ (b = 475 ∧ (j ≤ 12 ∨ (28 ≤ j ∧ j ≤ 40))) ∨ (477 ≤ b ∧ b ≤ 496)
def OkV (m m2 : Mem) : Prop := Core m2 ∧ (NoC m2 ∨ (AGv (vP m) (vP m2) ∧ Fr FVl m m2))
theorem FVs_V {ib b j : Int} (h : FVs ib b j) : FVl b j := by
  unfold FVs FV at h
  unfold FVl
  rcases h with (h | h | h | h | h | h | h) | h
  · omega
  · omega
  · omega
  · omega
  · omega
  · omega
  · omega
  · omega
/-- the old plan stands, where the new one has a fault -/
theorem plan_keep {P P' : Mem} {ib : Int} (hib : ib = 0 ∨ ib = 1) (h13 : P 475 13 = 1 - ib) (h : PG P ∧ PR P ∧ INm P) (f : ∀ b j, ¬ FVs ib b j → P' b j = P b j) : PG P' ∧ PR P' ∧ INm P' := by
  obtain ⟨⟨g1, g2, g3, g4, g5⟩, ⟨r1, r2, r3, r4, r5, r6, r7, r8⟩, hn⟩ := h
  have fp : ∀ b j, b ≤ 17 → P' b j = P b j := fun b j q => f b j (by unfold FVs FV; omega)
  have e13 : P' 475 13 = 1 - ib := (f _ _ (by unfold FVs FV; omega)).trans h13
  have ec : ∀ w, 0 ≤ w → w < 3 → codeOf P' w = codeOf P w := fun w w0 w1 => by
    unfold codeOf
    rw [fp (9 + 3 * w) 2 (by omega)]
    exact List.map_congr_left (fun j _ => by rw [fp (10 + 3 * w) _ (by omega)])
  rw [h13] at r2 r3 r4 r5
  refine ⟨⟨?_, ?_, ?_, ?_, fun w w0 w1 => ?_⟩, ⟨?_, ?_, ?_, ?_, ?_, ?_, fun i i0 i1 => ?_, fun w w0 w1 => ?_⟩, fun i i0 i1 => ⟨?_, ?_⟩⟩
  · rw [fp 2 0 (by decide), fp 2 1 (by decide), fp 2 3 (by decide)]; exact g1
  · rw [fp 2 0 (by decide), fp 2 1 (by decide), fp 2 2 (by decide)]; exact g2
  · rw [fp 2 3 (by decide)]; exact g3
  · rw [fp 2 4 (by decide)]; exact g4
  · rw [fp (9 + 3 * w) 2 (by omega), ec w w0 w1]; exact g5 w w0 w1
  · rw [e13]; omega
  · rw [e13, f 477 _ (by unfold FVs FV; omega), fp 2 0 (by decide)]; exact r2
  · rw [e13, f 478 _ (by unfold FVs FV; omega), fp 2 1 (by decide)]; exact r3
  · rw [e13, f 480 _ (by unfold FVs FV; omega), fp 2 3 (by decide)]; exact r4
  · rw [e13, f 485 _ (by unfold FVs FV; omega), fp 2 4 (by decide)]; exact r5
  · rw [f 475 41 (by unfold FVs FV; omega), fp 2 0 (by decide)]; exact r6
  · rw [fp 2 3 (by decide)] at i1
    have := r7 i i0 i1
    rw [h13] at this
    rw [e13, f 484 _ (by unfold FVs FV; omega), fp 8 i (by decide)]
    exact this
  · have := r8 w w0 w1
    unfold LR at *
    rw [h13] at this
    rw [e13, ec w w0 w1, fp (9 + 3 * w) 2 (by omega), f 486 _ (by unfold FVs FV; omega), f 487 _ (by unfold FVs FV; omega)]
    rcases this with h3 | ⟨a, b, c, d, e⟩
    · exact Or.inl h3
    · have hlen : ((codeOf P w).length : Int) = P (9 + 3 * w) 2 := by
        unfold codeOf
        rw [List.length_map, List.length_range]
        omega
      refine Or.inr ⟨a, b, c, d, e.eq' (fun j j0 j1 => ?_)⟩
      rw [f 488 j (by unfold FVs FV; omega), f 489 j (by unfold FVs FV; omega)]
      exact ⟨rfl, rfl⟩
  · rw [fp 2 3 (by decide)] at i1
    rw [fp 8 i (by decide)]
    exact (hn i i0 i1).1
  · rw [fp 2 3 (by decide)] at i1
    obtain ⟨n, n1, n2, n3, n4⟩ := (hn i i0 i1).2
    rw [h13] at n4
    refine ⟨n, n1, fun k k0 k1 => ?_, fun k k0 k1 => ?_, ?_⟩
    · rw [fp 4 _ (by decide)]; exact n2 k k0 k1
    · rw [fp 4 _ (by decide)]; exact n3 k k0 k1
    · rw [e13, f 490 _ (by unfold FVs FV; omega), n4]
      refine packW_ext (fun j hj => ?_)
      show P 4 (6 * i + j) + 96 = P' 4 (6 * i + j) + 96
      rw [fp 4 _ (by decide)]
theorem AGv.sb {pl pl' S : Mem} (h : AGv pl pl') : SB pl' S ↔ SB pl S := by
  unfold SB
  rw [h 2 2 (by unfold plc; omega), h 2 3 (by unfold plc; omega)]
theorem AGv.eph {pl pl' : Mem} (h : AGv pl pl') : ph pl' = ph pl := by
  funext p
  exact ph_ceq (h 2 0 (by unfold plc; omega)) p
theorem AGv.sr {pl pl' m S : Mem} {v : Int} (h : AGv pl pl') : SR pl' m v S ↔ SR pl m v S := by
  unfold SR cellC
  rw [h 2 2 (by unfold plc; omega), h 2 3 (by unfold plc; omega), h 2 0 (by unfold plc; omega), h 2 1 (by unfold plc; omega), h.eph]
theorem AGv.st {pl pl' m : Mem} (h : AGv pl pl') (k : ISt pl m) : ISt pl' m := ⟨h.sb.2 k.1, h.sr.2 k.2⟩
theorem AGv.acts {pl pl' m : Mem} (h : AGv pl pl') (k : IActs pl m) : IActs pl' m := by
  obtain ⟨h1, h2, h3, h4, h5⟩ := k
  exact ⟨h1, h2, h3, h4, fun k k0 k1 => ⟨h.sb.2 (h5 k k0 k1).1, h.sr.2 (h5 k k0 k1).2⟩⟩
theorem AGv.seen {pl pl' m : Mem} (h : AGv pl pl') (k : ISeen pl m) : ISeen pl' m := by
  unfold ISeen at *
  rw [h 2 0 (by unfold plc; omega), h 2 1 (by unfold plc; omega)]
  exact k
theorem A7_out {m m' : Mem} (f : ∀ b j, (b = 52 ∨ (54 ≤ b ∧ b ≤ 193) ∨ (b = 475 ∧ (j = 51 ∨ j = 52)) ∨ (498 ≤ b ∧ b ≤ 505)) → m' b j = m b j) : ∀ b j, A7 b j → m' b j = m b j := by
  intro b j q
  unfold A7 at q
  rcases q with q | q | q | ⟨v, _, _, q⟩
  · exact f b j (by omega)
  · exact f b j (by omega)
  · exact f b j (by omega)
  · unfold FLy at q
    exact f b j (by omega)
/-- the reference, where the component found a fault -/
theorem r_fails {N : Nat} {x kd pl : Int} {mr : Mem} (h8 : mr 475 8 = kd) (h9 : mr 475 9 = pl) (hk : 1 ≤ kd) : Rn (KRv N x mr) (fun r => r = (-1, mset (mset (mset mr 475 10 kd) 475 11 pl) 497 1 (w32 (mr 497 1 + 1)))) := by
  unfold KRv
  have e9 : mset mr 475 10 (mr 475 8) 475 9 = pl := (mset_o (by omega)).trans h9
  refine rn_v ?_
  rw [e9, h8]
  refine rn_v (rn_t ?_ (rn_e (e_refM (k := 1) (by decide)) (rn_s ?_)))
  · rw [mset_o (by omega), mset_o (by omega), h8]; omega
  · rw [mset_o (by omega), mset_o (by omega)]
theorem Core.fail {m m2 : Mem} {ib kd pl : Int} (h : Core m) (hib : ib = 0 ∨ ib = 1) (h13 : m 475 13 = 1 - ib) (f : Fr (fun b j => (b = 0 ∧ j = 1) ∨ (18 ≤ b ∧ b ≤ 37) ∨ (b = 474 ∧ j = 1) ∨ (b = 497 ∧ j = 1) ∨ (b = 475 ∧ (j = 10 ∨ j = 11)) ∨ FVs ib b j) m m2) (t1 : m2 0 1 = 0) (t2 : m2 475 1 = 0) (g1 : m2 474 1 = w32 (m 474 1 + 1)) (g2 : m2 497 1 = w32 (m 497 1 + 1)) (k1 : m2 475 10 = kd) (k2 : m2 475 11 = pl) (k3 : m2 18 1 = kd) (k4 : m2 18 2 = pl) : OkV m m2 := by
  obtain ⟨-, h2, h3, -, h5, h8, h9, h10, h11, h12⟩ := h
  have fv : Fr FVl m m2 := f.mono (fun b j c => by
    rcases c with c | c | c | c | c | c
    · unfold FVl; omega
    · unfold FVl; omega
    · unfold FVl; omega
    · unfold FVl; omega
    · unfold FVl; omega
    · exact FVs_V c)
  have fo : ∀ b j, ¬ FVl b j → m2 b j = m b j := fv
  have hv13 : vP m 475 13 = 1 - ib := (vP_in (by omega)).trans h13
  have fP : ∀ b j, ¬ FVs ib b j → vP m2 b j = vP m b j := by
    intro b j c
    unfold vP
    split
    · rename_i q
      refine f b j (fun d => ?_)
      rcases d with d | d | d | d | d | d
      · omega
      · omega
      · omega
      · omega
      · omega
      · exact c d
    · rfl
  have ag : AGv (vP m) (vP m2) := fun b j q => fP b j (by unfold plc at q; unfold FVs FV; omega)
  have st : ISt (vP m) m2 := h8.fr h5.1 (fun b j q => fo b j (by unfold A6 FLy at q; unfold FVl; omega))
  have ac : IActs (vP m) m2 := h9.fr h5.1 (A7_out (fun b j q => fo b j (by unfold FVl; omega)))
  have se : ISeen (vP m) m2 := h10.fr (fun b j q => fo b j (by unfold A8 at q; unfold FVl; omega))
  refine ⟨⟨?_, ?_, ?_, ⟨k1.trans k3.symm, k2.trans k4.symm⟩, plan_keep hib hv13 h5 fP, ag.st st, ag.acts ac, ag.seen se, ?_, ?_⟩, Or.inr ⟨ag, fv⟩⟩
  · refine ⟨t2.trans t1.symm, by rw [t1]; decide, fun i i0 i1 => ?_⟩
    rw [t1] at i1
    omega
  · intro k k0 k6
    by_cases q : k = 1
    · rw [q, g1, g2, h2 1 (by decide) (by decide)]
    · rw [f 497 k (by unfold FVs FV; omega), f 474 k (by unfold FVs FV; omega)]
      exact h2 k k0 k6
  · exact h3.fr (fun b j q => fo b j (by unfold A3 at q; unfold FVl; omega))
  · exact h11.fr (fun b j q => fo b j (by unfold A9 at q; unfold FVl; omega))
  · exact (fo _ _ (by unfold FVl; omega)).trans h12
