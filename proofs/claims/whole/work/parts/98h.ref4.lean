/-! VALLEY: the reference goes on behind an operand -/
theorem e_sg {t m : Mem} {k : Int} (x : Int) (h : RTk t m k) (hl : m 475 12 = -1) (hx : isSg x) : ∃ y, pM_isSign m x = some y ∧ ((y = 1 ∧ t 35 k = x) ∨ (y = 0 ∧ t 35 k ≠ x)) := by
  refine ⟨_, e_sign h hl hx, ?_⟩
  by_cases q : t 35 k = x
  · rw [if_pos q]; exact Or.inl ⟨rfl, q⟩
  · rw [if_neg q]; exact Or.inr ⟨rfl, q⟩
theorem MR.eq {t m m' : Mem} {ib f0 k k' op fl fl' : Int} {cs : List (Int × Int)} {Fs : List Fm} (hm : MR t m ib f0 (k, op, cs, Fs, fl)) (f : ∀ b j : Int, (b = 475 ∧ (j = 36 ∨ j = 37 ∨ j = 39 ∨ j = 28 ∨ j = 29 ∨ j = 30 ∨ j = 8)) ∨ b = 488 ∨ b = 489 ∨ (491 ≤ b ∧ b ≤ 496) → m' b j = m b j) : MR t m' ib f0 (k', op, cs, Fs, fl') := by
  obtain ⟨g1, g2, g3, g4, g5, g6, g7, g8, g9⟩ := hm
  exact ⟨by rw [f _ _ (by omega)]; exact g1, by rw [f _ _ (by omega)]; exact g2, by rw [f _ _ (by omega)]; exact g3, g4.eq (fun b j z => f _ _ (by omega)), by rw [f _ _ (by omega)]; exact g5, by rw [f _ _ (by omega)]; exact g6, g7.eq' (fun j _ _ => ⟨f _ _ (by omega), f _ _ (by omega)⟩), by rw [f _ _ (by omega)]; exact g8, by rw [f _ _ (by omega)]; exact g9⟩
/-- the top frame's own cells are written -/
theorem MR.top {t m m' : Mem} {ib f0 k op fl : Int} {cs : List (Int × Int)} {kd ph bg pr kd' ph' bg' : Int} {ops : List Int} {Fs : List Fm} (hm : MR t m ib f0 (k, op, cs, (kd, ph, bg, pr, ops) :: Fs, fl)) (f : ∀ b j : Int, ¬ ((491 ≤ b ∧ b ≤ 493) ∧ j = Fs.length) → m' b j = m b j) (e1 : m' 491 Fs.length = kd') (e2 : m' 492 Fs.length = ph') (e3 : m' 493 Fs.length = bg') (hk : (kd' = 3 ∨ kd' = 4 ∨ kd' = 6) → (kd = 3 ∨ kd = 4 ∨ kd = 6)) : MR t m' ib f0 (k, op, cs, (kd', ph', bg', pr, ops) :: Fs, fl) := by
  obtain ⟨g1, g2, g3, g4, g5, g6, g7, g8, g9⟩ := hm
  refine ⟨by rw [f _ _ (by omega)]; exact g1, by rw [f _ _ (by omega)]; exact g2, by rw [f _ _ (by omega)]; exact g3, ?_, by rw [f _ _ (by omega)]; exact g5, by rw [f _ _ (by omega)]; exact g6, g7.eq' (fun j _ _ => ⟨f _ _ (by omega), f _ _ (by omega)⟩), by rw [f _ _ (by omega)]; exact g8, by rw [f _ _ (by omega)]; exact g9⟩
  obtain ⟨⟨h1, h2, h3, h4, h5⟩, h6, h7⟩ := g4
  refine ⟨⟨e1, e2, e3, fun z => ?_, ?_⟩, h6.eq (fun j _ _ => f _ _ (by omega)), h7.eq (fun b j z => f _ _ (by omega))⟩
  · rw [f _ _ (by omega)]; exact h4 (hk z)
  · rw [f _ _ (by omega)]; exact h5
theorem MI.top {f0 k op fl : Int} {cs : List (Int × Int)} {F : Fm} {Fs : List Fm} (h : MI f0 (k, op, cs, F :: Fs, fl)) : FI F ∧ ((F.1 = 0 ∧ Fs = []) ∨ ((2 ≤ F.1 ∧ F.1 ≤ 6) ∧ Fs ≠ [])) ∧ FIs Fs ∧ (fl = 1 → F.2.2.1 = 0) ∧ op = Fs.length + nto (F :: Fs) ∧ (0 ≤ op ∧ op ≤ 7) ∧ 0 ≤ f0 ∧ f0 + cs.length + tot (F :: Fs) + npr (F :: Fs) ≤ k ∧ (Fs.length : Int) ≤ 7 ∧ tot (F :: Fs) ≤ 55 := by
  obtain ⟨F', Gs, h1, h2, h3, h4, h5, h6, h7, h8, h9, h10⟩ := id h
  have h1' : F :: Fs = F' :: Gs := h1
  injection h1' with g1 g2
  subst g1 g2
  obtain ⟨F', Gs, r1, r2, r3, -⟩ := h.room
  have r1' : F :: Fs = F' :: Gs := r1
  injection r1' with g1 g2
  subst g1 g2
  exact ⟨h2, h3, h4, h5, h7, h8, h9, h10, r2, r3⟩
theorem r_joinsM {N : Nat} {t m : Mem} {ib f0 k op fl r : Int} {cs : List (Int × Int)} {kd ph bg pr : Int} {ops : List Int} {Fs : List Fm} (hN : 2000 ≤ N) (hib : ib = 0 ∨ ib = 1) (hk : k ≤ 1600) (hmi : MI f0 (k, op, cs, (kd, ph, bg, pr, ops) :: Fs, fl)) (hm : MR t m ib f0 (k, op, cs, (kd, ph, bg, pr, ops) :: Fs, fl)) : Rn (pM_joins N m r) (fun m' => MR t m' ib f0 (k, op - nots (flq r ops).1, cs ++ cod (flq r ops).1, (kd, ph, bg, pr, (flq r ops).2) :: Fs, fl) ∧ Fr (FJn ib (f0 + cs.length)) m m') := by
  obtain ⟨i1, i2, i3, -, i5, i6, i7, i8, i9, i10⟩ := hmi.top
  obtain ⟨g1, g2, g3, g4, g5, g6, g7, g8, g9⟩ := hm
  obtain ⟨⟨h1, h2, h3, h4, h5⟩, h6, h7⟩ := g4
  dsimp only at g1 g2 g3 g5 g7 h1 h2 h3 h4 h5 h6 h7
  have eT : tot ((kd, ph, bg, pr, ops) :: Fs) = ops.length + tot Fs := rfl
  have eN : nto ((kd, ph, bg, pr, ops) :: Fs) = nots ops + nto Fs := rfl
  have eL : ((((kd, ph, bg, pr, ops) : Fm) :: Fs).length : Int) = Fs.length + 1 := by show ((Fs.length + 1 : Nat) : Int) = _; omega
  have hn := tot_nn Fs
  have hp := npr_nn (((kd, ph, bg, pr, ops) : Fm) :: Fs)
  have hnt := i3.bnd
  have eB : tot ((kd, ph, bg, pr, ops) :: Fs) - (ops.length : Int) = tot Fs := by omega
  rw [eB] at h5 h6 h7
  unfold pM_joins pM_joins_L0
  refine r_joinsL (D := Fs.length) (b := tot Fs) (ib := ib) (f0 := f0) (c0 := f0 + cs.length) (m0 := m) (by omega) hn hib i7 (by omega) ops N cs op m (by omega) i1.1 (by omega) (by rw [g1, eL]) h5 (by rw [g3, eT]; omega) h6 g5 (Int.le_refl _) g6 g7 (by omega) g2 (by omega) Fr.rfl' (fun m' c1 c2 c3 c4 c5 c6 => rn_s ⟨?_, c6⟩)
  have F : ∀ b j : Int, ¬ (b = 475 ∧ (j = 28 ∨ j = 37 ∨ j = 39)) → ¬ (b = 488 ∨ b = 489) → m' b j = m b j := fun b j z1 z2 => c6 b j (by unfold FJn; omega)
  have eT2 : tot ((kd, ph, bg, pr, (flq r ops).2) :: Fs) = (flq r ops).2.length + tot Fs := rfl
  have eL2 : ((((kd, ph, bg, pr, (flq r ops).2) : Fm) :: Fs).length : Int) = Fs.length + 1 := by show ((Fs.length + 1 : Nat) : Int) = _; omega
  refine ⟨?_, c5, ?_, ?_, c3, ?_, c4, ?_, ?_⟩
  · dsimp only; rw [eL2, F _ _ (by omega) (by omega), g1, eL]
  · dsimp only; rw [eT2, c1]; omega
  · dsimp only
    rw [eT2]
    have eb : ((flq r ops).2.length : Int) + tot Fs - (flq r ops).2.length = tot Fs := by omega
    refine ⟨⟨?_, ?_, ?_, fun z => ?_, ?_⟩, ?_, ?_⟩
    · rw [F _ _ (by omega) (by omega)]; exact h1
    · rw [F _ _ (by omega) (by omega)]; exact h2
    · rw [F _ _ (by omega) (by omega)]; exact h3
    · rw [F _ _ (by omega) (by omega)]; exact h4 z
    · dsimp only; rw [eb, F _ _ (by omega) (by omega)]; exact h5
    · dsimp only; rw [eb]; exact c2
    · dsimp only; rw [eb]; exact h7.eq (fun b j z => F _ _ (by omega) (by omega))
  · rw [F _ _ (by omega) (by omega)]; exact g6
  · rw [F _ _ (by omega) (by omega)]; exact g8
  · rw [F _ _ (by omega) (by omega)]; exact g9
theorem r_holdM {t m : Mem} {ib f0 k op fl o : Int} {cs : List (Int × Int)} {kd ph bg pr : Int} {ops : List Int} {Fs : List Fm} (hn : 0 ≤ tot ((kd, ph, bg, pr, ops) :: Fs) ∧ tot ((kd, ph, bg, pr, ops) :: Fs) < 500) (hm : MR t m ib f0 (k, op, cs, (kd, ph, bg, pr, ops) :: Fs, fl)) : Rn (pM_holdsBack m (opq o)) (fun m' => MR t m' ib f0 (k, op, cs, (kd, ph, bg, pr, o :: ops) :: Fs, fl) ∧ Fr (fun b j => (b = 475 ∧ j = 39) ∨ (b = 496 ∧ j = tot ((kd, ph, bg, pr, ops) :: Fs))) m m') := by
  obtain ⟨g1, g2, g3, g4, g5, g6, g7, g8, g9⟩ := hm
  obtain ⟨⟨h1, h2, h3, h4, h5⟩, h6, h7⟩ := g4
  dsimp only at g1 g2 g3 g5 g7 h1 h2 h3 h4 h5 h6 h7
  have eT : tot ((kd, ph, bg, pr, o :: ops) :: Fs) = tot ((kd, ph, bg, pr, ops) :: Fs) + 1 := by
    show ((ops.length + 1 : Nat) : Int) + tot Fs = (ops.length : Int) + tot Fs + 1
    omega
  have eT2 : tot (((kd, ph, bg, pr, ops) : Fm) :: Fs) = ops.length + tot Fs := rfl
  refine rn_q (r_hold (n := tot ((kd, ph, bg, pr, ops) :: Fs)) (x := opq o) g3 hn) (fun m' h => ⟨?_, h.2.2⟩)
  obtain ⟨b39, b496, f2⟩ := h
  have eb : tot (((kd, ph, bg, pr, ops) : Fm) :: Fs) + 1 - (((o :: ops : List Int).length : Nat) : Int) = tot (((kd, ph, bg, pr, ops) : Fm) :: Fs) - ops.length := by
    show _ - ((ops.length + 1 : Nat) : Int) = _
    omega
  refine ⟨by rw [f2 _ _ (by omega)]; exact g1, by rw [f2 _ _ (by omega)]; exact g2, by dsimp only; rw [eT]; exact b39, ?_, by rw [f2 _ _ (by omega)]; exact g5, by rw [f2 _ _ (by omega)]; exact g6, g7.eq' (fun j _ _ => ⟨f2 _ _ (by omega), f2 _ _ (by omega)⟩), by rw [f2 _ _ (by omega)]; exact g8, by rw [f2 _ _ (by omega)]; exact g9⟩
  dsimp only
  rw [eT]
  refine ⟨⟨?_, ?_, ?_, fun z => ?_, ?_⟩, ?_, ?_⟩
  · rw [f2 _ _ (by omega)]; exact h1
  · rw [f2 _ _ (by omega)]; exact h2
  · rw [f2 _ _ (by omega)]; exact h3
  · rw [f2 _ _ (by omega)]; exact h4 z
  · dsimp only; rw [eb, f2 _ _ (by omega)]; exact h5
  · dsimp only
    rw [eb]
    refine ⟨?_, h6.eq (fun j z0 z1 => f2 _ _ (by omega))⟩
    rw [show tot (((kd, ph, bg, pr, ops) : Fm) :: Fs) - (ops.length : Int) + ops.length = tot (((kd, ph, bg, pr, ops) : Fm) :: Fs) by omega]
    exact b496
  · dsimp only
    rw [eb]
    exact h7.eq (fun b j z => f2 _ _ (by omega))
def GPo (t : Mem) (RT : Int → Mem → Prop) (ib f0 : Int) (m : Mem) (res : Mc ⊕ Rz4) (r : Int × Mem) : Prop := Fr (FMs ib f0) m r.2 ∧ (∀ D, res = .inl D → r.1 = 1 ∧ MR t r.2 ib f0 D ∧ RT D.1 r.2 ∧ r.2 475 40 = D.2.2.2.2) ∧ (∀ e, res = .inr e → (e.1 = 0 → (r.1 = 0 ∧ r.2 475 8 = 0 ∧ r.2 475 28 = f0 + e.2.2.1.length ∧ RcOk (r.2 488) (r.2 489) (1600 * ib + f0) e.2.2.1 ∧ RT e.2.2.2 r.2) ∨ (r.2 475 8 = 1 ∧ r.2 475 9 = plcT t e.2.2.2 ∧ t 35 e.2.2.2 = 27)) ∧ (e.1 ≠ 0 → r.2 475 8 = e.1 ∧ r.2 475 9 = e.2.1))
theorem GPo.bad {t : Mem} {RT : Int → Mem → Prop} {ib f0 : Int} {m m' : Mem} {x : Int} {e : Rz4} (hf : Fr (FMs ib f0) m m') (he : e.1 ≠ 0) (h8 : m' 475 8 = e.1) (h9 : m' 475 9 = e.2.1) : GPo t RT ib f0 m (.inr e) (x, m') := ⟨hf, fun D c => (by cases c), fun e' c => (by cases c; exact ⟨fun z => absurd z he, fun _ => ⟨h8, h9⟩⟩)⟩
theorem GPo.good {t : Mem} {RT : Int → Mem → Prop} {ib f0 : Int} {m m' : Mem} {D : Mc} (hf : Fr (FMs ib f0) m m') (hm : MR t m' ib f0 D) (hr : RT D.1 m') (h40 : m' 475 40 = D.2.2.2.2) : GPo t RT ib f0 m (.inl D) (1, m') := ⟨hf, fun D' c => (by cases c; exact ⟨rfl, hm, hr, h40⟩), fun e c => (by cases c)⟩
/-- an operator: what is as strong goes out, it is held back, the next sign -/
theorem r_oper {N : Nat} {t m m1 : Mem} {RT : Int → Mem → Prop} {ib f0 k op r o : Int} {cs : List (Int × Int)} {kd ph pr ph' bg' : Int} {ops : List Int} {Fs : List Fm} {kk : Mem → Option Mem} (hL : LX N t RT) (hmi : MI f0 (k, op, cs, (kd, ph, 0, pr, ops) :: Fs, 1)) (hm : MR t m1 ib f0 (k, op - nots (flq r ops).1, cs ++ cod (flq r ops).1, (kd, ph, 0, pr, (flq r ops).2) :: Fs, 1)) (hrt : RT k m1) (hk : 0 ≤ k) (hk1 : k + 1 < t 18 6) (hf : Fr (FMs ib f0) m m1) (hkk : ∀ m2, MR t m2 ib f0 (k, op - nots (flq r ops).1, cs ++ cod (flq r ops).1, (kd, ph, 0, pr, o :: (flq r ops).2) :: Fs, 1) → Rn (kk m2) (fun m3 => MR t m3 ib f0 (k, op - nots (flq r ops).1, cs ++ cod (flq r ops).1, (kd, ph', bg', pr, o :: (flq r ops).2) :: Fs, 1) ∧ Fr (fun b j => (491 ≤ b ∧ b ≤ 493) ∧ j = Fs.length) m2 m3)) :
    Rn ((pM_holdsBack m1 (opq o)).bind fun m2 => (kk m2).bind fun m3 => (pM_ahead N m3).bind fun m4 => (some (mset m4 475 40 0)).bind fun m5 => some ((1 : Int), m5)) (GPo t RT ib f0 m (.inl (k + 1, op - nots (flq r ops).1, cs ++ cod (flq r ops).1, (kd, ph', bg', pr, o :: (flq r ops).2) :: Fs, 0))) := by
  obtain ⟨i1, i2, i3, -, i5, i6, i7, i8, i9, i10⟩ := hmi.top
  have hfl := flq_len r ops
  have hn := tot_nn Fs
  have eT : tot ((kd, ph, 0, pr, ops) :: Fs) = ops.length + tot Fs := rfl
  have eT2 : tot ((kd, ph, 0, pr, (flq r ops).2) :: Fs) = (flq r ops).2.length + tot Fs := rfl
  refine rn_b (r_holdM (o := o) (by omega) hm) (fun m2 h2 => ?_)
  refine rn_b (hkk m2 h2.1) (fun m3 h3 => ?_)
  have rt3 := hL.2.1 k m1 m3 hrt (fun b j z => by rw [h3.2 _ _ (by omega), h2.2 _ _ (by omega)])
  refine rn_b (hL.2.2 k m3 rt3 hk hk1) (fun m4 h4 => ?_)
  obtain ⟨rt4, f4⟩ := h4
  unfold FRa at f4
  refine rn_v (rn_s (GPo.good ?_ ((h3.1.eq (fun b j z => ?_))) (hL.2.1 _ _ _ rt4 (fun b j z => mset_o (by omega))) (mset_s rfl rfl)))
  · exact (((hf.trans (h2.2.mono (fun b j z => by unfold FMs; omega))).trans (h3.2.mono (fun b j z => by unfold FMs; omega))).trans (f4.mono (fun b j z => by unfold FMs; omega))).set (by unfold FMs; omega)
  · rw [mset_o (by omega), f4 _ _ (by omega)]
