/-! VALLEY: the reference stands where the machine stands; its operands -/
def FrR (m : Mem) : List Fm → Int → Prop
  | [], n => n = 0
  | F :: Fs, n => (m 491 Fs.length = F.1 ∧ m 492 Fs.length = F.2.1 ∧ m 493 Fs.length = F.2.2.1 ∧ ((F.1 = 3 ∨ F.1 = 4 ∨ F.1 = 6) → m 494 Fs.length = prq F.2.2.2.1) ∧ m 495 Fs.length = n - F.2.2.2.2.length) ∧ OpR m (n - F.2.2.2.2.length) F.2.2.2.2 ∧ FrR m Fs (n - F.2.2.2.2.length)
theorem FrR.eq {m m' : Mem} : ∀ {Fs : List Fm} {n : Int}, FrR m Fs n → (∀ b j : Int, (491 ≤ b ∧ b ≤ 495 ∧ j < Fs.length) ∨ (b = 496 ∧ j < n) → m' b j = m b j) → FrR m' Fs n
  | [], _, h, _ => h
  | F :: Fs, n, h, f => by
    have eL : ((F :: Fs).length : Int) = Fs.length + 1 := by show ((Fs.length + 1 : Nat) : Int) = _; omega
    rw [eL] at f
    obtain ⟨⟨h1, h2, h3, h4, h5⟩, h6, h7⟩ := h
    refine ⟨⟨?_, ?_, ?_, fun q => ?_, ?_⟩, h6.eq (fun j _ _ => f _ _ (Or.inr ⟨rfl, by omega⟩)), h7.eq (fun b j q => f b j (by omega))⟩
    · rw [f _ _ (by omega)]; exact h1
    · rw [f _ _ (by omega)]; exact h2
    · rw [f _ _ (by omega)]; exact h3
    · rw [f _ _ (by omega)]; exact h4 q
    · rw [f _ _ (by omega)]; exact h5
def MR (t m : Mem) (ib f0 : Int) (C : Mc) : Prop := m 475 36 = C.2.2.2.1.length ∧ m 475 37 = C.2.1 ∧ m 475 39 = tot C.2.2.2.1 ∧ FrR m C.2.2.2.1 (tot C.2.2.2.1) ∧ m 475 28 = f0 + C.2.2.1.length ∧ m 475 29 = ib ∧ RcOk (m 488) (m 489) (1600 * ib + f0) C.2.2.1 ∧ m 475 30 = t 18 9 - 8 ∧ m 475 8 = 0
def FMs (ib f0 : Int) : Int → Int → Prop := fun b j => (b = 475 ∧ ((3 ≤ j ∧ j ≤ 9) ∨ j = 12 ∨ j = 28 ∨ j = 36 ∨ j = 37 ∨ j = 39 ∨ j = 40)) ∨ ((b = 488 ∨ b = 489) ∧ 1600 * ib + f0 ≤ j ∧ j < 1600 * ib + 1600) ∨ (491 ≤ b ∧ b ≤ 496)
def OPo (t : Mem) (RT : Int → Mem → Prop) (ib f0 : Int) (m : Mem) (res : Mc ⊕ Rz4) (r : Int × Mem) : Prop := Fr (FMs ib f0) m r.2 ∧ (∀ D, res = .inl D → r.1 = D.2.2.2.2 ∧ MR t r.2 ib f0 D ∧ RT D.1 r.2) ∧ (∀ e, res = .inr e → r.2 475 8 = e.1 ∧ r.2 475 9 = e.2.1)
theorem OPo.bad {t : Mem} {RT : Int → Mem → Prop} {ib f0 : Int} {m m' : Mem} {x : Int} {e : Rz4} (hf : Fr (FMs ib f0) m m') (h8 : m' 475 8 = e.1) (h9 : m' 475 9 = e.2.1) : OPo t RT ib f0 m (.inr e) (x, m') := ⟨hf, fun D c => (by cases c), fun e' c => (by cases c; exact ⟨h8, h9⟩)⟩
theorem OPo.good {t : Mem} {RT : Int → Mem → Prop} {ib f0 : Int} {m m' : Mem} {x : Int} {D : Mc} (hf : Fr (FMs ib f0) m m') (hx : x = D.2.2.2.2) (hm : MR t m' ib f0 D) (hr : RT D.1 m') : OPo t RT ib f0 m (.inl D) (x, m') := ⟨hf, fun D' c => (by cases c; exact ⟨hx, hm, hr⟩), fun e c => (by cases c)⟩
/-- a new frame is opened, or there are too many -/
theorem r_opensM {N : Nat} {t m : Mem} {RT : Int → Mem → Prop} {ib f0 k op x np fl : Int} {cs : List (Int × Int)} {Fs : List Fm} (hL : LX N t RT) (hm : MR t m ib f0 (k, op, cs, Fs, fl)) (hrt : RT k m) (hk : 0 ≤ k) (hk1 : k + 1 < t 18 6) (hop : 0 ≤ op ∧ op ≤ 7) (hl : (Fs.length : Int) < 20) (hx : x = 2 ∨ x = 5 ∨ x = 3 ∨ x = 6) : Rn (pM_opens N m x) (fun m' => (op = 7 ∧ m' 475 8 = 5 ∧ m' 475 9 = m 475 4 ∧ Fr (FMs ib f0) m m') ∨ (op < 7 ∧ (x = 2 ∨ x = 5 → MR t m' ib f0 (k + 1, op + 1, cs, (x, 0, 1, np, []) :: Fs, fl)) ∧ MR t (mset m' 494 Fs.length (prq np)) ib f0 (k + 1, op + 1, cs, (x, 0, 1, np, []) :: Fs, fl) ∧ m' 475 36 = Fs.length + 1 ∧ m' 475 8 = 0 ∧ RT (k + 1) m' ∧ Fr (FMs ib f0) m m')) := by
  obtain ⟨h36, h37, h39, hF, h28, h29, hR, h30, h8⟩ := hm
  dsimp only at h36 h37 h39 hF h28 hR
  unfold pM_opens
  by_cases q : op = 7
  · rw [if_pos (by omega), e_blame h8]
    refine rn_v ?_
    refine rn_t (by rw [mset_o (by omega), mset_s rfl rfl]; omega) (rn_s (Or.inl ⟨q, ?_, mset_s rfl rfl, ?_⟩))
    · rw [mset_o (by omega), mset_s rfl rfl]
    · exact (Fr.rfl'.set (by unfold FMs; omega)).set (by unfold FMs; omega)
  · rw [if_neg (by omega)]
    refine rn_v (rn_f (by omega) ?_)
    rw [h37, w32_eq (x := op + 1) (by omega) (by omega)]
    refine rn_l (fun m1 hm1 => ?_)
    have a37 : m1 475 37 = op + 1 := by rw [hm1, mset_s rfl rfl]
    have f1 : Fr (fun b j => b = 475 ∧ j = 37) m m1 := by rw [hm1]; exact Fr.rfl'.set ⟨rfl, rfl⟩
    clear hm1
    have rt1 := hL.2.1 k m m1 hrt (fun b j q => f1 b j (by omega))
    refine rn_b (hL.2.2 k m1 rt1 hk hk1) (fun m2 h2 => ?_)
    obtain ⟨rt2, f2⟩ := h2
    unfold FRa at f2
    refine rn_b (r_push (d := Fs.length) (n := tot Fs) (x := x) (by rw [f2 _ _ (by omega), f1 _ _ (by omega)]; exact h36) (by omega) (by rw [f2 _ _ (by omega), f1 _ _ (by omega)]; exact h39)) (fun m3 h3 => ?_)
    obtain ⟨c36, c491, c492, c493, c495, f3⟩ := h3
    have F3 : ∀ b j : Int, ¬ (b = 475 ∧ ((3 ≤ j ∧ j ≤ 7) ∨ j = 12 ∨ j = 36 ∨ j = 37)) → ¬ ((b = 491 ∨ b = 492 ∨ b = 493 ∨ b = 495) ∧ j = Fs.length) → m3 b j = m b j := fun b j z1 z2 => by
      rw [f3 _ _ (by omega), f2 _ _ (by omega), f1 _ _ (by omega)]
    have eT : ∀ np' : Int, tot ((x, 0, 1, np', []) :: Fs) = tot Fs := fun np' => by
      show ((0 : Nat) : Int) + tot Fs = tot Fs
      omega
    have eL : ∀ np' : Int, ((((x, 0, 1, np', []) : Fm) :: Fs).length : Int) = Fs.length + 1 := fun np' => by show ((Fs.length + 1 : Nat) : Int) = _; omega
    have mk : ∀ m4 : Mem, (∀ b j : Int, ¬ (b = 494 ∧ j = Fs.length) → m4 b j = m3 b j) → ((x = 3 ∨ x = 4 ∨ x = 6) → m4 494 Fs.length = prq np) → MR t m4 ib f0 (k + 1, op + 1, cs, (x, 0, 1, np, []) :: Fs, fl) := fun m4 g4 g5 => by
      refine ⟨?_, ?_, ?_, ?_, ?_, ?_, ?_, ?_, ?_⟩
      · dsimp only; rw [g4 _ _ (by omega), c36, eL]
      · dsimp only; rw [g4 _ _ (by omega), f3 _ _ (by omega), f2 _ _ (by omega)]; exact a37
      · dsimp only; rw [eT, g4 _ _ (by omega), F3 _ _ (by omega) (by omega)]; exact h39
      · dsimp only
        rw [eT]
        refine ⟨⟨by rw [g4 _ _ (by omega)]; exact c491, by rw [g4 _ _ (by omega)]; exact c492, by rw [g4 _ _ (by omega)]; exact c493, g5, ?_⟩, trivial, ?_⟩
        · rw [g4 _ _ (by omega), c495]
          show tot Fs = tot Fs - ((0 : Nat) : Int)
          omega
        · show FrR m4 Fs (tot Fs - ((0 : Nat) : Int))
          rw [show tot Fs - ((0 : Nat) : Int) = tot Fs by omega]
          exact hF.eq (fun b j z => by rw [g4 _ _ (by omega), F3 _ _ (by omega) (by omega)])
      · dsimp only; rw [g4 _ _ (by omega), F3 _ _ (by omega) (by omega)]; exact h28
      · rw [g4 _ _ (by omega), F3 _ _ (by omega) (by omega)]; exact h29
      · exact hR.eq' (fun j _ _ => by rw [g4 _ _ (by omega), g4 _ _ (by omega), F3 _ _ (by omega) (by omega), F3 _ _ (by omega) (by omega)]; exact ⟨rfl, rfl⟩)
      · rw [g4 _ _ (by omega), F3 _ _ (by omega) (by omega)]; exact h30
      · rw [g4 _ _ (by omega), F3 _ _ (by omega) (by omega)]; exact h8
    refine rn_s (Or.inr ⟨by omega, fun z => mk m3 (fun _ _ _ => rfl) (by omega), mk _ (fun b j z => mset_o z) (fun _ => mset_s rfl rfl), c36, by rw [F3 _ _ (by omega) (by omega)]; exact h8, hL.2.1 _ _ _ rt2 (fun b j z => f3 b j (by omega)), ?_⟩)
    exact ((f1.mono (fun b j z => by unfold FMs; omega)).trans (f2.mono (fun b j z => by unfold FMs; omega))).trans (f3.mono (fun b j z => by unfold FMs; omega))
theorem r_opens0 {N : Nat} {m : Mem} {x : Int} (h8 : 0 < m 475 8) : pM_opens N m x = some m := by
  unfold pM_opens
  by_cases q : m 475 37 = 7
  · rw [if_pos q, e_blame0 h8]
    show (if 0 < m 475 8 then some m else _) = _
    rw [if_pos h8]
  · rw [if_neg q, Option.bind_some, if_pos h8]
theorem MR.code {t m m2 : Mem} {ib f0 k op : Int} {cs : List (Int × Int)} {c : Int × Int} {kd ph ph' pr fl : Int} {ops : List Int} {Fs : List Fm} {s v : Int} (hm : MR t m ib f0 (k, op, cs, (kd, ph, 0, pr, ops) :: Fs, fl)) (hs : srt s v c.1 c.2) (e28 : m2 475 28 = f0 + cs.length + 1) (e488 : m2 488 (1600 * ib + (f0 + cs.length)) = s) (e489 : m2 489 (1600 * ib + (f0 + cs.length)) = v) (e492 : m2 492 Fs.length = ph') (F : ∀ b j : Int, ¬ (b = 475 ∧ ((3 ≤ j ∧ j ≤ 7) ∨ j = 12 ∨ j = 28)) → ¬ ((b = 488 ∨ b = 489) ∧ j = 1600 * ib + (f0 + cs.length)) → ¬ (b = 492 ∧ j = Fs.length) → m2 b j = m b j) : MR t m2 ib f0 (k + 1, op, cs ++ [c], (kd, ph', 0, pr, ops) :: Fs, 1) := by
  obtain ⟨h36, h37, h39, hF, h28, h29, hR, h30, h8⟩ := hm
  dsimp only at h36 h37 h39 hF h28 hR
  have eT : tot ((kd, ph', 0, pr, ops) :: Fs) = tot ((kd, ph, 0, pr, ops) :: Fs) := rfl
  refine ⟨?_, ?_, ?_, ?_, ?_, ?_, ?_, ?_, ?_⟩
  · dsimp only; rw [F _ _ (by omega) (by omega) (by omega)]; exact h36
  · dsimp only; rw [F _ _ (by omega) (by omega) (by omega)]; exact h37
  · dsimp only; rw [F _ _ (by omega) (by omega) (by omega)]; exact h39
  · dsimp only
    rw [eT]
    obtain ⟨⟨g1, g2, g3, g4, g5⟩, g6, g7⟩ := hF
    refine ⟨⟨?_, e492, ?_, fun z => ?_, ?_⟩, g6.eq (fun j _ _ => F _ _ (by omega) (by omega) (by omega)), g7.eq (fun b j z => F b j (by omega) (by omega) (by omega))⟩
    · rw [F _ _ (by omega) (by omega) (by omega)]; exact g1
    · rw [F _ _ (by omega) (by omega) (by omega)]; exact g3
    · rw [F _ _ (by omega) (by omega) (by omega)]; exact g4 z
    · rw [F _ _ (by omega) (by omega) (by omega)]; exact g5
  · dsimp only
    rw [e28, List.length_append]
    show f0 + (cs.length : Int) + 1 = f0 + ((cs.length + 1 : Nat) : Int)
    omega
  · rw [F _ _ (by omega) (by omega) (by omega)]; exact h29
  · dsimp only
    obtain ⟨c1, c2⟩ := c
    refine (hR.eq' (fun j z0 z1 => ?_)).snoc ?_
    · rw [F _ _ (by omega) (by omega) (by omega), F _ _ (by omega) (by omega) (by omega)]
      exact ⟨rfl, rfl⟩
    · rw [show 1600 * ib + f0 + (cs.length : Int) = 1600 * ib + (f0 + cs.length) by omega, e488, e489]
      exact hs
  · rw [F _ _ (by omega) (by omega) (by omega)]; exact h30
  · rw [F _ _ (by omega) (by omega) (by omega)]; exact h8
