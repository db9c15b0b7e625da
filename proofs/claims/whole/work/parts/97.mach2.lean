/-! VALLEY, the sums: what the reading of a sum must do beside the machine -/
def GV (D b : Int) (E : List (Int × Int)) : Prop := ∀ fc : Int → Int, (∀ v, 0 ≤ v → v < 7 → big (fc v)) → ∀ st : List Int, (st.length : Int) + D ≤ 64 → ∃ v, big v ∧ (b = 1 → v = 0 ∨ v = 1) ∧ evs 64 fc E st = some (v :: st)
def FBx (t : Mem) (E : List (Int × Int)) : Prop := ∀ c ∈ E, c.1 = 1 → 0 ≤ c.2 ∧ c.2 < bnd (t 18 9 - 8)
theorem FBx.app {t : Mem} {E F : List (Int × Int)} (h : FBx t E) (k : FBx t F) : FBx t (E ++ F) := fun c hc => by
  rcases List.mem_append.mp hc with q | q
  · exact h c q
  · exact k c q
theorem FBx.op {t : Mem} {o : Int} (h : o ≠ 1) : FBx t [(o, 0)] := fun c hc e => by
  rw [List.mem_singleton] at hc
  rw [hc] at e
  exact absurd e h
theorem GV.mono {D D' b b' : Int} {E : List (Int × Int)} (h : GV D b E) (hD : D ≤ D') (hb : b' = 1 → b = 1) : GV D' b' E := fun fc hf st hs => by
  obtain ⟨v, h1, h2, h3⟩ := h fc hf st (by omega)
  exact ⟨v, h1, fun q => h2 (hb q), h3⟩
theorem GV.num {D b v : Int} (hD : 1 ≤ D) (hv : 0 ≤ v ∧ v ≤ 9999) (hb : b = 1 → v = 0 ∨ v = 1) : GV D b [(0, v)] := fun fc hf st hs => by
  refine ⟨v, by unfold big; omega, hb, ?_⟩
  show (st1 64 fc 0 v st).bind (evs 64 fc []) = _
  unfold st1
  rw [if_pos rfl, if_pos ⟨hv.1, hv.2, by omega⟩]
  rfl
theorem GV.fact {D v : Int} (hD : 1 ≤ D) (hv : 0 ≤ v ∧ v < 7) : GV D 0 [(1, v)] := fun fc hf st hs => by
  refine ⟨fc v, hf v hv.1 hv.2, fun q => absurd q (by decide), ?_⟩
  show (st1 64 fc 1 v st).bind (evs 64 fc []) = _
  unfold st1
  rw [if_neg (by decide), if_pos rfl, if_pos ⟨hv.1, hv.2, by omega⟩]
  rfl
theorem evs_3 {fc : Int → Int} {E1 E2 : List (Int × Int)} {o : Int} {st : List Int} {v1 v2 : Int} (h1 : evs 64 fc E1 st = some (v1 :: st)) (h2 : evs 64 fc E2 (v1 :: st) = some (v2 :: v1 :: st)) : evs 64 fc (E1 ++ E2 ++ [(o, 0)]) st = st1 64 fc o 0 (v2 :: v1 :: st) := by
  rw [evs_app, evs_app, h1, Option.bind_some, h2, Option.bind_some]
  show (st1 64 fc o 0 (v2 :: v1 :: st)).bind (evs 64 fc []) = _
  cases st1 64 fc o 0 (v2 :: v1 :: st) <;> rfl
theorem cl01 {x : Int} (h : x = 0 ∨ x = 1) : cl x = x := cl_id (by omega)
theorem GV.bin {D D1 D2 b1 b2 b o : Int} {E1 E2 : List (Int × Int)} (g1 : GV D1 b1 E1) (g2 : GV D2 b2 E2) (h1 : D1 ≤ D) (h2 : D2 + 1 ≤ D) (ho : 4 ≤ o ∧ o ≤ 15) (hb1 : 14 ≤ o → b1 = 1 ∧ b2 = 1) (hb : b = 1 → 11 ≤ o) : GV D b (E1 ++ E2 ++ [(o, 0)]) := fun fc hf st hs => by
  obtain ⟨v1, u1, u2, u3⟩ := g1 fc hf st (by omega)
  obtain ⟨v2, w1, w2, w3⟩ := g2 fc hf (v1 :: st) (by rw [List.length_cons]; omega)
  refine ⟨op2 o v1 v2, op2_big _ _ _, fun q => ?_, ?_⟩
  · have h11 := hb q
    unfold op2 raw2
    rw [if_neg (by omega), if_neg (by omega), if_neg (by omega), if_neg (by omega), if_neg (by omega), if_neg (by omega), if_neg (by omega)]
    by_cases q11 : o = 11
    · rw [if_pos q11]
      have : (if v1 < v2 then (1 : Int) else 0) = 0 ∨ (if v1 < v2 then (1 : Int) else 0) = 1 := by split <;> omega
      rw [cl01 this]; exact this
    rw [if_neg q11]
    by_cases q12 : o = 12
    · rw [if_pos q12]
      have : (if v2 < v1 then (1 : Int) else 0) = 0 ∨ (if v2 < v1 then (1 : Int) else 0) = 1 := by split <;> omega
      rw [cl01 this]; exact this
    rw [if_neg q12]
    by_cases q13 : o = 13
    · rw [if_pos q13]
      have : (if v1 = v2 then (1 : Int) else 0) = 0 ∨ (if v1 = v2 then (1 : Int) else 0) = 1 := by split <;> omega
      rw [cl01 this]; exact this
    rw [if_neg q13]
    have hbb := hb1 (by omega)
    have hab := b_and64 v1 v2 (u2 hbb.1) (w2 hbb.2)
    split
    · rw [cl01 hab.2.2.1]; exact hab.2.2.1
    · rw [cl01 hab.2.2.2]; exact hab.2.2.2
  · rw [evs_3 u3 w3]
    unfold st1
    rw [if_neg (by omega), if_neg (by omega), if_neg (by omega), if_neg (by omega), if_pos ho]
    show (if 14 ≤ o → ((v1 = 0 ∨ v1 = 1) ∧ (v2 = 0 ∨ v2 = 1)) then some (op2 o v1 v2 :: st) else none) = _
    rw [if_pos (fun q => ⟨u2 (hb1 q).1, w2 (hb1 q).2⟩)]
theorem GV.not {D D1 : Int} {E : List (Int × Int)} (g : GV D1 1 E) (h : D1 ≤ D) : GV D 1 (E ++ [(2, 0)]) := fun fc hf st hs => by
  obtain ⟨v, u1, u2, u3⟩ := g fc hf st (by omega)
  have hv := u2 rfl
  refine ⟨1 - v, by unfold big; omega, fun _ => by omega, ?_⟩
  rw [evs_app, u3, Option.bind_some]
  show (st1 64 fc 2 0 (v :: st)).bind (evs 64 fc []) = _
  unfold st1
  rw [if_neg (by decide), if_neg (by decide), if_pos rfl]
  show (if v = 0 ∨ v = 1 then some ((1 - v) :: st) else none).bind _ = _
  rw [if_pos hv]
  rfl
theorem GV.cho {D D1 D2 D3 : Int} {E1 E2 E3 : List (Int × Int)} (g1 : GV D1 1 E1) (g2 : GV D2 0 E2) (g3 : GV D3 0 E3) (h1 : D1 ≤ D) (h2 : D2 + 1 ≤ D) (h3 : D3 + 2 ≤ D) : GV D 0 (E1 ++ E2 ++ E3 ++ [(3, 0)]) := fun fc hf st hs => by
  obtain ⟨v1, u1, u2, u3⟩ := g1 fc hf st (by omega)
  obtain ⟨v2, w1, w2, w3⟩ := g2 fc hf (v1 :: st) (by rw [List.length_cons]; omega)
  obtain ⟨v3, x1, x2, x3⟩ := g3 fc hf (v2 :: v1 :: st) (by rw [List.length_cons, List.length_cons]; omega)
  have hv := u2 rfl
  refine ⟨if v1 = 1 then v2 else v3, by split <;> assumption, fun q => absurd q (by decide), ?_⟩
  rw [evs_app, evs_app, evs_app, u3, Option.bind_some, w3, Option.bind_some, x3, Option.bind_some]
  show (st1 64 fc 3 0 (v3 :: v2 :: v1 :: st)).bind (evs 64 fc []) = _
  unfold st1
  rw [if_neg (by decide), if_neg (by decide), if_neg (by decide), if_pos rfl]
  show (if v1 = 0 ∨ v1 = 1 then some ((if v1 = 1 then v2 else v3) :: st) else none).bind _ = _
  rw [if_pos hv]
  rfl
def OKc (t : Mem) (C : Mc) (m' : Mem) (L : List (Int × Int)) (k op D b rmin kd : Int) (stp : Int → Int → Prop) (pr : Int) (ops : List Int) (Fs : List Fm) : Prop := ∃ (j : Int) (E : List (Int × Int)) (P : List Int) (cs1 : List (Int × Int)) (ph' : Int), k < j ∧ CS t m' j op (L ++ E) ∧ (E.length : Int) ≤ j - k ∧ GV D b E ∧ FBx t E ∧ Reach t C (j, op + nots P, cs1, (kd, ph', 0, pr, P ++ ops) :: Fs, 1) ∧ cs1 ++ cod P = L ++ E ∧ allR rmin P ∧ stp ph' (t 35 j)
def PJ (t : Mem) (C : Mc) (L : List (Int × Int)) (k op D b rmin kd : Int) (stp : Int → Int → Prop) (pr : Int) (ops : List Int) (Fs : List Fm) (r : Int × Mem) : Prop := (r.1 = 1 ∧ OKc t C r.2 L k op D b rmin kd stp pr ops Fs) ∨ (r.1 = 0 ∧ BADc t C r.2)
def ar3 (x : Int) : Prop := x = 42 ∨ x = 47 ∨ x = 37
def ar5 (x : Int) : Prop := x = 43 ∨ x = 45 ∨ x = 42 ∨ x = 47 ∨ x = 37
/-- sums, products, parts -/
def JA (N : Nat) (t : Mem) (f w : Nat) (rmin cF cD : Int) (st : Int → Prop) : Prop := ∀ (k op : Int) (L : List (Int × Int)) (kd ph bg pr : Int) (ops : List Int) (Fs : List Fm) (m : Mem) (x : Int), cF + 10 * (7 - op) ≤ f → CS t m k op L → (L.length : Int) ≤ k → ph < 2 → (t 35 k = 20 ∨ t 35 k = 91 ∨ t 35 k = 21 → ¬ (bg = 1 ∧ (kd = 5 ∨ kd = 6))) → lowHd rmin ops → Rn (pgR N f w x m) (PJ t (k, op, L, (kd, ph, bg, pr, ops) :: Fs, 0) L k op (cD - 5 * op) 0 rmin kd (fun p x => p = ph ∧ st x) pr ops Fs)
/-- tests -/
def JT (N : Nat) (t : Mem) (f w : Nat) (rmin lo cF cD : Int) (pre : Int → Prop) (st : Int → Prop) : Prop := ∀ (k op : Int) (L : List (Int × Int)) (kd pr : Int) (ops : List Int) (Fs : List Fm) (m : Mem) (x : Int), cF + 10 * (7 - op) ≤ f → CS t m k op L → (L.length : Int) ≤ k → (kd = 5 ∨ kd = 6) → pre (t 35 k) → lowHd lo ops → Rn (pgR N f w x m) (PJ t (k, op, L, (kd, 0, 1, pr, ops) :: Fs, 0) L k op (cD - 5 * op) 1 rmin kd (fun p x => (p = 1 ∨ p = 2) ∧ (p = 1 → ¬ ar5 x) ∧ st x) pr ops Fs)
/-- pairs and choices -/
def JP (N : Nat) (t : Mem) (f w : Nat) : Prop := ∀ (k op : Int) (L : List (Int × Int)) (kd ph bg pr : Int) (ops : List Int) (Fs : List Fm) (m : Mem) (x : Int), 1 + 10 * (7 - op) ≤ f → CS t m k op L → (L.length : Int) ≤ k → ((w = 3 ∧ ((t 35 k = 22 ∧ x = 9) ∨ (t 35 k = 23 ∧ x = 10))) ∨ (w = 4 ∧ t 35 k = 17)) → Rn (pgR N f w x m) (PJ t (k, op, L, (kd, ph, bg, pr, ops) :: Fs, 0) L k op (36 - 5 * op) 0 7 kd (fun p _ => p = ph) pr ops Fs)
def SJ (N : Nat) (t : Mem) (f : Nat) : Prop := JA N t f 0 5 4 38 (fun x => ¬ ar5 x) ∧ JA N t f 1 6 3 37 (fun x => ¬ ar3 x) ∧ JA N t f 2 7 2 36 (fun _ => True) ∧ JP N t f 3 ∧ JP N t f 4 ∧ JT N t f 5 1 1 8 41 (fun _ => True) (fun x => x ≠ 19 ∧ x ≠ 18) ∧ JT N t f 6 2 2 7 40 (fun _ => True) (fun x => x ≠ 19) ∧ JT N t f 7 3 4 6 39 (fun _ => True) (fun _ => True) ∧ JT N t f 8 3 4 1 39 (fun x => x = 20) (fun _ => True) ∧ JT N t f 9 4 4 5 39 (fun x => x ≠ 20 ∧ x ≠ 91 ∧ x ≠ 21) (fun _ => True)
theorem gR_0 (N f : Nat) (x : Int) (m : Mem) : pgR N (f + 1) 0 x m = pR_readSum_b N (pgR N f) m := rfl
theorem gR_1 (N f : Nat) (x : Int) (m : Mem) : pgR N (f + 1) 1 x m = pR_readProduct_b N (pgR N f) m := rfl
theorem gR_2 (N f : Nat) (x : Int) (m : Mem) : pgR N (f + 1) 2 x m = pR_readPart_b N (pgR N f) m := rfl
theorem gR_3 (N f : Nat) (x : Int) (m : Mem) : pgR N (f + 1) 3 x m = pR_readPair_b N (pgR N f) m x := rfl
theorem gR_4 (N f : Nat) (x : Int) (m : Mem) : pgR N (f + 1) 4 x m = pR_readChoice_b N (pgR N f) m := rfl
theorem gR_5 (N f : Nat) (x : Int) (m : Mem) : pgR N (f + 1) 5 x m = pR_readTest_b N (pgR N f) m := rfl
theorem gR_6 (N f : Nat) (x : Int) (m : Mem) : pgR N (f + 1) 6 x m = pR_readBoth_b N (pgR N f) m := rfl
theorem gR_7 (N f : Nat) (x : Int) (m : Mem) : pgR N (f + 1) 7 x m = pR_readFact_b N (pgR N f) m := rfl
theorem gR_8 (N f : Nat) (x : Int) (m : Mem) : pgR N (f + 1) 8 x m = pR_readNot_b N (pgR N f) m := rfl
theorem gR_9 (N f : Nat) (x : Int) (m : Mem) : pgR N (f + 1) 9 x m = pR_readComparison_b N (pgR N f) m := rfl
theorem allR7 {P : List Int} (h : allR 7 P) : P = [] := by
  cases P with
  | nil => rfl
  | cons o os =>
    have h1 := h o (List.mem_cons_self ..)
    exfalso
    unfold rk at h1
    (repeat' split at h1) <;> omega
theorem lowHd7 (ops : List Int) : lowHd 7 ops := fun o os _ => by
  unfold rk
  (repeat' split) <;> omega
theorem step_op {t : Mem} {k op : Int} {cs : List (Int × Int)} {kd ph bg pr : Int} {ops : List Int} {Fs : List Fm} : mstep t (k, op, cs, (kd, ph, bg, pr, ops) :: Fs, 0) = mOpd t k op cs kd ph bg pr ops Fs := rfl
theorem step_go {t : Mem} {k op : Int} {cs : List (Int × Int)} {kd ph bg pr : Int} {ops : List Int} {Fs : List Fm} : mstep t (k, op, cs, (kd, ph, bg, pr, ops) :: Fs, 1) = mGo t k op cs kd ph bg pr ops Fs := rfl
theorem j_tell {t m : Mem} {k op : Int} {L : List (Int × Int)} {kd ph bg pr : Int} {ops : List Int} {Fs : List Fm} {a v D : Int} (hw : WT t) (h : CS t m k op L) (hl : (L.length : Int) ≤ k) (hop : opd t k = some (a, v)) (hn : t 35 k ≠ 20 ∧ t 35 k ≠ 91 ∧ t 35 k ≠ 21 ∧ t 35 k ≠ 40 ∧ t 35 k ≠ 22 ∧ t 35 k ≠ 23 ∧ t 35 k ≠ 17 ∧ t 35 k ≠ 26 ∧ t 35 k ≠ 27) (hD : 1 ≤ D) (hc : (a = 0 ∧ 0 ≤ v ∧ v ≤ 9999) ∨ (a = 1 ∧ 0 ≤ v ∧ v < bnd (t 18 9 - 8))) : Rn ((pR_tell m a v).bind fun (r, m1) => some (r, m1)) (PJ t (k, op, L, (kd, ph, bg, pr, ops) :: Fs, 0) L k op D 0 7 kd (fun p _ => p = ph ∧ True) pr ops Fs) := by
  have hb7 := bnd_le (t 18 9 - 8)
  refine rn_b2 (P := fun r m1 => r = 1 ∧ CS t m1 (k + 1) op (L ++ [(a, v)])) (c_tellC hw h hl hn.2.2.2.2.2.2.2.1 hn.2.2.2.2.2.2.2.2 (by omega) (by omega)) (fun r m1 hr => rn_s (Or.inl ⟨hr.1, k + 1, [(a, v)], [], L ++ [(a, v)], ph, by omega, hr.2, by show ((1 : Nat) : Int) ≤ _; omega, ?_, ?_, ?_, by rw [show cod [] = [] from rfl, List.append_nil], allR.nil, rfl, trivial⟩))
  · rcases hc with hc | hc
    · rw [hc.1]; exact GV.num hD hc.2 (fun q => absurd q (by decide))
    · rw [hc.1]; exact GV.fact hD (by omega)
  · intro c hcm e
    rw [List.mem_singleton] at hcm
    rw [hcm] at e ⊢
    dsimp only at e ⊢
    omega
  · refine Reach.step ?_ Reach.rfl'
    rw [step_op]
    unfold mOpd
    rw [if_neg (by omega), if_neg (by omega), if_neg (by omega), if_neg (by omega), if_neg (by omega), hop]
    show (Sum.inl (k + 1, op, L ++ [(a, v)], (kd, ph, 0, pr, ops) :: Fs, 1) : Mc ⊕ Rz4) = Sum.inl (k + 1, op + 0, L ++ [(a, v)], (kd, ph, 0, pr, [] ++ ops) :: Fs, 1)
    rw [Int.add_zero, List.nil_append]
theorem j_stray {t m : Mem} {k op : Int} {L : List (Int × Int)} {C : Mc} {Q : Int × Mem → Prop} (hw : WT t) (h : CS t m k op L) (he : ∃ cs', Ends t C (1, plcT t k, cs', k)) (hQ : ∀ r, r.1 = 0 → BADc t C r.2 → Q r) : Rn ((pR_astray m).bind fun (r, m1) => some (r, m1)) Q := by
  obtain ⟨cs', he⟩ := he
  refine rn_b2 (P := fun r m1 => r = 0 ∧ m1 18 1 = 1 ∧ m1 18 2 = plcT t k ∧ Fr (FCs (t 18 10)) t m1) (c_astrayC hw h) (fun r m1 hr => rn_s (hQ _ hr.1 ⟨1, cs', k, hr.2.1, Or.inl rfl, by dsimp only; rw [hr.2.2.1]; exact he, hr.2.2.2⟩))
