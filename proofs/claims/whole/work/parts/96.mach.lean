/-! VALLEY, the sums: a machine with lists -/
def rk (o : Int) : Int := if o = 15 then 1 else if o = 14 then 2 else if o = 2 then 3 else if 11 ≤ o ∧ o ≤ 13 then 4 else if o = 4 ∨ o = 5 then 5 else 6
abbrev Fm := Int × Int × Int × Int × List Int
abbrev Mc := Int × Int × List (Int × Int) × List Fm × Int
abbrev Rz4 := Int × Int × List (Int × Int) × Int
def nots : List Int → Int
  | [] => 0
  | o :: os => (if o = 2 then 1 else 0) + nots os
def cod (P : List Int) : List (Int × Int) := P.map (fun o => (o, 0))
def flq (r : Int) : List Int → List Int × List Int
  | [] => ([], [])
  | o :: os => if r ≤ rk o then (o :: (flq r os).1, (flq r os).2) else ([], o :: os)
def plcT (t : Mem) (k : Int) : Int := if t 35 k = 27 then t 37 k else t 36 k
def opd (t : Mem) (k : Int) : Option (Int × Int) :=
  if t 35 k = 25 then some (0, t 37 k) else if t 35 k = 12 then some (1, 0) else if t 35 k = 13 then some (1, 1) else if t 35 k = 2 then some (1, 2) else if t 35 k = 14 then some (1, 3) else if t 35 k = 15 ∧ t 18 9 ≠ 8 then some (1, 4) else if t 35 k = 16 ∧ t 18 9 = 10 then some (1, 5) else if t 35 k = 6 ∧ t 18 9 = 10 then some (1, 6) else none
def mOpd (t : Mem) (k op : Int) (cs : List (Int × Int)) (kd ph bg pr : Int) (ops : List Int) (Fs : List Fm) : Mc ⊕ Rz4 :=
  if t 35 k = 20 ∧ bg = 1 ∧ (kd = 5 ∨ kd = 6) then (if op = 7 then .inr (5, t 36 k, cs, k) else .inl (k + 1, op + 1, cs, (kd, ph, bg, pr, 2 :: ops) :: Fs, 0))
  else if t 35 k = 91 ∧ bg = 1 ∧ (kd = 5 ∨ kd = 6) then (if op = 7 then .inr (5, t 36 k, cs, k) else .inl (k + 1, op + 1, cs, (5, 0, 1, 0, []) :: (kd, ph, 0, pr, ops) :: Fs, 0))
  else if t 35 k = 21 ∧ bg = 1 ∧ (kd = 5 ∨ kd = 6) then .inl (k + 1, op, cs ++ [(0, 1)], (kd, 2, 0, pr, ops) :: Fs, 1)
  else if t 35 k = 40 then (if op = 7 then .inr (5, t 36 k, cs, k) else .inl (k + 1, op + 1, cs, (2, 0, 1, 0, []) :: (kd, ph, 0, pr, ops) :: Fs, 0))
  else if t 35 k = 22 ∨ t 35 k = 23 ∨ t 35 k = 17 then (if t 35 (k + 1) ≠ 40 then .inr (1, plcT t (k + 1), cs, k + 1) else if op = 7 then .inr (5, t 36 (k + 1), cs, k + 1) else .inl (k + 2, op + 1, cs, (if t 35 k = 17 then 6 else 3, 0, 1, if t 35 k = 22 then 9 else if t 35 k = 23 then 10 else 3, []) :: (kd, ph, 0, pr, ops) :: Fs, 0))
  else match opd t k with
    | some c => .inl (k + 1, op, cs ++ [c], (kd, ph, 0, pr, ops) :: Fs, 1)
    | none => .inr (1, plcT t k, cs, k)
def aop (x : Int) : Int := if x = 43 then 4 else if x = 45 then 5 else if x = 42 then 6 else if x = 47 then 7 else 8
def cop (x : Int) : Int := if x = 60 then 11 else if x = 62 then 12 else 13
def mGo (t : Mem) (k op : Int) (cs : List (Int × Int)) (kd ph bg pr : Int) (ops : List Int) (Fs : List Fm) : Mc ⊕ Rz4 :=
  if t 35 k = 27 ∧ 2 ≤ kd then .inr (1, plcT t k, cs, k)
  else if ph < 2 ∧ (t 35 k = 43 ∨ t 35 k = 45) then .inl (k + 1, op - nots (flq 5 ops).1, cs ++ cod (flq 5 ops).1, (kd, ph, bg, pr, aop (t 35 k) :: (flq 5 ops).2) :: Fs, 0)
  else if ph < 2 ∧ (t 35 k = 42 ∨ t 35 k = 47 ∨ t 35 k = 37) then .inl (k + 1, op - nots (flq 6 ops).1, cs ++ cod (flq 6 ops).1, (kd, ph, bg, pr, aop (t 35 k) :: (flq 6 ops).2) :: Fs, 0)
  else if (kd = 5 ∨ kd = 6) ∧ ph = 0 ∧ (t 35 k = 60 ∨ t 35 k = 62 ∨ t 35 k = 61) then .inl (k + 1, op - nots (flq 5 ops).1, cs ++ cod (flq 5 ops).1, (kd, 1, bg, pr, cop (t 35 k) :: (flq 5 ops).2) :: Fs, 0)
  else if (kd = 5 ∨ kd = 6) ∧ (t 35 k = 19 ∨ t 35 k = 18) then (if ph = 0 then .inr (1, plcT t k, cs, k) else .inl (k + 1, op - nots (flq (if t 35 k = 19 then 2 else 1) ops).1, cs ++ cod (flq (if t 35 k = 19 then 2 else 1) ops).1, (kd, 0, 1, pr, (if t 35 k = 19 then 14 else 15) :: (flq (if t 35 k = 19 then 2 else 1) ops).2) :: Fs, 0))
  else if (kd = 5 ∨ kd = 6) ∧ ph = 0 then .inr (1, plcT t k, cs, k)
  else if kd < 2 then .inr (0, 0, cs ++ cod (flq 1 ops).1, k)
  else if kd = 3 ∨ kd = 6 then (if t 35 k = 44 then .inl (k + 1, op - nots (flq 1 ops).1, cs ++ cod (flq 1 ops).1, (if kd = 3 then 4 else 3, 0, bg, pr, (flq 1 ops).2) :: Fs, 0) else .inr (1, plcT t k, cs, k))
  else if t 35 k = (if kd = 5 then 93 else 41) then (match Fs with
    | [] => .inr (9, 0, cs, k)
    | F :: Gs => .inl (k + 1, op - nots (flq 1 ops).1 - 1, cs ++ cod (flq 1 ops).1 ++ (if kd = 4 then [(pr, 0)] else []), (F.1, if kd = 5 then 2 else F.2.1, F.2.2.1, F.2.2.2.1, F.2.2.2.2) :: Gs, 1))
  else .inr (1, plcT t k, cs, k)
def mstep (t : Mem) (C : Mc) : Mc ⊕ Rz4 := match C.2.2.2.1 with
  | [] => .inr (9, 0, C.2.2.1, C.1)
  | F :: Fs => if C.2.2.2.2 = 0 then mOpd t C.1 C.2.1 C.2.2.1 F.1 F.2.1 F.2.2.1 F.2.2.2.1 F.2.2.2.2 Fs else mGo t C.1 C.2.1 C.2.2.1 F.1 F.2.1 F.2.2.1 F.2.2.2.1 F.2.2.2.2 Fs
def mrun (t : Mem) : Nat → Mc → Mc ⊕ Rz4
  | 0, C => .inl C
  | n + 1, C => match mstep t C with
    | .inl D => mrun t n D
    | .inr r => .inr r
def Reach (t : Mem) (C D : Mc) : Prop := ∃ n, mrun t n C = .inl D
def Ends (t : Mem) (C : Mc) (r : Rz4) : Prop := ∃ n, mrun t n C = .inr r
theorem Reach.rfl' {t : Mem} {C : Mc} : Reach t C C := ⟨0, rfl⟩
theorem Reach.step {t : Mem} {C D E : Mc} (h : mstep t C = .inl D) (k : Reach t D E) : Reach t C E := by
  obtain ⟨n, e⟩ := k
  refine ⟨n + 1, ?_⟩
  show (match mstep t C with | .inl D => mrun t n D | .inr r => .inr r) = _
  rw [h]; exact e
theorem Ends.step {t : Mem} {C D : Mc} {r : Rz4} (h : mstep t C = .inl D) (k : Ends t D r) : Ends t C r := by
  obtain ⟨n, e⟩ := k
  refine ⟨n + 1, ?_⟩
  show (match mstep t C with | .inl D => mrun t n D | .inr r => .inr r) = _
  rw [h]; exact e
theorem Ends.now {t : Mem} {C : Mc} {r : Rz4} (h : mstep t C = .inr r) : Ends t C r := by
  refine ⟨1, ?_⟩
  show (match mstep t C with | .inl D => mrun t 0 D | .inr r => .inr r) = _
  rw [h]
theorem mrun_add (t : Mem) : ∀ (n : Nat) (C D : Mc), mrun t n C = .inl D → ∀ j, mrun t (n + j) C = mrun t j D
  | 0, C, D, h, j => by
    have h' : (.inl C : Mc ⊕ Rz4) = .inl D := h
    rw [Nat.zero_add, Sum.inl.inj h']
  | n + 1, C, D, h, j => by
    rw [show n + 1 + j = (n + j) + 1 by omega]
    have h' : (match mstep t C with | .inl D => mrun t n D | .inr r => .inr r) = (.inl D : Mc ⊕ Rz4) := h
    show (match mstep t C with | .inl D => mrun t (n + j) D | .inr r => .inr r) = _
    cases hm : mstep t C with
    | inl B =>
      rw [hm] at h'
      exact mrun_add t n B D h' j
    | inr r =>
      rw [hm] at h'
      cases h'
theorem Reach.trans {t : Mem} {C D E : Mc} (h : Reach t C D) (k : Reach t D E) : Reach t C E := by
  obtain ⟨n, e⟩ := h
  obtain ⟨j, e2⟩ := k
  exact ⟨n + j, by rw [mrun_add t n C D e j]; exact e2⟩
theorem Reach.ends {t : Mem} {C D : Mc} {r : Rz4} (h : Reach t C D) (k : Ends t D r) : Ends t C r := by
  obtain ⟨n, e⟩ := h
  obtain ⟨j, e2⟩ := k
  exact ⟨n + j, by rw [mrun_add t n C D e j]; exact e2⟩
def lowHd (r : Int) (ops : List Int) : Prop := ∀ o os, ops = o :: os → rk o < r
def allR (r : Int) (P : List Int) : Prop := ∀ o ∈ P, r ≤ rk o
theorem lowHd.mono {r r' : Int} {ops : List Int} (h : lowHd r ops) (hr : r ≤ r') : lowHd r' ops := fun o os e => by have := h o os e; omega
theorem lowHd.nil {r : Int} : lowHd r [] := fun o os e => by cases e
theorem lowHd.cons {r o : Int} {os : List Int} (h : rk o < r) : lowHd r (o :: os) := fun o' os' e => by cases e; exact h
theorem allR.mono {r r' : Int} {P : List Int} (h : allR r P) (hr : r' ≤ r) : allR r' P := fun o ho => by have := h o ho; omega
theorem allR.nil {r : Int} : allR r [] := fun o ho => by cases ho
theorem allR.app {r : Int} {P Q : List Int} (h : allR r P) (k : allR r Q) : allR r (P ++ Q) := fun o ho => by
  rcases List.mem_append.mp ho with q | q
  · exact h o q
  · exact k o q
theorem allR.one {r o : Int} (h : r ≤ rk o) : allR r [o] := fun x hx => by
  rw [List.mem_singleton] at hx; rw [hx]; exact h
theorem flq_low {r : Int} {ops : List Int} (h : lowHd r ops) : flq r ops = ([], ops) := by
  cases ops with
  | nil => rfl
  | cons o os =>
    have := h o os rfl
    show (if r ≤ rk o then _ else _) = _
    rw [if_neg (by omega)]
theorem flq_app {r : Int} {O : List Int} (hO : lowHd r O) : ∀ {P : List Int}, allR r P → flq r (P ++ O) = (P, O)
  | [], _ => flq_low hO
  | o :: P, h => by
    have h1 := h o (List.mem_cons_self ..)
    have h2 := flq_app hO (P := P) (fun x hx => h x (List.mem_cons_of_mem _ hx))
    show (if r ≤ rk o then (o :: (flq r (P ++ O)).1, (flq r (P ++ O)).2) else ([], o :: (P ++ O))) = _
    rw [if_pos h1, h2]
theorem cod_app (P Q : List Int) : cod (P ++ Q) = cod P ++ cod Q := List.map_append
theorem nots_app : ∀ (P Q : List Int), nots (P ++ Q) = nots P + nots Q
  | [], Q => by show nots Q = 0 + nots Q; omega
  | o :: P, Q => by
    show (if o = 2 then 1 else 0) + nots (P ++ Q) = ((if o = 2 then 1 else 0) + nots P) + nots Q
    rw [nots_app P Q]; omega
theorem nots_hi : ∀ {P : List Int}, allR 4 P → nots P = 0
  | [], _ => rfl
  | o :: P, h => by
    have h1 := h o (List.mem_cons_self ..)
    have h2 := nots_hi (P := P) (fun x hx => h x (List.mem_cons_of_mem _ hx))
    have h3 : o ≠ 2 := fun e => by rw [e] at h1; exact absurd h1 (by decide)
    show (if o = 2 then 1 else 0) + nots P = 0
    rw [if_neg h3, h2]; rfl
/-! the component's own state among the sums -/
def COs (m : Mem) (a : Int) (n : Nat) : List (Int × Int) := (List.range n).map (fun j : Nat => (a32 (m a (j : Int)) 15, shr32 (m a (j : Int)) 4))
theorem COs_len (m : Mem) (a : Int) (n : Nat) : (COs m a n).length = n := by simp [COs]
theorem COs_eq {m m' : Mem} {a : Int} {n : Nat} (h : ∀ j : Int, 0 ≤ j → j < n → m' a j = m a j) : COs m' a n = COs m a n := by
  unfold COs
  refine List.map_congr_left (fun j hj => ?_)
  have := List.mem_range.mp hj
  rw [h (j : Int) (by omega) (by omega)]
theorem COs_add {m : Mem} {a x : Int} {n : Nat} : COs (mset m a (n : Int) x) a (n + 1) = COs m a n ++ [(a32 x 15, shr32 x 4)] := by
  have h1 : COs (mset m a (n : Int) x) a (n + 1) = COs (mset m a (n : Int) x) a n ++ [(a32 (mset m a (n : Int) x a (n : Int)) 15, shr32 (mset m a (n : Int) x a (n : Int)) 4)] := by
    unfold COs
    rw [List.range_succ, List.map_append]
    rfl
  rw [h1, mset_s rfl rfl, COs_eq (m := m) (fun j h0 h1 => mset_o (by omega))]
theorem enc4 {k v : Int} (hk : 0 ≤ k ∧ k ≤ 15) (hv : 0 ≤ v ∧ v ≤ 9999) : o32 (shl32 v 4) k = v * 16 + k ∧ a32 (v * 16 + k) 15 = k ∧ shr32 (v * 16 + k) 4 = v := by
  obtain ⟨x, rfl⟩ := Int.eq_ofNat_of_zero_le hv.1
  obtain ⟨y, rfl⟩ := Int.eq_ofNat_of_zero_le hk.1
  have e1 : shl32 (x : Int) 4 = ((x * 16 : Nat) : Int) := by
    unfold shl32
    rw [nI_ofInt, pk_shlN (Int32.ofInt 4 &&& 31) 4 (by decide) (by omega), nI_toInt (by omega)]
  have e2 : nI (x * 16) ||| nI y = nI (x * 16 + y) := by
    have h1 : x * 16 + y = x * 16 ||| y := by
      have := Nat.shiftLeft_add_eq_or_of_lt (b := y) (i := 4) (by omega) x
      rw [Nat.shiftLeft_eq] at this
      exact this
    rw [h1]
    exact congrArg Int32.ofBitVec (BitVec.ofNat_or).symm
  have e3 : (x : Int) * 16 + (y : Int) = ((x * 16 + y : Nat) : Int) := by omega
  refine ⟨?_, ?_, ?_⟩
  · rw [e1]
    unfold o32
    rw [nI_ofInt, nI_ofInt, e2, nI_toInt (by omega)]
    omega
  · rw [e3]
    unfold a32
    rw [nI_ofInt, pk_andN (by omega) (m := Int32.ofInt 15) 4 rfl, nI_toInt (by omega)]
    omega
  · rw [e3]
    unfold shr32
    rw [nI_ofInt, pk_shrN (by omega) (Int32.ofInt 4 &&& 31) 4 (by decide), nI_toInt (by omega)]
    omega
def FCs (su : Int) : Int → Int → Prop := fun b j => (b = 18 ∧ (j = 1 ∨ j = 2 ∨ j = 7 ∨ j = 8)) ∨ (b = su ∧ j = 2) ∨ b = su + 1
def WT (t : Mem) : Prop := (1 ≤ t 18 6 ∧ t 18 6 ≤ 1601) ∧ (∀ k, 0 ≤ k → k < t 18 6 → t 35 k ≠ 26 → t 35 k ≠ 27 → k + 1 < t 18 6) ∧ (∀ k, 0 ≤ k → k < t 18 6 → t 35 k = 25 → 0 ≤ t 37 k ∧ t 37 k ≤ 9999) ∧ (t 18 10 = 26 ∨ t 18 10 = 29 ∨ t 18 10 = 32) ∧ (t 18 9 = 8 ∨ t 18 9 = 9 ∨ t 18 9 = 10)
def CS (t m : Mem) (k op : Int) (L : List (Int × Int)) : Prop := (0 ≤ k ∧ k < t 18 6) ∧ m 18 7 = k ∧ (0 ≤ op ∧ op ≤ 7) ∧ m 18 8 = op ∧ m (t 18 10) 2 = L.length ∧ COs m (t 18 10 + 1) L.length = L ∧ Fr (FCs (t 18 10)) t m
def BADc (t : Mem) (C : Mc) (m' : Mem) : Prop := ∃ kind cs' k', m' 18 1 = kind ∧ (kind = 1 ∨ kind = 5) ∧ Ends t C (kind, m' 18 2, cs', k') ∧ Fr (FCs (t 18 10)) t m'
theorem CS.tk {t m : Mem} {k op : Int} {L : List (Int × Int)} (hw : WT t) (h : CS t m k op L) (j : Int) : m 35 j = t 35 j ∧ m 36 j = t 36 j ∧ m 37 j = t 37 j ∧ m 18 6 = t 18 6 ∧ m 18 9 = t 18 9 ∧ m 18 10 = t 18 10 := by
  have hf := h.2.2.2.2.2.2
  have hs := hw.2.2.2.1
  exact ⟨hf _ _ (by unfold FCs; omega), hf _ _ (by unfold FCs; omega), hf _ _ (by unfold FCs; omega), hf _ _ (by unfold FCs; omega), hf _ _ (by unfold FCs; omega), hf _ _ (by unfold FCs; omega)⟩
theorem e_passC {t m : Mem} {k op : Int} {L : List (Int × Int)} (hw : WT t) (h : CS t m k op L) (h1 : t 35 k ≠ 26) (h2 : t 35 k ≠ 27) : pR_pass m = some (mset m 18 7 (k + 1)) ∧ CS t (mset m 18 7 (k + 1)) (k + 1) op L := by
  have ht := h.tk hw k
  have hs := hw.2.2.2.1
  have hz := hw.1
  obtain ⟨a1, a2, a3, a4, a5, a6, a7⟩ := id h
  have hk1 := hw.2.1 k a1.1 a1.2 h1 h2
  refine ⟨?_, ⟨by omega, hk1⟩, mset_s rfl rfl, a3, by rw [mset_o (by omega)]; exact a4, by rw [mset_o (by omega)]; exact a5, ?_, a7.set (by unfold FCs; omega)⟩
  · unfold pR_pass
    rw [a2, ht.2.2.2.1, w32_eq (x := t 18 6 - 1) (by omega) (by omega), w32_eq (x := k + 1) (by omega) (by omega), if_pos (by omega)]
    rfl
  · rw [COs_eq (m := m) (fun j _ _ => mset_o (by omega))]; exact a6
theorem c_astrayC {t m : Mem} {k op : Int} {L : List (Int × Int)} (hw : WT t) (h : CS t m k op L) : Rn (pR_astray m) (fun r => r.1 = 0 ∧ r.2 18 1 = 1 ∧ r.2 18 2 = plcT t k ∧ Fr (FCs (t 18 10)) t r.2) := by
  have ht := h.tk hw k
  have hs := hw.2.2.2.1
  have hz := hw.1
  obtain ⟨a1, a2, a3, a4, a5, a6, a7⟩ := id h
  unfold pR_astray
  refine rn_l (fun m1 hm1 => ?_)
  have e7 : m1 18 7 = k := by rw [hm1, mset_o (by omega)]; exact a2
  have e35 : m1 35 k = t 35 k := by rw [hm1, mset_o (by omega)]; exact ht.1
  have e36 : m1 36 k = t 36 k := by rw [hm1, mset_o (by omega)]; exact ht.2.1
  have e37 : m1 37 k = t 37 k := by rw [hm1, mset_o (by omega)]; exact ht.2.2.1
  have e1 : m1 18 1 = 1 := by rw [hm1, mset_s rfl rfl]
  have f1 : Fr (FCs (t 18 10)) t m1 := by rw [hm1]; exact a7.set (by unfold FCs; omega)
  clear hm1
  rw [e7, e35, e36, e37]
  refine rn_t (by omega) ?_
  have fin : ∀ x, x = plcT t k → Rn ((some (mset m1 18 2 x)).bind fun m41 => some ((0 : Int), m41)) (fun r => r.1 = 0 ∧ r.2 18 1 = 1 ∧ r.2 18 2 = plcT t k ∧ Fr (FCs (t 18 10)) t r.2) := fun x hx => rn_v (rn_s ⟨rfl, by dsimp only; rw [mset_o (by omega)]; exact e1, by dsimp only; rw [mset_s rfl rfl]; exact hx, f1.set (by unfold FCs; omega)⟩)
  refine rn_i (fun q => rn_t (by omega) (fin _ ?_)) (fun q => rn_t (by omega) (fin _ ?_))
  · unfold plcT; rw [if_pos q]
  · unfold plcT; rw [if_neg q]
theorem c_wrongC {t m : Mem} {k op x : Int} {L : List (Int × Int)} (hw : WT t) (h : CS t m k op L) : Rn (pR_wrong m x) (fun r => r.1 = 0 ∧ r.2 18 1 = x ∧ r.2 18 2 = t 36 k ∧ Fr (FCs (t 18 10)) t r.2) := by
  have ht := h.tk hw k
  have hs := hw.2.2.2.1
  have hz := hw.1
  obtain ⟨a1, a2, a3, a4, a5, a6, a7⟩ := id h
  unfold pR_wrong
  refine rn_l (fun m1 hm1 => ?_)
  have e7 : m1 18 7 = k := by rw [hm1, mset_o (by omega)]; exact a2
  have e36 : m1 36 k = t 36 k := by rw [hm1, mset_o (by omega)]; exact ht.2.1
  have e1 : m1 18 1 = x := by rw [hm1, mset_s rfl rfl]
  have f1 : Fr (FCs (t 18 10)) t m1 := by rw [hm1]; exact a7.set (by unfold FCs; omega)
  clear hm1
  rw [e7, e36]
  exact rn_t (by omega) (rn_v (rn_s ⟨rfl, by dsimp only; rw [mset_o (by omega)]; exact e1, by dsimp only; rw [mset_s rfl rfl], f1.set (by unfold FCs; omega)⟩))
theorem c_addC {t m : Mem} {k op c v : Int} {L : List (Int × Int)} (hw : WT t) (h : CS t m k op L) (hl : (L.length : Int) < 1600) (hc : 0 ≤ c ∧ c ≤ 15) (hv : 0 ≤ v ∧ v ≤ 9999) : Rn (pU_add m (m 18 10) c v) (fun m' => CS t m' k op (L ++ [(c, v)])) := by
  have ht := h.tk hw k
  have hs := hw.2.2.2.1
  obtain ⟨a1, a2, a3, a4, a5, a6, a7⟩ := id h
  have hen := enc4 hc hv
  unfold pU_add
  rw [ht.2.2.2.2.2, a5, hen.1]
  refine rn_t hl (rn_t (by omega) (rn_l (fun m1 hm1 => ?_)))
  have e5 : m1 (t 18 10) 2 = L.length := by rw [hm1, mset_o (by omega)]; exact a5
  rw [e5, w32_eq (x := (L.length : Int) + 1) (by omega) (by omega)]
  refine rn_l (fun m2 hm2 => rn_s ⟨a1, ?_, a3, ?_, ?_, ?_, ?_⟩)
  · rw [hm2, mset_o (by omega), hm1, mset_o (by omega)]; exact a2
  · rw [hm2, mset_o (by omega), hm1, mset_o (by omega)]; exact a4
  · rw [hm2, mset_s rfl rfl, List.length_append]
    show _ = ((L.length + 1 : Nat) : Int)
    omega
  · rw [List.length_append]
    show COs m2 (t 18 10 + 1) (L.length + 1) = _
    rw [hm2, COs_eq (m := m1) (fun j _ _ => mset_o (by omega)), hm1, COs_add, a6, hen.2.1, hen.2.2]
  · rw [hm2, hm1]
    exact (a7.set (by unfold FCs; omega)).set (by unfold FCs; omega)
theorem CS.opn {t m : Mem} {k op op' : Int} {L : List (Int × Int)} (hw : WT t) (h : CS t m k op L) (ho : 0 ≤ op' ∧ op' ≤ 7) : CS t (mset m 18 8 op') k op' L := by
  have hs := hw.2.2.2.1
  obtain ⟨a1, a2, a3, a4, a5, a6, a7⟩ := h
  refine ⟨a1, by rw [mset_o (by omega)]; exact a2, ho, mset_s rfl rfl, by rw [mset_o (by omega)]; exact a5, ?_, a7.set (by unfold FCs; omega)⟩
  rw [COs_eq (m := m) (fun j _ _ => mset_o (by omega))]; exact a6
theorem c_opensC {t m : Mem} {k op x : Int} {L : List (Int × Int)} (hw : WT t) (h : CS t m k op L) (hx : x ≠ 26 ∧ x ≠ 27) : Rn (pR_opens m x) (fun r => (r.1 = 1 ∧ t 35 k = x ∧ op < 7 ∧ CS t r.2 (k + 1) (op + 1) L) ∨ (r.1 = 0 ∧ t 35 k ≠ x ∧ r.2 18 1 = 1 ∧ r.2 18 2 = plcT t k ∧ Fr (FCs (t 18 10)) t r.2) ∨ (r.1 = 0 ∧ t 35 k = x ∧ op = 7 ∧ r.2 18 1 = 5 ∧ r.2 18 2 = t 36 k ∧ Fr (FCs (t 18 10)) t r.2)) := by
  have ht := h.tk hw k
  have hz := hw.1
  obtain ⟨a1, a2, a3, a4, a5, a6, a7⟩ := id h
  unfold pR_opens
  rw [a2, a4, ht.1, w32_eq (x := op + 1) (by omega) (by omega)]
  refine rn_t (by omega) (rn_i (fun q => ?_) (fun q => ?_))
  · refine rn_i (fun q2 => ?_) (fun q2 => ?_)
    · have h2 := h.opn hw (op' := op + 1) (by omega)
      refine rn_v ?_
      have hp := e_passC hw h2 (by omega) (by omega)
      refine rn_e hp.1 (rn_s (Or.inl ⟨rfl, q, q2, hp.2⟩))
    · refine rn_b2 (P := fun r m1 => r = 0 ∧ m1 18 1 = 5 ∧ m1 18 2 = t 36 k ∧ Fr (FCs (t 18 10)) t m1) (c_wrongC hw h) (fun r m1 hr => rn_s (Or.inr (Or.inr ⟨hr.1, q, by omega, hr.2⟩)))
  · refine rn_b2 (P := fun r m1 => r = 0 ∧ m1 18 1 = 1 ∧ m1 18 2 = plcT t k ∧ Fr (FCs (t 18 10)) t m1) (c_astrayC hw h) (fun r m1 hr => rn_s (Or.inr (Or.inl ⟨hr.1, q, hr.2⟩)))
theorem c_takeC {t m : Mem} {k op x : Int} {L : List (Int × Int)} (hw : WT t) (h : CS t m k op L) (hx : x ≠ 26 ∧ x ≠ 27) : Rn (pR_take m x) (fun r => (r.1 = 1 ∧ t 35 k = x ∧ CS t r.2 (k + 1) op L) ∨ (r.1 = 0 ∧ t 35 k ≠ x ∧ r.2 18 1 = 1 ∧ r.2 18 2 = plcT t k ∧ Fr (FCs (t 18 10)) t r.2)) := by
  have ht := h.tk hw k
  have hz := hw.1
  obtain ⟨a1, a2, a3, a4, a5, a6, a7⟩ := id h
  unfold pR_take
  rw [a2, ht.1]
  refine rn_t (by omega) (rn_i (fun q => ?_) (fun q => ?_))
  · have hp := e_passC hw h (by omega) (by omega)
    exact rn_e hp.1 (rn_s (Or.inl ⟨rfl, q, hp.2⟩))
  · exact rn_b2 (P := fun r m1 => r = 0 ∧ m1 18 1 = 1 ∧ m1 18 2 = plcT t k ∧ Fr (FCs (t 18 10)) t m1) (c_astrayC hw h) (fun r m1 hr => rn_s (Or.inr ⟨hr.1, q, hr.2⟩))
theorem c_closesC {t m : Mem} {k op x : Int} {L : List (Int × Int)} (hw : WT t) (h : CS t m k op L) (ho : 1 ≤ op) (hx : x ≠ 26 ∧ x ≠ 27) : Rn (pR_closes m x) (fun r => (r.1 = 1 ∧ t 35 k = x ∧ CS t r.2 (k + 1) (op - 1) L) ∨ (r.1 = 0 ∧ t 35 k ≠ x ∧ r.2 18 1 = 1 ∧ r.2 18 2 = plcT t k ∧ Fr (FCs (t 18 10)) t r.2)) := by
  have ht := h.tk hw k
  have hz := hw.1
  obtain ⟨a1, a2, a3, a4, a5, a6, a7⟩ := id h
  unfold pR_closes
  rw [a2, a4, ht.1, w32_eq (x := op - 1) (by omega) (by omega)]
  refine rn_t (by omega) (rn_i (fun q => ?_) (fun q => ?_))
  · have h2 := h.opn hw (op' := op - 1) (by omega)
    refine rn_v ?_
    have hp := e_passC hw h2 (by omega) (by omega)
    exact rn_e hp.1 (rn_s (Or.inl ⟨rfl, q, hp.2⟩))
  · exact rn_b2 (P := fun r m1 => r = 0 ∧ m1 18 1 = 1 ∧ m1 18 2 = plcT t k ∧ Fr (FCs (t 18 10)) t m1) (c_astrayC hw h) (fun r m1 hr => rn_s (Or.inr ⟨hr.1, q, hr.2⟩))
theorem c_tellC {t m : Mem} {k op c v : Int} {L : List (Int × Int)} (hw : WT t) (h : CS t m k op L) (hl : (L.length : Int) ≤ k) (h1 : t 35 k ≠ 26) (h2 : t 35 k ≠ 27) (hc : 0 ≤ c ∧ c ≤ 15) (hv : 0 ≤ v ∧ v ≤ 9999) : Rn (pR_tell m c v) (fun r => r.1 = 1 ∧ CS t r.2 (k + 1) op (L ++ [(c, v)])) := by
  have hk1 := hw.2.1 k h.1.1 h.1.2 h1 h2
  have hz := hw.1
  unfold pR_tell
  refine rn_b (c_addC hw h (by omega) hc hv) (fun m1 hm1 => ?_)
  have hp := e_passC hw hm1 h1 h2
  exact rn_e hp.1 (rn_s ⟨rfl, hp.2⟩)
