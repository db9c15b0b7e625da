/-! VALLEY, the sums: what always holds of the machine -/
def dsc : Int → List Int → Prop
  | _, [] => True
  | b, o :: os => rk o ≤ b ∧ (o = 2 → dsc 3 os) ∧ (o ≠ 2 → dsc (rk o - 1) os)
theorem dsc.mono : ∀ {ops : List Int} {b b' : Int}, dsc b ops → b ≤ b' → dsc b' ops
  | [], _, _, _, _ => trivial
  | _ :: _, _, _, h, hb => ⟨Int.le_trans h.1 hb, h.2⟩
theorem rk_rng (o : Int) : 1 ≤ rk o ∧ rk o ≤ 6 := by
  unfold rk
  (repeat' split) <;> omega
theorem rk2 : rk 2 = 3 := rfl
theorem dsc.low {r : Int} : ∀ {ops : List Int} {b : Int}, dsc b ops → dsc (r - 1) (flq r ops).2
  | [], _, _ => trivial
  | o :: os, b, h => by
    show dsc (r - 1) (if r ≤ rk o then (o :: (flq r os).1, (flq r os).2) else ([], o :: os)).2
    by_cases q : r ≤ rk o
    · rw [if_pos q]
      by_cases q2 : o = 2
      · exact dsc.low (h.2.1 q2)
      · exact dsc.low (h.2.2 q2)
    · rw [if_neg q]
      exact ⟨by omega, h.2⟩
theorem dsc.len : ∀ {ops : List Int} {b : Int}, dsc b ops → 0 ≤ b → (ops.length : Int) ≤ b + nots ops ∧ 0 ≤ nots ops
  | [], b, _, hb => by
    show ((0 : Nat) : Int) ≤ b + 0 ∧ (0 : Int) ≤ 0
    omega
  | o :: os, b, h, hb => by
    have hr := rk_rng o
    have h1 := h.1
    show ((os.length + 1 : Nat) : Int) ≤ b + ((if o = 2 then 1 else 0) + nots os) ∧ 0 ≤ (if o = 2 then 1 else 0) + nots os
    by_cases q : o = 2
    · have h2 := dsc.len (h.2.1 q) (by omega)
      rw [if_pos q]
      rw [q, rk2] at h1
      omega
    · have h2 := dsc.len (h.2.2 q) (by omega)
      rw [if_neg q]
      omega
theorem flq_join (r : Int) : ∀ ops : List Int, (flq r ops).1 ++ (flq r ops).2 = ops
  | [] => rfl
  | o :: os => by
    show (if r ≤ rk o then (o :: (flq r os).1, (flq r os).2) else ([], o :: os)).1 ++ (if r ≤ rk o then (o :: (flq r os).1, (flq r os).2) else ([], o :: os)).2 = o :: os
    by_cases q : r ≤ rk o
    · rw [if_pos q]
      show o :: ((flq r os).1 ++ (flq r os).2) = o :: os
      rw [flq_join r os]
    · rw [if_neg q]; rfl
theorem flq_two {r r' : Int} (h : r ≤ r') : ∀ ops : List Int, (flq r (flq r' ops).2).2 = (flq r ops).2
  | [] => rfl
  | o :: os => by
    show (flq r (if r' ≤ rk o then (o :: (flq r' os).1, (flq r' os).2) else ([], o :: os)).2).2 = _
    by_cases q : r' ≤ rk o
    · rw [if_pos q]
      show (flq r (flq r' os).2).2 = (if r ≤ rk o then (o :: (flq r os).1, (flq r os).2) else ([], o :: os)).2
      rw [if_pos (by omega), flq_two h os]
    · rw [if_neg q]
theorem flq_nots (r : Int) (ops : List Int) : nots (flq r ops).1 + nots (flq r ops).2 = nots ops := by
  rw [← nots_app, flq_join]
theorem flq_len (r : Int) (ops : List Int) : (flq r ops).1.length + (flq r ops).2.length = ops.length := by
  rw [← List.length_append, flq_join]
def OpV (ops : List Int) : Prop := ∀ o ∈ ops, o = 2 ∨ (4 ≤ o ∧ o ≤ 8) ∨ (11 ≤ o ∧ o ≤ 15)
theorem OpV.rest {r : Int} {ops : List Int} (h : OpV ops) : OpV (flq r ops).2 := fun o ho => h o (by rw [← flq_join r ops]; exact List.mem_append_right _ ho)
theorem OpV.pop {r : Int} {ops : List Int} (h : OpV ops) : OpV (flq r ops).1 := fun o ho => h o (by rw [← flq_join r ops]; exact List.mem_append_left _ ho)
theorem OpV.cons {o : Int} {ops : List Int} (h : OpV ops) (ho : o = 2 ∨ (4 ≤ o ∧ o ≤ 8) ∨ (11 ≤ o ∧ o ≤ 15)) : OpV (o :: ops) := fun x hx => by
  rcases List.mem_cons.mp hx with rfl | q
  · exact ho
  · exact h x q
def FI (F : Fm) : Prop := OpV F.2.2.2.2 ∧ dsc 6 F.2.2.2.2 ∧ ((F.1 = 5 ∨ F.1 = 6) ∧ F.2.1 = 0 → dsc 3 (flq 5 F.2.2.2.2).2) ∧ ((F.1 = 5 ∨ F.1 = 6) ∧ F.2.2.1 = 1 → dsc 3 F.2.2.2.2) ∧ (0 ≤ F.2.1 ∧ F.2.1 ≤ 2) ∧ (F.2.2.1 = 0 ∨ F.2.2.1 = 1) ∧ ((F.1 = 3 ∨ F.1 = 4 ∨ F.1 = 6) → F.2.2.2.1 = 3 ∨ F.2.2.2.1 = 9 ∨ F.2.2.2.1 = 10)
def FIs : List Fm → Prop
  | [] => True
  | F :: Fs => FI F ∧ F.2.2.1 = 0 ∧ ((F.1 = 0 ∧ Fs = []) ∨ ((2 ≤ F.1 ∧ F.1 ≤ 6) ∧ Fs ≠ [])) ∧ FIs Fs
def tot : List Fm → Int
  | [] => 0
  | F :: Fs => F.2.2.2.2.length + tot Fs
def nto : List Fm → Int
  | [] => 0
  | F :: Fs => nots F.2.2.2.2 + nto Fs
def npr : List Fm → Int
  | [] => 0
  | F :: Fs => (if F.1 = 3 ∨ F.1 = 4 ∨ F.1 = 6 then 1 else 0) + npr Fs
def MI (f0 : Int) (C : Mc) : Prop := ∃ (F : Fm) (Fs : List Fm), C.2.2.2.1 = F :: Fs ∧ FI F ∧ ((F.1 = 0 ∧ Fs = []) ∨ ((2 ≤ F.1 ∧ F.1 ≤ 6) ∧ Fs ≠ [])) ∧ FIs Fs ∧ (C.2.2.2.2 = 1 → F.2.2.1 = 0) ∧ (C.2.2.2.2 = 0 ∨ C.2.2.2.2 = 1) ∧ C.2.1 = Fs.length + nto (F :: Fs) ∧ (0 ≤ C.2.1 ∧ C.2.1 ≤ 7) ∧ 0 ≤ f0 ∧ f0 + C.2.2.1.length + tot (F :: Fs) + npr (F :: Fs) ≤ C.1
theorem tot_nn : ∀ Fs, 0 ≤ tot Fs
  | [] => Int.le_refl _
  | F :: Fs => by
    have := tot_nn Fs
    show 0 ≤ (F.2.2.2.2.length : Int) + tot Fs
    omega
theorem npr_nn : ∀ Fs, 0 ≤ npr Fs
  | [] => Int.le_refl _
  | F :: Fs => by
    have := npr_nn Fs
    show 0 ≤ (if F.1 = 3 ∨ F.1 = 4 ∨ F.1 = 6 then (1 : Int) else 0) + npr Fs
    split <;> omega
theorem FIs.bnd : ∀ {Fs : List Fm}, FIs Fs → tot Fs ≤ 6 * Fs.length + nto Fs ∧ 0 ≤ nto Fs
  | [], _ => by
    show (0 : Int) ≤ 6 * ((0 : Nat) : Int) + 0 ∧ (0 : Int) ≤ 0
    omega
  | F :: Fs, h => by
    have h1 := FIs.bnd h.2.2.2
    have h2 := dsc.len h.1.2.1 (by decide)
    show (F.2.2.2.2.length : Int) + tot Fs ≤ 6 * ((Fs.length + 1 : Nat) : Int) + (nots F.2.2.2.2 + nto Fs) ∧ 0 ≤ nots F.2.2.2.2 + nto Fs
    omega
/-- room: few frames, few pending -/
theorem MI.room {f0 : Int} {C : Mc} (h : MI f0 C) : ∃ (F : Fm) (Fs : List Fm), C.2.2.2.1 = F :: Fs ∧ (Fs.length : Int) ≤ 7 ∧ tot (F :: Fs) ≤ 55 ∧ f0 + C.2.2.1.length ≤ C.1 := by
  obtain ⟨F, Fs, h1, h2, h3, h4, h5, h6, h7, h8, h9, h10⟩ := h
  have b1 := h4.bnd
  have b2 := dsc.len h2.2.1 (by decide)
  have b3 := tot_nn (F :: Fs)
  have b4 := npr_nn (F :: Fs)
  have e1 : nto (F :: Fs) = nots F.2.2.2.2 + nto Fs := rfl
  have e2 : tot (F :: Fs) = F.2.2.2.2.length + tot Fs := rfl
  exact ⟨F, Fs, h1, by omega, by omega, by omega⟩
theorem cod_len (P : List Int) : (cod P).length = P.length := List.length_map ..
theorem FI.ops {kd ph bg pr ph' bg' : Int} {ops ops' : List Int} (h : FI (kd, ph, bg, pr, ops)) (hv : OpV ops') (hd : dsc 6 ops') (h3 : (kd = 5 ∨ kd = 6) ∧ ph' = 0 → dsc 3 (flq 5 ops').2) (h4 : (kd = 5 ∨ kd = 6) ∧ bg' = 1 → dsc 3 ops') (hp : 0 ≤ ph' ∧ ph' ≤ 2) (hb : bg' = 0 ∨ bg' = 1) : FI (kd, ph', bg', pr, ops') := ⟨hv, hd, h3, h4, hp, hb, h.2.2.2.2.2.2⟩
theorem FI.new {kd pr : Int} (hp : (kd = 3 ∨ kd = 4 ∨ kd = 6) → pr = 3 ∨ pr = 9 ∨ pr = 10) : FI (kd, 0, 1, pr, []) := ⟨fun o ho => (by cases ho), trivial, fun _ => trivial, fun _ => trivial, ⟨Int.le_refl _, (show (0 : Int) ≤ 2 by decide)⟩, Or.inr rfl, hp⟩
theorem mi_op {t : Mem} {f0 k op : Int} {cs : List (Int × Int)} {kd ph bg pr : Int} {ops : List Int} {Fs : List Fm} {D : Mc} (h : MI f0 (k, op, cs, (kd, ph, bg, pr, ops) :: Fs, 0)) (e : mOpd t k op cs kd ph bg pr ops Fs = .inl D) : MI f0 D := by
  obtain ⟨F, Gs, h1, h2, h3, h4, h5, h6, h7, h8, h9, h10⟩ := h
  have h1' : (kd, ph, bg, pr, ops) :: Fs = F :: Gs := h1
  injection h1' with g1 g2
  subst g1 g2
  dsimp only at h3 h5 h6 h7 h8 h10
  have hT : tot ((kd, ph, bg, pr, ops) :: Fs) = ops.length + tot Fs := rfl
  have hN : nto ((kd, ph, bg, pr, ops) :: Fs) = nots ops + nto Fs := rfl
  have hP : npr ((kd, ph, bg, pr, ops) :: Fs) = (if kd = 3 ∨ kd = 4 ∨ kd = 6 then 1 else 0) + npr Fs := rfl
  rw [hT, hP] at h10
  rw [hN] at h7
  have hFI0 : FI (kd, ph, 0, pr, ops) := h2.ops h2.1 h2.2.1 h2.2.2.1 (fun c => absurd c.2 (by decide)) h2.2.2.2.2.1 (Or.inl rfl)
  have hlow : FIs ((kd, ph, 0, pr, ops) :: Fs) := ⟨hFI0, rfl, h3, h4⟩
  -- a new frame on top
  have push : ∀ (k' nk np : Int), (2 ≤ nk ∧ nk ≤ 6) → ((nk = 3 ∨ nk = 4 ∨ nk = 6) → (np = 3 ∨ np = 9 ∨ np = 10) ∧ k + 2 ≤ k') → k ≤ k' → op < 7 → MI f0 (k', op + 1, cs, (nk, 0, 1, np, []) :: (kd, ph, 0, pr, ops) :: Fs, 0) := fun k' nk np n1 n2 n3 n4 => by
    refine ⟨(nk, 0, 1, np, []), (kd, ph, 0, pr, ops) :: Fs, rfl, FI.new (fun q => (n2 q).1), Or.inr ⟨n1, fun c => by cases c⟩, hlow, fun c => absurd (show (0 : Int) = 1 from c) (by decide), Or.inl rfl, ?_, ⟨by dsimp only; omega, by dsimp only; omega⟩, h9, ?_⟩
    · show op + 1 = ((Fs.length + 1 : Nat) : Int) + (0 + (nots ops + nto Fs))
      omega
    · show f0 + (cs.length : Int) + (((0 : Nat) : Int) + (ops.length + tot Fs)) + ((if nk = 3 ∨ nk = 4 ∨ nk = 6 then 1 else 0) + ((if kd = 3 ∨ kd = 4 ∨ kd = 6 then 1 else 0) + npr Fs)) ≤ k'
      by_cases q : nk = 3 ∨ nk = 4 ∨ nk = 6
      · have := (n2 q).2
        rw [if_pos q]; omega
      · rw [if_neg q]; omega
  have code : ∀ c ph', (0 ≤ ph' ∧ ph' ≤ 2) → ((kd = 5 ∨ kd = 6) ∧ ph' = 0 → dsc 3 (flq 5 ops).2) → MI f0 (k + 1, op, cs ++ [c], (kd, ph', 0, pr, ops) :: Fs, 1) := fun c ph' n1 n2 => by
    refine ⟨(kd, ph', 0, pr, ops), Fs, rfl, h2.ops h2.1 h2.2.1 n2 (fun c => absurd c.2 (by decide)) n1 (Or.inl rfl), h3, h4, fun _ => rfl, Or.inr rfl, h7, h8, h9, ?_⟩
    show f0 + ((cs ++ [c]).length : Int) + (ops.length + tot Fs) + ((if kd = 3 ∨ kd = 4 ∨ kd = 6 then 1 else 0) + npr Fs) ≤ k + 1
    rw [List.length_append]
    show f0 + ((cs.length + 1 : Nat) : Int) + (ops.length + tot Fs) + ((if kd = 3 ∨ kd = 4 ∨ kd = 6 then 1 else 0) + npr Fs) ≤ k + 1
    omega
  unfold mOpd at e
  by_cases q1 : t 35 k = 20 ∧ bg = 1 ∧ (kd = 5 ∨ kd = 6)
  · rw [if_pos q1] at e
    by_cases q : op = 7
    · rw [if_pos q] at e; cases e
    · rw [if_neg q] at e
      cases e
      have hd3 := h2.2.2.2.1 ⟨q1.2.2, q1.2.1⟩
      refine ⟨(kd, ph, bg, pr, 2 :: ops), Fs, rfl, h2.ops (h2.1.cons (Or.inl rfl)) ⟨by rw [rk2]; decide, fun _ => hd3, fun c => absurd rfl c⟩ (fun _ => ?_) (fun _ => ⟨by rw [rk2]; decide, fun _ => hd3, fun c => absurd rfl c⟩) h2.2.2.2.2.1 h2.2.2.2.2.2.1, h3, h4, fun c => absurd (show (0 : Int) = 1 from c) (by decide), Or.inl rfl, ?_, ⟨by dsimp only; omega, by dsimp only; omega⟩, h9, ?_⟩
      · have hfl : flq 5 (2 :: ops) = ([], 2 :: ops) := flq_low (lowHd.cons (by rw [rk2]; decide))
        show dsc 3 (flq 5 (2 :: ops)).2
        rw [hfl]
        exact ⟨by rw [rk2]; decide, fun _ => hd3, fun c => absurd rfl c⟩
      · show op + 1 = (Fs.length : Int) + (((if (2 : Int) = 2 then 1 else 0) + nots ops) + nto Fs)
        rw [if_pos rfl]; omega
      · show f0 + (cs.length : Int) + (((ops.length + 1 : Nat) : Int) + tot Fs) + ((if kd = 3 ∨ kd = 4 ∨ kd = 6 then 1 else 0) + npr Fs) ≤ k + 1
        omega
  rw [if_neg q1] at e
  by_cases q2 : t 35 k = 91 ∧ bg = 1 ∧ (kd = 5 ∨ kd = 6)
  · rw [if_pos q2] at e
    by_cases q : op = 7
    · rw [if_pos q] at e; cases e
    · rw [if_neg q] at e
      cases e
      exact push (k + 1) 5 0 (by decide) (fun c => by omega) (by omega) (by omega)
  rw [if_neg q2] at e
  by_cases q3 : t 35 k = 21 ∧ bg = 1 ∧ (kd = 5 ∨ kd = 6)
  · rw [if_pos q3] at e
    cases e
    exact code (0, 1) 2 (by decide) (fun c => absurd c.2 (by decide))
  rw [if_neg q3] at e
  by_cases q4 : t 35 k = 40
  · rw [if_pos q4] at e
    by_cases q : op = 7
    · rw [if_pos q] at e; cases e
    · rw [if_neg q] at e
      cases e
      exact push (k + 1) 2 0 (by decide) (fun c => by omega) (by omega) (by omega)
  rw [if_neg q4] at e
  by_cases q5 : t 35 k = 22 ∨ t 35 k = 23 ∨ t 35 k = 17
  · rw [if_pos q5] at e
    by_cases q6 : t 35 (k + 1) ≠ 40
    · rw [if_pos q6] at e; cases e
    · rw [if_neg q6] at e
      by_cases q : op = 7
      · rw [if_pos q] at e; cases e
      · rw [if_neg q] at e
        cases e
        refine push (k + 2) _ _ (by split <;> decide) (fun _ => ⟨?_, Int.le_refl _⟩) (by omega) (by omega)
        (repeat' split) <;> omega
  rw [if_neg q5] at e
  cases hop : opd t k with
  | none => rw [hop] at e; cases e
  | some c =>
    rw [hop] at e
    cases e
    exact code c ph h2.2.2.2.2.1 h2.2.2.1
theorem mi_go {t : Mem} {f0 k op : Int} {cs : List (Int × Int)} {kd ph bg pr : Int} {ops : List Int} {Fs : List Fm} {D : Mc} (h : MI f0 (k, op, cs, (kd, ph, bg, pr, ops) :: Fs, 1)) (e : mGo t k op cs kd ph bg pr ops Fs = .inl D) : MI f0 D := by
  obtain ⟨F, Gs, h1, h2, h3, h4, h5, h6, h7, h8, h9, h10⟩ := h
  have h1' : (kd, ph, bg, pr, ops) :: Fs = F :: Gs := h1
  injection h1' with g1 g2
  subst g1 g2
  dsimp only at h3 h5 h6 h7 h8 h10
  have hbg : bg = 0 := h5 rfl
  have hT : tot ((kd, ph, bg, pr, ops) :: Fs) = ops.length + tot Fs := rfl
  have hN : nto ((kd, ph, bg, pr, ops) :: Fs) = nots ops + nto Fs := rfl
  have hP : npr ((kd, ph, bg, pr, ops) :: Fs) = (if kd = 3 ∨ kd = 4 ∨ kd = 6 then 1 else 0) + npr Fs := rfl
  rw [hT, hP] at h10
  rw [hN] at h7
  have hb4 := h4.bnd
  have low : ∀ r, dsc (r - 1) (flq r ops).2 := fun r => h2.2.1.low
  have nn : ∀ r, 0 ≤ nots (flq r ops).1 ∧ 0 ≤ nots (flq r ops).2 := fun r => by
    have a2 := dsc.len (h2.2.1.low (r := r) |>.mono (b' := max 6 r) (by omega)) (by omega)
    refine ⟨?_, a2.2⟩
    have : ∀ P : List Int, 0 ≤ nots P := fun P => by
      induction P with
      | nil => exact Int.le_refl _
      | cons o os ih =>
        show 0 ≤ (if o = 2 then (1 : Int) else 0) + nots os
        split <;> omega
    exact this _
  -- an operator held back
  have hold : ∀ r o ph' bg', (o = 2 ∨ (4 ≤ o ∧ o ≤ 8) ∨ (11 ≤ o ∧ o ≤ 15)) → o ≠ 2 → rk o ≤ 6 → dsc (rk o - 1) (flq r ops).2 → (0 ≤ ph' ∧ ph' ≤ 2) → (bg' = 0 ∨ bg' = 1) → ((kd = 5 ∨ kd = 6) ∧ ph' = 0 → dsc 3 (flq 5 (o :: (flq r ops).2)).2) → ((kd = 5 ∨ kd = 6) ∧ bg' = 1 → rk o ≤ 3) → MI f0 (k + 1, op - nots (flq r ops).1, cs ++ cod (flq r ops).1, (kd, ph', bg', pr, o :: (flq r ops).2) :: Fs, 0) := fun r o ph' bg' n1 n2 n3 n4 n5 n6 n7 n8 => by
    have hf := flq_nots r ops
    have hl := flq_len r ops
    have hnn := nn r
    refine ⟨(kd, ph', bg', pr, o :: (flq r ops).2), Fs, rfl, h2.ops (h2.1.rest.cons n1) ⟨n3, fun c => absurd c n2, fun _ => n4⟩ n7 (fun c => ⟨n8 c, fun c => absurd c n2, fun _ => n4⟩) n5 n6, h3, h4, fun c => absurd (show (0 : Int) = 1 from c) (by decide), Or.inl rfl, ?_, ⟨by dsimp only; omega, by dsimp only; omega⟩, h9, ?_⟩
    · show op - nots (flq r ops).1 = (Fs.length : Int) + (((if o = 2 then 1 else 0) + nots (flq r ops).2) + nto Fs)
      rw [if_neg n2]; omega
    · show f0 + ((cs ++ cod (flq r ops).1).length : Int) + ((((flq r ops).2.length + 1 : Nat) : Int) + tot Fs) + ((if kd = 3 ∨ kd = 4 ∨ kd = 6 then 1 else 0) + npr Fs) ≤ k + 1
      rw [List.length_append, cod_len]
      omega
  unfold mGo at e
  by_cases q0 : t 35 k = 27 ∧ 2 ≤ kd
  · rw [if_pos q0] at e; cases e
  rw [if_neg q0] at e
  by_cases q1 : ph < 2 ∧ (t 35 k = 43 ∨ t 35 k = 45)
  · rw [if_pos q1] at e
    cases e
    have ha := aop_rk (x := t 35 k) (by unfold ar5; omega)
    have ha5 := ha.2.1 q1.2
    refine hold 5 _ ph bg (by omega) (by omega) (by omega) (by rw [ha5]; exact low 5) h2.2.2.2.2.1 h2.2.2.2.2.2.1 (fun c => ?_) (fun c => by omega)
    show dsc 3 (if 5 ≤ rk (aop (t 35 k)) then (aop (t 35 k) :: (flq 5 (flq 5 ops).2).1, (flq 5 (flq 5 ops).2).2) else ([], aop (t 35 k) :: (flq 5 ops).2)).2
    rw [if_pos (by omega), flq_two (Int.le_refl _)]
    exact h2.2.2.1 c
  rw [if_neg q1] at e
  by_cases q2 : ph < 2 ∧ (t 35 k = 42 ∨ t 35 k = 47 ∨ t 35 k = 37)
  · rw [if_pos q2] at e
    cases e
    have ha := aop_rk (x := t 35 k) (by unfold ar5; omega)
    have ha6 := ha.2.2 q2.2
    refine hold 6 _ ph bg (by omega) (by omega) (by omega) (by rw [ha6]; exact low 6) h2.2.2.2.2.1 h2.2.2.2.2.2.1 (fun c => ?_) (fun c => by omega)
    show dsc 3 (if 5 ≤ rk (aop (t 35 k)) then (aop (t 35 k) :: (flq 5 (flq 6 ops).2).1, (flq 5 (flq 6 ops).2).2) else ([], aop (t 35 k) :: (flq 6 ops).2)).2
    rw [if_pos (by omega), flq_two (by decide)]
    exact h2.2.2.1 c
  rw [if_neg q2] at e
  by_cases q3 : (kd = 5 ∨ kd = 6) ∧ ph = 0 ∧ (t 35 k = 60 ∨ t 35 k = 62 ∨ t 35 k = 61)
  · rw [if_pos q3] at e
    cases e
    have hco : (11 ≤ cop (t 35 k) ∧ cop (t 35 k) ≤ 13) ∧ rk (cop (t 35 k)) = 4 := by
      rcases q3.2.2 with q | q | q <;> rw [q] <;> decide
    exact hold 5 _ 1 bg (by omega) (by omega) (by omega) (by rw [hco.2]; exact h2.2.2.1 ⟨q3.1, q3.2.1⟩) (by decide) h2.2.2.2.2.2.1 (fun c => absurd c.2 (by decide)) (fun c => by omega)
  rw [if_neg q3] at e
  by_cases q4 : (kd = 5 ∨ kd = 6) ∧ (t 35 k = 19 ∨ t 35 k = 18)
  · rw [if_pos q4] at e
    by_cases q5 : ph = 0
    · rw [if_pos q5] at e; cases e
    · rw [if_neg q5] at e
      cases e
      have rlow : ∀ r o, rk o = r → r ≤ 3 → o ≠ 2 → dsc (r - 1) (flq r ops).2 → dsc 3 (flq 5 (o :: (flq r ops).2)).2 := fun r o z1 z2 z3 z4 => by
        rw [flq_low (lowHd.cons (by omega))]
        exact ⟨by omega, fun c => absurd c z3, fun _ => by rw [z1]; exact z4⟩
      by_cases q6 : t 35 k = 19
      · rw [if_pos q6, if_pos q6]
        exact hold 2 14 0 1 (by decide) (by decide) (by decide) (low 2) (by decide) (Or.inr rfl) (fun _ => rlow 2 14 rfl (by decide) (by decide) (low 2)) (fun _ => by decide)
      · rw [if_neg q6, if_neg q6]
        exact hold 1 15 0 1 (by decide) (by decide) (by decide) (low 1) (by decide) (Or.inr rfl) (fun _ => rlow 1 15 rfl (by decide) (by decide) (low 1)) (fun _ => by decide)
  rw [if_neg q4] at e
  by_cases q5 : (kd = 5 ∨ kd = 6) ∧ ph = 0
  · rw [if_pos q5] at e; cases e
  rw [if_neg q5] at e
  by_cases q6 : kd < 2
  · rw [if_pos q6] at e; cases e
  rw [if_neg q6] at e
  have f1 := flq_nots 1 ops
  have l1 := flq_len 1 ops
  have n1 := nn 1
  -- everything pending goes
  have all1 : (flq 1 ops).2 = [] := by
    have : ∀ P : List Int, (flq 1 P).2 = [] := fun P => by
      induction P with
      | nil => rfl
      | cons o os ih =>
        show (if 1 ≤ rk o then (o :: (flq 1 os).1, (flq 1 os).2) else ([], o :: os)).2 = []
        rw [if_pos (rk_rng o).1]; exact ih
    exact this ops
  rw [all1] at f1 l1
  have f1' : nots (flq 1 ops).1 = nots ops := by
    have : nots ([] : List Int) = 0 := rfl
    omega
  have l1' : (flq 1 ops).1.length = ops.length := l1
  by_cases q7 : kd = 3 ∨ kd = 6
  · rw [if_pos q7] at e
    by_cases q8 : t 35 k = 44
    · rw [if_pos q8] at e
      cases e
      rw [all1]
      refine ⟨_, Fs, rfl, ⟨fun o ho => (by cases ho), trivial, fun _ => trivial, fun _ => trivial, (show (0 : Int) ≤ 0 ∧ (0 : Int) ≤ 2 by decide), h2.2.2.2.2.2.1, fun _ => h2.2.2.2.2.2.2 (by show kd = 3 ∨ kd = 4 ∨ kd = 6; omega)⟩, Or.inr ⟨?_, ?_⟩, h4, fun c => absurd (show (0 : Int) = 1 from c) (by decide), Or.inl rfl, ?_, ⟨by dsimp only; omega, by dsimp only; omega⟩, h9, ?_⟩
      · dsimp only; split <;> decide
      · rcases h3 with c | c
        · omega
        · exact c.2
      · show op - nots (flq 1 ops).1 = (Fs.length : Int) + (0 + nto Fs)
        omega
      · show f0 + ((cs ++ cod (flq 1 ops).1).length : Int) + (((0 : Nat) : Int) + tot Fs) + ((if (if kd = 3 then (4 : Int) else 3) = 3 ∨ (if kd = 3 then (4 : Int) else 3) = 4 ∨ (if kd = 3 then (4 : Int) else 3) = 6 then 1 else 0) + npr Fs) ≤ k + 1
        rw [List.length_append, cod_len, if_pos (by split <;> omega)]
        rw [if_pos (by omega)] at h10
        omega
    · rw [if_neg q8] at e; cases e
  rw [if_neg q7] at e
  by_cases q8 : t 35 k = (if kd = 5 then 93 else 41)
  · rw [if_pos q8] at e
    cases Fs with
    | nil => cases e
    | cons G Gs =>
      cases e
      obtain ⟨i1, i2, i3, i4⟩ := h4
      have hG : FI (G.1, if kd = 5 then 2 else G.2.1, G.2.2.1, G.2.2.2.1, G.2.2.2.2) := by
        refine ⟨i1.1, i1.2.1, fun c => ?_, i1.2.2.2.1, ?_, i1.2.2.2.2.2.1, i1.2.2.2.2.2.2⟩
        · dsimp only at c
          by_cases z : kd = 5
          · rw [if_pos z] at c; exact absurd c.2 (by decide)
          · rw [if_neg z] at c; exact i1.2.2.1 c
        · dsimp only
          by_cases z : kd = 5
          · rw [if_pos z]; decide
          · rw [if_neg z]; exact i1.2.2.2.2.1
      have eT : tot (G :: Gs) = G.2.2.2.2.length + tot Gs := rfl
      have eN : nto (G :: Gs) = nots G.2.2.2.2 + nto Gs := rfl
      have eP : npr (G :: Gs) = (if G.1 = 3 ∨ G.1 = 4 ∨ G.1 = 6 then 1 else 0) + npr Gs := rfl
      have hb5 := i4.bnd
      have hG5 := dsc.len i1.2.1 (by decide)
      have eL : ((G :: Gs).length : Int) = Gs.length + 1 := by show ((Gs.length + 1 : Nat) : Int) = _; omega
      refine ⟨_, Gs, rfl, hG, i3, i4, fun _ => i2, Or.inr rfl, ?_, ⟨by dsimp only; omega, by dsimp only; omega⟩, h9, ?_⟩
      · show op - nots (flq 1 ops).1 - 1 = (Gs.length : Int) + (nots G.2.2.2.2 + nto Gs)
        omega
      · show f0 + ((cs ++ cod (flq 1 ops).1 ++ (if kd = 4 then [(pr, 0)] else [])).length : Int) + (G.2.2.2.2.length + tot Gs) + ((if G.1 = 3 ∨ G.1 = 4 ∨ G.1 = 6 then 1 else 0) + npr Gs) ≤ k + 1
        rw [List.length_append, List.length_append, cod_len]
        by_cases z : kd = 4
        · rw [if_pos z]
          rw [if_pos (by omega)] at h10
          show f0 + ((cs.length + (flq 1 ops).1.length + 1 : Nat) : Int) + _ + _ ≤ _
          omega
        · rw [if_neg z]
          rw [if_neg (by omega)] at h10
          show f0 + ((cs.length + (flq 1 ops).1.length + 0 : Nat) : Int) + _ + _ ≤ _
          omega
  · rw [if_neg q8] at e; cases e
theorem mi_step {t : Mem} {f0 : Int} {C D : Mc} (h : MI f0 C) (e : mstep t C = .inl D) : MI f0 D := by
  obtain ⟨k, op, cs, Fs, fl⟩ := C
  obtain ⟨F, Gs, h1, h2, h3, h4, h5, h6, h7⟩ := id h
  dsimp only at h1 h6
  subst h1
  obtain ⟨kd, ph, bg, pr, ops⟩ := F
  rcases h6 with rfl | rfl
  · exact mi_op h e
  · exact mi_go h e
