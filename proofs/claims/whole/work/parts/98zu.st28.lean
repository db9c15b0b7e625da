/-! VALLEY: the reference's end; what holds of a new plan -/
def FBg : Int → Int → Prop := fun b j => FLy 0 b j ∨ (b = 475 ∧ (j = 52 ∨ j = 68))
theorem r_bL9 {N : Nat} {ib : Int} {m0 : Mem} {Q : Mem → Prop} {kk : Mem → Option Mem} (hN : 2000 ≤ N) (hib : ib = 0 ∨ ib = 1) (h13 : m0 475 13 = ib) (hk : ∀ m', Fr (fun b j => b = 499 ∧ 0 ≤ j ∧ j < 64) m0 m' → (∀ c, 0 ≤ c → c < 64 → m' 499 c = m0 479 (64 * ib + c)) → Rn (kk m') Q) : Rn (pM_begin_L9 N kk N 0 m0) Q := by
  refine rl_IM (I := fun x m => (0 ≤ x ∧ x ≤ 64) ∧ Fr (fun b j => b = 499 ∧ 0 ≤ j ∧ j < 64) m0 m ∧ ∀ c, 0 ≤ c → c < x → m 499 c = m0 479 (64 * ib + c)) (v := fun x _ => (64 - x).toNat) (fun self x m h ih => ?_) N 0 m0 ⟨by decide, Fr.rfl', fun c c0 c1 => absurd c0 (by omega)⟩ (by show (64 - (0 : Int)).toNat < N; omega)
  obtain ⟨hx, f, hz⟩ := h
  unfold pM_begin_L9b
  rw [f 475 13 (by omega), h13, w32_eq (x := 64 * ib) (by omega) (by omega), w32_eq (x := 64 * ib + x) (by omega) (by omega), w32_eq (x := x + 1) (by omega) (by omega)]
  refine rn_i (fun q => rn_t (by omega) (rn_t (by omega) (rn_v (rn_v ?_)))) (fun q => hk m f (fun c c0 c1 => hz c c0 (by omega)))
  refine ih (x + 1) _ ⟨by omega, f.set ⟨rfl, by omega⟩, fun c c0 c1 => ?_⟩ (by show (64 - (x + 1)).toNat < (64 - x).toNat; omega)
  by_cases e : c = x
  · rw [e, mset_s rfl rfl]
    exact f _ _ (by omega)
  · rw [mset_o (by omega)]; exact hz c c0 (by omega)
theorem r_bL43 {N : Nat} {ib : Int} {m0 : Mem} {Q : Mem → Prop} {kk : Mem → Option Mem} (hN : 2000 ≤ N) (hib : ib = 0 ∨ ib = 1) (h13 : m0 475 13 = ib) (hk : ∀ m', Fr (fun b j => (500 ≤ b ∧ b ≤ 503) ∧ 0 ≤ j ∧ j < 6) m0 m' → (∀ c, 0 ≤ c → c < 6 → m' 500 c = m0 481 (6 * ib + c) ∧ m' 501 c = m0 482 (6 * ib + c) ∧ m' 502 c = m0 483 (6 * ib + c) ∧ m' 503 c = 0) → Rn (kk m') Q) : Rn (pM_begin_L43 N kk N 0 m0) Q := by
  refine rl_IM (I := fun x m => (0 ≤ x ∧ x ≤ 6) ∧ Fr (fun b j => (500 ≤ b ∧ b ≤ 503) ∧ 0 ≤ j ∧ j < 6) m0 m ∧ ∀ c, 0 ≤ c → c < x → m 500 c = m0 481 (6 * ib + c) ∧ m 501 c = m0 482 (6 * ib + c) ∧ m 502 c = m0 483 (6 * ib + c) ∧ m 503 c = 0) (v := fun x _ => (6 - x).toNat) (fun self x m h ih => ?_) N 0 m0 ⟨by decide, Fr.rfl', fun c c0 c1 => absurd c0 (by omega)⟩ (by show (6 - (0 : Int)).toNat < N; omega)
  obtain ⟨hx, f, hz⟩ := h
  unfold pM_begin_L43b
  have e13 : m 475 13 = ib := (f 475 13 (by omega)).trans h13
  have w1 : w32 (6 * ib) = 6 * ib := w32_eq (by omega) (by omega)
  rw [e13, w1]
  refine rn_i (fun q => ?_) (fun q => hk m f (fun c c0 c1 => hz c c0 (by omega)))
  have w2 : w32 (6 * ib + x) = 6 * ib + x := w32_eq (by omega) (by omega)
  rw [w2]
  refine rn_t (by omega) (rn_t (by omega) (rn_l (fun ma ea => ?_)))
  have fa : Fr (fun b j => b = 500 ∧ j = x) m ma := by rw [ea]; exact Fr.rfl'.set ⟨rfl, rfl⟩
  have va : ma 500 x = m 481 (6 * ib + x) := by rw [ea]; exact mset_s rfl rfl
  clear ea
  rw [fa 475 13 (by omega), e13, w1, w2]
  refine rn_t (by omega) (rn_t (by omega) (rn_l (fun mb eb => ?_)))
  have fb : Fr (fun b j => b = 501 ∧ j = x) ma mb := by rw [eb]; exact Fr.rfl'.set ⟨rfl, rfl⟩
  have vb : mb 501 x = m 482 (6 * ib + x) := by rw [eb, mset_s rfl rfl]; exact fa _ _ (by omega)
  clear eb
  rw [fb 475 13 (by omega), fa 475 13 (by omega), e13, w1, w2]
  refine rn_t (by omega) (rn_t (by omega) (rn_l (fun mc ec => ?_)))
  have fc : Fr (fun b j => b = 502 ∧ j = x) mb mc := by rw [ec]; exact Fr.rfl'.set ⟨rfl, rfl⟩
  have vc : mc 502 x = m 483 (6 * ib + x) := by rw [ec, mset_s rfl rfl, fb _ _ (by omega)]; exact fa _ _ (by omega)
  clear ec
  refine rn_t (by omega) (rn_l (fun md ed => ?_))
  have fd : Fr (fun b j => b = 503 ∧ j = x) mc md := by rw [ed]; exact Fr.rfl'.set ⟨rfl, rfl⟩
  have vd : md 503 x = 0 := by rw [ed]; exact mset_s rfl rfl
  clear ed
  rw [w32_eq (x := x + 1) (by omega) (by omega)]
  have al : ∀ b j, ¬ ((500 ≤ b ∧ b ≤ 503) ∧ j = x) → md b j = m b j := fun b j q => by rw [fd _ _ (by omega), fc _ _ (by omega), fb _ _ (by omega), fa _ _ (by omega)]
  refine rn_v (ih (x + 1) _ ⟨by omega, fun b j q => (al b j (by omega)).trans (f b j q), fun c c0 c1 => ?_⟩ (by show (6 - (x + 1)).toNat < (6 - x).toNat; omega))
  by_cases e : c = x
  · subst e
    refine ⟨?_, ?_, ?_, vd⟩
    · rw [fd _ _ (by omega), fc _ _ (by omega), fb _ _ (by omega), va]; exact f _ _ (by omega)
    · rw [fd _ _ (by omega), fc _ _ (by omega), vb]; exact f _ _ (by omega)
    · rw [fd _ _ (by omega), vc]; exact f _ _ (by omega)
  · rw [al 500 c (by omega), al 501 c (by omega), al 502 c (by omega), al 503 c (by omega)]
    exact hz c c0 (by omega)
theorem r_begin {N : Nat} {ib : Int} {m : Mem} (hN : 2000 ≤ N) (hib : ib = 0 ∨ ib = 1) (h13 : m 475 13 = ib) : Rn (pM_begin N m) (fun m' => Fr FBg m m' ∧ m' 498 0 = 0 ∧ (∀ c, 0 ≤ c → c < 64 → m' 499 c = m 479 (64 * ib + c)) ∧ (∀ c, 0 ≤ c → c < 6 → m' 500 c = m 481 (6 * ib + c) ∧ m' 501 c = m 482 (6 * ib + c) ∧ m' 502 c = m 483 (6 * ib + c) ∧ m' 503 c = 0) ∧ m' 504 0 = 0 ∧ m' 475 52 = 0 ∧ m' 475 68 = 0) := by
  unfold pM_begin
  refine rn_l (fun m1 e1 => ?_)
  have f1 : Fr (fun b j => b = 498 ∧ j = 0) m m1 := by rw [e1]; exact Fr.rfl'.set ⟨rfl, rfl⟩
  have v1 : m1 498 0 = 0 := by rw [e1]; exact mset_s rfl rfl
  clear e1
  refine r_bL9 hN hib ((f1 _ _ (by omega)).trans h13) (fun m2 f2 z2 => r_bL43 hN hib ((f2 _ _ (by omega)).trans ((f1 _ _ (by omega)).trans h13)) (fun m3 f3 z3 => ?_))
  refine rn_v (rn_v (rn_v (rn_s ⟨?_, ?_, fun c c0 c1 => ?_, fun c c0 c1 => ?_, ?_, ?_, ?_⟩)))
  · refine Fr.set (Fr.set (Fr.set (((f1.mono (fun b j c => ?_)).trans (f2.mono (fun b j c => ?_))).trans (f3.mono (fun b j c => ?_))) ?_) ?_) ?_
    · exact Or.inl (Or.inl c)
    · exact Or.inl (Or.inr (Or.inl ⟨c.1, by omega⟩))
    · exact Or.inl (Or.inr (Or.inr (Or.inl ⟨c.1, by omega⟩)))
    · exact Or.inl (Or.inr (Or.inr (Or.inr (Or.inl ⟨rfl, rfl⟩))))
    · exact Or.inr ⟨rfl, Or.inl rfl⟩
    · exact Or.inr ⟨rfl, Or.inr rfl⟩
  · simp (disch := omega) only [mset_o]
    rw [f3 _ _ (by omega), f2 _ _ (by omega)]; exact v1
  · simp (disch := omega) only [mset_o]
    rw [f3 _ _ (by omega), z2 c c0 c1]; exact f1 _ _ (by omega)
  · simp (disch := omega) only [mset_o]
    have := z3 c c0 c1
    rw [f2 _ _ (by omega), f2 _ _ (by omega), f2 _ _ (by omega), f1 _ _ (by omega), f1 _ _ (by omega), f1 _ _ (by omega)] at this
    exact this
  · simp (disch := omega) only [mset_o, mset_s]
  · simp (disch := omega) only [mset_o, mset_s]
  · exact mset_s rfl rfl
/-- the plan that both hold is well formed -/
theorem plan_ok {P P' : Mem} (h : DR P) (e2 : ∀ j, 0 ≤ j → j ≤ 4 → P' 2 j = P 2 j) (e4 : ∀ j, 0 ≤ j → j < 36 → P' 4 j = P 4 j) (e8 : ∀ j, 0 ≤ j → j < 6 → P' 8 j = P 8 j) (el : ∀ w, 0 ≤ w → w < 3 → P' (9 + 3 * w) 2 = P (9 + 3 * w) 2 ∧ codeOf P' w = codeOf P w) (er : ∀ b j, ((b = 475 ∧ (j = 13 ∨ j = 41)) ∨ b = 477 ∨ b = 478 ∨ b = 480 ∨ (484 ≤ b ∧ b ≤ 490)) → P' b j = P b j) : PG P' ∧ PR P' ∧ INm P' := by
  obtain ⟨⟨z1, z2, z3, z4, z5, z6⟩, ⟨m1, m2⟩, -, ⟨p1, p2, p3⟩, hl, -⟩ := h
  have a0 := e2 0 (by decide) (by decide)
  have a1 := e2 1 (by decide) (by decide)
  have a2 := e2 2 (by decide) (by decide)
  have a3 := e2 3 (by decide) (by decide)
  have a4 := e2 4 (by decide) (by decide)
  have b13 := er 475 13 (by omega)
  have b41 := er 475 41 (by omega)
  refine ⟨⟨Or.inr ?_, ?_, ?_, ?_, fun w w0 w1 => ?_⟩, ⟨?_, ?_, ?_, ?_, ?_, Or.inr ⟨?_, ?_⟩, fun i i0 i1 => ?_, fun w w0 w1 => ?_⟩, fun i i0 i1 => ⟨?_, ?_⟩⟩
  · rw [a0, a1]; exact z1
  · rw [a0, a1, a2]; exact z2
  · rw [a3]; exact p1
  · rw [a4]; exact m1
  · obtain ⟨l1, l2⟩ := el w w0 w1
    obtain ⟨h1, h2, -, -⟩ := hl w w0 w1
    rw [l1, l2]
    exact ⟨h1, h2⟩
  · rw [b13]; exact z3
  · rw [b13, er 477 _ (by omega), a0]; exact z4
  · rw [b13, er 478 _ (by omega), a1]; exact z5
  · rw [b13, er 480 _ (by omega), a3]; exact p2
  · rw [b13, er 485 _ (by omega), a4]; exact m2
  · rw [b41]; exact z6
  · rw [a0]; exact z1.1.1
  · rw [a3] at i1
    rw [b13, er 484 _ (by omega), e8 i i0 (by omega)]
    exact (p3 i i0 i1).1.2.2
  · obtain ⟨l1, l2⟩ := el w w0 w1
    obtain ⟨h1, -, h3, -⟩ := hl w w0 w1
    unfold LR at *
    rw [l1, l2, b13, er 486 _ (by omega), er 487 _ (by omega)]
    rcases h3 with h3 | ⟨a, b, c, d, e⟩
    · exact Or.inl h3
    · refine Or.inr ⟨a, b, c, d, e.eq' (fun j j0 j1 => ?_)⟩
      rw [er 488 j (by omega), er 489 j (by omega)]
      exact ⟨rfl, rfl⟩
  · rw [a3] at i1
    have := (p3 i i0 i1).1
    rw [e8 i i0 (by omega)]
    exact ⟨this.1, this.2.1⟩
  · rw [a3] at i1
    obtain ⟨n, n1, n2, n3, n4⟩ := (p3 i i0 i1).2.1
    refine ⟨n, n1, fun k k0 k1 => ?_, fun k k0 k1 => ?_, ?_⟩
    · rw [e4 _ (by omega) (by omega)]; exact n2 k k0 k1
    · rw [e4 _ (by omega) (by omega)]; exact n3 k k0 k1
    · rw [b13, er 490 _ (by omega), n4]
      refine packW_ext (fun j hj => ?_)
      show P 4 (6 * i + j) + 96 = P' 4 (6 * i + j) + 96
      rw [e4 _ (by omega) (by omega)]
/-- the first state of the new plan, on both sides -/
theorem st_ok {P pl m : Mem} {ib : Int} (h : DR P) (hib : P 475 13 = ib) (e2 : ∀ j, 0 ≤ j → j ≤ 4 → pl 2 j = P 2 j) (s0 : m 38 0 = 0 ∧ m 38 7 = 0) (s1 : ∀ j, 0 ≤ j → j < 64 → m 39 j = P 3 j) (s2 : ∀ j, 0 ≤ j → j < 6 → m 40 j = P 5 j ∧ m 41 j = P 6 j ∧ m 42 j = P 7 j ∧ m 43 j = 0) (r0 : m 498 0 = 0) (r1 : ∀ c, 0 ≤ c → c < 64 → m 499 c = P 479 (64 * ib + c)) (r2 : ∀ c, 0 ≤ c → c < 6 → m 500 c = P 481 (6 * ib + c) ∧ m 501 c = P 482 (6 * ib + c) ∧ m 502 c = P 483 (6 * ib + c) ∧ m 503 c = 0) (r4 : m 504 0 = 0) : ISt pl m := by
  have hg := h.PG
  obtain ⟨⟨z1, z2, z3, z4, z5, z6⟩, -, ⟨d1, d2⟩, ⟨p1, p2, p3⟩, -, -⟩ := h
  have a0 := e2 0 (by decide) (by decide)
  have a1 := e2 1 (by decide) (by decide)
  have a2 := e2 2 (by decide) (by decide)
  have a3 := e2 3 (by decide) (by decide)
  have hsz : P 2 0 * P 2 1 ≤ 8 * 8 := Int.mul_le_mul z1.1.2 z1.2.2 (by omega) (by decide)
  have v1 : ∀ p, 0 ≤ p → p < 64 → vS m 38 1 p = P 3 p := fun p p0 p1 => by
    unfold vS
    rw [if_pos (by omega)]
    exact s1 p p0 p1
  have vk : ∀ k p, 2 ≤ k ∧ k ≤ 5 → 0 ≤ p → p < 6 → vS m 38 k p = m (38 + k) p := fun k p hk p0 p1 => by
    unfold vS
    rw [if_pos (by omega)]
  have v00 : vS m 38 0 0 = 0 := by
    unfold vS
    rw [if_neg (by omega), if_pos (by omega)]
    exact s0.1
  have v07 : vS m 38 0 7 = 0 := by
    unfold vS
    rw [if_neg (by omega), if_pos (by omega)]
    exact s0.2
  have v2 : ∀ i, 0 ≤ i → i < 6 → vS m 38 2 i = P 5 i ∧ vS m 38 3 i = P 6 i ∧ vS m 38 4 i = P 7 i ∧ vS m 38 5 i = 0 := fun i i0 i1 => by
    rw [vk 2 i (by decide) i0 i1, vk 3 i (by decide) i0 i1, vk 4 i (by decide) i0 i1, vk 5 i (by decide) i0 i1]
    exact s2 i i0 i1
  have hph : ∀ p, ph pl p = ph P p := fun p => ph_ceq a0 p
  refine ⟨⟨fun p p0 p1 => ?_, fun i i0 i1 => ?_, ?_, ?_⟩, ?_, fun p p0 p1 => ?_, fun c c0 c1 hc => ?_, fun i i0 i1 => ?_, ?_, fun j j0 j1 => ?_⟩
  · rw [a2] at p1
    rw [v1 p p0 (by omega)]
    exact (d1 p p0 p1).1
  · rw [a3] at i1
    obtain ⟨w2, w3, w4, w5⟩ := v2 i i0 (by omega)
    obtain ⟨q1, q2, q3, q4, q5⟩ := p3 i i0 i1
    rw [w2, w3, w4, w5, a2]
    exact ⟨q3.1, q4.1, q5.1, by decide⟩
  · rw [v00]; decide
  · rw [v07]; decide
  · rw [v00]; exact r0
  · rw [a2] at p1
    have hb := (ph_eq hg ⟨p0, p1⟩).2.2.1
    rw [hph, v1 p p0 (by omega), show 64 * (0 : Int) + ph P p = ph P p by omega, r1 _ hb.1 hb.2, ← hib]
    exact (d1 p p0 p1).2
  · rw [show 64 * (0 : Int) + c = c by omega, r1 c c0 c1, ← hib]
    refine d2 c c0 c1 (fun q => hc ?_)
    unfold cellC at *
    rw [a0, a1]
    exact q
  · rw [a3] at i1
    obtain ⟨w2, w3, w4, w5⟩ := v2 i i0 (by omega)
    obtain ⟨q1, q2, q3, q4, q5⟩ := p3 i i0 i1
    obtain ⟨t1, t2, t3, t4⟩ := r2 i i0 (by omega)
    rw [w2, w3, w4, w5, hph, show 6 * (0 : Int) + i = i by omega, t1, t2, t3, t4, ← hib]
    exact ⟨q3.2, q4.2, q5.2, rfl⟩
  · rw [v07]; exact r4
  · rw [v07] at j1
    omega
