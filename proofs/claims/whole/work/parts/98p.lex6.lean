/-! VALLEY: the component splits the whole text -/
def TKb (T : Int → Int) (L c s v x : Int) : Prop := 0 ≤ c ∧ (c ≠ 26 → s < x) ∧ (c = 25 → 0 ≤ v ∧ v ≤ 9999) ∧ (c ≠ 26 → c ≠ 27 → x ≤ L ∧ 0 < x ∧ (c < 26 ↔ (isLt (T (x - 1)) ∨ isDg (T (x - 1)))))
theorem c_tok {N : Nat} {m : Mem} {T : Int → Int} {L e s x : Int} (hN : 2000 ≤ N) (hT : ∀ j, 0 ≤ j → j < L → m 1 j = T j) (hB : ∀ j, 0 ≤ j → j < L → 0 ≤ T j ∧ T j ≤ 255) (hL : L ≤ 1600) (he : 0 ≤ e ∧ e ≤ L) (hk : SKP T L e s) (hx : ENDp T L s x) (ha : ¬ (s < L ∧ (isLt (T s) ∨ isDg (T s)) ∧ adjP T s)) : ∃ c v, pR_tokenAt N m s x = some c ∧ pR_valueOf N m c s x = some v ∧ TOKp T L e c s v x ∧ TKb T L c s v x := by
  have hs := hk.1
  have hsL := SKP_le he.2 hk
  unfold TKb
  rcases hx with ⟨q, rfl⟩ | ⟨q, a, r⟩ | ⟨q, b, r⟩ | ⟨q, a, b, rfl⟩
  · refine ⟨26, 0, ?_, ?_, ⟨hk, Or.inl ⟨q, rfl, rfl⟩⟩, by decide, fun c => absurd rfl c, fun c => absurd c (by decide), fun c => absurd rfl c⟩
    · unfold pR_tokenAt
      rw [if_neg (by omega)]
    · unfold pR_valueOf
      rw [if_neg (by decide), if_neg (by decide), w32_eq (by omega) (by omega)]
      exact congrArg some (by omega)
  · have hx1 := RUN_lt r q a
    have hx2 := RUN_le r hsL
    have hz := (r.2.1 (x - 1) (by omega) (by omega)).2
    obtain ⟨y, ey, hy⟩ := ec_lett m (T s)
    have ey1 : y = 1 := by
      rcases hy with ⟨h, -⟩ | ⟨-, c⟩
      · exact h
      · exact absurd a c
    subst ey1
    have tk : pR_tokenAt N m s x = (if 6 < x - s then some 27 else (pR_wordAt N m s x).bind fun r33 => some r33) := by
      unfold pR_tokenAt
      rw [if_pos hx1, if_pos (by omega), hT s (by omega) q, ey, w32_eq (x := x - s) (by omega) (by omega)]
      rfl
    have nad : ¬ adjP T s := fun c => ha ⟨q, Or.inl a, c⟩
    by_cases q6 : 6 < x - s
    · refine ⟨27, s + 6, by rw [tk, if_pos q6], ?_, ⟨hk, Or.inr (Or.inr (Or.inl ⟨q, a, nad, r, Or.inl ⟨q6, rfl, rfl⟩⟩))⟩, by decide, fun _ => hx1, fun c => absurd c (by decide), fun _ c => absurd rfl c⟩
      unfold pR_valueOf
      rw [if_neg (by decide), if_pos rfl, if_pos hx1, if_pos (by omega), hT s (by omega) q, ey, w32_eq (x := s + 6) (by omega) (by omega)]
      rfl
    · obtain ⟨c, ec, hc⟩ := c_word (m := m) hN hT hL (by omega) hx2 r
      have hcb := hc.1
      refine ⟨c, x - s, by rw [tk, if_neg q6, ec]; rfl, ?_, ⟨hk, Or.inr (Or.inr (Or.inl ⟨q, a, nad, r, Or.inr ⟨by omega, rfl, hc⟩⟩))⟩, hcb.1, fun _ => hx1, fun h => by omega, fun _ _ => ⟨hx2, by omega, fun _ => Or.inl hz, fun _ => by omega⟩⟩
      unfold pR_valueOf
      rw [if_neg (by omega), if_neg (by omega), w32_eq (by omega) (by omega)]
  · have hx1 := RUN_lt r q b
    have hx2 := RUN_le r hsL
    have hz := (r.2.1 (x - 1) (by omega) (by omega)).2
    have nl : ¬ isLt (T s) := by unfold isLt; unfold isDg at b; omega
    obtain ⟨y, ey, hy⟩ := ec_lett m (T s)
    have ey1 : y = 0 := by
      rcases hy with ⟨-, c⟩ | ⟨h, -⟩
      · exact absurd c nl
      · exact h
    subst ey1
    obtain ⟨z, ez, hz2⟩ := ec_digi m (T s)
    have ez1 : z = 1 := by
      rcases hz2 with ⟨h, -⟩ | ⟨-, c⟩
      · exact h
      · exact absurd b c
    subst ez1
    have tk : pR_tokenAt N m s x = (if 4 < x - s then some 27 else some 25) := by
      unfold pR_tokenAt
      rw [if_pos hx1, if_pos (by omega), hT s (by omega) q, ey, if_pos (by omega), ez, w32_eq (x := x - s) (by omega) (by omega)]
      rfl
    have nad : ¬ adjP T s := fun c => ha ⟨q, Or.inr b, c⟩
    by_cases q4 : 4 < x - s
    · refine ⟨27, s + 4, by rw [tk, if_pos q4], ?_, ⟨hk, Or.inr (Or.inr (Or.inr (Or.inl ⟨q, b, nad, r, Or.inl ⟨q4, rfl, rfl⟩⟩)))⟩, by decide, fun _ => hx1, fun c => absurd c (by decide), fun _ c => absurd rfl c⟩
      unfold pR_valueOf
      rw [if_neg (by decide), if_pos rfl, if_pos hx1, if_pos (by omega), hT s (by omega) q, ey, if_pos (by omega), ez, w32_eq (x := s + 4) (by omega) (by omega)]
      rfl
    · have hb := numV_bd (T := T) (s := s) (x - s).toNat (fun i hi => (r.2.1 (s + i) (by omega) (by omega)).2)
      have hb2 := pow4 (x - s).toNat (by omega)
      refine ⟨25, numV T s (x - s).toNat, by rw [tk, if_neg q4], ?_, ⟨hk, Or.inr (Or.inr (Or.inr (Or.inl ⟨q, b, nad, r, Or.inr ⟨by omega, rfl, rfl⟩⟩)))⟩, by decide, fun _ => hx1, fun _ => ⟨hb.1, by omega⟩, fun _ _ => ⟨hx2, by omega, fun _ => Or.inr hz, fun _ => by decide⟩⟩
      unfold pR_valueOf pR_valueOf_L12
      rw [if_pos rfl]
      have h := c_numL (N := N) (m := m) (bo := fun _ _ => none) (kk := fun z => some z) hT hL (by omega) r (by omega) (x - s).toNat N 0 (by omega) (by omega)
      rw [show s + ((0 : Nat) : Int) = s by omega] at h
      exact h
  · obtain ⟨y, ey, hy⟩ := ec_lett m (T s)
    have ey1 : y = 0 := by
      rcases hy with ⟨-, c⟩ | ⟨h, -⟩
      · exact absurd c a
      · exact h
    subst ey1
    obtain ⟨z, ez, hz2⟩ := ec_digi m (T s)
    have ez1 : z = 0 := by
      rcases hz2 with ⟨-, c⟩ | ⟨h, -⟩
      · exact absurd c b
      · exact h
    subst ez1
    have tk : pR_tokenAt N m s (s + 1) = (if txi 1 (c16 (T s)) < 0 then some 27 else some (T s)) := by
      unfold pR_tokenAt
      rw [if_pos (by omega)]
      simp only [if_pos (show 0 ≤ s ∧ s < 1600 by omega)]
      rw [hT s (by omega) q, ey, ez]
      rfl
    have sg := sg_hi (hB s (by omega) q)
    by_cases qs : isSg (T s)
    · have hne : T s ≠ 25 ∧ T s ≠ 26 ∧ T s ≠ 27 ∧ 27 < T s := by unfold isSg at qs; omega
      refine ⟨T s, 1, by rw [tk, if_neg (fun c => sg.1 c qs)], ?_, ⟨hk, Or.inr (Or.inr (Or.inr (Or.inr ⟨q, a, b, rfl, Or.inl ⟨qs, rfl⟩⟩)))⟩, by omega, fun _ => by omega, fun c => absurd c hne.1, fun _ _ => ⟨by omega, by omega, ?_⟩⟩
      · unfold pR_valueOf
        rw [if_neg hne.1, if_neg hne.2.2.1, w32_eq (by omega) (by omega), show s + 1 - s = 1 by omega]
      · rw [show s + 1 - 1 = s by omega]
        exact ⟨fun c => by omega, fun c => by rcases c with c | c; exact absurd c a; exact absurd c b⟩
    · refine ⟨27, s, by rw [tk, if_pos (sg.2 qs)], ?_, ⟨hk, Or.inr (Or.inr (Or.inr (Or.inr ⟨q, a, b, rfl, Or.inr ⟨qs, rfl, rfl⟩⟩)))⟩, by decide, fun _ => by omega, fun c => absurd c (by decide), fun _ c => absurd rfl c⟩
      unfold pR_valueOf
      rw [if_neg (by decide), if_pos rfl, if_pos (by omega), if_pos (by omega), hT s (by omega) q, ey, if_pos (by omega), ez]
      rfl
theorem c_putT {m : Mem} {n a b c : Int} (h : m 18 6 = n) (hn : 0 ≤ n ∧ n ≤ 1600) : pR_add m a b c = some (mset (mset (mset (mset m 35 n a) 36 n b) 37 n c) 18 6 (n + 1)) := by
  unfold pR_add
  rw [h, if_neg (by omega), if_pos (by omega)]
  show (if 0 ≤ mset m 35 n a 18 6 ∧ mset m 35 n a 18 6 < 1601 then _ else _) = _
  simp (disch := omega) only [mset_o, h]
  rw [if_pos (by omega)]
  simp only [Option.bind_some]
  simp (disch := omega) only [mset_o, h]
  rw [if_pos (by omega)]
  simp (disch := omega) only [mset_o, h, w32_eq]
def FSp : Int → Int → Prop := fun b j => b = 35 ∨ b = 36 ∨ b = 37 ∨ (b = 18 ∧ j = 6)
def CHp (T : Int → Int) (L : Int) (m : Mem) (en : Int → Int) (n : Int) : Prop := en 0 = 0 ∧ ∀ k, 0 ≤ k → k < n → (0 ≤ en k ∧ en k ≤ L) ∧ TOKp T L (en k) (m 35 k) (m 36 k) (m 37 k) (en (k + 1)) ∧ (0 ≤ m 35 k ∧ (m 35 k = 25 → 0 ≤ m 37 k ∧ m 37 k ≤ 9999))
theorem CHp.put {T : Int → Int} {L : Int} {m : Mem} {en : Int → Int} {n c s v x z : Int} (h : CHp T L m en n) (hn : 0 ≤ n) (he : 0 ≤ en n ∧ en n ≤ L) (ht : TOKp T L (en n) c s v x) (hc : 0 ≤ c ∧ (c = 25 → 0 ≤ v ∧ v ≤ 9999)) : CHp T L (mset (mset (mset (mset m 35 n c) 36 n s) 37 n v) 18 6 z) (fun k => if k = n + 1 then x else en k) (n + 1) := by
  refine ⟨by show (if (0 : Int) = n + 1 then x else en 0) = 0; rw [if_neg (by omega)]; exact h.1, fun k k0 k1 => ?_⟩
  show (0 ≤ (if k = n + 1 then x else en k) ∧ (if k = n + 1 then x else en k) ≤ L) ∧ TOKp T L (if k = n + 1 then x else en k) _ _ _ (if k + 1 = n + 1 then x else en (k + 1)) ∧ _
  rw [if_neg (show ¬ k = n + 1 by omega)]
  by_cases q : k = n
  · subst q
    rw [if_pos rfl]
    simp (disch := omega) only [mset_o, mset_s]
    exact ⟨he, ht, hc⟩
  · rw [if_neg (show ¬ k + 1 = n + 1 by omega)]
    simp (disch := omega) only [mset_o]
    exact h.2 k k0 (by omega)
