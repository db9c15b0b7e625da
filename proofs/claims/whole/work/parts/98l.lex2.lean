/-! VALLEY: the reference looks at the next sign, the call -/
theorem pow6 : ∀ j : Nat, j < 6 → (256 : Int) ^ j ≤ 1099511627776 := by decide
theorem pow4 : ∀ j : Nat, j < 5 → (10 : Int) ^ j ≤ 10000 := by decide
theorem r_wordL {N : Nat} {Q : Mem → Prop} {kk : Int → Mem → Option Mem} {bo : Int → Int → Mem → Option Mem} {m0 : Mem} {T : Int → Int} {L s x : Int} {a : Int} (h2 : m0 475 2 = L) (hT : ∀ j, 0 ≤ j → j < L → m0 476 j = T j) (hL : L ≤ 1600) (hs : 0 ≤ s) (hr : RUNp isLt T L s x) (ha : a = -1 ∨ a = s)
    (hk : ∀ m', m' 475 12 = (if a = -1 then (if 6 < x - s then s + 6 else -1) else a) → m' 475 7 = packW (fun j => T (s + j)) (min (x - s).toNat 6) → Fr (fun b j => b = 475 ∧ (j = 7 ∨ j = 12)) m0 m' → Rn (kk x m') Q) :
    ∀ (k nn j : Nat) (m : Mem), k < nn → s + j + k = x → m 475 12 = (if a = -1 then (if 6 < j then s + 6 else -1) else a) → m 475 7 = packW (fun j => T (s + j)) (min j 6) → Fr (fun b j => b = 475 ∧ (j = 7 ∨ j = 12)) m0 m → Rn (lpF bo (pM_ahead_L204b N 1 0 6 kk) nn (s + j) (j : Int) m) Q := by
  intro k
  induction k with
  | zero =>
    intro nn j m hn hk0 h12 h7 hf
    obtain ⟨nn, rfl⟩ : ∃ n', nn = n' + 1 := ⟨nn - 1, by omega⟩
    have hx : s + (j : Int) = x := by omega
    show Rn (pM_ahead_L204b N 1 0 6 kk (lpF bo (pM_ahead_L204b N 1 0 6 kk) nn) (s + j) (j : Int) m) Q
    generalize lpF bo (pM_ahead_L204b N 1 0 6 kk) nn = self
    unfold pM_ahead_L204b
    have e2 : m 475 2 = L := (hf _ _ (by omega)).trans h2
    rw [e2, hx]
    have fin : Rn (kk x m) Q := by
      refine hk m ?_ ?_ hf
      · rw [h12]
        by_cases q : a = -1
        · rw [if_pos q, if_pos q]
          by_cases q2 : 6 < j
          · rw [if_pos q2, if_pos (by omega)]
          · rw [if_neg q2, if_neg (by omega)]
        · rw [if_neg q, if_neg q]
      · rw [h7, show (x - s).toNat = j by omega]
    refine rn_i (fun q => ?_) (fun _ => fin)
    refine rn_jl (fun J hJ => ?_)
    refine rn_f (by omega) (rn_t (by omega) ?_)
    have eT : m 476 x = T x := (hf _ _ (by omega)).trans (hT x (by omega) q)
    rw [eT]
    obtain ⟨y, ey, hy⟩ := e_lett m (T x)
    refine rn_e ey (rn_t ?_ fin)
    rcases hy with ⟨-, c⟩ | ⟨c, -⟩
    · exact absurd ⟨q, c⟩ hr.2.2
    · exact c
  | succ k ih =>
    intro nn j m hn hk0 h12 h7 hf
    obtain ⟨nn, rfl⟩ : ∃ n', nn = n' + 1 := ⟨nn - 1, by omega⟩
    have hj := hr.2.1 (s + j) (by omega) (by omega)
    have ih' := ih nn (j + 1)
    rw [show s + ((j + 1 : Nat) : Int) = s + j + 1 by omega, show ((j + 1 : Nat) : Int) = (j : Int) + 1 by omega] at ih'
    show Rn (pM_ahead_L204b N 1 0 6 kk (lpF bo (pM_ahead_L204b N 1 0 6 kk) nn) (s + j) (j : Int) m) Q
    generalize lpF bo (pM_ahead_L204b N 1 0 6 kk) nn = self at ih' ⊢
    unfold pM_ahead_L204b
    have e2 : m 475 2 = L := (hf _ _ (by omega)).trans h2
    have eT : m 476 (s + j) = T (s + j) := (hf _ _ (by omega)).trans (hT _ (by omega) hj.1)
    have hlt := hj.2
    unfold isLt at hlt
    rw [e2]
    refine rn_t hj.1 ?_
    refine rn_jl (fun J hJ => ?_)
    refine rn_f (by omega) (rn_t (by omega) ?_)
    rw [eT]
    obtain ⟨y, ey, hy⟩ := e_lett m (T (s + j))
    refine rn_e ey ?_
    refine rn_f ?_ ?_
    · rcases hy with ⟨c, -⟩ | ⟨-, c⟩
      · omega
      · exact absurd hj.2 c
    subst hJ
    dsimp only
    rw [w32_eq (x := (j : Int) + 1) (by omega) (by omega), w32_eq (x := s + (j : Int) + 1) (by omega) (by omega)]
    -- the place where a seventh stands
    have st1 : Rn (if (j : Int) = 6 then if m 475 12 = -1 then (some (mset m 475 12 (s + j))).bind fun m260 => some (m260) else some m else some m) (fun m1 => m1 475 12 = (if a = -1 then (if 6 < j + 1 then s + 6 else -1) else a) ∧ Fr (fun b j => b = 475 ∧ j = 12) m m1) := by
      by_cases q : (j : Int) = 6
      · rw [if_pos q]
        by_cases qa : a = -1
        · rw [if_pos (by rw [h12, if_pos qa, if_neg (by omega)])]
          refine rn_v (rn_s ⟨?_, Fr.rfl'.set ⟨rfl, rfl⟩⟩)
          rw [mset_s rfl rfl, if_pos qa, if_pos (by omega)]
          omega
        · rw [if_neg (by rw [h12, if_neg qa]; exact qa)]
          exact rn_s ⟨by rw [h12, if_neg qa, if_neg qa], Fr.rfl'⟩
      · rw [if_neg q]
        refine rn_s ⟨?_, Fr.rfl'⟩
        rw [h12]
        by_cases qa : a = -1
        · rw [if_pos qa, if_pos qa]
          by_cases q2 : 6 < j
          · rw [if_pos q2, if_pos (by omega)]
          · rw [if_neg q2, if_neg (by omega)]
        · rw [if_neg qa, if_neg qa]
    refine rn_b st1 (fun m1 h1 => ?_)
    obtain ⟨b12, f1⟩ := h1
    have b7 : m1 475 7 = packW (fun j => T (s + j)) (min j 6) := by rw [f1 _ _ (by omega)]; exact h7
    have bT : m1 476 (s + j) = T (s + j) := by rw [f1 _ _ (by omega)]; exact eT
    have g1 : Fr (fun b j => b = 475 ∧ (j = 7 ∨ j = 12)) m0 m1 := hf.trans (f1.mono (fun b j z => by omega))
    by_cases q6 : (j : Int) < 6
    · rw [if_pos q6, if_neg (by omega)]
      have hpb := packW_bd (T := T) (s := s) j (fun i hi => by
        have h := (hr.2.1 (s + i) (by omega) (by omega)).2
        unfold isLt at h
        omega)
      have hp6 : (256 : Int) ^ j ≤ 1099511627776 := pow6 j (by omega)
      rw [show min j 6 = j by omega] at b7
      refine rn_b (P := fun m2 => m2 475 7 = packW (fun j => T (s + j)) (j + 1) ∧ Fr (fun b j => b = 475 ∧ j = 7) m1 m2) ?_ (fun m2 h2' => ?_)
      · refine rn_t (by omega) ?_
        rw [b7, bT, o64_8 ⟨hpb.1, by omega⟩ (by omega)]
        refine rn_v (rn_s ⟨?_, Fr.rfl'.set ⟨rfl, rfl⟩⟩)
        rw [mset_s rfl rfl, packW_snoc]
      · obtain ⟨c7, f2⟩ := h2'
        refine rn_t q6 (rn_t rfl (rn_v (rn_v (ih' m2 (by omega) (by omega) ?_ ?_ (g1.trans (f2.mono (fun b j z => by omega)))))))
        · rw [f2 _ _ (by omega)]; exact b12
        · rw [c7, show min (j + 1) 6 = j + 1 by omega]
    · rw [if_neg q6]
      refine rn_v (rn_f q6 (rn_v (rn_v (ih' m1 (by omega) (by omega) b12 ?_ g1))))
      rw [b7, show min j 6 = 6 by omega, show min (j + 1) 6 = 6 by omega]
theorem numV_bd {T : Int → Int} {s : Int} : ∀ n : Nat, (∀ j : Nat, j < n → isDg (T (s + j))) → 0 ≤ numV T s n ∧ numV T s n < 10 ^ n
  | 0, _ => by
    show (0 : Int) ≤ 0 ∧ (0 : Int) < 10 ^ 0
    decide
  | n + 1, h => by
    have h1 := numV_bd n (fun j hj => h j (by omega))
    have h2 := h n (by omega)
    unfold isDg at h2
    show 0 ≤ numV T s n * 10 + (T (s + n) - 48) ∧ numV T s n * 10 + (T (s + n) - 48) < _
    rw [Int.pow_succ]
    omega
theorem r_numL {N : Nat} {Q : Mem → Prop} {kk : Int → Mem → Option Mem} {bo : Int → Int → Mem → Option Mem} {m0 : Mem} {T : Int → Int} {L s x : Int} {a : Int} (h2 : m0 475 2 = L) (hT : ∀ j, 0 ≤ j → j < L → m0 476 j = T j) (hL : L ≤ 1600) (hs : 0 ≤ s) (hr : RUNp isDg T L s x) (ha : a = -1 ∨ a = s)
    (hk : ∀ m', m' 475 12 = (if a = -1 then (if 4 < x - s then s + 4 else -1) else a) → m' 475 6 = numV T s (min (x - s).toNat 4) → Fr (fun b j => b = 475 ∧ (j = 6 ∨ j = 12)) m0 m' → Rn (kk x m') Q) :
    ∀ (k nn j : Nat) (m : Mem), k < nn → s + j + k = x → m 475 12 = (if a = -1 then (if 4 < j then s + 4 else -1) else a) → m 475 6 = numV T s (min j 4) → Fr (fun b j => b = 475 ∧ (j = 6 ∨ j = 12)) m0 m → Rn (lpF bo (pM_ahead_L204b N 0 1 4 kk) nn (s + j) (j : Int) m) Q := by
  intro k
  induction k with
  | zero =>
    intro nn j m hn hk0 h12 h7 hf
    obtain ⟨nn, rfl⟩ : ∃ n', nn = n' + 1 := ⟨nn - 1, by omega⟩
    have hx : s + (j : Int) = x := by omega
    show Rn (pM_ahead_L204b N 0 1 4 kk (lpF bo (pM_ahead_L204b N 0 1 4 kk) nn) (s + j) (j : Int) m) Q
    generalize lpF bo (pM_ahead_L204b N 0 1 4 kk) nn = self
    unfold pM_ahead_L204b
    have e2 : m 475 2 = L := (hf _ _ (by omega)).trans h2
    rw [e2, hx]
    have fin : Rn (kk x m) Q := by
      refine hk m ?_ ?_ hf
      · rw [h12]
        by_cases q : a = -1
        · rw [if_pos q, if_pos q]
          by_cases q2 : 4 < j
          · rw [if_pos q2, if_pos (by omega)]
          · rw [if_neg q2, if_neg (by omega)]
        · rw [if_neg q, if_neg q]
      · rw [h7, show (x - s).toNat = j by omega]
    refine rn_i (fun q => ?_) (fun _ => fin)
    refine rn_jl (fun J hJ => ?_)
    refine rn_t rfl (rn_t (by omega) ?_)
    have eT : m 476 x = T x := (hf _ _ (by omega)).trans (hT x (by omega) q)
    rw [eT]
    obtain ⟨y, ey, hy⟩ := e_digi m (T x)
    refine rn_e ey (rn_t ?_ fin)
    rcases hy with ⟨-, c⟩ | ⟨c, -⟩
    · exact absurd ⟨q, c⟩ hr.2.2
    · exact c
  | succ k ih =>
    intro nn j m hn hk0 h12 h7 hf
    obtain ⟨nn, rfl⟩ : ∃ n', nn = n' + 1 := ⟨nn - 1, by omega⟩
    have hj := hr.2.1 (s + j) (by omega) (by omega)
    have ih' := ih nn (j + 1)
    rw [show s + ((j + 1 : Nat) : Int) = s + j + 1 by omega, show ((j + 1 : Nat) : Int) = (j : Int) + 1 by omega] at ih'
    show Rn (pM_ahead_L204b N 0 1 4 kk (lpF bo (pM_ahead_L204b N 0 1 4 kk) nn) (s + j) (j : Int) m) Q
    generalize lpF bo (pM_ahead_L204b N 0 1 4 kk) nn = self at ih' ⊢
    unfold pM_ahead_L204b
    have e2 : m 475 2 = L := (hf _ _ (by omega)).trans h2
    have eT : m 476 (s + j) = T (s + j) := (hf _ _ (by omega)).trans (hT _ (by omega) hj.1)
    have hlt := hj.2
    unfold isDg at hlt
    rw [e2]
    refine rn_t hj.1 ?_
    refine rn_jl (fun J hJ => ?_)
    refine rn_t rfl (rn_t (by omega) ?_)
    rw [eT]
    obtain ⟨y, ey, hy⟩ := e_digi m (T (s + j))
    refine rn_e ey ?_
    refine rn_f ?_ ?_
    · rcases hy with ⟨c, -⟩ | ⟨-, c⟩
      · omega
      · exact absurd hj.2 c
    subst hJ
    dsimp only
    rw [w32_eq (x := (j : Int) + 1) (by omega) (by omega), w32_eq (x := s + (j : Int) + 1) (by omega) (by omega)]
    have st1 : Rn (if (j : Int) = 4 then if m 475 12 = -1 then (some (mset m 475 12 (s + j))).bind fun m260 => some (m260) else some m else some m) (fun m1 => m1 475 12 = (if a = -1 then (if 4 < j + 1 then s + 4 else -1) else a) ∧ Fr (fun b j => b = 475 ∧ j = 12) m m1) := by
      by_cases q : (j : Int) = 4
      · rw [if_pos q]
        by_cases qa : a = -1
        · rw [if_pos (by rw [h12, if_pos qa, if_neg (by omega)])]
          refine rn_v (rn_s ⟨?_, Fr.rfl'.set ⟨rfl, rfl⟩⟩)
          rw [mset_s rfl rfl, if_pos qa, if_pos (by omega)]
          omega
        · rw [if_neg (by rw [h12, if_neg qa]; exact qa)]
          exact rn_s ⟨by rw [h12, if_neg qa, if_neg qa], Fr.rfl'⟩
      · rw [if_neg q]
        refine rn_s ⟨?_, Fr.rfl'⟩
        rw [h12]
        by_cases qa : a = -1
        · rw [if_pos qa, if_pos qa]
          by_cases q2 : 4 < j
          · rw [if_pos q2, if_pos (by omega)]
          · rw [if_neg q2, if_neg (by omega)]
        · rw [if_neg qa, if_neg qa]
    refine rn_b st1 (fun m1 h1 => ?_)
    obtain ⟨b12, f1⟩ := h1
    have b6 : m1 475 6 = numV T s (min j 4) := by rw [f1 _ _ (by omega)]; exact h7
    have bT : m1 476 (s + j) = T (s + j) := by rw [f1 _ _ (by omega)]; exact eT
    have g1 : Fr (fun b j => b = 475 ∧ (j = 6 ∨ j = 12)) m0 m1 := hf.trans (f1.mono (fun b j z => by omega))
    by_cases q6 : (j : Int) < 4
    · rw [if_pos q6, if_pos rfl]
      refine rn_v (rn_t q6 (rn_f (by omega) (rn_t (by omega) ?_)))
      have hpb := numV_bd (T := T) (s := s) j (fun i hi => (hr.2.1 (s + i) (by omega) (by omega)).2)
      have hp4 : (10 : Int) ^ j ≤ 10000 := pow4 j (by omega)
      rw [show min j 4 = j by omega] at b6
      rw [b6, bT, w32_eq (x := 10 * numV T s j) (by omega) (by omega), w32_eq (x := 10 * numV T s j + T (s + j)) (by omega) (by omega), w32_eq (x := 10 * numV T s j + T (s + j) - 48) (by omega) (by omega)]
      refine rn_v (rn_v (rn_v (ih' _ (by omega) (by omega) ?_ ?_ (g1.set (by omega)))))
      · rw [mset_o (by omega)]; exact b12
      · rw [mset_s rfl rfl, show min (j + 1) 4 = j + 1 by omega]
        show _ = numV T s j * 10 + (T (s + j) - 48)
        omega
    · rw [if_neg q6]
      refine rn_v (rn_f q6 (rn_v (rn_v (ih' m1 (by omega) (by omega) b12 ?_ g1))))
      rw [b6, show min j 4 = 4 by omega, show min (j + 1) 4 = 4 by omega]
