/-! VALLEY: the component's splitting, its pieces -/
theorem ec_lett (m : Mem) (c : Int) : ∃ y, pR_isLetter m c = some y ∧ ((y = 1 ∧ isLt c) ∨ (y = 0 ∧ ¬ isLt c)) := by
  unfold pR_isLetter isLt
  by_cases q : c < 97
  · rw [if_pos q]; exact ⟨0, rfl, Or.inr ⟨rfl, by omega⟩⟩
  · rw [if_neg q]
    by_cases q2 : 122 < c
    · rw [if_pos q2]; exact ⟨0, rfl, Or.inr ⟨rfl, by omega⟩⟩
    · rw [if_neg q2]; exact ⟨1, rfl, Or.inl ⟨rfl, by omega⟩⟩
theorem ec_digi (m : Mem) (c : Int) : ∃ y, pR_isDigit m c = some y ∧ ((y = 1 ∧ isDg c) ∨ (y = 0 ∧ ¬ isDg c)) := by
  unfold pR_isDigit isDg
  by_cases q : c < 48
  · rw [if_pos q]; exact ⟨0, rfl, Or.inr ⟨rfl, by omega⟩⟩
  · rw [if_neg q]
    by_cases q2 : 57 < c
    · rw [if_pos q2]; exact ⟨0, rfl, Or.inr ⟨rfl, by omega⟩⟩
    · rw [if_neg q2]; exact ⟨1, rfl, Or.inl ⟨rfl, by omega⟩⟩
theorem ec_run (m : Mem) (c : Int) : ∃ y, pR_isRun m c = some y ∧ ((y = 1 ∧ (isLt c ∨ isDg c)) ∨ (y = 0 ∧ ¬ isLt c ∧ ¬ isDg c)) := by
  unfold pR_isRun
  obtain ⟨y, ey, hy⟩ := ec_lett m c
  obtain ⟨z, ez, hz⟩ := ec_digi m c
  rw [ey]
  show ∃ w, (if y = 0 then _ else _) = _ ∧ _
  rcases hy with ⟨rfl, h⟩ | ⟨rfl, h⟩
  · exact ⟨1, rfl, Or.inl ⟨rfl, Or.inl h⟩⟩
  · rw [if_pos rfl, ez]
    show ∃ w, (if z = 0 then _ else _) = _ ∧ _
    rcases hz with ⟨rfl, h2⟩ | ⟨rfl, h2⟩
    · exact ⟨1, rfl, Or.inl ⟨rfl, Or.inr h2⟩⟩
    · exact ⟨0, rfl, Or.inr ⟨rfl, h, h2⟩⟩
theorem c_skipL {N : Nat} {m : Mem} {T : Int → Int} {L s : Int} {kk : Int → Option Int} {bo : Int → Option Int} (hT : ∀ j, 0 ≤ j → j < L → m 1 j = T j) (hL : L ≤ 1600) : ∀ (k nn : Nat) (e : Int), k < nn → 0 ≤ e → e + k = s → SKP T L e s → lpF bo (pR_behindBlanks_L2b N m L kk) nn e = kk s := by
  intro k
  induction k with
  | zero =>
    intro nn e hn h0 hk h
    obtain ⟨nn, rfl⟩ : ∃ n', nn = n' + 1 := ⟨nn - 1, by omega⟩
    have hes : e = s := by omega
    subst hes
    show pR_behindBlanks_L2b N m L kk (lpF bo (pR_behindBlanks_L2b N m L kk) nn) e = _
    generalize lpF bo (pR_behindBlanks_L2b N m L kk) nn = self
    unfold pR_behindBlanks_L2b
    have hb := h.2.2
    by_cases q : e < L
    · rw [if_pos q, if_pos (by omega), hT e h0 q, if_neg (fun c => hb ⟨q, Or.inl c⟩), if_pos (by omega), if_neg (fun c => hb ⟨q, Or.inr c⟩)]
    · rw [if_neg q]
  | succ k ih =>
    intro nn e hn h0 hk h
    obtain ⟨nn, rfl⟩ : ∃ n', nn = n' + 1 := ⟨nn - 1, by omega⟩
    have he := h.2.1 e (Int.le_refl _) (by omega)
    have ih' := ih nn (e + 1) (by omega) (by omega) (by omega) ⟨by omega, fun j h1 h3 => h.2.1 j (by omega) h3, h.2.2⟩
    show pR_behindBlanks_L2b N m L kk (lpF bo (pR_behindBlanks_L2b N m L kk) nn) e = _
    generalize lpF bo (pR_behindBlanks_L2b N m L kk) nn = self at ih' ⊢
    unfold pR_behindBlanks_L2b
    rw [if_pos he.1, if_pos (by omega), hT e h0 he.1, w32_eq (x := e + 1) (by omega) (by omega)]
    by_cases q : T e = 32
    · rw [if_pos q]; exact ih'
    · rw [if_neg q, if_pos (by omega), if_pos (by omega)]; exact ih'
theorem SKP_le {T : Int → Int} {L e s : Int} (he : e ≤ L) (h : SKP T L e s) : s ≤ L := by
  have hes := h.1
  by_cases q : e < s
  · have := (h.2.1 (s - 1) (by omega) (by omega)).1
    omega
  · omega
theorem SKP_ex (T : Int → Int) (L : Int) (e : Int) (he : e ≤ L) : ∃ s, SKP T L e s := by
  obtain ⟨x, h⟩ := RUN_ex (fun c => c = 32 ∨ c = 10) T L e he
  exact ⟨x, h⟩
theorem c_beh {N : Nat} {m : Mem} {T : Int → Int} {L e s : Int} (hN : 2000 ≤ N) (hT : ∀ j, 0 ≤ j → j < L → m 1 j = T j) (hL : L ≤ 1600) (he : 0 ≤ e ∧ e ≤ L) (h : SKP T L e s) : pR_behindBlanks N m L e = some s := by
  have h1 := h.1
  have h2 := SKP_le he.2 h
  unfold pR_behindBlanks pR_behindBlanks_L2
  exact c_skipL hT hL (s - e).toNat N e (by omega) he.1 (by omega) h
theorem c_letL {N : Nat} {m : Mem} {T : Int → Int} {L s x : Int} {bo : Int → Option Int} (hT : ∀ j, 0 ≤ j → j < L → m 1 j = T j) (hL : L ≤ 1600) (hs : 0 ≤ s) (hr : RUNp isLt T L s x) : ∀ (k nn : Nat) (e : Int), k < nn → s ≤ e → e + k = x → lpF bo (pR_endOfRun_L20b N m L) nn e = some x := by
  intro k
  induction k with
  | zero =>
    intro nn e hn h0 hk
    obtain ⟨nn, rfl⟩ : ∃ n', nn = n' + 1 := ⟨nn - 1, by omega⟩
    have hes : e = x := by omega
    subst hes
    show pR_endOfRun_L20b N m L (lpF bo (pR_endOfRun_L20b N m L) nn) e = _
    generalize lpF bo (pR_endOfRun_L20b N m L) nn = self
    unfold pR_endOfRun_L20b
    have hb := hr.2.2
    by_cases q : e < L
    · obtain ⟨y, ey, hy⟩ := ec_lett m (T e)
      rw [if_pos q, if_pos (by omega), hT e (by omega) q, ey]
      rcases hy with ⟨-, c⟩ | ⟨rfl, -⟩
      · exact absurd ⟨q, c⟩ hb
      · rfl
    · rw [if_neg q]
  | succ k ih =>
    intro nn e hn h0 hk
    obtain ⟨nn, rfl⟩ : ∃ n', nn = n' + 1 := ⟨nn - 1, by omega⟩
    have he := hr.2.1 e (by omega) (by omega)
    have ih' := ih nn (e + 1) (by omega) (by omega) (by omega)
    show pR_endOfRun_L20b N m L (lpF bo (pR_endOfRun_L20b N m L) nn) e = _
    generalize lpF bo (pR_endOfRun_L20b N m L) nn = self at ih' ⊢
    unfold pR_endOfRun_L20b
    obtain ⟨y, ey, hy⟩ := ec_lett m (T e)
    rw [if_pos he.1, if_pos (by omega), hT e (by omega) he.1, ey, w32_eq (x := e + 1) (by omega) (by omega)]
    rcases hy with ⟨rfl, -⟩ | ⟨-, c⟩
    · exact ih'
    · exact absurd he.2 c
theorem c_digL {N : Nat} {m : Mem} {T : Int → Int} {L s x : Int} {bo : Int → Option Int} {kk : Int → Option Int} (hT : ∀ j, 0 ≤ j → j < L → m 1 j = T j) (hL : L ≤ 1600) (hs : 0 ≤ s) (hr : RUNp isDg T L s x) : ∀ (k nn : Nat) (e : Int), k < nn → s ≤ e → e + k = x → lpF bo (pR_endOfRun_L49b N m L kk) nn e = kk x := by
  intro k
  induction k with
  | zero =>
    intro nn e hn h0 hk
    obtain ⟨nn, rfl⟩ : ∃ n', nn = n' + 1 := ⟨nn - 1, by omega⟩
    have hes : e = x := by omega
    subst hes
    show pR_endOfRun_L49b N m L kk (lpF bo (pR_endOfRun_L49b N m L kk) nn) e = _
    generalize lpF bo (pR_endOfRun_L49b N m L kk) nn = self
    unfold pR_endOfRun_L49b
    have hb := hr.2.2
    by_cases q : e < L
    · obtain ⟨y, ey, hy⟩ := ec_digi m (T e)
      rw [if_pos q, if_pos (by omega), hT e (by omega) q, ey]
      rcases hy with ⟨-, c⟩ | ⟨rfl, -⟩
      · exact absurd ⟨q, c⟩ hb
      · rfl
    · rw [if_neg q]
  | succ k ih =>
    intro nn e hn h0 hk
    obtain ⟨nn, rfl⟩ : ∃ n', nn = n' + 1 := ⟨nn - 1, by omega⟩
    have he := hr.2.1 e (by omega) (by omega)
    have ih' := ih nn (e + 1) (by omega) (by omega) (by omega)
    show pR_endOfRun_L49b N m L kk (lpF bo (pR_endOfRun_L49b N m L kk) nn) e = _
    generalize lpF bo (pR_endOfRun_L49b N m L kk) nn = self at ih' ⊢
    unfold pR_endOfRun_L49b
    obtain ⟨y, ey, hy⟩ := ec_digi m (T e)
    rw [if_pos he.1, if_pos (by omega), hT e (by omega) he.1, ey, w32_eq (x := e + 1) (by omega) (by omega)]
    rcases hy with ⟨rfl, -⟩ | ⟨-, c⟩
    · exact ih'
    · exact absurd he.2 c
def ENDp (T : Int → Int) (L s x : Int) : Prop := (L ≤ s ∧ x = s) ∨ (s < L ∧ isLt (T s) ∧ RUNp isLt T L s x) ∨ (s < L ∧ isDg (T s) ∧ RUNp isDg T L s x) ∨ (s < L ∧ ¬ isLt (T s) ∧ ¬ isDg (T s) ∧ x = s + 1)
theorem RUN_lt {P : Int → Prop} {T : Int → Int} {L s x : Int} (h : RUNp P T L s x) (hs : s < L) (hp : P (T s)) : s < x := by
  have h1 := h.1
  by_cases q : s = x
  · exact absurd ⟨q ▸ hs, q ▸ hp⟩ h.2.2
  · omega
theorem END_ex (T : Int → Int) (L s : Int) (hs : s ≤ L) : ∃ x, ENDp T L s x := by
  by_cases q : s < L
  · by_cases a : isLt (T s)
    · obtain ⟨x, h⟩ := RUN_ex isLt T L s hs
      exact ⟨x, Or.inr (Or.inl ⟨q, a, h⟩)⟩
    · by_cases b : isDg (T s)
      · obtain ⟨x, h⟩ := RUN_ex isDg T L s hs
        exact ⟨x, Or.inr (Or.inr (Or.inl ⟨q, b, h⟩))⟩
      · exact ⟨s + 1, Or.inr (Or.inr (Or.inr ⟨q, a, b, rfl⟩))⟩
  · exact ⟨s, Or.inl ⟨by omega, rfl⟩⟩
theorem c_end {N : Nat} {m : Mem} {T : Int → Int} {L s x : Int} (hN : 2000 ≤ N) (hT : ∀ j, 0 ≤ j → j < L → m 1 j = T j) (hL : L ≤ 1600) (hs : 0 ≤ s) (h : ENDp T L s x) : pR_endOfRun N m L s = some x := by
  unfold pR_endOfRun
  rcases h with ⟨q, rfl⟩ | ⟨q, a, r⟩ | ⟨q, b, r⟩ | ⟨q, a, b, rfl⟩
  · rw [if_neg (by omega)]
  all_goals
    obtain ⟨y, ey, hy⟩ := ec_lett m (T s)
    obtain ⟨z, ez, hz⟩ := ec_digi m (T s)
    rw [if_pos q, w32_eq (x := s + 1) (by omega) (by omega)]
    show (if 0 ≤ s ∧ s < 1600 then _ else _) = _
    rw [if_pos (by omega), hT s hs q, ey]
    show (if y = 0 then _ else _) = _
  · have hx := RUN_lt r q a
    have hx2 := RUN_le r (by omega)
    rcases hy with ⟨rfl, -⟩ | ⟨-, c⟩
    · rw [if_neg (by decide)]
      exact c_letL hT hL hs r (x - (s + 1)).toNat N (s + 1) (by omega) (by omega) (by omega)
    · exact absurd a c
  · have hx := RUN_lt r q b
    have hx2 := RUN_le r (by omega)
    rcases hy with ⟨-, c⟩ | ⟨rfl, -⟩
    · unfold isLt at c; unfold isDg at b; omega
    · rw [if_pos rfl, if_pos (by omega), ez]
      show (if z = 0 then _ else _) = _
      rcases hz with ⟨rfl, -⟩ | ⟨-, c⟩
      · rw [if_neg (by decide)]
        exact c_digL hT hL hs r (x - (s + 1)).toNat N (s + 1) (by omega) (by omega) (by omega)
      · exact absurd b c
  · rcases hy with ⟨-, c⟩ | ⟨rfl, -⟩
    · exact absurd c a
    · rw [if_pos rfl, if_pos (by omega), ez]
      show (if z = 0 then _ else _) = _
      rcases hz with ⟨-, c⟩ | ⟨rfl, -⟩
      · exact absurd c b
      · rw [if_pos rfl]
theorem c_numL {N : Nat} {m : Mem} {T : Int → Int} {L s x : Int} {bo : Int → Int → Option Int} {kk : Int → Option Int} (hT : ∀ j, 0 ≤ j → j < L → m 1 j = T j) (hL : L ≤ 1600) (hs : 0 ≤ s) (hr : RUNp isDg T L s x) (h4 : x - s ≤ 4) : ∀ (k nn j : Nat), k < nn → s + j + k = x → lpF bo (pR_valueOf_L12b N m x kk) nn (numV T s j) (s + j) = kk (numV T s (x - s).toNat) := by
  intro k
  induction k with
  | zero =>
    intro nn j hn hk
    obtain ⟨nn, rfl⟩ : ∃ n', nn = n' + 1 := ⟨nn - 1, by omega⟩
    show pR_valueOf_L12b N m x kk (lpF bo (pR_valueOf_L12b N m x kk) nn) (numV T s j) (s + j) = _
    generalize lpF bo (pR_valueOf_L12b N m x kk) nn = self
    unfold pR_valueOf_L12b
    rw [if_neg (by omega), show (x - s).toNat = j by omega]
  | succ k ih =>
    intro nn j hn hk
    obtain ⟨nn, rfl⟩ : ∃ n', nn = n' + 1 := ⟨nn - 1, by omega⟩
    have ih' := ih nn (j + 1) (by omega) (by omega)
    rw [show s + ((j + 1 : Nat) : Int) = s + j + 1 by omega] at ih'
    show pR_valueOf_L12b N m x kk (lpF bo (pR_valueOf_L12b N m x kk) nn) (numV T s j) (s + j) = _
    generalize lpF bo (pR_valueOf_L12b N m x kk) nn = self at ih' ⊢
    unfold pR_valueOf_L12b
    have he := hr.2.1 (s + j) (by omega) (by omega)
    have hd := he.2
    unfold isDg at hd
    have hb := numV_bd (T := T) (s := s) j (fun i hi => (hr.2.1 (s + i) (by omega) (by omega)).2)
    have h4' := pow4 j (by omega)
    rw [if_pos (by omega), if_pos (by omega), hT (s + j) (by omega) he.1, w32_eq (x := numV T s j * 10) (by omega) (by omega), w32_eq (x := numV T s j * 10 + T (s + j)) (by omega) (by omega), w32_eq (x := numV T s j * 10 + T (s + j) - 48) (by omega) (by omega), w32_eq (x := s + j + 1) (by omega) (by omega)]
    rw [show numV T s (j + 1) = numV T s j * 10 + T (s + j) - 48 by show numV T s j * 10 + (T (s + j) - 48) = _; omega] at ih'
    exact ih'
