/-! VALLEY: the component splits the whole text, the loop -/
def SPo (T : Int → Int) (L : Int) (m m' : Mem) : Prop := Fr FSp m m' ∧ ∃ en n, m' 18 6 = n ∧ (1 ≤ n ∧ n ≤ L + 1) ∧ CHp T L m' en n ∧ (∀ k, 0 ≤ k → k < n → (k + 1 < n ↔ (m' 35 k ≠ 26 ∧ m' 35 k ≠ 27)))
def SPi (T : Int → Int) (L : Int) (m m' : Mem) (en : Int → Int) (e n : Int) : Prop := Fr FSp m m' ∧ m' 18 6 = n ∧ (0 ≤ n ∧ n ≤ e ∧ e ≤ L) ∧ CHp T L m' en n ∧ (∀ k, 0 ≤ k → k < n → m' 35 k ≠ 26 ∧ m' 35 k ≠ 27) ∧ en n = e ∧ (0 < n → (m' 35 (n - 1) < 26 ↔ (isLt (T (e - 1)) ∨ isDg (T (e - 1))))) ∧ (n = 0 → e = 0)
theorem SPi.fin {T : Int → Int} {L : Int} {m m' : Mem} {en : Int → Int} {e n c s v x : Int} (h : SPi T L m m' en e n) (ht : TOKp T L e c s v x) (hb : TKb T L c s v x) (hc : c = 26 ∨ c = 27) : SPo T L m (mset (mset (mset (mset m' 35 n c) 36 n s) 37 n v) 18 6 (n + 1)) := by
  obtain ⟨f, h6, hn, hch, hk, hen, -, -⟩ := h
  refine ⟨(((f.set (by unfold FSp; omega)).set (by unfold FSp; omega)).set (by unfold FSp; omega)).set (by unfold FSp; omega), _, n + 1, ?_, by omega, hch.put hn.1 (by omega) (hen ▸ ht) ⟨hb.1, hb.2.2.1⟩, fun k k0 k1 => ?_⟩
  · rw [mset_s rfl rfl]
  · by_cases q : k = n
    · subst q
      simp (disch := omega) only [mset_o, mset_s]
      omega
    · simp (disch := omega) only [mset_o]
      have := hk k k0 (by omega)
      exact ⟨fun _ => this, fun _ => by omega⟩
theorem SPi.go {T : Int → Int} {L : Int} {m m' : Mem} {en : Int → Int} {e n c s v x : Int} (h : SPi T L m m' en e n) (ht : TOKp T L e c s v x) (hb : TKb T L c s v x) (hc : c ≠ 26 ∧ c ≠ 27) : e < x ∧ ∃ en', SPi T L m (mset (mset (mset (mset m' 35 n c) 36 n s) 37 n v) 18 6 (n + 1)) en' x (n + 1) := by
  obtain ⟨f, h6, hn, hch, hk, hen, -, -⟩ := h
  have hes := ht.1.1
  have hsx := hb.2.1 hc.1
  have hx := hb.2.2.2 hc.1 hc.2
  refine ⟨by omega, _, (((f.set (by unfold FSp; omega)).set (by unfold FSp; omega)).set (by unfold FSp; omega)).set (by unfold FSp; omega), ?_, by omega, hch.put (x := x) hn.1 (by omega) (hen ▸ ht) ⟨hb.1, hb.2.2.1⟩, fun k k0 k1 => ?_, ?_, fun _ => ?_, fun c => by omega⟩
  · rw [mset_s rfl rfl]
  · by_cases q : k = n
    · subst q
      simp (disch := omega) only [mset_o, mset_s]
      exact hc
    · simp (disch := omega) only [mset_o]
      exact hk k k0 (by omega)
  · show (if n + 1 = n + 1 then x else _) = x
    rw [if_pos rfl]
  · rw [show n + 1 - 1 = n by omega]
    simp (disch := omega) only [mset_o, mset_s]
    exact hx.2.2
theorem e_adj {T : Int → Int} {L : Int} {m m' : Mem} {en : Int → Int} {e n s : Int} (h : SPi T L m m' en e n) (hL : L ≤ 1600) (hk : SKP T L e s) : ∃ y, (if 0 < m' 18 6 then if 0 ≤ w32 ((m' 18 6) - 1) ∧ w32 ((m' 18 6) - 1) < 1601 then if m' 35 (w32 ((m' 18 6) - 1)) < 26 then if s = e then some ((1 : Int)) else some ((0 : Int)) else some ((0 : Int)) else none else some ((0 : Int))) = some y ∧ ((y = 1 ∧ adjP T s) ∨ (y = 0 ∧ ¬ adjP T s)) := by
  obtain ⟨f, h6, hn, hch, hk1, hen, hi, hz⟩ := h
  rw [h6]
  unfold adjP
  by_cases q : 0 < n
  · rw [if_pos q, w32_eq (x := n - 1) (by omega) (by omega), if_pos (by omega)]
    have hi' := hi q
    by_cases q2 : s = e
    · subst q2
      by_cases q3 : m' 35 (n - 1) < 26
      · rw [if_pos q3, if_pos rfl]
        exact ⟨1, rfl, Or.inl ⟨rfl, by omega, hi'.1 q3⟩⟩
      · rw [if_neg q3]
        exact ⟨0, rfl, Or.inr ⟨rfl, fun c => q3 (hi'.2 c.2)⟩⟩
    · have hse := hk.1
      have hb := (hk.2.1 (s - 1) (by omega) (by omega)).2
      refine ⟨0, ?_, Or.inr ⟨rfl, fun c => ?_⟩⟩
      · by_cases q3 : m' 35 (n - 1) < 26
        · rw [if_pos q3, if_neg q2]
        · rw [if_neg q3]
      · have := c.2
        unfold isLt isDg at this
        omega
  · rw [if_neg q]
    have e0 := hz (by omega)
    refine ⟨0, rfl, Or.inr ⟨rfl, fun c => ?_⟩⟩
    have hb := (hk.2.1 (s - 1) (by omega) (by omega)).2
    have := c.2
    unfold isLt isDg at this
    omega
theorem c_splS {N : Nat} {m : Mem} {T : Int → Int} {L : Int} {bo : Int → Int → Mem → Option Mem} (hN : 2000 ≤ N) (hT : ∀ j, 0 ≤ j → j < L → m 1 j = T j) (hB : ∀ j, 0 ≤ j → j < L → 0 ≤ T j ∧ T j ≤ 255) (hL : 0 ≤ L ∧ L ≤ 1600) {k nn : Nat} {e n : Int} {m' : Mem} {en : Int → Int}
    (ih : 0 < k → ∀ (nn : Nat) (e n : Int) (m' : Mem) (en : Int → Int), L - e ≤ ((k - 1 : Nat) : Int) → k - 1 < nn → SPi T L m m' en e n → Rn (lpF bo (pR_split_L10b N L (fun n149 => some n149)) nn e n m') (SPo T L m))
    (hk : L - e ≤ k) (hn : k < nn) (h : SPi T L m m' en e n) : Rn (lpF bo (pR_split_L10b N L (fun n149 => some n149)) nn e n m') (SPo T L m) := by
  obtain ⟨nn, rfl⟩ : ∃ n', nn = n' + 1 := ⟨nn - 1, by omega⟩
  have ih' := fun c => ih c nn
  show Rn (pR_split_L10b N L (fun n149 => some n149) (lpF bo (pR_split_L10b N L (fun n149 => some n149)) nn) e n m') (SPo T L m)
  generalize lpF bo (pR_split_L10b N L (fun n149 => some n149)) nn = self at ih' ⊢
  have f := h.1
  have h6 := h.2.1
  have hb := h.2.2.1
  have hT' : ∀ j, 0 ≤ j → j < L → m' 1 j = T j := fun j j0 j1 => (f _ _ (by unfold FSp; omega)).trans (hT j j0 j1)
  obtain ⟨s, hsk⟩ := SKP_ex T L e hb.2.2
  have hsL := SKP_le hb.2.2 hsk
  have hes := hsk.1
  obtain ⟨x, hx⟩ := END_ex T L s hsL
  unfold pR_split_L10b
  refine rn_f (by omega) (rn_e (c_beh hN hT' hL.2 ⟨by omega, hb.2.2⟩ hsk) ?_)
  obtain ⟨y, ey, hy⟩ := e_adj h hL.2 hsk
  refine rn_e ey (rn_jl (fun J hJ => ?_))
  by_cases qa : s < L ∧ (isLt (T s) ∨ isDg (T s)) ∧ adjP T s
  · rcases hy with ⟨rfl, -⟩ | ⟨-, c⟩
    · obtain ⟨z, ez, hz⟩ := ec_run m' (T s)
      refine rn_f (by decide) (rn_t qa.1 (rn_t (by omega) ?_))
      rw [hT' s (by omega) qa.1]
      refine rn_e ez ?_
      rcases hz with ⟨rfl, -⟩ | ⟨-, c1, c2⟩
      · refine rn_f (by decide) (rn_e (c_putT h6 (by omega)) (rn_s ?_))
        exact h.fin (x := s + 1) ⟨hsk, Or.inr (Or.inl ⟨qa.1, qa.2.1, qa.2.2, rfl, rfl⟩)⟩ ⟨by decide, fun _ => by omega, fun c => absurd c (by decide), fun _ c => absurd rfl c⟩ (Or.inr rfl)
      · rcases qa.2.1 with c | c
        · exact absurd c c1
        · exact absurd c c2
    · exact absurd qa.2.2 c
  · have goJ : Rn (J ()) (SPo T L m) := by
      rw [hJ]
      obtain ⟨c, v, ec, ev, ht, htb⟩ := c_tok hN hT' hB hL.2 ⟨by omega, hb.2.2⟩ hsk hx qa
      refine rn_e (c_end hN hT' hL.2 (by omega) hx) (rn_e ec (rn_e ev (rn_e (c_putT h6 (by omega)) ?_)))
      refine rn_i (fun q => rn_s (h.fin ht htb (Or.inl q))) (fun q => rn_i (fun q2 => rn_s (h.fin ht htb (Or.inr q2))) (fun q2 => ?_))
      obtain ⟨hex, en', h'⟩ := h.go ht htb ⟨q, q2⟩
      have hxL := h'.2.2.1.2.2
      refine rn_v ?_
      rw [w32_eq (x := n + 1) (by omega) (by omega)]
      exact ih' (by omega) x (n + 1) _ en' (by omega) (by omega) h'
    refine rn_i (fun _ => goJ) (fun q => ?_)
    refine rn_i (fun q1 => rn_t (by omega) ?_) (fun _ => goJ)
    obtain ⟨z, ez, hz⟩ := ec_run m' (T s)
    rw [hT' s (by omega) q1]
    refine rn_e ez (rn_t ?_ goJ)
    rcases hy with ⟨-, c⟩ | ⟨c, -⟩
    · rcases hz with ⟨-, c1⟩ | ⟨c1, -⟩
      · exact absurd ⟨q1, c1, c⟩ qa
      · exact c1
    · exact absurd c q
theorem c_splL {N : Nat} {m : Mem} {T : Int → Int} {L : Int} {bo : Int → Int → Mem → Option Mem} (hN : 2000 ≤ N) (hT : ∀ j, 0 ≤ j → j < L → m 1 j = T j) (hB : ∀ j, 0 ≤ j → j < L → 0 ≤ T j ∧ T j ≤ 255) (hL : 0 ≤ L ∧ L ≤ 1600) : ∀ (k nn : Nat) (e n : Int) (m' : Mem) (en : Int → Int), L - e ≤ k → k < nn → SPi T L m m' en e n → Rn (lpF bo (pR_split_L10b N L (fun n149 => some n149)) nn e n m') (SPo T L m) := by
  intro k
  induction k with
  | zero =>
    intro nn e n m' en hk hn h
    exact c_splS hN hT hB hL (fun c => absurd c (Nat.lt_irrefl _)) hk hn h
  | succ k ih =>
    intro nn e n m' en hk hn h
    exact c_splS hN hT hB hL (fun _ => ih) hk hn h
theorem c_split {N : Nat} {m : Mem} {T : Int → Int} {L : Int} (hN : 2000 ≤ N) (hT : ∀ j, 0 ≤ j → j < L → m 1 j = T j) (hB : ∀ j, 0 ≤ j → j < L → 0 ≤ T j ∧ T j ≤ 255) (hL : 0 ≤ L ∧ L ≤ 1600) : Rn (pR_split N m L) (SPo T L m) := by
  unfold pR_split pR_split_L10
  refine rn_v ?_
  refine c_splL (m := m) hN hT hB hL L.toNat N 0 0 _ (fun _ => 0) (by omega) (by omega) ⟨Fr.rfl'.set (by unfold FSp; omega), ?_, by omega, ⟨rfl, fun k k0 k1 => absurd k0 (by omega)⟩, fun k k0 k1 => absurd k0 (by omega), rfl, fun c => absurd c (by decide), fun _ => rfl⟩
  rw [mset_s rfl rfl]
