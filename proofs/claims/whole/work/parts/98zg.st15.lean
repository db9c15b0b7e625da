/-! VALLEY: statements side by side: PERSON, the name -/
theorem e_own {m : Mem} {v c : Int} (h : ∀ i : Nat, i < 24 → (v = ownW i ↔ c = i)) (hc : 0 ≤ c ∧ c ≤ 24) : ∃ y, pM_isOwn m v = some y ∧ ((y = 1 ∧ c < 24) ∨ (y = 0 ∧ c = 24)) := by
  by_cases q : c = 24
  · refine ⟨0, ?_, Or.inr ⟨rfl, q⟩⟩
    have n0 : v ≠ 439854918756 := fun e => by have := (h 0 (by decide)).1 e; omega
    have n1 : v ≠ 25209 := fun e => by have := (h 1 (by decide)).1 e; omega
    have n2 : v ≠ 6579575 := fun e => by have := (h 2 (by decide)).1 e; omega
    have n3 : v ≠ 123581014175598 := fun e => by have := (h 3 (by decide)).1 e; omega
    have n4 : v ≠ 24948 := fun e => by have := (h 4 (by decide)).1 e; omega
    have n5 : v ≠ 30064 := fun e => by have := (h 5 (by decide)).1 e; omega
    have n6 : v ≠ 495672714612 := fun e => by have := (h 6 (by decide)).1 e; omega
    have n7 : v ≠ 1870095731 := fun e => by have := (h 7 (by decide)).1 e; omega
    have n8 : v ≠ 439721159795 := fun e => by have := (h 8 (by decide)).1 e; omega
    have n9 : v ≠ 7566702 := fun e => by have := (h 9 (by decide)).1 e; omega
    have n10 : v ≠ 499850634611 := fun e => by have := (h 10 (by decide)).1 e; omega
    have n11 : v ≠ 1835627380 := fun e => by have := (h 11 (by decide)).1 e; omega
    have n12 : v ≠ 109330212154734 := fun e => by have := (h 12 (by decide)).1 e; omega
    have n13 : v ≠ 7499639 := fun e => by have := (h 13 (by decide)).1 e; omega
    have n14 : v ≠ 6578553 := fun e => by have := (h 14 (by decide)).1 e; omega
    have n15 : v ≠ 1752135026 := fun e => by have := (h 15 (by decide)).1 e; omega
    have n16 : v ≠ 1751217765 := fun e => by have := (h 16 (by decide)).1 e; omega
    have n17 : v ≠ 26982 := fun e => by have := (h 17 (by decide)).1 e; omega
    have n18 : v ≠ 28530 := fun e => by have := (h 18 (by decide)).1 e; omega
    have n19 : v ≠ 6385252 := fun e => by have := (h 19 (by decide)).1 e; omega
    have n20 : v ≠ 7237492 := fun e => by have := (h 20 (by decide)).1 e; omega
    have n21 : v ≠ 6384748 := fun e => by have := (h 21 (by decide)).1 e; omega
    have n22 : v ≠ 7170414 := fun e => by have := (h 22 (by decide)).1 e; omega
    have n23 : v ≠ 7168376 := fun e => by have := (h 23 (by decide)).1 e; omega
    unfold pM_isOwn
    rw [if_neg n0, if_neg n1, if_neg n2, if_neg n3, if_neg n4, if_neg n5, if_neg n6, if_neg n7, if_neg n8, if_neg n9, if_neg n10, if_neg n11, if_neg n12, if_neg n13, if_neg n14, if_neg n15, if_neg n16, if_neg n17, if_neg n18, if_neg n19, if_neg n20, if_neg n21, if_neg n22, if_neg n23]
  · rcases (show c = 0 ∨ c = 1 ∨ c = 2 ∨ c = 3 ∨ c = 4 ∨ c = 5 ∨ c = 6 ∨ c = 7 ∨ c = 8 ∨ c = 9 ∨ c = 10 ∨ c = 11 ∨ c = 12 ∨ c = 13 ∨ c = 14 ∨ c = 15 ∨ c = 16 ∨ c = 17 ∨ c = 18 ∨ c = 19 ∨ c = 20 ∨ c = 21 ∨ c = 22 ∨ c = 23 by omega) with rfl | rfl | rfl | rfl | rfl | rfl | rfl | rfl | rfl | rfl | rfl | rfl | rfl | rfl | rfl | rfl | rfl | rfl | rfl | rfl | rfl | rfl | rfl | rfl
    · have e : v = 439854918756 := (h 0 (by decide)).2 rfl
      subst e
      exact ⟨1, rfl, Or.inl ⟨rfl, by decide⟩⟩
    · have e : v = 25209 := (h 1 (by decide)).2 rfl
      subst e
      exact ⟨1, rfl, Or.inl ⟨rfl, by decide⟩⟩
    · have e : v = 6579575 := (h 2 (by decide)).2 rfl
      subst e
      exact ⟨1, rfl, Or.inl ⟨rfl, by decide⟩⟩
    · have e : v = 123581014175598 := (h 3 (by decide)).2 rfl
      subst e
      exact ⟨1, rfl, Or.inl ⟨rfl, by decide⟩⟩
    · have e : v = 24948 := (h 4 (by decide)).2 rfl
      subst e
      exact ⟨1, rfl, Or.inl ⟨rfl, by decide⟩⟩
    · have e : v = 30064 := (h 5 (by decide)).2 rfl
      subst e
      exact ⟨1, rfl, Or.inl ⟨rfl, by decide⟩⟩
    · have e : v = 495672714612 := (h 6 (by decide)).2 rfl
      subst e
      exact ⟨1, rfl, Or.inl ⟨rfl, by decide⟩⟩
    · have e : v = 1870095731 := (h 7 (by decide)).2 rfl
      subst e
      exact ⟨1, rfl, Or.inl ⟨rfl, by decide⟩⟩
    · have e : v = 439721159795 := (h 8 (by decide)).2 rfl
      subst e
      exact ⟨1, rfl, Or.inl ⟨rfl, by decide⟩⟩
    · have e : v = 7566702 := (h 9 (by decide)).2 rfl
      subst e
      exact ⟨1, rfl, Or.inl ⟨rfl, by decide⟩⟩
    · have e : v = 499850634611 := (h 10 (by decide)).2 rfl
      subst e
      exact ⟨1, rfl, Or.inl ⟨rfl, by decide⟩⟩
    · have e : v = 1835627380 := (h 11 (by decide)).2 rfl
      subst e
      exact ⟨1, rfl, Or.inl ⟨rfl, by decide⟩⟩
    · have e : v = 109330212154734 := (h 12 (by decide)).2 rfl
      subst e
      exact ⟨1, rfl, Or.inl ⟨rfl, by decide⟩⟩
    · have e : v = 7499639 := (h 13 (by decide)).2 rfl
      subst e
      exact ⟨1, rfl, Or.inl ⟨rfl, by decide⟩⟩
    · have e : v = 6578553 := (h 14 (by decide)).2 rfl
      subst e
      exact ⟨1, rfl, Or.inl ⟨rfl, by decide⟩⟩
    · have e : v = 1752135026 := (h 15 (by decide)).2 rfl
      subst e
      exact ⟨1, rfl, Or.inl ⟨rfl, by decide⟩⟩
    · have e : v = 1751217765 := (h 16 (by decide)).2 rfl
      subst e
      exact ⟨1, rfl, Or.inl ⟨rfl, by decide⟩⟩
    · have e : v = 26982 := (h 17 (by decide)).2 rfl
      subst e
      exact ⟨1, rfl, Or.inl ⟨rfl, by decide⟩⟩
    · have e : v = 28530 := (h 18 (by decide)).2 rfl
      subst e
      exact ⟨1, rfl, Or.inl ⟨rfl, by decide⟩⟩
    · have e : v = 6385252 := (h 19 (by decide)).2 rfl
      subst e
      exact ⟨1, rfl, Or.inl ⟨rfl, by decide⟩⟩
    · have e : v = 7237492 := (h 20 (by decide)).2 rfl
      subst e
      exact ⟨1, rfl, Or.inl ⟨rfl, by decide⟩⟩
    · have e : v = 6384748 := (h 21 (by decide)).2 rfl
      subst e
      exact ⟨1, rfl, Or.inl ⟨rfl, by decide⟩⟩
    · have e : v = 7170414 := (h 22 (by decide)).2 rfl
      subst e
      exact ⟨1, rfl, Or.inl ⟨rfl, by decide⟩⟩
    · have e : v = 7168376 := (h 23 (by decide)).2 rfl
      subst e
      exact ⟨1, rfl, Or.inl ⟨rfl, by decide⟩⟩

theorem c_wnL {N : Nat} {m0 : Mem} {T : Int → Int} {i s n : Int} {Q : Mem → Prop} {kk : Mem → Option Mem} {bo : Int → Mem → Option Mem} (hi : 0 ≤ i ∧ i < 6) (hn : 1 ≤ n ∧ n ≤ 6) (hs : 0 ≤ s ∧ s + n ≤ 1600) (hT : ∀ j, 0 ≤ j → j < n → m0 1 (s + j) = T j ∧ (97 ≤ T j ∧ T j ≤ 122))
    (hk : ∀ m', Fr (fun b j => b = 21 ∧ 6 * i ≤ j ∧ j < 6 * i + 6) m0 m' → (∀ j, 0 ≤ j → j < 6 → m' 21 (6 * i + j) = (if j < n then T j - 96 else 0)) → Rn (kk m') Q) :
    ∀ (k nn : Nat) (x : Int) (m : Mem), k < nn → 0 ≤ x → x + k = 6 → Fr (fun b j => b = 21 ∧ 6 * i ≤ j ∧ j < 6 * i + 6) m0 m → (∀ j, 0 ≤ j → j < x → m 21 (6 * i + j) = (if j < n then T j - 96 else 0)) → Rn (lpF bo (pR_writeName_L24b N i s n kk) nn x m) Q := by
  intro k
  induction k with
  | zero =>
    intro nn x m hnn h0 hx f h
    obtain ⟨nn, rfl⟩ : ∃ n', nn = n' + 1 := ⟨nn - 1, by omega⟩
    show Rn (pR_writeName_L24b N i s n kk (lpF bo (pR_writeName_L24b N i s n kk) nn) x m) Q
    generalize lpF bo (pR_writeName_L24b N i s n kk) nn = self
    unfold pR_writeName_L24b
    exact rn_f (by omega) (hk m f (fun j j0 j1 => h j j0 (by omega)))
  | succ k ih =>
    intro nn x m hnn h0 hx f h
    obtain ⟨nn, rfl⟩ : ∃ n', nn = n' + 1 := ⟨nn - 1, by omega⟩
    have ih' := fun m' => ih nn (x + 1) m' (by omega) (by omega) (by omega)
    show Rn (pR_writeName_L24b N i s n kk (lpF bo (pR_writeName_L24b N i s n kk) nn) x m) Q
    generalize lpF bo (pR_writeName_L24b N i s n kk) nn = self at ih' ⊢
    unfold pR_writeName_L24b
    have put : ∀ v, v = (if x < n then T x - 96 else 0) → Rn (self (x + 1) (mset m 21 (6 * i + x) v)) Q := fun v hv => ih' _ (f.set (by omega)) (fun j j0 j1 => by
      by_cases q : j = x
      · subst q
        rw [mset_s rfl rfl]; exact hv
      · rw [mset_o (by omega)]; exact h j j0 (by omega))
    rw [w32_eq (x := i * 6) (by omega) (by omega), w32_eq (x := i * 6 + x) (by omega) (by omega), show i * 6 + x = 6 * i + x by omega, w32_eq (x := x + 1) (by omega) (by omega)]
    refine rn_t (by omega) ?_
    by_cases q : x < n
    · have hx1 := hT x h0 q
      rw [if_pos q, w32_eq (x := s + x) (by omega) (by omega), if_pos (show s + x < 1600 by omega), f 1 (s + x) (by omega), hx1.1, w32_eq (x := T x - 97) (by omega) (by omega), w32_eq (x := T x - 97 + 1) (by omega) (by omega)]
      refine rn_v (rn_f (by decide) (rn_t (by omega) (rn_t (by omega) (rn_v (rn_v (put _ ?_))))))
      rw [if_pos q]; omega
    · rw [if_neg q]
      refine rn_v (rn_t rfl (rn_t (by omega) (rn_v (rn_v (put _ ?_)))))
      rw [if_neg q]
theorem c_wname {N : Nat} {t m : Mem} {T : Int → Int} {i k : Int} (hN : 2000 ≤ N) (hz : NXt t) (hc : CKt t m k) (hi : 0 ≤ i ∧ i < 6) (hn : 1 ≤ t 37 k ∧ t 37 k ≤ 6) (hs : 0 ≤ t 36 k ∧ t 36 k + t 37 k ≤ 1600) (hT : ∀ j, 0 ≤ j → j < t 37 k → m 1 (t 36 k + j) = T j ∧ (97 ≤ T j ∧ T j ≤ 122)) : Rn (pR_writeName N m i) (fun m' => Fr (fun b j => b = 21 ∧ 6 * i ≤ j ∧ j < 6 * i + 6) m m' ∧ ∀ j, 0 ≤ j → j < 6 → m' 21 (6 * i + j) = (if j < t 37 k then T j - 96 else 0)) := by
  have hz1 := hz.1
  have h1 := hc.1
  unfold pR_writeName
  rw [hc.2.1, hc.2.2.1 36 k (by omega), hc.2.2.1 37 k (by omega)]
  refine rn_t (by omega) (rn_v (rn_t (by omega) (rn_v ?_)))
  unfold pR_writeName_L24
  exact c_wnL hi hn hs hT (fun m' f h => rn_s ⟨f, h⟩) 6 N 0 m (by omega) (by omega) (by omega) Fr.rfl' (fun j j0 j1 => absurd j0 (by omega))
