/-! VALLEY: the component's splitting: words, signs -/
def ofW (i : Nat) : Int := [0, 6, 9, 13, 20, 23, 26, 32, 37, 43, 47, 53, 58, 65, 69, 73, 78, 83, 86, 89, 93, 97, 101, 105, 109].getD i 0
def lnW (i : Nat) : Nat := [5, 2, 3, 6, 2, 2, 5, 4, 5, 3, 5, 4, 6, 3, 3, 4, 4, 2, 2, 3, 3, 3, 3, 3].getD i 0
theorem wo_of : ∀ i : Nat, i < 24 → (ofW i + lnW i + 1 = ofW (i + 1)) ∧ (2 ≤ lnW i ∧ lnW i ≤ 6) ∧ (0 ≤ ofW i ∧ ofW i + lnW i < 109) := by decide +kernel
theorem wo_le : ∀ i : Nat, i < 24 → ∀ p : Nat, p < 6 → p < lnW i → 97 ≤ txc 0 (ofW i + p) ∧ txc 0 (ofW i + p) ≤ 122 := by decide +kernel
theorem wo_bl : ∀ i : Nat, i < 24 → txc 0 (ofW i + lnW i) = 32 := by decide +kernel
theorem wo_pk : ∀ i : Nat, i < 24 → packW (fun p => txc 0 (ofW i + p)) (lnW i) = ownW i := by decide +kernel
theorem wo_nd : ∀ i : Nat, i < 24 → ∀ j : Nat, j < 24 → ownW i = ownW j → i = j := by decide +kernel
theorem c16_lo : ∀ n : Nat, n < 256 → c16 (n : Int) = (n : Int) := by decide +kernel
theorem packW_nn : ∀ (n : Nat) (f : Int → Int), (∀ j : Nat, j < n → 1 ≤ f j) → 0 ≤ packW f n
  | 0, _, _ => Int.le_refl 0
  | n + 1, f, h => by
    have h1 := packW_nn n f (fun j hj => h j (by omega))
    have h2 := h n (by omega)
    rw [packW_snoc]
    omega
theorem packW_ext {f g : Int → Int} : ∀ {n : Nat}, (∀ j : Nat, j < n → f j = g j) → packW f n = packW g n
  | 0, _ => rfl
  | n + 1, h => by
    rw [packW_snoc, packW_snoc, packW_ext (fun j hj => h j (by omega)), h n (by omega)]
theorem packW_inj : ∀ (n k : Nat) (f g : Int → Int), (∀ j : Nat, j < n → 1 ≤ f j ∧ f j ≤ 255) → (∀ j : Nat, j < k → 1 ≤ g j ∧ g j ≤ 255) → packW f n = packW g k → n = k ∧ ∀ j : Nat, j < n → f j = g j := by
  intro n
  induction n with
  | zero =>
    intro k f g hf hg h
    cases k with
    | zero => exact ⟨rfl, fun j hj => absurd hj (Nat.not_lt_zero _)⟩
    | succ k =>
      rw [packW_snoc] at h
      have h1 := hg k (by omega)
      have h2 : (0 : Int) ≤ packW g k := packW_nn k g (fun j hj => (hg j (by omega)).1)
      have h3 : packW f 0 = 0 := rfl
      omega
  | succ n ih =>
    intro k f g hf hg h
    cases k with
    | zero =>
      rw [packW_snoc] at h
      have h1 := hf n (by omega)
      have h2 : (0 : Int) ≤ packW f n := packW_nn n f (fun j hj => (hf j (by omega)).1)
      have h3 : packW g 0 = 0 := rfl
      omega
    | succ k =>
      rw [packW_snoc, packW_snoc] at h
      have h1 := hf n (by omega)
      have h2 := hg k (by omega)
      obtain ⟨e1, e2⟩ := ih k f g (fun j hj => hf j (by omega)) (fun j hj => hg j (by omega)) (by omega)
      subst e1
      refine ⟨rfl, fun j hj => ?_⟩
      by_cases q : j = n
      · subst q; omega
      · exact e2 j (by omega)
def MWp (T : Int → Int) (s : Int) (n i : Nat) : Prop := n = lnW i ∧ ∀ q : Nat, q < lnW i → T (s + q) = txc 0 (ofW i + q)
theorem c_wI {N : Nat} {m : Mem} {T : Int → Int} {L s x : Int} {kk : Unit → Option Int} {bo : Int → Int → Int → Int → Option Int} {i : Nat} (hi : i < 24) (hT : ∀ j, 0 ≤ j → j < L → m 1 j = T j) (hL : L ≤ 1600) (hs : 0 ≤ s ∧ s ≤ x ∧ x ≤ L) : ∀ (k nn p : Nat) (ok : Int), k < nn → p + k = lnW i → ((ok = 1 ∧ s + p ≤ x ∧ ∀ q : Nat, q < p → T (s + q) = txc 0 (ofW i + q)) ∨ (ok = 0 ∧ ¬ MWp T s (x - s).toNat i)) →
    (MWp T s (x - s).toNat i → lpF bo (pR_wordAt_L11b N m s x kk) nn i (s + p) ok (ofW i + p) = some (i : Int)) ∧ (¬ MWp T s (x - s).toNat i → lpF bo (pR_wordAt_L11b N m s x kk) nn i (s + p) ok (ofW i + p) = lpF bo (pR_wordAt_L11b N m s x kk) (nn - k - 1) ((i : Int) + 1) s 1 (ofW (i + 1))) := by
  intro k
  have h1 := wo_of i hi
  induction k with
  | zero =>
    intro nn p ok hn hp hok
    obtain ⟨nn, rfl⟩ : ∃ n', nn = n' + 1 := ⟨nn - 1, by omega⟩
    rw [show nn + 1 - 0 - 1 = nn by omega]
    show (_ → pR_wordAt_L11b N m s x kk (lpF bo (pR_wordAt_L11b N m s x kk) nn) i (s + p) ok (ofW i + p) = _) ∧ (_ → pR_wordAt_L11b N m s x kk (lpF bo (pR_wordAt_L11b N m s x kk) nn) i (s + p) ok (ofW i + p) = _)
    generalize lpF bo (pR_wordAt_L11b N m s x kk) nn = self
    have hpl : p = lnW i := by omega
    subst hpl
    unfold pR_wordAt_L11b
    rw [if_pos (by omega), if_pos (by omega), w32_eq (x := (i : Int) + 1) (by omega) (by omega), w32_eq (x := ofW i + lnW i + 1) (by omega) (by omega), h1.1]
    simp only [Option.bind_some]
    rw [wo_bl i hi, if_pos rfl]
    rcases hok with ⟨rfl, hle, ha⟩ | ⟨rfl, hb⟩
    · rw [if_neg (by decide)]
      by_cases q : s + (lnW i : Int) = x
      · rw [if_pos q]
        exact ⟨fun _ => rfl, fun c => absurd ⟨by omega, ha⟩ c⟩
      · rw [if_neg q]
        exact ⟨fun c => absurd c.1 (by omega), fun _ => rfl⟩
    · rw [if_pos rfl]
      exact ⟨fun c => absurd c hb, fun _ => rfl⟩
  | succ k ih =>
    intro nn p ok hn hp hok
    obtain ⟨nn, rfl⟩ : ∃ n', nn = n' + 1 := ⟨nn - 1, by omega⟩
    have h2 := wo_le i hi p (by omega) (by omega)
    have ih1 := ih nn (p + 1) 1 (by omega) (by omega)
    have ih0 := ih nn (p + 1) 0 (by omega) (by omega)
    rw [show s + ((p + 1 : Nat) : Int) = s + p + 1 by omega, show ofW i + ((p + 1 : Nat) : Int) = ofW i + p + 1 by omega] at ih1 ih0
    rw [show nn + 1 - (k + 1) - 1 = nn - k - 1 by omega]
    show (_ → pR_wordAt_L11b N m s x kk (lpF bo (pR_wordAt_L11b N m s x kk) nn) i (s + p) ok (ofW i + p) = _) ∧ (_ → pR_wordAt_L11b N m s x kk (lpF bo (pR_wordAt_L11b N m s x kk) nn) i (s + p) ok (ofW i + p) = _)
    generalize hG : lpF bo (pR_wordAt_L11b N m s x kk) nn = self at ih1 ih0
    generalize lpF bo (pR_wordAt_L11b N m s x kk) (nn - k - 1) = self2 at ih1 ih0 ⊢
    unfold pR_wordAt_L11b
    rw [if_pos (by omega), if_pos (by omega)]
    simp only [Option.bind_some]
    rw [if_neg (show ¬ txc 0 (ofW i + p) = 32 by omega)]
    rcases hok with ⟨rfl, hle, ha⟩ | ⟨rfl, hb⟩
    · rw [if_neg (by decide)]
      by_cases q : s + (p : Int) < x
      · rw [if_pos q, if_pos (by omega), hT (s + p) (by omega) (by omega), w32_eq (x := s + (p : Int) + 1) (by omega) (by omega), w32_eq (x := ofW i + (p : Int) + 1) (by omega) (by omega)]
        by_cases q2 : T (s + p) = txc 0 (ofW i + p)
        · rw [if_pos q2]
          refine ih1 (Or.inl ⟨rfl, by omega, fun r hr => ?_⟩)
          by_cases q3 : r = p
          · subst q3; exact q2
          · exact ha r (by omega)
        · rw [if_neg q2]
          exact ih0 (Or.inr ⟨rfl, fun c => q2 (c.2 p (by omega))⟩)
      · rw [if_neg q, w32_eq (x := s + (p : Int) + 1) (by omega) (by omega), w32_eq (x := ofW i + (p : Int) + 1) (by omega) (by omega)]
        exact ih0 (Or.inr ⟨rfl, fun c => absurd c.1 (by omega)⟩)
    · rw [if_pos rfl, w32_eq (x := s + (p : Int) + 1) (by omega) (by omega), w32_eq (x := ofW i + (p : Int) + 1) (by omega) (by omega)]
      exact ih0 (Or.inr ⟨rfl, hb⟩)
theorem c_wO {N : Nat} {m : Mem} {T : Int → Int} {L s x : Int} {kk : Unit → Option Int} {bo : Int → Int → Int → Int → Option Int} (hkk : kk () = some 24) (hT : ∀ j, 0 ≤ j → j < L → m 1 j = T j) (hL : L ≤ 1600) (hs : 0 ≤ s ∧ s ≤ x ∧ x ≤ L) : ∀ (k nn i : Nat), i + k = 24 → 8 * k < nn → ∃ c : Nat, lpF bo (pR_wordAt_L11b N m s x kk) nn i s 1 (ofW i) = some (c : Int) ∧ c ≤ 24 ∧ (c < 24 → MWp T s (x - s).toNat c) ∧ (c = 24 → ∀ j, i ≤ j → j < 24 → ¬ MWp T s (x - s).toNat j) := by
  intro k
  induction k with
  | zero =>
    intro nn i hi hn
    obtain ⟨nn, rfl⟩ : ∃ n', nn = n' + 1 := ⟨nn - 1, by omega⟩
    have e : i = 24 := by omega
    subst e
    refine ⟨24, ?_, Nat.le_refl _, fun c => absurd c (by decide), fun _ j h1 h2 => absurd h1 (by omega)⟩
    show pR_wordAt_L11b N m s x kk (lpF bo (pR_wordAt_L11b N m s x kk) nn) _ s 1 109 = _
    generalize lpF bo (pR_wordAt_L11b N m s x kk) nn = self
    unfold pR_wordAt_L11b
    rw [if_neg (by decide), hkk]
    rfl
  | succ k ih =>
    intro nn i hi hn
    have h1 := wo_of i (by omega)
    have h := c_wI (N := N) (m := m) (T := T) (L := L) (s := s) (x := x) (kk := kk) (bo := bo) (show i < 24 by omega) hT hL hs (lnW i) nn 0 1 (by omega) (by omega) (Or.inl ⟨rfl, by omega, fun q hq => absurd hq (Nat.not_lt_zero _)⟩)
    rw [show s + ((0 : Nat) : Int) = s by omega, show ofW i + ((0 : Nat) : Int) = ofW i by omega] at h
    by_cases q : MWp T s (x - s).toNat i
    · exact ⟨i, h.1 q, by omega, fun _ => q, fun c => absurd c (by omega)⟩
    · obtain ⟨c, e1, e2, e3, e4⟩ := ih (nn - lnW i - 1) (i + 1) (by omega) (by omega)
      refine ⟨c, ?_, e2, e3, fun hc j j0 j1 => ?_⟩
      · rw [h.2 q]; exact e1
      · by_cases q2 : j = i
        · subst q2; exact q
        · exact e4 hc j (by omega) j1
theorem c_word {N : Nat} {m : Mem} {T : Int → Int} {L s x : Int} (hN : 2000 ≤ N) (hT : ∀ j, 0 ≤ j → j < L → m 1 j = T j) (hL : L ≤ 1600) (hs : 0 ≤ s) (hx : x ≤ L) (hr : RUNp isLt T L s x) : ∃ c, pR_wordAt N m s x = some c ∧ WORDp T s (x - s).toNat c := by
  have hsx := hr.1
  obtain ⟨c, e1, e2, e3, e4⟩ := c_wO (N := N) (m := m) (T := T) (L := L) (s := s) (x := x) (kk := fun (_ : Unit) => some 24) (bo := fun _ _ _ _ => none) rfl hT hL ⟨hs, hsx, hx⟩ 24 N 0 rfl (by omega)
  refine ⟨c, e1, ⟨by omega, by omega⟩, ?_⟩
  have key : ∀ i : Nat, i < 24 → (packW (fun j => T (s + j)) (x - s).toNat = ownW i ↔ MWp T s (x - s).toNat i) := by
    intro i hi
    have h1 := wo_of i hi
    rw [← wo_pk i hi]
    constructor
    · intro h
      obtain ⟨a, b⟩ := packW_inj _ _ _ _ (fun j hj => by
        have := (hr.2.1 (s + j) (by omega) (by omega)).2
        unfold isLt at this
        show 1 ≤ T (s + j) ∧ T (s + j) ≤ 255
        omega) (fun j hj => by
        have := wo_le i hi j (by omega) hj
        show 1 ≤ txc 0 (ofW i + j) ∧ txc 0 (ofW i + j) ≤ 255
        omega) h
      exact ⟨a, fun q hq => b q (by omega)⟩
    · rintro ⟨a, b⟩
      rw [a]
      exact packW_ext (fun j hj => b j hj)
  intro i hi
  rw [key i hi]
  constructor
  · intro h
    by_cases q : c = 24
    · exact absurd h (e4 q i (Nat.zero_le _) hi)
    · have h2 := (key c (by omega)).2 (e3 (by omega))
      have h3 := (key i hi).2 h
      have := wo_nd c (by omega) i hi (h2.symm.trans h3)
      omega
  · intro h
    have : c = i := by omega
    subst this
    exact e3 hi
theorem sg_hit : ∀ c : Nat, c < 128 → (txi 1 (c16 (c : Int)) < 0 ↔ ¬ isSg (c : Int)) := by
  unfold isSg
  decide +kernel
theorem sg_hi {c : Int} (h : 0 ≤ c ∧ c ≤ 255) : txi 1 (c16 c) < 0 ↔ ¬ isSg c := by
  by_cases q : c < 128
  · obtain ⟨n, rfl⟩ := Int.eq_ofNat_of_zero_le h.1
    exact sg_hit n (by omega)
  · have e : c16 c = c := by
      obtain ⟨n, rfl⟩ := Int.eq_ofNat_of_zero_le h.1
      exact c16_lo n (by omega)
    rw [e, txi_miss (s := 1) (c := c) (fun i _ _ hc => by have := txc_asc (s := 1) (by decide) i; omega)]
    unfold isSg
    exact ⟨fun _ => by omega, fun _ => by decide⟩
