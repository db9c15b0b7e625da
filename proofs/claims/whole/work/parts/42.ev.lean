/-! THE STACK -/
def st1 (D : Nat) (fc : Int → Int) (k v : Int) (st : List Int) : Option (List Int) :=
  if k = 0 then (if 0 ≤ v ∧ v ≤ 9999 ∧ st.length < D then some (v :: st) else none)
  else if k = 1 then (if 0 ≤ v ∧ v < 7 ∧ st.length < D then some (fc v :: st) else none)
  else if k = 2 then (match st with | a :: t => if a = 0 ∨ a = 1 then some ((1 - a) :: t) else none | _ => none)
  else if k = 3 then (match st with | c :: b :: a :: t => if a = 0 ∨ a = 1 then some ((if a = 1 then b else c) :: t) else none | _ => none)
  else if 4 ≤ k ∧ k ≤ 15 then (match st with | b :: a :: t => if 14 ≤ k → ((a = 0 ∨ a = 1) ∧ (b = 0 ∨ b = 1)) then some (op2 k a b :: t) else none | _ => none)
  else none
def evs (D : Nat) (fc : Int → Int) : List (Int × Int) → List Int → Option (List Int)
  | [], st => some st
  | c :: L, st => (st1 D fc c.1 c.2 st).bind (evs D fc L)
theorem evs_app (D : Nat) (fc : Int → Int) : ∀ (L1 L2 : List (Int × Int)) (st : List Int), evs D fc (L1 ++ L2) st = (evs D fc L1 st).bind (evs D fc L2)
  | [], _, _ => rfl
  | c :: L1, L2, st => by
    show (st1 D fc c.1 c.2 st).bind (evs D fc (L1 ++ L2)) = ((st1 D fc c.1 c.2 st).bind (evs D fc L1)).bind (evs D fc L2)
    cases st1 D fc c.1 c.2 st with
    | none => rfl
    | some s => exact evs_app D fc L1 L2 s
theorem st1_inv {D : Nat} {fc : Int → Int} {k v : Int} {st s1 : List Int} (h : st1 D fc k v st = some s1) :
    (k = 0 ∧ (0 ≤ v ∧ v ≤ 9999) ∧ st.length < D ∧ s1 = v :: st) ∨ (k = 1 ∧ (0 ≤ v ∧ v < 7) ∧ st.length < D ∧ s1 = fc v :: st) ∨
    (k = 2 ∧ ∃ a t, st = a :: t ∧ (a = 0 ∨ a = 1) ∧ s1 = (1 - a) :: t) ∨ (k = 3 ∧ ∃ c b a t, st = c :: b :: a :: t ∧ (a = 0 ∨ a = 1) ∧ s1 = (if a = 1 then b else c) :: t) ∨
    ((4 ≤ k ∧ k ≤ 15) ∧ ∃ b a t, st = b :: a :: t ∧ (14 ≤ k → ((a = 0 ∨ a = 1) ∧ (b = 0 ∨ b = 1))) ∧ s1 = op2 k a b :: t) := by
  unfold st1 at h
  split at h
  · split at h
    · rename_i hk q; cases h; exact Or.inl ⟨hk, ⟨q.1, q.2.1⟩, q.2.2, rfl⟩
    · cases h
  split at h
  · split at h
    · rename_i hk q; cases h; exact Or.inr (Or.inl ⟨hk, ⟨q.1, q.2.1⟩, q.2.2, rfl⟩)
    · cases h
  split at h
  · split at h
    · split at h
      · rename_i hk _ _ _ q; cases h; exact Or.inr (Or.inr (Or.inl ⟨hk, _, _, rfl, q, rfl⟩))
      · cases h
    · cases h
  split at h
  · split at h
    · split at h
      · rename_i hk _ _ _ _ _ q; cases h; exact Or.inr (Or.inr (Or.inr (Or.inl ⟨hk, _, _, _, _, rfl, q, rfl⟩)))
      · cases h
    · cases h
  split at h
  · split at h
    · split at h
      · rename_i hk _ _ _ _ q; cases h; exact Or.inr (Or.inr (Or.inr (Or.inr ⟨hk, _, _, _, rfl, q, rfl⟩)))
      · cases h
    · cases h
  · cases h
def StkOk (row : Int → Int) : List Int → Prop
  | [] => True
  | a :: t => row t.length = a ∧ StkOk row t
theorem StkOk.set {row : Int → Int} {k v : Int} : ∀ {st : List Int}, StkOk row st → (st.length : Int) ≤ k → StkOk (fun j => if j = k then v else row j) st
  | [], _, _ => trivial
  | a :: t, h, hk => by
    have hk' : (t.length : Int) + 1 ≤ k := by simpa using hk
    refine ⟨?_, StkOk.set h.2 (by omega)⟩
    show (if (t.length : Int) = k then v else row t.length) = a
    rw [if_neg (by omega)]
    exact h.1
theorem StkOk.push {row : Int → Int} {st : List Int} {v : Int} (h : StkOk row st) : StkOk (fun j => if j = (st.length : Int) then v else row j) (v :: st) := ⟨if_pos rfl, h.set (Int.le_refl _)⟩
theorem StkOk.eq {row row' : Int → Int} {st : List Int} (h : StkOk row st) (e : row' = row) : StkOk row' st := e ▸ h
theorem mset_row (μ : Mem) (a k v : Int) : mset μ a k v a = fun j => if j = k then v else μ a j := by
  funext j
  unfold mset
  by_cases h : j = k
  · rw [if_pos ⟨rfl, h⟩, if_pos h]
  · rw [if_neg (fun c => h c.2), if_neg h]
def StpOk (row : Int → Int) : Int → List (Int × Int) → Prop
  | _, [] => True
  | i, c :: L => (a32 (row i) 15 = c.1 ∧ shr32 (row i) 4 = c.2) ∧ StpOk row (i + 1) L
def srt (s w k v : Int) : Prop := (k = 0 ∧ ((s = 0 ∧ w = v) ∨ (s = 30 ∧ v = 1))) ∨ (k = 1 ∧ s = v + 1) ∨ (k = 2 ∧ s = 43) ∨ (k = 3 ∧ s = 44) ∨ (4 ≤ k ∧ k ≤ 15 ∧ s = k + 27)
def RcOk (rs rv : Int → Int) : Int → List (Int × Int) → Prop
  | _, [] => True
  | i, c :: L => srt (rs i) (rv i) c.1 c.2 ∧ RcOk rs rv (i + 1) L
theorem op2_big (k a b : Int) : big (op2 k a b) := cl_in _
theorem u_loop {N : Nat} {c0 c1 : Int} {k : Int → Mem → Option (Int × Mem)} {Q : Int × Mem → Prop} {fc : Int → Int} {μ0 : Mem} {bo : Int → Int → Mem → Option (Int × Mem)} (hne : c1 ≠ c0 + 2) {B : Int} (hfc : ∀ v, 0 ≤ v → v < B → μ0 c1 v = fc v) (hfb : ∀ v, 0 ≤ v → v < B → big (fc v)) (hsz : μ0 c0 2 ≤ 1600) (st' : List Int) (hk : ∀ μ' : Mem, (∀ b j, b ≠ c0 + 2 → μ' b j = μ0 b j) → StkOk (μ' (c0 + 2)) st' → Rn (k st'.length μ') Q) :
    ∀ (L : List (Int × Int)) (n : Nat) (i : Int) (st : List Int) (μ : Mem), (∀ c ∈ L, c.1 = 1 → c.2 < B) → L.length < n → (∀ b j, b ≠ c0 + 2 → μ b j = μ0 b j) → 0 ≤ i → i + (L.length : Int) = μ0 c0 2 → StpOk (μ0 (c0 + 1)) i L → StkOk (μ (c0 + 2)) st → st.length ≤ 64 → (∀ x ∈ st, big x) → evs 64 fc L st = some st' → Rn (lpF bo (pU_value_L4b N c0 c1 k) n (st.length : Int) i μ) Q := by
  intro L
  induction L with
  | nil =>
    intro n i st μ hL hn hμ hi hl hs hst h64 hb he
    obtain ⟨n, rfl⟩ : ∃ n', n = n' + 1 := ⟨n - 1, by simp at hn; omega⟩
    have hst2 : st = st' := Option.some.inj he
    subst hst2
    show Rn (pU_value_L4b N c0 c1 k (lpF bo (pU_value_L4b N c0 c1 k) n) st.length i μ) Q
    generalize lpF bo (pU_value_L4b N c0 c1 k) n = self
    unfold pU_value_L4b
    have e1 : μ c0 2 = μ0 c0 2 := hμ c0 2 (by omega)
    simp only [List.length_nil] at hl
    refine rn_f (by rw [e1]; omega) ?_
    exact hk μ hμ hst
  | cons c L ih =>
    intro n i st μ hL hn hμ hi hl hs hst h64 hb he
    obtain ⟨n, rfl⟩ : ∃ n', n = n' + 1 := ⟨n - 1, by simp at hn; omega⟩
    have hn' : L.length < n := by simp at hn; omega
    have hl' : i + 1 + (L.length : Int) = μ0 c0 2 := by simp at hl; omega
    have e1 : μ c0 2 = μ0 c0 2 := hμ c0 2 (by omega)
    have e2 : μ (c0 + 1) i = μ0 (c0 + 1) i := hμ _ _ (by omega)
    obtain ⟨s1, h1, h2⟩ : ∃ s1, st1 64 fc c.1 c.2 st = some s1 ∧ evs 64 fc L s1 = some st' := by
      have he' : (st1 64 fc c.1 c.2 st).bind (evs 64 fc L) = some st' := he
      cases h : st1 64 fc c.1 c.2 st with
      | none => rw [h] at he'; cases he'
      | some s1 => rw [h] at he'; exact ⟨s1, rfl, he'⟩
    obtain ⟨⟨hk4, hv4⟩, hs'⟩ := hs
    have hμ' : ∀ x v, ∀ b j, b ≠ c0 + 2 → mset μ (c0 + 2) x v b j = μ0 b j := fun x v b j h => by rw [mset_o (fun c => h c.1)]; exact hμ b j h
    have hgo : ∀ (x v : Int) (t : List Int), (x = (t.length : Int)) → StkOk (μ (c0 + 2)) t → s1 = v :: t → t.length < 64 → (∀ y ∈ t, big y) → big v → Rn (lpF bo (pU_value_L4b N c0 c1 k) n (x + 1) (i + 1) (mset μ (c0 + 2) x v)) Q := by
      intro x v t hx ht hs1 h6 hbt hbv
      subst hx
      have h := ih n (i + 1) s1 (mset μ (c0 + 2) (t.length : Int) v) (fun c hc => hL c (List.mem_cons_of_mem _ hc)) hn' (hμ' _ _) (by omega) hl' hs' (by rw [mset_row, hs1]; exact ht.push) (by rw [hs1]; simp; omega) (by rw [hs1]; intro y hy; rcases List.mem_cons.mp hy with rfl | hy; exact hbv; exact hbt y hy) h2
      rw [hs1] at h
      simpa using h
    show Rn (pU_value_L4b N c0 c1 k (lpF bo (pU_value_L4b N c0 c1 k) n) st.length i μ) Q
    generalize lpF bo (pU_value_L4b N c0 c1 k) n = self at hgo ⊢
    unfold pU_value_L4b
    simp only [e1, e2, hk4, hv4]
    have hl0 : (0 : Int) ≤ (L.length : Int) := Int.natCast_nonneg _
    refine rn_t (by omega) ?_
    refine rn_t (by omega) ?_
    refine rn_v ?_
    refine rn_t (by omega) ?_
    refine rn_v ?_
    refine rn_j ?_
    rcases st1_inv h1 with ⟨hk0, hv, h6, hs1⟩ | ⟨hk0, hv, h6, hs1⟩ | ⟨hk0, a, t, rfl, ha, hs1⟩ | ⟨hk0, x, b, a, t, rfl, ha, hs1⟩ | ⟨hk0, b, a, t, rfl, hab, hs1⟩
    · repeat (first | with_reducible refine rn_v ?_ | with_reducible refine rn_j ?_ | with_reducible refine rn_t True.intro ?_ | with_reducible refine rn_f not_false ?_ | (with_reducible refine rn_t ?_ ?_; focus omega) | (with_reducible refine rn_f ?_ ?_; focus omega) | (with_reducible refine rn_t ?_ ?_; focus (simp (disch := omega) only [w32_eq]; omega)) | (with_reducible refine rn_f ?_ ?_; focus (simp (disch := omega) only [w32_eq]; omega)))
      simp (disch := omega) only [w32_eq]
      exact hgo _ _ st rfl hst hs1 h6 hb ⟨by omega, by omega⟩
    · repeat (first | with_reducible refine rn_v ?_ | with_reducible refine rn_j ?_ | with_reducible refine rn_t True.intro ?_ | with_reducible refine rn_f not_false ?_ | (with_reducible refine rn_t ?_ ?_; focus omega) | (with_reducible refine rn_f ?_ ?_; focus omega) | (with_reducible refine rn_t ?_ ?_; focus (simp (disch := omega) only [w32_eq]; omega)) | (with_reducible refine rn_f ?_ ?_; focus (simp (disch := omega) only [w32_eq]; omega)))
      have hvB := hL c List.mem_cons_self hk0
      rw [hμ c1 _ hne, hfc _ hv.1 hvB]
      simp (disch := omega) only [w32_eq]
      exact hgo _ _ st rfl hst hs1 h6 hb (hfb _ hv.1 hvB)
    · simp only [List.length_cons, Int.natCast_add, Int.cast_ofNat_Int] at h64 ⊢
      have hx : μ (c0 + 2) (t.length : Int) = a := hst.1
      have ht0 : (0 : Int) ≤ (t.length : Int) := Int.natCast_nonneg _
      repeat (first | with_reducible refine rn_v ?_ | with_reducible refine rn_j ?_ | with_reducible refine rn_t True.intro ?_ | with_reducible refine rn_f not_false ?_ | (with_reducible refine rn_t ?_ ?_; focus omega) | (with_reducible refine rn_f ?_ ?_; focus omega) | (with_reducible refine rn_t ?_ ?_; focus (simp (disch := omega) only [w32_eq]; omega)) | (with_reducible refine rn_f ?_ ?_; focus (simp (disch := omega) only [w32_eq]; omega)))
      have e3 : w32 ((t.length : Int) + 1 - 1) = (t.length : Int) := by rw [w32_eq (by omega) (by omega)]; omega
      simp only [e3, hx]
      rw [w32_eq (x := 1 - a) (by omega) (by omega), w32_eq (x := i + 1) (by omega) (by omega)]
      exact hgo _ _ t rfl hst.2 hs1 (by omega) (fun y hy => hb y (List.mem_cons_of_mem _ hy)) ⟨by omega, by omega⟩
    · simp only [List.length_cons, Int.natCast_add, Int.cast_ofNat_Int] at h64 ⊢
      have hx : μ (c0 + 2) (t.length : Int) = a := hst.2.2.1
      have hx1 : μ (c0 + 2) ((t.length : Int) + 1) = b := by have := hst.2.1; simpa using this
      have hx2 : μ (c0 + 2) ((t.length : Int) + 1 + 1) = x := by have := hst.1; simpa using this
      have ht0 : (0 : Int) ≤ (t.length : Int) := Int.natCast_nonneg _
      have e3 : w32 ((t.length : Int) + 1 + 1 + 1 + (-2)) = (t.length : Int) + 1 := by rw [w32_eq (by omega) (by omega)]; omega
      have e4 : w32 ((t.length : Int) + 1 - 1) = (t.length : Int) := by rw [w32_eq (by omega) (by omega)]; omega
      have e5 : w32 ((t.length : Int) + 1 + 1) = (t.length : Int) + 1 + 1 := w32_eq (by omega) (by omega)
      have hbx : big x := hb x (by simp)
      have hbb : big b := hb b (by simp)
      try simp only [e3, e4, e5, hx, hx1, hx2]
      rcases ha with rfl | rfl
      · repeat (first | with_reducible refine rn_v ?_ | with_reducible refine rn_j ?_ | with_reducible refine rn_t True.intro ?_ | with_reducible refine rn_f not_false ?_ | (with_reducible refine rn_t ?_ ?_; focus omega) | (with_reducible refine rn_f ?_ ?_; focus omega) | (with_reducible refine rn_t ?_ ?_; focus (simp (disch := omega) only [w32_eq]; omega)) | (with_reducible refine rn_f ?_ ?_; focus (simp (disch := omega) only [w32_eq]; omega)))
        try simp only [e3, e4, e5, hx, hx1, hx2]
        repeat (first | with_reducible refine rn_v ?_ | with_reducible refine rn_j ?_ | with_reducible refine rn_t True.intro ?_ | with_reducible refine rn_f not_false ?_ | (with_reducible refine rn_t ?_ ?_; focus omega) | (with_reducible refine rn_f ?_ ?_; focus omega) | (with_reducible refine rn_t ?_ ?_; focus (simp (disch := omega) only [w32_eq]; omega)) | (with_reducible refine rn_f ?_ ?_; focus (simp (disch := omega) only [w32_eq]; omega)))
        try simp only [e3, e4, e5, hx, hx1, hx2]
        rw [w32_eq (x := i + 1) (by omega) (by omega)]
        exact hgo _ _ t rfl hst.2.2.2 (by rw [hs1]; simp) (by omega) (fun y hy => hb y (by simp [hy])) hbx
      · repeat (first | with_reducible refine rn_v ?_ | with_reducible refine rn_j ?_ | with_reducible refine rn_t True.intro ?_ | with_reducible refine rn_f not_false ?_ | (with_reducible refine rn_t ?_ ?_; focus omega) | (with_reducible refine rn_f ?_ ?_; focus omega) | (with_reducible refine rn_t ?_ ?_; focus (simp (disch := omega) only [w32_eq]; omega)) | (with_reducible refine rn_f ?_ ?_; focus (simp (disch := omega) only [w32_eq]; omega)))
        try simp only [e3, e4, e5, hx, hx1, hx2]
        repeat (first | with_reducible refine rn_v ?_ | with_reducible refine rn_j ?_ | with_reducible refine rn_t True.intro ?_ | with_reducible refine rn_f not_false ?_ | (with_reducible refine rn_t ?_ ?_; focus omega) | (with_reducible refine rn_f ?_ ?_; focus omega) | (with_reducible refine rn_t ?_ ?_; focus (simp (disch := omega) only [w32_eq]; omega)) | (with_reducible refine rn_f ?_ ?_; focus (simp (disch := omega) only [w32_eq]; omega)))
        try simp only [e3, e4, e5, hx, hx1, hx2]
        rw [w32_eq (x := i + 1) (by omega) (by omega)]
        exact hgo _ _ t rfl hst.2.2.2 (by rw [hs1]; simp) (by omega) (fun y hy => hb y (by simp [hy])) hbb
    · simp only [List.length_cons, Int.natCast_add, Int.cast_ofNat_Int] at h64 ⊢
      have hx : μ (c0 + 2) (t.length : Int) = a := hst.2.1
      have hx1 : μ (c0 + 2) ((t.length : Int) + 1) = b := by have := hst.1; simpa using this
      have ht0 : (0 : Int) ≤ (t.length : Int) := Int.natCast_nonneg _
      have e3 : w32 ((t.length : Int) + 1 + 1 + (-1)) = (t.length : Int) + 1 := by rw [w32_eq (by omega) (by omega)]; omega
      have e4 : w32 ((t.length : Int) + 1 - 1) = (t.length : Int) := by rw [w32_eq (by omega) (by omega)]; omega
      have hba : big a := hb a (by simp)
      have hbb : big b := hb b (by simp)
      repeat (first | with_reducible refine rn_v ?_ | with_reducible refine rn_j ?_ | with_reducible refine rn_t True.intro ?_ | with_reducible refine rn_f not_false ?_ | (with_reducible refine rn_t ?_ ?_; focus omega) | (with_reducible refine rn_f ?_ ?_; focus omega) | (with_reducible refine rn_t ?_ ?_; focus (simp (disch := omega) only [w32_eq]; omega)) | (with_reducible refine rn_f ?_ ?_; focus (simp (disch := omega) only [w32_eq]; omega)))
      try simp only [e3, e4, hx, hx1]
      repeat (first | with_reducible refine rn_v ?_ | with_reducible refine rn_j ?_ | with_reducible refine rn_t True.intro ?_ | with_reducible refine rn_f not_false ?_ | (with_reducible refine rn_t ?_ ?_; focus omega) | (with_reducible refine rn_f ?_ ?_; focus omega) | (with_reducible refine rn_t ?_ ?_; focus (simp (disch := omega) only [w32_eq]; omega)) | (with_reducible refine rn_f ?_ ?_; focus (simp (disch := omega) only [w32_eq]; omega)))
      try simp only [e3, e4, hx, hx1]
      refine rn_e (e_joined μ hk0 hba hbb) ?_
      repeat (first | with_reducible refine rn_v ?_ | with_reducible refine rn_j ?_ | with_reducible refine rn_t True.intro ?_ | with_reducible refine rn_f not_false ?_ | (with_reducible refine rn_t ?_ ?_; focus omega) | (with_reducible refine rn_f ?_ ?_; focus omega) | (with_reducible refine rn_t ?_ ?_; focus (simp (disch := omega) only [w32_eq]; omega)) | (with_reducible refine rn_f ?_ ?_; focus (simp (disch := omega) only [w32_eq]; omega)))
      rw [w32_eq (x := i + 1) (by omega) (by omega)]
      exact hgo _ _ t rfl hst.2.2 hs1 (by omega) (fun y hy => hb y (by simp [hy])) (op2_big _ _ _)
