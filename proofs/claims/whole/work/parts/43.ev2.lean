/-! the component's value of a row -/
theorem u_value {N : Nat} {μ : Mem} {a0 a1 : Int} {fc : Int → Int} {L : List (Int × Int)} {v : Int} (hN : L.length < N) (hne : a1 ≠ a0 + 2) {B : Int} (hfc : ∀ v, 0 ≤ v → v < B → μ a1 v = fc v) (hfb : ∀ v, 0 ≤ v → v < B → big (fc v)) (hL : ∀ c ∈ L, c.1 = 1 → c.2 < B) (hl : μ a0 2 = (L.length : Int)) (hsz : L.length ≤ 1600) (hs : StpOk (μ (a0 + 1)) 0 L) (he : evs 64 fc L [] = some [v]) : Rn (pU_value N μ a0 a1) (fun p => p.1 = v ∧ ∀ b j, b ≠ a0 + 2 → p.2 b j = μ b j) := by
  unfold pU_value pU_value_L4
  refine u_loop (st' := [v]) hne hfc hfb (by omega) (fun μ' h1 h2 => ?_) L N 0 [] μ hL hN (fun _ _ _ => rfl) (by omega) (by omega) hs trivial (by simp) (fun x h => by cases h) he
  have hx : μ' (a0 + 2) 0 = v := h2.1
  simp only [List.length_cons, List.length_nil]
  repeat (first | with_reducible refine rn_v ?_ | with_reducible refine rn_j ?_ | with_reducible refine rn_t True.intro ?_ | with_reducible refine rn_f not_false ?_ | (with_reducible refine rn_t ?_ ?_; focus omega) | (with_reducible refine rn_f ?_ ?_; focus omega) | (with_reducible refine rn_t ?_ ?_; focus (simp (disch := omega) only [w32_eq]; omega)) | (with_reducible refine rn_f ?_ ?_; focus (simp (disch := omega) only [w32_eq]; omega)))
  refine rn_s ⟨?_, h1⟩
  show μ' (a0 + 2) (w32 (1 - 1)) = v
  rw [w32_eq (by omega) (by omega)]
  exact hx
theorem r_loop {N : Nat} {c1 bk e : Int} {k : Mem → Option (Int × Mem)} {Q : Int × Mem → Prop} {fc : Int → Int} {μ0 : Mem} {bo : Int → Int → Mem → Option (Int × Mem)} (hbk : μ0 475 13 = bk) (hb2 : 0 ≤ bk ∧ bk < 2) (hw : 0 ≤ c1 ∧ c1 < 3) {B : Int} (hfc : ∀ v, 0 ≤ v → v < B → μ0 507 (v + 1) = fc v) (hfb : ∀ v, 0 ≤ v → v < B → big (fc v)) (he0 : μ0 487 (3 * bk + c1) = e) (hsz : 0 ≤ e ∧ e ≤ 1600) (st' : List Int) (hk : ∀ μ' : Mem, (∀ b j, b ≠ 506 → μ' b j = μ0 b j) → StkOk (μ' 506) st' → Rn (k μ') Q) :
    ∀ (L : List (Int × Int)) (n : Nat) (i : Int) (st : List Int) (μ : Mem), (∀ c ∈ L, c.1 = 1 → c.2 < B) → L.length < n → (∀ b j, b ≠ 506 → μ b j = μ0 b j) → 0 ≤ i → i + (L.length : Int) = 1600 * bk + e → RcOk (μ0 488) (μ0 489) i L → StkOk (μ 506) st → st.length ≤ 64 → (∀ x ∈ st, big x) → evs 64 fc L st = some st' → Rn (lpF bo (pM_reckons_L25b N c1 k) n (st.length : Int) i μ) Q := by
  intro L
  induction L with
  | nil =>
    intro n i st μ hL hn hμ hi hl hs hst h64 hb he
    obtain ⟨n, rfl⟩ : ∃ n', n = n' + 1 := ⟨n - 1, by simp at hn; omega⟩
    have hst2 : st = st' := Option.some.inj he
    subst hst2
    show Rn (pM_reckons_L25b N c1 k (lpF bo (pM_reckons_L25b N c1 k) n) st.length i μ) Q
    generalize lpF bo (pM_reckons_L25b N c1 k) n = self
    unfold pM_reckons_L25b
    have e1 : μ 475 13 = bk := (hμ _ _ (by omega)).trans hbk
    have e2 : w32 (w32 (3 * bk) + c1) = 3 * bk + c1 := by rw [w32_eq (x := 3 * bk) (by omega) (by omega), w32_eq (by omega) (by omega)]
    have e3 : μ 487 (3 * bk + c1) = e := (hμ _ _ (by omega)).trans he0
    have e4 : w32 (w32 (1600 * bk) + e) = 1600 * bk + e := by rw [w32_eq (x := 1600 * bk) (by omega) (by omega), w32_eq (by omega) (by omega)]
    simp only [e1, e2, e3, e4]
    simp only [List.length_nil] at hl
    refine rn_t (by omega) ?_
    refine rn_f (by omega) ?_
    exact hk μ hμ hst
  | cons c L ih =>
    intro n i st μ hL hn hμ hi hl hs hst h64 hb he
    obtain ⟨n, rfl⟩ : ∃ n', n = n' + 1 := ⟨n - 1, by simp at hn; omega⟩
    have hn' : L.length < n := by simp at hn; omega
    have hl' : i + 1 + (L.length : Int) = 1600 * bk + e := by simp at hl; omega
    have e1 : μ 475 13 = bk := (hμ _ _ (by omega)).trans hbk
    have e2 : w32 (w32 (3 * bk) + c1) = 3 * bk + c1 := by rw [w32_eq (x := 3 * bk) (by omega) (by omega), w32_eq (by omega) (by omega)]
    have e3 : μ 487 (3 * bk + c1) = e := (hμ _ _ (by omega)).trans he0
    have e4 : w32 (w32 (1600 * bk) + e) = 1600 * bk + e := by rw [w32_eq (x := 1600 * bk) (by omega) (by omega), w32_eq (by omega) (by omega)]
    have e5 : μ 488 i = μ0 488 i := hμ _ _ (by omega)
    have e6 : μ 489 i = μ0 489 i := hμ _ _ (by omega)
    obtain ⟨s1, h1, h2⟩ : ∃ s1, st1 64 fc c.1 c.2 st = some s1 ∧ evs 64 fc L s1 = some st' := by
      have he' : (st1 64 fc c.1 c.2 st).bind (evs 64 fc L) = some st' := he
      cases h : st1 64 fc c.1 c.2 st with
      | none => rw [h] at he'; cases he'
      | some s1 => rw [h] at he'; exact ⟨s1, rfl, he'⟩
    obtain ⟨hsr, hs'⟩ := hs
    have hgo : ∀ (x v : Int) (t : List Int), (x = (t.length : Int)) → StkOk (μ 506) t → s1 = v :: t → t.length < 64 → (∀ y ∈ t, big y) → big v → ∀ y, y = x + 1 → Rn (lpF bo (pM_reckons_L25b N c1 k) n y (i + 1) (mset μ 506 x v)) Q := by
      intro x v t hx ht hs1 h6 hbt hbv y hy
      subst hx
      subst hy
      have h := ih n (i + 1) s1 (mset μ 506 (t.length : Int) v) (fun c hc => hL c (List.mem_cons_of_mem _ hc)) hn' (fun b j h => by rw [mset_o (fun c => h c.1)]; exact hμ b j h) (by omega) hl' hs' (by rw [mset_row, hs1]; exact ht.push) (by rw [hs1]; simp; omega) (by rw [hs1]; intro y hy; rcases List.mem_cons.mp hy with rfl | hy; exact hbv; exact hbt y hy) h2
      rw [hs1] at h
      simpa using h
    show Rn (pM_reckons_L25b N c1 k (lpF bo (pM_reckons_L25b N c1 k) n) st.length i μ) Q
    generalize lpF bo (pM_reckons_L25b N c1 k) n = self at hgo ⊢
    unfold pM_reckons_L25b
    simp only [e1, e2, e3, e4, e5, e6]
    have hl0 : (0 : Int) ≤ (L.length : Int) := Int.natCast_nonneg _
    generalize hgs : μ0 488 i = s at hsr ⊢
    generalize hgw : μ0 489 i = w at hsr ⊢
    refine rn_t (by omega) ?_
    refine rn_t (by omega) ?_
    refine rn_t (by omega) ?_
    refine rn_v ?_
    unfold srt at hsr
    rcases st1_inv h1 with ⟨hk0, hv, h6, hs1⟩ | ⟨hk0, hv, h6, hs1⟩ | ⟨hk0, a, t, rfl, ha, hs1⟩ | ⟨hk0, x, b, a, t, rfl, ha, hs1⟩ | ⟨hk0, b, a, t, rfl, hab, hs1⟩
    · rcases (show (s = 0 ∧ w = c.2) ∨ (s = 30 ∧ c.2 = 1) by omega) with ⟨rfl, rfl⟩ | ⟨rfl, hv1⟩
      · repeat (first | with_reducible refine rn_v ?_ | with_reducible refine rn_j ?_ | with_reducible refine rn_t True.intro ?_ | with_reducible refine rn_f not_false ?_ | (with_reducible refine rn_t ?_ ?_; focus omega) | (with_reducible refine rn_f ?_ ?_; focus omega) | (with_reducible refine rn_t ?_ ?_; focus (simp (disch := omega) only [w32_eq]; omega)) | (with_reducible refine rn_f ?_ ?_; focus (simp (disch := omega) only [w32_eq]; omega)))
        rw [w32_eq (x := (st.length : Int) + 1) (by omega) (by omega), w32_eq (x := i + 1) (by omega) (by omega)]
        exact hgo _ _ st rfl hst hs1 h6 hb ⟨by omega, by omega⟩ _ rfl
      · repeat (first | with_reducible refine rn_v ?_ | with_reducible refine rn_j ?_ | with_reducible refine rn_t True.intro ?_ | with_reducible refine rn_f not_false ?_ | (with_reducible refine rn_t ?_ ?_; focus omega) | (with_reducible refine rn_f ?_ ?_; focus omega) | (with_reducible refine rn_t ?_ ?_; focus (simp (disch := omega) only [w32_eq]; omega)) | (with_reducible refine rn_f ?_ ?_; focus (simp (disch := omega) only [w32_eq]; omega)))
        rw [hv1] at hs1
        rw [w32_eq (x := (st.length : Int) + 1) (by omega) (by omega), w32_eq (x := i + 1) (by omega) (by omega)]
        exact hgo _ _ st rfl hst hs1 h6 hb ⟨by omega, by omega⟩ _ rfl
    · obtain rfl : s = c.2 + 1 := by omega
      have hvB := hL c List.mem_cons_self hk0
      repeat (first | with_reducible refine rn_v ?_ | with_reducible refine rn_j ?_ | with_reducible refine rn_t True.intro ?_ | with_reducible refine rn_f not_false ?_ | (with_reducible refine rn_t ?_ ?_; focus omega) | (with_reducible refine rn_f ?_ ?_; focus omega) | (with_reducible refine rn_t ?_ ?_; focus (simp (disch := omega) only [w32_eq]; omega)) | (with_reducible refine rn_f ?_ ?_; focus (simp (disch := omega) only [w32_eq]; omega)))
      rw [w32_eq (x := (st.length : Int) + 1) (by omega) (by omega), w32_eq (x := i + 1) (by omega) (by omega), hμ 507 _ (by omega), hfc _ hv.1 hvB]
      exact hgo _ _ st rfl hst hs1 h6 hb (hfb _ hv.1 hvB) _ rfl
    · obtain rfl : s = 43 := by omega
      simp only [List.length_cons, Int.natCast_add, Int.cast_ofNat_Int] at h64 ⊢
      have hx : μ 506 (t.length : Int) = a := hst.1
      have ht0 : (0 : Int) ≤ (t.length : Int) := Int.natCast_nonneg _
      have e7 : w32 ((t.length : Int) + 1 - 1) = (t.length : Int) := by rw [w32_eq (by omega) (by omega)]; omega
      repeat (first | with_reducible refine rn_v ?_ | with_reducible refine rn_j ?_ | with_reducible refine rn_t True.intro ?_ | with_reducible refine rn_f not_false ?_ | (with_reducible refine rn_t ?_ ?_; focus omega) | (with_reducible refine rn_f ?_ ?_; focus omega) | (with_reducible refine rn_t ?_ ?_; focus (simp (disch := omega) only [w32_eq]; omega)) | (with_reducible refine rn_f ?_ ?_; focus (simp (disch := omega) only [w32_eq]; omega)))
      try simp only [e7, hx]
      rw [w64_eq (x := 1 - a) (by omega) (by omega), w32_eq (x := i + 1) (by omega) (by omega)]
      exact hgo _ _ t rfl hst.2 hs1 (by omega) (fun y hy => hb y (List.mem_cons_of_mem _ hy)) ⟨by omega, by omega⟩ _ rfl
    · obtain rfl : s = 44 := by omega
      simp only [List.length_cons, Int.natCast_add, Int.cast_ofNat_Int] at h64 ⊢
      have hx : μ 506 (t.length : Int) = a := hst.2.2.1
      have hx1 : μ 506 ((t.length : Int) + 1) = b := by have := hst.2.1; simpa using this
      have hx2 : μ 506 ((t.length : Int) + 1 + 1) = x := by have := hst.1; simpa using this
      have ht0 : (0 : Int) ≤ (t.length : Int) := Int.natCast_nonneg _
      have e7 : w32 ((t.length : Int) + 1 + 1 + 1 + (-2)) = (t.length : Int) + 1 := by rw [w32_eq (by omega) (by omega)]; omega
      have e8 : w32 ((t.length : Int) + 1 - 1) = (t.length : Int) := by rw [w32_eq (by omega) (by omega)]; omega
      have e9 : w32 ((t.length : Int) + 1 + 1) = (t.length : Int) + 1 + 1 := w32_eq (by omega) (by omega)
      have hbx : big x := hb x (by simp)
      have hbb : big b := hb b (by simp)
      simp only [e7, e8, e9, hx, hx1, hx2]
      rcases ha with rfl | rfl
      · repeat (first | with_reducible refine rn_v ?_ | with_reducible refine rn_j ?_ | with_reducible refine rn_t True.intro ?_ | with_reducible refine rn_f not_false ?_ | (with_reducible refine rn_t ?_ ?_; focus omega) | (with_reducible refine rn_f ?_ ?_; focus omega) | (with_reducible refine rn_t ?_ ?_; focus (simp (disch := omega) only [w32_eq]; omega)) | (with_reducible refine rn_f ?_ ?_; focus (simp (disch := omega) only [w32_eq]; omega)))
        try simp only [e7, e8, e9, hx, hx1, hx2]
        repeat (first | with_reducible refine rn_v ?_ | with_reducible refine rn_j ?_ | with_reducible refine rn_t True.intro ?_ | with_reducible refine rn_f not_false ?_ | (with_reducible refine rn_t ?_ ?_; focus omega) | (with_reducible refine rn_f ?_ ?_; focus omega) | (with_reducible refine rn_t ?_ ?_; focus (simp (disch := omega) only [w32_eq]; omega)) | (with_reducible refine rn_f ?_ ?_; focus (simp (disch := omega) only [w32_eq]; omega)))
        try simp only [e7, e8, e9, hx, hx1, hx2]
        rw [w32_eq (x := i + 1) (by omega) (by omega)]
        exact hgo _ _ t rfl hst.2.2.2 (by rw [hs1]; simp) (by omega) (fun y hy => hb y (by simp [hy])) hbx _ rfl
      · repeat (first | with_reducible refine rn_v ?_ | with_reducible refine rn_j ?_ | with_reducible refine rn_t True.intro ?_ | with_reducible refine rn_f not_false ?_ | (with_reducible refine rn_t ?_ ?_; focus omega) | (with_reducible refine rn_f ?_ ?_; focus omega) | (with_reducible refine rn_t ?_ ?_; focus (simp (disch := omega) only [w32_eq]; omega)) | (with_reducible refine rn_f ?_ ?_; focus (simp (disch := omega) only [w32_eq]; omega)))
        try simp only [e7, e8, e9, hx, hx1, hx2]
        repeat (first | with_reducible refine rn_v ?_ | with_reducible refine rn_j ?_ | with_reducible refine rn_t True.intro ?_ | with_reducible refine rn_f not_false ?_ | (with_reducible refine rn_t ?_ ?_; focus omega) | (with_reducible refine rn_f ?_ ?_; focus omega) | (with_reducible refine rn_t ?_ ?_; focus (simp (disch := omega) only [w32_eq]; omega)) | (with_reducible refine rn_f ?_ ?_; focus (simp (disch := omega) only [w32_eq]; omega)))
        try simp only [e7, e8, e9, hx, hx1, hx2]
        rw [w32_eq (x := i + 1) (by omega) (by omega)]
        exact hgo _ _ t rfl hst.2.2.2 (by rw [hs1]; simp) (by omega) (fun y hy => hb y (by simp [hy])) hbb _ rfl
    · obtain rfl : s = c.1 + 27 := by omega
      simp only [List.length_cons, Int.natCast_add, Int.cast_ofNat_Int] at h64 ⊢
      have hx : μ 506 (t.length : Int) = a := hst.2.1
      have hx1 : μ 506 ((t.length : Int) + 1) = b := by have := hst.1; simpa using this
      have ht0 : (0 : Int) ≤ (t.length : Int) := Int.natCast_nonneg _
      have e7 : w32 ((t.length : Int) + 1 + 1 + (-1)) = (t.length : Int) + 1 := by rw [w32_eq (by omega) (by omega)]; omega
      have e8 : w32 ((t.length : Int) + 1 - 1) = (t.length : Int) := by rw [w32_eq (by omega) (by omega)]; omega
      have hba : big a := hb a (by simp)
      have hbb : big b := hb b (by simp)
      repeat (first | with_reducible refine rn_v ?_ | with_reducible refine rn_j ?_ | with_reducible refine rn_t True.intro ?_ | with_reducible refine rn_f not_false ?_ | (with_reducible refine rn_t ?_ ?_; focus omega) | (with_reducible refine rn_f ?_ ?_; focus omega) | (with_reducible refine rn_t ?_ ?_; focus (simp (disch := omega) only [w32_eq]; omega)) | (with_reducible refine rn_f ?_ ?_; focus (simp (disch := omega) only [w32_eq]; omega)))
      try simp only [e7, e8, hx, hx1]
      repeat (first | with_reducible refine rn_v ?_ | with_reducible refine rn_j ?_ | with_reducible refine rn_t True.intro ?_ | with_reducible refine rn_f not_false ?_ | (with_reducible refine rn_t ?_ ?_; focus omega) | (with_reducible refine rn_f ?_ ?_; focus omega) | (with_reducible refine rn_t ?_ ?_; focus (simp (disch := omega) only [w32_eq]; omega)) | (with_reducible refine rn_f ?_ ?_; focus (simp (disch := omega) only [w32_eq]; omega)))
      try simp only [e7, e8, hx, hx1]
      refine rn_e (e_two μ hk0 hba hbb hab) ?_
      repeat (first | with_reducible refine rn_v ?_ | with_reducible refine rn_j ?_ | with_reducible refine rn_t True.intro ?_ | with_reducible refine rn_f not_false ?_ | (with_reducible refine rn_t ?_ ?_; focus omega) | (with_reducible refine rn_f ?_ ?_; focus omega) | (with_reducible refine rn_t ?_ ?_; focus (simp (disch := omega) only [w32_eq]; omega)) | (with_reducible refine rn_f ?_ ?_; focus (simp (disch := omega) only [w32_eq]; omega)))
      rw [w32_eq (x := i + 1) (by omega) (by omega)]
      exact hgo _ _ t rfl hst.2.2 hs1 (by omega) (fun y hy => hb y (by simp [hy])) (op2_big _ _ _) _ rfl
/-! the reference's value of a row -/
theorem r_reckons {N : Nat} {μ : Mem} {w bk f e : Int} {fc : Int → Int} {L : List (Int × Int)} {v : Int} (hN : L.length < N) (hbk : μ 475 13 = bk) (hb2 : 0 ≤ bk ∧ bk < 2) (hw : 0 ≤ w ∧ w < 3) {B : Int} (hfc : ∀ v, 0 ≤ v → v < B → μ 507 (v + 1) = fc v) (hfb : ∀ v, 0 ≤ v → v < B → big (fc v)) (hL : ∀ c ∈ L, c.1 = 1 → c.2 < B) (hf : μ 486 (3 * bk + w) = f) (he0 : μ 487 (3 * bk + w) = e) (hfe : 0 ≤ f ∧ f + (L.length : Int) = e ∧ e ≤ 1600) (hs : RcOk (μ 488) (μ 489) (1600 * bk + f) L) (he : evs 64 fc L [] = some [v]) : Rn (pM_reckons N μ w) (fun p => p.1 = v ∧ ∀ b j, b ≠ 506 → p.2 b j = μ b j) := by
  unfold pM_reckons pM_reckons_L25
  have e2 : w32 (w32 (3 * bk) + w) = 3 * bk + w := by rw [w32_eq (x := 3 * bk) (by omega) (by omega), w32_eq (by omega) (by omega)]
  have e4 : w32 (w32 (1600 * bk) + f) = 1600 * bk + f := by rw [w32_eq (x := 1600 * bk) (by omega) (by omega), w32_eq (by omega) (by omega)]
  simp only [hbk, e2, hf, e4]
  refine rn_t (by omega) ?_
  refine rn_v ?_
  refine r_loop (st' := [v]) hbk hb2 hw hfc hfb he0 (by omega) (fun μ' h1 h2 => ?_) L N (1600 * bk + f) [] μ hL hN (fun _ _ _ => rfl) (by omega) (by omega) hs trivial (by simp) (fun x h => by cases h) he
  exact rn_s ⟨h2.1, h1⟩
