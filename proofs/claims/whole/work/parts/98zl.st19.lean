/-! VALLEY: what every end of the reference's look ahead holds; a name in the text -/
def Pn {α : Type} (x : Option α) (Q : α → Prop) : Prop := ∀ a, x = some a → Q a
theorem pn_s {α : Type} {a : α} {Q : α → Prop} (h : Q a) : Pn (some a) Q := fun b e => by cases e; exact h
theorem pn_n {α : Type} {Q : α → Prop} : Pn (none : Option α) Q := fun b e => by cases e
theorem pn_b {α β : Type} {x : Option α} {f : α → Option β} {Q : β → Prop} (k : ∀ a, Pn (f a) Q) : Pn (x.bind f) Q := by
  intro b e
  cases x with
  | none => cases e
  | some a => exact k a b e
theorem pn_bp {α β : Type} {x : Option α} {f : α → Option β} {P : α → Prop} {Q : β → Prop} (h : Pn x P) (k : ∀ a, P a → Pn (f a) Q) : Pn (x.bind f) Q := by
  intro b e
  cases x with
  | none => cases e
  | some a => exact k a (h a rfl) b e
theorem pn_i {α : Type} {c : Prop} [Decidable c] {x y : Option α} {Q : α → Prop} (h1 : c → Pn x Q) (h2 : ¬ c → Pn y Q) : Pn (if c then x else y) Q := by
  by_cases hc : c
  · rw [if_pos hc]; exact h1 hc
  · rw [if_neg hc]; exact h2 hc
def W12 (m : Mem) : Prop := m 475 3 = 1 ∨ m 475 3 = 2
theorem W12.set {m : Mem} {k v : Int} (h : W12 m) (hk : k ≠ 3) : W12 (mset m 475 k v) := by
  unfold W12 at *
  rw [mset_o (by omega)]
  exact h
theorem m4_set {m : Mem} {k v z : Int} (h : m 475 4 = z) (hk : k ≠ 4) : mset m 475 k v 475 4 = z := by
  rw [mset_o (by omega)]
  exact h
theorem pn_L204 {N : Nat} {c2 c3 c4 : Int} {k : Int → Mem → Option Mem} {Q : Mem → Prop} (hk : ∀ z m, W12 m → Pn (k z m) Q) : ∀ (n : Nat) (x1 x5 : Int) (m : Mem), W12 m → Pn (lpF (fun _ _ _ => none) (pM_ahead_L204b N c2 c3 c4 k) n x1 x5 m) Q := by
  intro n
  induction n with
  | zero => intro x1 x5 m h a e; cases e
  | succ n ih =>
    intro x1 x5 m h
    show Pn (pM_ahead_L204b N c2 c3 c4 k (lpF (fun _ _ _ => none) (pM_ahead_L204b N c2 c3 c4 k) n) x1 x5 m) Q
    generalize lpF (fun _ _ _ => none) (pM_ahead_L204b N c2 c3 c4 k) n = self at ih ⊢
    unfold pM_ahead_L204b jn
    have go : Pn ((if x5 = c4 then if m 475 12 = (-1) then (some (mset m 475 12 x1)).bind fun m260 => some (m260) else some (m) else some (m)).bind fun n263 => (if x5 < c4 then if c2 = 0 then some (n263) else if 0 ≤ x1 ∧ x1 < 1800 then (some (mset n263 475 7 (o64 (shl64 (n263 475 7) 8) (n263 476 x1)))).bind fun m290 => some (m290) else none else some (n263)).bind fun n293 => if x5 < c4 then if c3 = 0 then (some (w32 (x5 + 1) : Int)).bind fun x5_325 => (some (w32 (x1 + 1) : Int)).bind fun x1_328 => self x1_328 x5_325 n293 else if 0 ≤ x1 ∧ x1 < 1800 then (some (mset n293 475 6 (w32 ((w32 ((w32 (10 * (n293 475 6))) + (n293 476 x1))) - 48)))).bind fun m322 => (some (w32 (x5 + 1) : Int)).bind fun x5_325 => (some (w32 (x1 + 1) : Int)).bind fun x1_328 => self x1_328 x5_325 m322 else none else (some (w32 (x5 + 1) : Int)).bind fun x5_325 => (some (w32 (x1 + 1) : Int)).bind fun x1_328 => self x1_328 x5_325 n293) Q := by
      refine pn_bp (P := W12) (pn_i (fun _ => pn_i (fun _ => pn_s (h.set (by decide))) (fun _ => pn_s h)) (fun _ => pn_s h)) (fun m1 h1 => ?_)
      refine pn_bp (P := W12) (pn_i (fun _ => pn_i (fun _ => pn_s h1) (fun _ => pn_i (fun _ => pn_s (h1.set (by decide))) (fun _ => pn_n))) (fun _ => pn_s h1)) (fun m2 h2 => ?_)
      refine pn_i (fun _ => pn_i (fun _ => ?_) (fun _ => pn_i (fun _ => ?_) (fun _ => pn_n))) (fun _ => ?_)
      · exact ih _ _ _ h2
      · exact ih _ _ _ (h2.set (by decide))
      · exact ih _ _ _ h2
    refine pn_i (fun _ => ?_) (fun _ => hk _ _ h)
    refine pn_i (fun _ => pn_i (fun _ => pn_b (fun r => pn_i (fun _ => hk _ _ h) (fun _ => go))) (fun _ => pn_n)) (fun _ => pn_i (fun _ => pn_b (fun r => pn_i (fun _ => hk _ _ h) (fun _ => go))) (fun _ => pn_n))
theorem pn_L5 {N : Nat} {m : Mem} {k : Int → Option Mem} {Q : Mem → Prop} (hk : ∀ z, Pn (k z) Q) : ∀ (n : Nat) (x1 : Int), Pn (lpF (fun _ => none) (pM_ahead_L5b N m k) n x1) Q := by
  intro n
  induction n with
  | zero => intro x1 a e; cases e
  | succ n ih =>
    intro x1
    show Pn (pM_ahead_L5b N m k (lpF (fun _ => none) (pM_ahead_L5b N m k) n) x1) Q
    generalize lpF (fun _ => none) (pM_ahead_L5b N m k) n = self at ih ⊢
    unfold pM_ahead_L5b
    exact pn_i (fun _ => pn_i (fun _ => pn_i (fun _ => ih _) (fun _ => pn_i (fun _ => pn_i (fun _ => ih _) (fun _ => hk _)) (fun _ => pn_n))) (fun _ => pn_n)) (fun _ => hk _)
def AH3 (m : Mem) : Prop := (m 475 4 < m 475 2 → m 475 3 ≠ 0) ∧ (m 475 3 = 0 → m 475 5 = m 475 4) ∧ (m 475 3 = 3 → m 475 5 = m 475 4 + 1)
theorem W12.A {m : Mem} (h : W12 m) : AH3 m := by
  unfold W12 at h
  exact ⟨fun _ => by omega, fun c => by omega, fun c => by omega⟩
theorem ahd3 {N : Nat} {m : Mem} : Pn (pM_ahead N m) AH3 := by
  unfold pM_ahead
  refine pn_b (fun x => ?_)
  unfold pM_ahead_L5
  refine pn_L5 (fun z => ?_) N x
  refine pn_bp (P := fun a => a 475 4 = z) (pn_s (mset_s rfl rfl)) (fun m1 h1 => ?_)
  refine pn_bp (P := fun a => a 475 4 = z ∧ a 475 5 = z) (pn_s ⟨m4_set h1 (by decide), mset_s rfl rfl⟩) (fun m2 h2 => ?_)
  refine pn_bp (P := fun a => (a 475 4 = z ∧ a 475 5 = z) ∧ a 475 3 = 0) (pn_s ⟨⟨m4_set h2.1 (by decide), (mset_o (by omega)).trans h2.2⟩, mset_s rfl rfl⟩) (fun m3 h3 => ?_)
  refine pn_bp (P := fun a => (a 475 4 = z ∧ a 475 5 = z) ∧ a 475 3 = 0) (pn_s ⟨⟨m4_set h3.1.1 (by decide), (mset_o (by omega)).trans h3.1.2⟩, (mset_o (by omega)).trans h3.2⟩) (fun m4 h4 => ?_)
  refine pn_i (fun _ => ?_) (fun c => pn_s ⟨fun d => absurd d (by rw [h4.1.1]; exact c), fun _ => h4.1.2.trans h4.1.1.symm, fun d => by have := h4.2; omega⟩)
  refine pn_i (fun hz => pn_b (fun r76 => pn_i (fun _ => pn_b (fun r86 => ?_)) (fun _ => pn_n))) (fun _ => pn_n)
  have h44 := h4.1.1
  refine pn_bp (P := fun a => a 475 4 = z) ?_ (fun m5 h5 => ?_)
  · repeat (first | exact pn_n | exact pn_s h44 | exact pn_s (m4_set h44 (by decide)) | refine pn_i (fun _ => ?_) (fun _ => ?_) | refine pn_b (fun _ => ?_))
  refine pn_bp (P := fun a => a 475 4 = z) (pn_s (m4_set h5 (by decide))) (fun m6 h6 => ?_)
  refine pn_bp (P := fun a => a 475 4 = z) (pn_s (m4_set h6 (by decide))) (fun m7 h7 => ?_)
  refine pn_bp (P := fun a => a 475 4 = z ∧ a 475 3 = 3) (pn_s ⟨m4_set h7 (by decide), mset_s rfl rfl⟩) (fun m8 h8 => ?_)
  refine pn_bp (P := fun a => (a 475 4 = z ∧ a 475 3 = 3) ∧ a 475 5 = z + 1) (pn_s ⟨⟨m4_set h8.1 (by decide), (mset_o (by omega)).trans h8.2⟩, (mset_s rfl rfl).trans (w32_eq (by omega) (by omega))⟩) (fun m9 h9 => ?_)
  unfold jn
  have goJ : Pn ((some (if r76 = 0 then 2 else 1 : Int)).bind fun ys1_186 => (some (mset m9 475 3 ys1_186)).bind fun m186 => (some (if r76 = 0 then 4 else 6 : Int)).bind fun ys0_199 => pM_ahead_L204 N r76 r86 ys0_199 (fun z1_334 n334 => (some (mset n334 475 5 z1_334)).bind fun m336 => some m336) N z 0 m186) AH3 := by
    refine pn_bp (P := fun y => y = 1 ∨ y = 2) (pn_s (by by_cases q : r76 = 0 <;> simp [q])) (fun y hy => ?_)
    refine pn_bp (P := W12) (pn_s (by unfold W12; rw [mset_s rfl rfl]; exact hy)) (fun m10 h10 => ?_)
    refine pn_b (fun y2 => ?_)
    unfold pM_ahead_L204
    exact pn_L204 (fun z' m' h' => pn_bp (P := W12) (pn_s (h'.set (by decide))) (fun m11 h11 => pn_s h11.A)) N z 0 m10 h10
  have fin : AH3 (mset m9 475 6 (m9 476 z)) := by
    have e : ∀ j, j ≠ 6 → mset m9 475 6 (m9 476 z) 475 j = m9 475 j := fun j hj => mset_o (by omega)
    unfold AH3
    rw [e 3 (by decide), e 4 (by decide), e 5 (by decide), h9.1.1, h9.1.2, h9.2]
    exact ⟨fun _ => by decide, fun c => absurd c (by decide), fun _ => rfl⟩
  exact pn_i (fun _ => pn_i (fun _ => pn_i (fun _ => pn_s fin) (fun _ => pn_n)) (fun _ => goJ)) (fun _ => goJ)
theorem Rn.and {α : Type} {x : Option α} {P Q : α → Prop} (h : Rn x P) (k : Pn x Q) : Rn x (fun a => P a ∧ Q a) := by
  obtain ⟨a, e, h⟩ := h
  exact ⟨a, e, h, k a e⟩
/-- the instance, where the reference tells the end from all else -/
def RTj (T : Int → Int) (L : Int) (t : Mem) (en : Int → Int) (k : Int) (m : Mem) : Prop := RTi T L t en k m ∧ AH3 m
theorem RTj.gt {T : Int → Int} {L : Int} {t : Mem} {en : Int → Int} {k : Int} {m : Mem} {N : Nat} (hN : 2000 ≤ N) (hL : 0 ≤ L ∧ L ≤ 1600) (h : SPt T L t en) (hk : 0 ≤ k ∧ k < t 18 6) (h5 : m 475 5 = en k) (h2 : m 475 2 = L) (hT : ∀ j, 0 ≤ j → j < L → m 476 j = T j) : Rn (pM_ahead N m) (fun m' => RTj T L t en k m' ∧ Fr FRa m m') :=
  rn_q (Rn.and (RTi.gt hN hL h hk h5 h2 hT) ahd3) (fun m' hm => ⟨⟨hm.1.1, hm.2⟩, hm.1.2⟩)
theorem RTj.LX {T : Int → Int} {L : Int} {t : Mem} {en : Int → Int} {N : Nat} (hN : 2000 ≤ N) (hL : 0 ≤ L ∧ L ≤ 1600) (h : SPt T L t en) : LX N t (RTj T L t en) := by
  refine ⟨fun k m hr => hr.1.1, fun k m m' hr hf => ⟨hr.1.fr hf, ?_⟩, fun k m hr k0 k1 => ?_⟩
  · unfold AH3
    rw [hf 475 4 (by omega), hf 475 2 (by omega), hf 475 3 (by omega), hf 475 5 (by omega)]
    exact hr.2
  · have hc := (h.2.2 k k0 (by omega)).1 k1
    exact RTj.gt hN hL h ⟨by omega, k1⟩ (hr.1.2.2.2 hc.1 hc.2).1 hr.1.2.1 hr.1.2.2.1
/-- the end, and nothing else, has the class 0 -/
theorem RTj.end {T : Int → Int} {L : Int} {t : Mem} {en : Int → Int} {k : Int} {m : Mem} (h : SPt T L t en) (hk : 0 ≤ k ∧ k < t 18 6) (hr : RTj T L t en k m) : m 475 3 = 0 ↔ t 35 k = 26 := by
  have hc := (h.2.1.2 k hk.1 hk.2).2.1
  have h4 := hr.1.1.1
  have h2 := hr.1.2.1
  have hs : t 35 k ≠ 26 → t 36 k < L := by
    intro q
    rcases hc.2 with c | c | c | c | c
    · exact absurd c.2.1 q
    · exact c.1
    · exact c.1
    · exact c.1
    · exact c.1
  constructor
  · intro h3
    by_cases q : t 35 k = 26
    · exact q
    · exact absurd h3 (hr.2.1 (by rw [h4, h2]; exact hs q))
  · intro q
    rcases hr.1.1.2 with c | c
    · omega
    · rcases c.2.2 with d | d | d | d
      · exact d.2
      · omega
      · omega
      · have := d.1
        unfold isSg at this
        omega
/-- a name: its bytes stand in the text -/
theorem SPt.name {T : Int → Int} {L : Int} {t : Mem} {en : Int → Int} {k : Int} (h : SPt T L t en) (hk : 0 ≤ k ∧ k < t 18 6) (h24 : t 35 k = 24) : (1 ≤ t 37 k ∧ t 37 k ≤ 6) ∧ (0 ≤ t 36 k ∧ t 36 k + t 37 k ≤ L) ∧ ∀ j, 0 ≤ j → j < t 37 k → 97 ≤ T (t 36 k + j) ∧ T (t 36 k + j) ≤ 122 := by
  have hh := h.2.1.2 k hk.1 hk.2
  have hs := hh.2.1.1.1
  have he := hh.1
  have hc := hh.2.1
  rcases hc.2 with c | c | c | c | c
  · omega
  · omega
  · obtain ⟨c1, c2, -, c4, c5⟩ := c
    have hx := RUN_lt c4 c1 c2
    have hxL := RUN_le c4 (by omega)
    rcases c5 with c5 | c5
    · omega
    · refine ⟨by omega, by omega, fun j j0 j1 => ?_⟩
      exact (c4.2.1 (t 36 k + j) (by omega) (by omega)).2
  · obtain ⟨-, -, -, -, c5⟩ := c
    omega
  · obtain ⟨-, -, -, -, c5⟩ := c
    rcases c5 with ⟨c5, c6⟩ | c5
    · unfold isSg at c5
      omega
    · omega
/-- where the reference stands behind a sign -/
theorem RTj.b5 {T : Int → Int} {L : Int} {t : Mem} {en : Int → Int} {k : Int} {m : Mem} (h : SPt T L t en) (hk : 0 ≤ k ∧ k < t 18 6) (hr : RTj T L t en k m) (hl : m 475 12 = -1) : 0 ≤ m 475 5 ∧ m 475 5 ≤ L := by
  have hh := h.2.1.2 k hk.1 hk.2
  have hc := hh.2.1
  have he := hh.1
  have hes := hc.1.1
  have hsL := SKP_le he.2 hc.1
  have h4 := hr.1.1.1
  have hs : t 35 k ≠ 26 → t 36 k < L := by
    intro q
    rcases hc.2 with c | c | c | c | c
    · exact absurd c.2.1 q
    · exact c.1
    · exact c.1
    · exact c.1
    · exact c.1
  have nx : t 35 k ≠ 26 → t 35 k ≠ 27 → 0 ≤ m 475 5 ∧ m 475 5 ≤ L := by
    intro a b
    have k1 := (h.2.2 k hk.1 hk.2).2 ⟨a, b⟩
    rw [(hr.1.2.2.2 a b).1]
    exact (h.2.1.2 (k + 1) (by omega) k1).1
  rcases hr.1.1.2 with ⟨c, d⟩ | ⟨c, -, d⟩
  · rcases d with d | d
    · omega
    · have := hr.2.2.2 d.2.2.1
      have := hs (by omega)
      omega
  · rcases d with d | d | d | d
    · have := hr.2.2.1 d.2
      omega
    · exact nx (by omega) c
    · exact nx (by omega) c
    · refine nx ?_ c
      have := d.1
      unfold isSg at this
      omega
