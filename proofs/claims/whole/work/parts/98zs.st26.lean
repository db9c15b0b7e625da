/-! VALLEY: what goes well tells no fault: the component -/
def GK (c : Int) (m : Mem) : Prop := m 18 1 = 0 ∧ m 18 2 = -1 ∧ c ≤ m 18 10
def GP (c : Int) (r : Int × Mem) : Prop := r.1 ≠ 0 → GK c r.2
theorem GK.set {c : Int} {m : Mem} {b j v : Int} (h : GK c m) (hk : ¬ (b = 18 ∧ (j = 1 ∨ j = 2 ∨ j = 10))) : GK c (mset m b j v) := by
  unfold GK at *
  rw [mset_o (by omega), mset_o (by omega), mset_o (by omega)]
  exact h
theorem GK.mono {c c' : Int} {m : Mem} (h : GK c m) (hc : c' ≤ c) : GK c' m := ⟨h.1, h.2.1, by have := h.2.2; omega⟩
theorem gp0 {c : Int} {m : Mem} : GP c (0, m) := fun h => absurd rfl h
theorem gp1 {c a : Int} {m : Mem} (h : GK c m) : GP c (a, m) := fun _ => h
theorem pn_gm {β : Type} {x : Option Mem} {f : Mem → Option β} {Q : β → Prop} {c : Int} (h : Pn x (GK c)) (k : ∀ a, GK c a → Pn (f a) Q) : Pn (x.bind f) Q := pn_bp h k
theorem pn_g2 {β : Type} {x : Option (Int × Mem)} {f : Int × Mem → Option β} {Q : β → Prop} {c : Int} (h : Pn x (GP c)) (k : ∀ a m, (a ≠ 0 → GK c m) → Pn (f (a, m)) Q) : Pn (x.bind f) Q := pn_bp h (fun r hr => k r.1 r.2 hr)
theorem pn_ig {β : Type} {x y : Option β} {Q : β → Prop} {c a : Int} {m : Mem} (h : a ≠ 0 → GK c m) (h0 : Pn x Q) (h1 : GK c m → Pn y Q) : Pn (if a = 0 then x else y) Q := pn_i (fun _ => h0) (fun q => h1 (h q))
theorem gk_wrong {c : Int} {m : Mem} {x : Int} : Pn (pR_wrong m x) (GP c) := by
  unfold pR_wrong
  refine pn_b (fun m1 => pn_i (fun _ => pn_b (fun m2 => pn_s gp0)) (fun _ => pn_n))
theorem gk_astray {c : Int} {m : Mem} : Pn (pR_astray m) (GP c) := by
  unfold pR_astray
  exact pn_b (fun m1 => pn_i (fun _ => pn_i (fun _ => pn_i (fun _ => pn_b (fun m2 => pn_s gp0)) (fun _ => pn_n)) (fun _ => pn_i (fun _ => pn_b (fun m2 => pn_s gp0)) (fun _ => pn_n))) (fun _ => pn_n))
set_option maxHeartbeats 4000000 in
theorem gk_pass {c : Int} {m : Mem} (h : GK c m) : Pn (pR_pass m) (GK c) := by
  unfold pR_pass
  repeat (first | assumption | with_reducible exact pn_n | with_reducible refine pn_s ?_ | with_reducible exact gp0 | with_reducible refine gp1 ?_ | with_reducible refine gk_astray | with_reducible refine gk_wrong | with_reducible refine pn_ig (c := c) (by assumption) ?_ (fun _ => ?_) | with_reducible refine pn_i (fun _ => ?_) (fun _ => ?_) | with_reducible refine pn_ju ?_ (fun _ _ => ?_) | with_reducible refine pn_bi (fun _ => ?_) | with_reducible refine pn_gm (c := c) ?_ (fun _ _ => ?_) | with_reducible refine pn_g2 (c := c) ?_ (fun _ _ _ => ?_) | refine GK.set ?_ (by omega) | decide)
set_option maxHeartbeats 4000000 in
theorem gk_take {c : Int} {m : Mem} {x1 : Int} (h : GK c m) : Pn (pR_take m x1) (GP c) := by
  unfold pR_take
  repeat (first | assumption | with_reducible exact pn_n | with_reducible refine pn_s ?_ | with_reducible exact gp0 | with_reducible refine gp1 ?_ | with_reducible refine gk_pass ?_ | with_reducible refine gk_astray | with_reducible refine gk_wrong | with_reducible refine pn_ig (c := c) (by assumption) ?_ (fun _ => ?_) | with_reducible refine pn_i (fun _ => ?_) (fun _ => ?_) | with_reducible refine pn_ju ?_ (fun _ _ => ?_) | with_reducible refine pn_bi (fun _ => ?_) | with_reducible refine pn_gm (c := c) ?_ (fun _ _ => ?_) | with_reducible refine pn_g2 (c := c) ?_ (fun _ _ _ => ?_) | refine GK.set ?_ (by omega) | decide)
set_option maxHeartbeats 4000000 in
theorem gk_takeNumber {c : Int} {m : Mem} {x1 : Int} {x2 : Int} (h : GK c m) : Pn (pR_takeNumber m x1 x2) (GP c) := by
  unfold pR_takeNumber
  repeat (first | assumption | with_reducible exact pn_n | with_reducible refine pn_s ?_ | with_reducible exact gp0 | with_reducible refine gp1 ?_ | with_reducible refine gk_take ?_ | with_reducible refine gk_pass ?_ | with_reducible refine gk_astray | with_reducible refine gk_wrong | with_reducible refine pn_ig (c := c) (by assumption) ?_ (fun _ => ?_) | with_reducible refine pn_i (fun _ => ?_) (fun _ => ?_) | with_reducible refine pn_ju ?_ (fun _ _ => ?_) | with_reducible refine pn_bi (fun _ => ?_) | with_reducible refine pn_gm (c := c) ?_ (fun _ _ => ?_) | with_reducible refine pn_g2 (c := c) ?_ (fun _ _ _ => ?_) | refine GK.set ?_ (by omega) | decide)
set_option maxHeartbeats 4000000 in
theorem gk_readField {c : Int} {m : Mem} (h : GK c m) : Pn (pR_readField m) (GP c) := by
  unfold pR_readField
  repeat (first | assumption | with_reducible exact pn_n | with_reducible refine pn_s ?_ | with_reducible exact gp0 | with_reducible refine gp1 ?_ | with_reducible refine gk_takeNumber ?_ | with_reducible refine gk_take ?_ | with_reducible refine gk_pass ?_ | with_reducible refine gk_astray | with_reducible refine gk_wrong | with_reducible refine pn_ig (c := c) (by assumption) ?_ (fun _ => ?_) | with_reducible refine pn_i (fun _ => ?_) (fun _ => ?_) | with_reducible refine pn_ju ?_ (fun _ _ => ?_) | with_reducible refine pn_bi (fun _ => ?_) | with_reducible refine pn_gm (c := c) ?_ (fun _ _ => ?_) | with_reducible refine pn_g2 (c := c) ?_ (fun _ _ _ => ?_) | refine GK.set ?_ (by omega) | decide)
set_option maxHeartbeats 4000000 in
theorem gk_readMist {c : Int} {m : Mem} (h : GK c m) : Pn (pR_readMist m) (GP c) := by
  unfold pR_readMist
  repeat (first | assumption | with_reducible exact pn_n | with_reducible refine pn_s ?_ | with_reducible exact gp0 | with_reducible refine gp1 ?_ | with_reducible refine gk_readField ?_ | with_reducible refine gk_takeNumber ?_ | with_reducible refine gk_take ?_ | with_reducible refine gk_pass ?_ | with_reducible refine gk_astray | with_reducible refine gk_wrong | with_reducible refine pn_ig (c := c) (by assumption) ?_ (fun _ => ?_) | with_reducible refine pn_i (fun _ => ?_) (fun _ => ?_) | with_reducible refine pn_ju ?_ (fun _ _ => ?_) | with_reducible refine pn_bi (fun _ => ?_) | with_reducible refine pn_gm (c := c) ?_ (fun _ _ => ?_) | with_reducible refine pn_g2 (c := c) ?_ (fun _ _ _ => ?_) | refine GK.set ?_ (by omega) | decide)
def GQc (c : Int) (r : Int × Mem) : Prop := r.1 ≠ -1 → GK c r.2
theorem gk_takeCell {c : Int} {m : Mem} (h : GK c m) : Pn (pR_takeCell m) (GQc c) := by
  unfold pR_takeCell
  refine pn_g2 (c := c) (gk_takeNumber h) (fun a m1 h1 => pn_ig (c := c) h1 (pn_s (fun q => absurd rfl q)) (fun g1 => pn_b (fun v => ?_)))
  refine pn_g2 (c := c) (gk_takeNumber g1) (fun a m2 h2 => pn_ig (c := c) h2 (pn_s (fun q => absurd rfl q)) (fun g2 => pn_b (fun v => pn_b (fun w => pn_s (fun _ => g2)))))
theorem gk_readDew {c : Int} {m : Mem} (h : GK c m) : Pn (pR_readDew m) (GP c) := by
  unfold pR_readDew
  refine pn_gm (c := c) (gk_pass h) (fun m1 h1 => pn_bp (gk_takeCell h1) (fun r hr => ?_))
  obtain ⟨a, m2⟩ := r
  refine pn_i (fun _ => pn_s gp0) (fun q => ?_)
  have h2 : GK c m2 := hr q
  repeat (first | assumption | with_reducible exact pn_n | with_reducible refine pn_s ?_ | with_reducible exact gp0 | with_reducible refine gp1 ?_ | with_reducible refine gk_readMist ?_ | with_reducible refine gk_readField ?_ | with_reducible refine gk_takeNumber ?_ | with_reducible refine gk_take ?_ | with_reducible refine gk_pass ?_ | with_reducible refine gk_astray | with_reducible refine gk_wrong | with_reducible refine pn_ig (c := c) (by assumption) ?_ (fun _ => ?_) | with_reducible refine pn_i (fun _ => ?_) (fun _ => ?_) | with_reducible refine pn_ju ?_ (fun _ _ => ?_) | with_reducible refine pn_bi (fun _ => ?_) | with_reducible refine pn_gm (c := c) ?_ (fun _ _ => ?_) | with_reducible refine pn_g2 (c := c) ?_ (fun _ _ _ => ?_) | refine GK.set ?_ (by omega) | decide)
theorem gk_CW {c iw a b cell i : Int} {K : Mem → Option (Int × Mem)} (hc : 19 ≤ cell) (hK : ∀ m, GK c m → Pn (K m) (GP c)) {m : Mem} (h : GK c m) : Pn (CW iw a b cell i K m) (GP c) := by
  unfold CW
  refine pn_g2 (c := c) (gk_take h) (fun r m1 h1 => pn_ig (c := c) h1 (pn_s gp0) (fun g1 => ?_))
  refine pn_g2 (c := c) (gk_takeNumber g1) (fun r m2 h2 => pn_ig (c := c) h2 (pn_s gp0) (fun g2 => ?_))
  exact pn_b (fun v => pn_i (fun _ => pn_gm (c := c) (pn_s (g2.set (by omega))) (fun m3 h3 => hK m3 h3)) (fun _ => pn_n))
theorem gk_CC {c i : Int} {K : Mem → Option (Int × Mem)} (hK : ∀ m, GK c m → Pn (K m) (GP c)) {m : Mem} (h : GK c m) : Pn (CC i K m) (GP c) := by
  unfold CC
  refine pn_g2 (c := c) (gk_take h) (fun r m1 h1 => pn_ig (c := c) h1 (pn_s gp0) (fun g1 => ?_))
  refine pn_bp (gk_takeCell g1) (fun r hr => ?_)
  obtain ⟨a, m2⟩ := r
  have hr' : a ≠ -1 → GK c m2 := hr
  refine pn_i (fun _ => ?_) (fun _ => pn_n)
  refine pn_bp (P := fun b => b 22 i = a ∧ (a ≠ -1 → GK c b)) (pn_s ⟨mset_s rfl rfl, fun q => (hr' q).set (by omega)⟩) (fun m3 h3 => ?_)
  exact pn_i (fun _ => pn_i (fun _ => pn_s gp0) (fun q => hK m3 (h3.2 (fun e => q (h3.1.trans e))))) (fun _ => pn_n)
theorem gk_CQt {c i : Int} {m : Mem} (h : GK c m) : Pn (CQt i m) (GP c) := by
  unfold CQt
  refine gk_CC (fun m1 h1 => gk_CW (by decide) (fun m2 h2 => gk_CW (by decide) (fun m3 h3 => gk_CW (by decide) (fun m4 h4 => ?_) h3) h2) h1) h
  unfold CEnd
  exact pn_gm (c := c) (pn_s (h4.set (by omega))) (fun m5 h5 => pn_s (gp1 h5))
theorem gk_wnL {N : Nat} {c c1 c3 c4 : Int} {k : Mem → Option Mem} {Q : Mem → Prop} (hk : ∀ m, GK c m → Pn (k m) Q) : ∀ (n : Nat) (x : Int) (m : Mem), GK c m → Pn (lpF (fun _ _ => none) (pR_writeName_L24b N c1 c3 c4 k) n x m) Q := by
  intro n
  induction n with
  | zero => intro x m h a e; cases e
  | succ n ih =>
    intro x m h
    show Pn (pR_writeName_L24b N c1 c3 c4 k (lpF (fun _ _ => none) (pR_writeName_L24b N c1 c3 c4 k) n) x m) Q
    generalize lpF (fun _ _ => none) (pR_writeName_L24b N c1 c3 c4 k) n = self at ih ⊢
    unfold pR_writeName_L24b
    repeat (first | assumption | with_reducible exact pn_n | with_reducible refine pn_s ?_ | with_reducible exact gp0 | with_reducible refine gp1 ?_ | with_reducible refine ih _ _ ?_ | with_reducible refine hk _ ?_ | with_reducible refine pn_ig (c := c) (by assumption) ?_ (fun _ => ?_) | with_reducible refine pn_i (fun _ => ?_) (fun _ => ?_) | with_reducible refine pn_ju ?_ (fun _ _ => ?_) | with_reducible refine pn_bi (fun _ => ?_) | with_reducible refine pn_gm (c := c) ?_ (fun _ _ => ?_) | with_reducible refine pn_g2 (c := c) ?_ (fun _ _ _ => ?_) | refine GK.set ?_ (by omega) | decide)
theorem gk_writeName {N : Nat} {c x1 : Int} {m : Mem} (h : GK c m) : Pn (pR_writeName N m x1) (GK c) := by
  unfold pR_writeName pR_writeName_L24
  exact pn_i (fun _ => pn_b (fun a => pn_i (fun _ => pn_b (fun b => gk_wnL (fun m1 h1 => pn_s h1) N 0 m h)) (fun _ => pn_n))) (fun _ => pn_n)
theorem gk_readPerson {N : Nat} {c : Int} {m : Mem} (h : GK c m) : Pn (pR_readPerson N m) (GP c) := by
  unfold pR_readPerson
  refine pn_b (fun x => pn_i (fun _ => ?_) (fun _ => ?_))
  · refine pn_gm (c := c) (gk_pass h) (fun m1 h1 => pn_i (fun _ => pn_i (fun _ => ?_) (fun _ => ?_)) (fun _ => pn_n))
    · refine pn_gm (c := c) (gk_writeName h1) (fun m2 h2 => pn_b (fun r => pn_i (fun _ => ?_) (fun _ => ?_)))
      · refine pn_gm (c := c) (gk_pass h2) (fun m3 h3 => ?_)
        exact (gk_CQt (i := x) h3 : Pn (CQt x m3) (GP c))
      · exact pn_g2 (c := c) gk_wrong (fun a m3 h3 => pn_s h3)
    · exact pn_g2 (c := c) gk_astray (fun a m3 h3 => pn_s h3)
  · exact pn_g2 (c := c) gk_wrong (fun a m3 h3 => pn_s h3)
theorem gk_add {m : Mem} {a x1 x2 : Int} (ha : 19 ≤ a) (h : GK 19 m) : Pn (pU_add m a x1 x2) (GK 19) := by
  unfold pU_add
  refine pn_i (fun _ => pn_i (fun _ => pn_gm (c := 19) (pn_s (h.set (by omega))) (fun m1 h1 => pn_gm (c := 19) (pn_s (h1.set (by omega))) (fun m2 h2 => pn_s h2))) (fun _ => pn_n)) (fun _ => pn_s h)
theorem gk_addT {m : Mem} {x1 x2 : Int} (h : GK 19 m) : Pn (pU_add m (m 18 10) x1 x2) (GK 19) := gk_add h.2.2 h
set_option maxHeartbeats 4000000 in
theorem gk_tell {m : Mem} {x1 : Int} {x2 : Int} (h : GK 19 m) : Pn (pR_tell m x1 x2) (GP 19) := by
  unfold pR_tell
  repeat (first | assumption | with_reducible exact pn_n | with_reducible refine pn_s ?_ | with_reducible exact gp0 | with_reducible refine gp1 ?_ | with_reducible refine gk_addT ?_ | with_reducible refine gk_readPerson ?_ | with_reducible refine gk_readDew ?_ | with_reducible refine gk_readMist ?_ | with_reducible refine gk_readField ?_ | with_reducible refine gk_takeNumber ?_ | with_reducible refine gk_take ?_ | with_reducible refine gk_pass ?_ | with_reducible refine gk_astray | with_reducible refine gk_wrong | with_reducible refine pn_ig (c := 19) (by assumption) ?_ (fun _ => ?_) | with_reducible refine pn_i (fun _ => ?_) (fun _ => ?_) | with_reducible refine pn_ju ?_ (fun _ _ => ?_) | with_reducible refine pn_bi (fun _ => ?_) | with_reducible refine pn_gm (c := 19) ?_ (fun _ _ => ?_) | with_reducible refine pn_g2 (c := 19) ?_ (fun _ _ _ => ?_) | refine GK.set ?_ (by omega) | decide)
set_option maxHeartbeats 4000000 in
theorem gk_opens {c : Int} {m : Mem} {x1 : Int} (h : GK c m) : Pn (pR_opens m x1) (GP c) := by
  unfold pR_opens
  repeat (first | assumption | with_reducible exact pn_n | with_reducible refine pn_s ?_ | with_reducible exact gp0 | with_reducible refine gp1 ?_ | with_reducible refine gk_tell ?_ | with_reducible refine gk_addT ?_ | with_reducible refine gk_readPerson ?_ | with_reducible refine gk_readDew ?_ | with_reducible refine gk_readMist ?_ | with_reducible refine gk_readField ?_ | with_reducible refine gk_takeNumber ?_ | with_reducible refine gk_take ?_ | with_reducible refine gk_pass ?_ | with_reducible refine gk_astray | with_reducible refine gk_wrong | with_reducible refine pn_ig (c := c) (by assumption) ?_ (fun _ => ?_) | with_reducible refine pn_i (fun _ => ?_) (fun _ => ?_) | with_reducible refine pn_ju ?_ (fun _ _ => ?_) | with_reducible refine pn_bi (fun _ => ?_) | with_reducible refine pn_gm (c := c) ?_ (fun _ _ => ?_) | with_reducible refine pn_g2 (c := c) ?_ (fun _ _ _ => ?_) | refine GK.set ?_ (by omega) | decide)
set_option maxHeartbeats 4000000 in
theorem gk_closes {c : Int} {m : Mem} {x1 : Int} (h : GK c m) : Pn (pR_closes m x1) (GP c) := by
  unfold pR_closes
  repeat (first | assumption | with_reducible exact pn_n | with_reducible refine pn_s ?_ | with_reducible exact gp0 | with_reducible refine gp1 ?_ | with_reducible refine gk_opens ?_ | with_reducible refine gk_tell ?_ | with_reducible refine gk_addT ?_ | with_reducible refine gk_readPerson ?_ | with_reducible refine gk_readDew ?_ | with_reducible refine gk_readMist ?_ | with_reducible refine gk_readField ?_ | with_reducible refine gk_takeNumber ?_ | with_reducible refine gk_take ?_ | with_reducible refine gk_pass ?_ | with_reducible refine gk_astray | with_reducible refine gk_wrong | with_reducible refine pn_ig (c := c) (by assumption) ?_ (fun _ => ?_) | with_reducible refine pn_i (fun _ => ?_) (fun _ => ?_) | with_reducible refine pn_ju ?_ (fun _ _ => ?_) | with_reducible refine pn_bi (fun _ => ?_) | with_reducible refine pn_gm (c := c) ?_ (fun _ _ => ?_) | with_reducible refine pn_g2 (c := c) ?_ (fun _ _ _ => ?_) | refine GK.set ?_ (by omega) | decide)
set_option maxHeartbeats 4000000 in
theorem gk_readSumL {N : Nat} {gs : Nat → Int → Mem → Option (Int × Mem)} (hg : ∀ i x m, GK 19 m → Pn (gs i x m) (GP 19)) {k : Mem → Option (Int × Mem)} (hk : ∀ m, GK 19 m → Pn (k m) (GP 19)) : ∀ (n : Nat) (x : Int) (m : Mem), GK 19 m → Pn (lpF (fun _ _ => none) (pR_readSum_L11b N gs k) n x m) (GP 19) := by
  intro n
  induction n with
  | zero => intro x m h a e; cases e
  | succ n ih =>
    intro x m h
    show Pn (pR_readSum_L11b N gs k (lpF (fun _ _ => none) (pR_readSum_L11b N gs k) n) x m) (GP 19)
    generalize lpF (fun _ _ => none) (pR_readSum_L11b N gs k) n = self at ih ⊢
    unfold pR_readSum_L11b
    repeat (first | assumption | with_reducible exact pn_n | with_reducible refine pn_s ?_ | with_reducible exact gp0 | with_reducible refine gp1 ?_ | with_reducible refine ih _ _ ?_ | with_reducible refine hk _ ?_ | with_reducible refine hg _ _ _ ?_ | with_reducible refine gk_closes ?_ | with_reducible refine gk_opens ?_ | with_reducible refine gk_tell ?_ | with_reducible refine gk_addT ?_ | with_reducible refine gk_readPerson ?_ | with_reducible refine gk_readDew ?_ | with_reducible refine gk_readMist ?_ | with_reducible refine gk_readField ?_ | with_reducible refine gk_takeNumber ?_ | with_reducible refine gk_take ?_ | with_reducible refine gk_pass ?_ | with_reducible refine gk_astray | with_reducible refine gk_wrong | with_reducible refine pn_ig (c := 19) (by assumption) ?_ (fun _ => ?_) | with_reducible refine pn_i (fun _ => ?_) (fun _ => ?_) | with_reducible refine pn_ju ?_ (fun _ _ => ?_) | with_reducible refine pn_bi (fun _ => ?_) | with_reducible refine pn_gm (c := 19) ?_ (fun _ _ => ?_) | with_reducible refine pn_g2 (c := 19) ?_ (fun _ _ _ => ?_) | refine GK.set ?_ (by omega) | decide)
set_option maxHeartbeats 4000000 in
theorem gk_readSum {N : Nat} {gs : Nat → Int → Mem → Option (Int × Mem)} (hg : ∀ i x m, GK 19 m → Pn (gs i x m) (GP 19)) {m : Mem} (h : GK 19 m) : Pn (pR_readSum_b N gs m ) (GP 19) := by
  unfold pR_readSum_b pR_readSum_L11
  repeat (first | assumption | with_reducible exact pn_n | with_reducible refine pn_s ?_ | with_reducible exact gp0 | with_reducible refine gp1 ?_ | with_reducible refine gk_readSumL hg (fun _ _ => ?_) _ _ _ ?_ | with_reducible refine hg _ _ _ ?_ | with_reducible refine gk_closes ?_ | with_reducible refine gk_opens ?_ | with_reducible refine gk_tell ?_ | with_reducible refine gk_addT ?_ | with_reducible refine gk_readPerson ?_ | with_reducible refine gk_readDew ?_ | with_reducible refine gk_readMist ?_ | with_reducible refine gk_readField ?_ | with_reducible refine gk_takeNumber ?_ | with_reducible refine gk_take ?_ | with_reducible refine gk_pass ?_ | with_reducible refine gk_astray | with_reducible refine gk_wrong | with_reducible refine pn_ig (c := 19) (by assumption) ?_ (fun _ => ?_) | with_reducible refine pn_i (fun _ => ?_) (fun _ => ?_) | with_reducible refine pn_ju ?_ (fun _ _ => ?_) | with_reducible refine pn_bi (fun _ => ?_) | with_reducible refine pn_gm (c := 19) ?_ (fun _ _ => ?_) | with_reducible refine pn_g2 (c := 19) ?_ (fun _ _ _ => ?_) | refine GK.set ?_ (by omega) | decide)
set_option maxHeartbeats 4000000 in
theorem gk_readProductL {N : Nat} {gs : Nat → Int → Mem → Option (Int × Mem)} (hg : ∀ i x m, GK 19 m → Pn (gs i x m) (GP 19)) {k : Mem → Option (Int × Mem)} (hk : ∀ m, GK 19 m → Pn (k m) (GP 19)) : ∀ (n : Nat) (x : Int) (m : Mem), GK 19 m → Pn (lpF (fun _ _ => none) (pR_readProduct_L11b N gs k) n x m) (GP 19) := by
  intro n
  induction n with
  | zero => intro x m h a e; cases e
  | succ n ih =>
    intro x m h
    show Pn (pR_readProduct_L11b N gs k (lpF (fun _ _ => none) (pR_readProduct_L11b N gs k) n) x m) (GP 19)
    generalize lpF (fun _ _ => none) (pR_readProduct_L11b N gs k) n = self at ih ⊢
    unfold pR_readProduct_L11b
    repeat (first | assumption | with_reducible exact pn_n | with_reducible refine pn_s ?_ | with_reducible exact gp0 | with_reducible refine gp1 ?_ | with_reducible refine ih _ _ ?_ | with_reducible refine hk _ ?_ | with_reducible refine hg _ _ _ ?_ | with_reducible refine gk_closes ?_ | with_reducible refine gk_opens ?_ | with_reducible refine gk_tell ?_ | with_reducible refine gk_addT ?_ | with_reducible refine gk_readPerson ?_ | with_reducible refine gk_readDew ?_ | with_reducible refine gk_readMist ?_ | with_reducible refine gk_readField ?_ | with_reducible refine gk_takeNumber ?_ | with_reducible refine gk_take ?_ | with_reducible refine gk_pass ?_ | with_reducible refine gk_astray | with_reducible refine gk_wrong | with_reducible refine pn_ig (c := 19) (by assumption) ?_ (fun _ => ?_) | with_reducible refine pn_i (fun _ => ?_) (fun _ => ?_) | with_reducible refine pn_ju ?_ (fun _ _ => ?_) | with_reducible refine pn_bi (fun _ => ?_) | with_reducible refine pn_gm (c := 19) ?_ (fun _ _ => ?_) | with_reducible refine pn_g2 (c := 19) ?_ (fun _ _ _ => ?_) | refine GK.set ?_ (by omega) | decide)
set_option maxHeartbeats 4000000 in
theorem gk_readProduct {N : Nat} {gs : Nat → Int → Mem → Option (Int × Mem)} (hg : ∀ i x m, GK 19 m → Pn (gs i x m) (GP 19)) {m : Mem} (h : GK 19 m) : Pn (pR_readProduct_b N gs m ) (GP 19) := by
  unfold pR_readProduct_b pR_readProduct_L11
  repeat (first | assumption | with_reducible exact pn_n | with_reducible refine pn_s ?_ | with_reducible exact gp0 | with_reducible refine gp1 ?_ | with_reducible refine gk_readProductL hg (fun _ _ => ?_) _ _ _ ?_ | with_reducible refine hg _ _ _ ?_ | with_reducible refine gk_closes ?_ | with_reducible refine gk_opens ?_ | with_reducible refine gk_tell ?_ | with_reducible refine gk_addT ?_ | with_reducible refine gk_readPerson ?_ | with_reducible refine gk_readDew ?_ | with_reducible refine gk_readMist ?_ | with_reducible refine gk_readField ?_ | with_reducible refine gk_takeNumber ?_ | with_reducible refine gk_take ?_ | with_reducible refine gk_pass ?_ | with_reducible refine gk_astray | with_reducible refine gk_wrong | with_reducible refine pn_ig (c := 19) (by assumption) ?_ (fun _ => ?_) | with_reducible refine pn_i (fun _ => ?_) (fun _ => ?_) | with_reducible refine pn_ju ?_ (fun _ _ => ?_) | with_reducible refine pn_bi (fun _ => ?_) | with_reducible refine pn_gm (c := 19) ?_ (fun _ _ => ?_) | with_reducible refine pn_g2 (c := 19) ?_ (fun _ _ _ => ?_) | refine GK.set ?_ (by omega) | decide)
set_option maxHeartbeats 4000000 in
theorem gk_readPart {N : Nat} {gs : Nat → Int → Mem → Option (Int × Mem)} (hg : ∀ i x m, GK 19 m → Pn (gs i x m) (GP 19)) {m : Mem} (h : GK 19 m) : Pn (pR_readPart_b N gs m ) (GP 19) := by
  unfold pR_readPart_b
  repeat (first | assumption | with_reducible exact pn_n | with_reducible refine pn_s ?_ | with_reducible exact gp0 | with_reducible refine gp1 ?_ | with_reducible refine hg _ _ _ ?_ | with_reducible refine gk_closes ?_ | with_reducible refine gk_opens ?_ | with_reducible refine gk_tell ?_ | with_reducible refine gk_addT ?_ | with_reducible refine gk_readPerson ?_ | with_reducible refine gk_readDew ?_ | with_reducible refine gk_readMist ?_ | with_reducible refine gk_readField ?_ | with_reducible refine gk_takeNumber ?_ | with_reducible refine gk_take ?_ | with_reducible refine gk_pass ?_ | with_reducible refine gk_astray | with_reducible refine gk_wrong | with_reducible refine pn_ig (c := 19) (by assumption) ?_ (fun _ => ?_) | with_reducible refine pn_i (fun _ => ?_) (fun _ => ?_) | with_reducible refine pn_ju ?_ (fun _ _ => ?_) | with_reducible refine pn_bi (fun _ => ?_) | with_reducible refine pn_gm (c := 19) ?_ (fun _ _ => ?_) | with_reducible refine pn_g2 (c := 19) ?_ (fun _ _ _ => ?_) | refine GK.set ?_ (by omega) | decide)
set_option maxHeartbeats 4000000 in
theorem gk_readPair {N : Nat} {gs : Nat → Int → Mem → Option (Int × Mem)} (hg : ∀ i x m, GK 19 m → Pn (gs i x m) (GP 19)) {m : Mem} {x1 : Int} (h : GK 19 m) : Pn (pR_readPair_b N gs m x1) (GP 19) := by
  unfold pR_readPair_b
  repeat (first | assumption | with_reducible exact pn_n | with_reducible refine pn_s ?_ | with_reducible exact gp0 | with_reducible refine gp1 ?_ | with_reducible refine hg _ _ _ ?_ | with_reducible refine gk_closes ?_ | with_reducible refine gk_opens ?_ | with_reducible refine gk_tell ?_ | with_reducible refine gk_addT ?_ | with_reducible refine gk_readPerson ?_ | with_reducible refine gk_readDew ?_ | with_reducible refine gk_readMist ?_ | with_reducible refine gk_readField ?_ | with_reducible refine gk_takeNumber ?_ | with_reducible refine gk_take ?_ | with_reducible refine gk_pass ?_ | with_reducible refine gk_astray | with_reducible refine gk_wrong | with_reducible refine pn_ig (c := 19) (by assumption) ?_ (fun _ => ?_) | with_reducible refine pn_i (fun _ => ?_) (fun _ => ?_) | with_reducible refine pn_ju ?_ (fun _ _ => ?_) | with_reducible refine pn_bi (fun _ => ?_) | with_reducible refine pn_gm (c := 19) ?_ (fun _ _ => ?_) | with_reducible refine pn_g2 (c := 19) ?_ (fun _ _ _ => ?_) | refine GK.set ?_ (by omega) | decide)
set_option maxHeartbeats 4000000 in
theorem gk_readChoice {N : Nat} {gs : Nat → Int → Mem → Option (Int × Mem)} (hg : ∀ i x m, GK 19 m → Pn (gs i x m) (GP 19)) {m : Mem} (h : GK 19 m) : Pn (pR_readChoice_b N gs m ) (GP 19) := by
  unfold pR_readChoice_b
  repeat (first | assumption | with_reducible exact pn_n | with_reducible refine pn_s ?_ | with_reducible exact gp0 | with_reducible refine gp1 ?_ | with_reducible refine hg _ _ _ ?_ | with_reducible refine gk_closes ?_ | with_reducible refine gk_opens ?_ | with_reducible refine gk_tell ?_ | with_reducible refine gk_addT ?_ | with_reducible refine gk_readPerson ?_ | with_reducible refine gk_readDew ?_ | with_reducible refine gk_readMist ?_ | with_reducible refine gk_readField ?_ | with_reducible refine gk_takeNumber ?_ | with_reducible refine gk_take ?_ | with_reducible refine gk_pass ?_ | with_reducible refine gk_astray | with_reducible refine gk_wrong | with_reducible refine pn_ig (c := 19) (by assumption) ?_ (fun _ => ?_) | with_reducible refine pn_i (fun _ => ?_) (fun _ => ?_) | with_reducible refine pn_ju ?_ (fun _ _ => ?_) | with_reducible refine pn_bi (fun _ => ?_) | with_reducible refine pn_gm (c := 19) ?_ (fun _ _ => ?_) | with_reducible refine pn_g2 (c := 19) ?_ (fun _ _ _ => ?_) | refine GK.set ?_ (by omega) | decide)
set_option maxHeartbeats 4000000 in
theorem gk_readTestL {N : Nat} {gs : Nat → Int → Mem → Option (Int × Mem)} (hg : ∀ i x m, GK 19 m → Pn (gs i x m) (GP 19)) {k : Mem → Option (Int × Mem)} (hk : ∀ m, GK 19 m → Pn (k m) (GP 19)) : ∀ (n : Nat) (x : Int) (m : Mem), GK 19 m → Pn (lpF (fun _ _ => none) (pR_readTest_L11b N gs k) n x m) (GP 19) := by
  intro n
  induction n with
  | zero => intro x m h a e; cases e
  | succ n ih =>
    intro x m h
    show Pn (pR_readTest_L11b N gs k (lpF (fun _ _ => none) (pR_readTest_L11b N gs k) n) x m) (GP 19)
    generalize lpF (fun _ _ => none) (pR_readTest_L11b N gs k) n = self at ih ⊢
    unfold pR_readTest_L11b
    repeat (first | assumption | with_reducible exact pn_n | with_reducible refine pn_s ?_ | with_reducible exact gp0 | with_reducible refine gp1 ?_ | with_reducible refine ih _ _ ?_ | with_reducible refine hk _ ?_ | with_reducible refine hg _ _ _ ?_ | with_reducible refine gk_closes ?_ | with_reducible refine gk_opens ?_ | with_reducible refine gk_tell ?_ | with_reducible refine gk_addT ?_ | with_reducible refine gk_readPerson ?_ | with_reducible refine gk_readDew ?_ | with_reducible refine gk_readMist ?_ | with_reducible refine gk_readField ?_ | with_reducible refine gk_takeNumber ?_ | with_reducible refine gk_take ?_ | with_reducible refine gk_pass ?_ | with_reducible refine gk_astray | with_reducible refine gk_wrong | with_reducible refine pn_ig (c := 19) (by assumption) ?_ (fun _ => ?_) | with_reducible refine pn_i (fun _ => ?_) (fun _ => ?_) | with_reducible refine pn_ju ?_ (fun _ _ => ?_) | with_reducible refine pn_bi (fun _ => ?_) | with_reducible refine pn_gm (c := 19) ?_ (fun _ _ => ?_) | with_reducible refine pn_g2 (c := 19) ?_ (fun _ _ _ => ?_) | refine GK.set ?_ (by omega) | decide)
set_option maxHeartbeats 4000000 in
theorem gk_readTest {N : Nat} {gs : Nat → Int → Mem → Option (Int × Mem)} (hg : ∀ i x m, GK 19 m → Pn (gs i x m) (GP 19)) {m : Mem} (h : GK 19 m) : Pn (pR_readTest_b N gs m ) (GP 19) := by
  unfold pR_readTest_b pR_readTest_L11
  repeat (first | assumption | with_reducible exact pn_n | with_reducible refine pn_s ?_ | with_reducible exact gp0 | with_reducible refine gp1 ?_ | with_reducible refine gk_readTestL hg (fun _ _ => ?_) _ _ _ ?_ | with_reducible refine hg _ _ _ ?_ | with_reducible refine gk_closes ?_ | with_reducible refine gk_opens ?_ | with_reducible refine gk_tell ?_ | with_reducible refine gk_addT ?_ | with_reducible refine gk_readPerson ?_ | with_reducible refine gk_readDew ?_ | with_reducible refine gk_readMist ?_ | with_reducible refine gk_readField ?_ | with_reducible refine gk_takeNumber ?_ | with_reducible refine gk_take ?_ | with_reducible refine gk_pass ?_ | with_reducible refine gk_astray | with_reducible refine gk_wrong | with_reducible refine pn_ig (c := 19) (by assumption) ?_ (fun _ => ?_) | with_reducible refine pn_i (fun _ => ?_) (fun _ => ?_) | with_reducible refine pn_ju ?_ (fun _ _ => ?_) | with_reducible refine pn_bi (fun _ => ?_) | with_reducible refine pn_gm (c := 19) ?_ (fun _ _ => ?_) | with_reducible refine pn_g2 (c := 19) ?_ (fun _ _ _ => ?_) | refine GK.set ?_ (by omega) | decide)
set_option maxHeartbeats 4000000 in
theorem gk_readBothL {N : Nat} {gs : Nat → Int → Mem → Option (Int × Mem)} (hg : ∀ i x m, GK 19 m → Pn (gs i x m) (GP 19)) {k : Mem → Option (Int × Mem)} (hk : ∀ m, GK 19 m → Pn (k m) (GP 19)) : ∀ (n : Nat) (x : Int) (m : Mem), GK 19 m → Pn (lpF (fun _ _ => none) (pR_readBoth_L11b N gs k) n x m) (GP 19) := by
  intro n
  induction n with
  | zero => intro x m h a e; cases e
  | succ n ih =>
    intro x m h
    show Pn (pR_readBoth_L11b N gs k (lpF (fun _ _ => none) (pR_readBoth_L11b N gs k) n) x m) (GP 19)
    generalize lpF (fun _ _ => none) (pR_readBoth_L11b N gs k) n = self at ih ⊢
    unfold pR_readBoth_L11b
    repeat (first | assumption | with_reducible exact pn_n | with_reducible refine pn_s ?_ | with_reducible exact gp0 | with_reducible refine gp1 ?_ | with_reducible refine ih _ _ ?_ | with_reducible refine hk _ ?_ | with_reducible refine hg _ _ _ ?_ | with_reducible refine gk_closes ?_ | with_reducible refine gk_opens ?_ | with_reducible refine gk_tell ?_ | with_reducible refine gk_addT ?_ | with_reducible refine gk_readPerson ?_ | with_reducible refine gk_readDew ?_ | with_reducible refine gk_readMist ?_ | with_reducible refine gk_readField ?_ | with_reducible refine gk_takeNumber ?_ | with_reducible refine gk_take ?_ | with_reducible refine gk_pass ?_ | with_reducible refine gk_astray | with_reducible refine gk_wrong | with_reducible refine pn_ig (c := 19) (by assumption) ?_ (fun _ => ?_) | with_reducible refine pn_i (fun _ => ?_) (fun _ => ?_) | with_reducible refine pn_ju ?_ (fun _ _ => ?_) | with_reducible refine pn_bi (fun _ => ?_) | with_reducible refine pn_gm (c := 19) ?_ (fun _ _ => ?_) | with_reducible refine pn_g2 (c := 19) ?_ (fun _ _ _ => ?_) | refine GK.set ?_ (by omega) | decide)
set_option maxHeartbeats 4000000 in
theorem gk_readBoth {N : Nat} {gs : Nat → Int → Mem → Option (Int × Mem)} (hg : ∀ i x m, GK 19 m → Pn (gs i x m) (GP 19)) {m : Mem} (h : GK 19 m) : Pn (pR_readBoth_b N gs m ) (GP 19) := by
  unfold pR_readBoth_b pR_readBoth_L11
  repeat (first | assumption | with_reducible exact pn_n | with_reducible refine pn_s ?_ | with_reducible exact gp0 | with_reducible refine gp1 ?_ | with_reducible refine gk_readBothL hg (fun _ _ => ?_) _ _ _ ?_ | with_reducible refine hg _ _ _ ?_ | with_reducible refine gk_closes ?_ | with_reducible refine gk_opens ?_ | with_reducible refine gk_tell ?_ | with_reducible refine gk_addT ?_ | with_reducible refine gk_readPerson ?_ | with_reducible refine gk_readDew ?_ | with_reducible refine gk_readMist ?_ | with_reducible refine gk_readField ?_ | with_reducible refine gk_takeNumber ?_ | with_reducible refine gk_take ?_ | with_reducible refine gk_pass ?_ | with_reducible refine gk_astray | with_reducible refine gk_wrong | with_reducible refine pn_ig (c := 19) (by assumption) ?_ (fun _ => ?_) | with_reducible refine pn_i (fun _ => ?_) (fun _ => ?_) | with_reducible refine pn_ju ?_ (fun _ _ => ?_) | with_reducible refine pn_bi (fun _ => ?_) | with_reducible refine pn_gm (c := 19) ?_ (fun _ _ => ?_) | with_reducible refine pn_g2 (c := 19) ?_ (fun _ _ _ => ?_) | refine GK.set ?_ (by omega) | decide)
set_option maxHeartbeats 4000000 in
theorem gk_readFact {N : Nat} {gs : Nat → Int → Mem → Option (Int × Mem)} (hg : ∀ i x m, GK 19 m → Pn (gs i x m) (GP 19)) {m : Mem} (h : GK 19 m) : Pn (pR_readFact_b N gs m ) (GP 19) := by
  unfold pR_readFact_b
  repeat (first | assumption | with_reducible exact pn_n | with_reducible refine pn_s ?_ | with_reducible exact gp0 | with_reducible refine gp1 ?_ | with_reducible refine hg _ _ _ ?_ | with_reducible refine gk_closes ?_ | with_reducible refine gk_opens ?_ | with_reducible refine gk_tell ?_ | with_reducible refine gk_addT ?_ | with_reducible refine gk_readPerson ?_ | with_reducible refine gk_readDew ?_ | with_reducible refine gk_readMist ?_ | with_reducible refine gk_readField ?_ | with_reducible refine gk_takeNumber ?_ | with_reducible refine gk_take ?_ | with_reducible refine gk_pass ?_ | with_reducible refine gk_astray | with_reducible refine gk_wrong | with_reducible refine pn_ig (c := 19) (by assumption) ?_ (fun _ => ?_) | with_reducible refine pn_i (fun _ => ?_) (fun _ => ?_) | with_reducible refine pn_ju ?_ (fun _ _ => ?_) | with_reducible refine pn_bi (fun _ => ?_) | with_reducible refine pn_gm (c := 19) ?_ (fun _ _ => ?_) | with_reducible refine pn_g2 (c := 19) ?_ (fun _ _ _ => ?_) | refine GK.set ?_ (by omega) | decide)
set_option maxHeartbeats 4000000 in
theorem gk_readNot {N : Nat} {gs : Nat → Int → Mem → Option (Int × Mem)} (hg : ∀ i x m, GK 19 m → Pn (gs i x m) (GP 19)) {m : Mem} (h : GK 19 m) : Pn (pR_readNot_b N gs m ) (GP 19) := by
  unfold pR_readNot_b
  repeat (first | assumption | with_reducible exact pn_n | with_reducible refine pn_s ?_ | with_reducible exact gp0 | with_reducible refine gp1 ?_ | with_reducible refine hg _ _ _ ?_ | with_reducible refine gk_closes ?_ | with_reducible refine gk_opens ?_ | with_reducible refine gk_tell ?_ | with_reducible refine gk_addT ?_ | with_reducible refine gk_readPerson ?_ | with_reducible refine gk_readDew ?_ | with_reducible refine gk_readMist ?_ | with_reducible refine gk_readField ?_ | with_reducible refine gk_takeNumber ?_ | with_reducible refine gk_take ?_ | with_reducible refine gk_pass ?_ | with_reducible refine gk_astray | with_reducible refine gk_wrong | with_reducible refine pn_ig (c := 19) (by assumption) ?_ (fun _ => ?_) | with_reducible refine pn_i (fun _ => ?_) (fun _ => ?_) | with_reducible refine pn_ju ?_ (fun _ _ => ?_) | with_reducible refine pn_bi (fun _ => ?_) | with_reducible refine pn_gm (c := 19) ?_ (fun _ _ => ?_) | with_reducible refine pn_g2 (c := 19) ?_ (fun _ _ _ => ?_) | refine GK.set ?_ (by omega) | decide)
theorem gk_readComparison {N : Nat} {gs : Nat → Int → Mem → Option (Int × Mem)} (hg : ∀ i x m, GK 19 m → Pn (gs i x m) (GP 19)) {m : Mem} (h : GK 19 m) : Pn (pR_readComparison_b N gs m) (GP 19) := by
  unfold pR_readComparison_b
  refine pn_g2 (c := 19) (hg _ _ _ h) (fun a m1 h1 => pn_ig (c := 19) h1 (pn_s gp0) (fun g1 => pn_i (fun _ => ?_) (fun _ => pn_n)))
  have hj : ∀ y : Int, Pn ((pR_pass m1).bind fun m68 => (gs 0 0 m68).bind fun (r72, m72) => if r72 = 0 then (some (0, m72) : Option (Int × Mem)) else (pU_add m72 (m72 18 10) y 0).bind fun m86 => (some (1, m86) : Option (Int × Mem))) (GP 19) := fun y => by
    refine pn_gm (c := 19) (gk_pass g1) (fun m2 h2 => pn_g2 (c := 19) (hg _ _ _ h2) (fun a m3 h3 => pn_ig (c := 19) h3 (pn_s gp0) (fun g3 => pn_gm (c := 19) (gk_addT g3) (fun m4 h4 => pn_s (gp1 h4)))))
  unfold jn
  exact pn_i (fun _ => hj 11) (fun _ => pn_i (fun _ => hj 13) (fun _ => pn_i (fun _ => hj 12) (fun _ => pn_g2 (c := 19) gk_astray (fun a m3 h3 => pn_s h3))))
theorem gk_pgR {N : Nat} : ∀ (d : Nat) (i : Nat) (x : Int) (m : Mem), GK 19 m → Pn (pgR N d i x m) (GP 19) := by
  intro d
  induction d with
  | zero => intro i x m h a e; cases e
  | succ d ih =>
    intro i x m h
    match i with
    | 0 => exact gk_readSum (N := N) ih h
    | 1 => exact gk_readProduct (N := N) ih h
    | 2 => exact gk_readPart (N := N) ih h
    | 3 => exact gk_readPair (N := N) ih h
    | 4 => exact gk_readChoice (N := N) ih h
    | 5 => exact gk_readTest (N := N) ih h
    | 6 => exact gk_readBoth (N := N) ih h
    | 7 => exact gk_readFact (N := N) ih h
    | 8 => exact gk_readNot (N := N) ih h
    | 9 => exact gk_readComparison (N := N) ih h
    | n + 10 => intro a e; cases e
theorem gk_readLaw {N : Nat} {c x1 a2 : Int} {m : Mem} (hc : c ≤ 19) (ha : 19 ≤ a2) (h : GK c m) : Pn (pR_readLaw N m x1 a2) (GP c) := by
  unfold pR_readLaw pR_readSum
  refine pn_b (fun r => pn_i (fun _ => ?_) (fun _ => pn_g2 (c := c) gk_wrong (fun a m3 h3 => pn_s h3)))
  refine pn_gm (c := c) (pn_s (h.set (by omega))) (fun m1 h1 => pn_gm (c := 19) (pn_s ⟨?_, ?_, ?_⟩) (fun m2 h2 => pn_gm (c := 19) (gk_pass h2) (fun m3 h3 => pn_g2 (c := 19) (gk_pgR 200 0 0 m3 h3) (fun a m4 h4 => pn_s (fun q => (h4 q).mono hc)))))
  · exact (mset_o (by omega)).trans h1.1
  · exact (mset_o (by omega)).trans h1.2.1
  · rw [mset_s rfl rfl]; exact ha
set_option maxHeartbeats 4000000 in
theorem gk_readStatement {N : Nat} {c x1 : Int} {m : Mem} (hc : c ≤ 19) (h : GK c m) : Pn (pR_readStatement N m x1) (GP c) := by
  unfold pR_readStatement
  repeat (first | assumption | with_reducible exact pn_n | with_reducible refine pn_s ?_ | with_reducible exact gp0 | with_reducible refine gp1 ?_ | with_reducible refine gk_readLaw hc (by decide) ?_ | with_reducible refine gk_readPerson ?_ | with_reducible refine gk_readDew ?_ | with_reducible refine gk_readMist ?_ | with_reducible refine gk_readField ?_ | with_reducible refine gk_takeNumber ?_ | with_reducible refine gk_take ?_ | with_reducible refine gk_pass ?_ | with_reducible refine gk_astray | with_reducible refine gk_wrong | with_reducible refine pn_ig (c := c) (by assumption) ?_ (fun _ => ?_) | with_reducible refine pn_i (fun _ => ?_) (fun _ => ?_) | with_reducible refine pn_ju ?_ (fun _ _ => ?_) | with_reducible refine pn_bi (fun _ => ?_) | with_reducible refine pn_gm (c := c) ?_ (fun _ _ => ?_) | with_reducible refine pn_g2 (c := c) ?_ (fun _ _ _ => ?_) | refine GK.set ?_ (by omega) | decide)
set_option maxHeartbeats 4000000 in
theorem gk_read {N : Nat} {c : Int} {k : Mem → Option (Int × Mem)} (hc : c ≤ 19) (hk : ∀ m, GK c m → Pn (k m) (GP c)) : ∀ (n : Nat) (x : Int) (m : Mem), GK c m → Pn (pR_read_L41 N k n x m) (GP c) := by
  intro n
  induction n with
  | zero => intro x m h a e; cases e
  | succ n ih =>
    intro x m h
    have ih' : ∀ (x : Int) (m : Mem), GK c m → Pn (lpF (fun _ _ => none) (pR_read_L41b N k) n x m) (GP c) := ih
    show Pn (pR_read_L41b N k (lpF (fun _ _ => none) (pR_read_L41b N k) n) x m) (GP c)
    generalize lpF (fun _ _ => none) (pR_read_L41b N k) n = self at ih' ⊢
    unfold pR_read_L41b
    repeat (first | assumption | with_reducible exact pn_n | with_reducible refine pn_s ?_ | with_reducible exact gp0 | with_reducible refine gp1 ?_ | with_reducible refine ih' _ _ ?_ | with_reducible refine hk _ ?_ | with_reducible refine gk_readStatement hc ?_ | with_reducible refine gk_readLaw hc (by decide) ?_ | with_reducible refine gk_readPerson ?_ | with_reducible refine gk_readDew ?_ | with_reducible refine gk_readMist ?_ | with_reducible refine gk_readField ?_ | with_reducible refine gk_takeNumber ?_ | with_reducible refine gk_take ?_ | with_reducible refine gk_pass ?_ | with_reducible refine gk_astray | with_reducible refine gk_wrong | with_reducible refine pn_ig (c := c) (by assumption) ?_ (fun _ => ?_) | with_reducible refine pn_i (fun _ => ?_) (fun _ => ?_) | with_reducible refine pn_ju ?_ (fun _ _ => ?_) | with_reducible refine pn_bi (fun _ => ?_) | with_reducible refine pn_gm (c := c) ?_ (fun _ _ => ?_) | with_reducible refine pn_g2 (c := c) ?_ (fun _ _ _ => ?_) | refine GK.set ?_ (by omega) | decide)
