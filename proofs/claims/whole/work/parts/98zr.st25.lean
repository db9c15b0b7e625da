/-! VALLEY: where no fault stands, its place is -1: the reference -/
def ZB (c : Int) (m : Mem) : Prop := m 475 c = 0 → m 475 (c + 1) = -1
def ZP (c : Int) (r : Int × Mem) : Prop := ZB c r.2
theorem ZB.set {c : Int} {m : Mem} {b j v : Int} (h : ZB c m) (hk : ¬ (b = 475 ∧ (j = c ∨ j = c + 1))) : ZB c (mset m b j v) := by
  unfold ZB at *
  rw [mset_o (by omega), mset_o (by omega)]
  exact h
theorem ZP.mk {c a : Int} {m : Mem} (h : ZB c m) : ZP c (a, m) := h
theorem pn_bm {β : Type} {x : Option Mem} {f : Mem → Option β} {Q : β → Prop} {c : Int} (h : Pn x (ZB c)) (k : ∀ a, ZB c a → Pn (f a) Q) : Pn (x.bind f) Q := pn_bp h k
theorem pn_b2 {β : Type} {x : Option (Int × Mem)} {f : Int × Mem → Option β} {Q : β → Prop} {c : Int} (h : Pn x (ZP c)) (k : ∀ a m, ZB c m → Pn (f (a, m)) Q) : Pn (x.bind f) Q := pn_bp h (fun r hr => k r.1 r.2 hr)
theorem pn_bi {β : Type} {x : Option Int} {f : Int → Option β} {Q : β → Prop} (k : ∀ a, Pn (f a) Q) : Pn (x.bind f) Q := pn_b k
theorem pn_ju {β : Type} {k : Unit → Option β} {f : (Unit → Option β) → Option β} {Q : β → Prop} (h1 : Pn (k ()) Q) (h2 : ∀ j : Unit → Option β, Pn (j ()) Q → Pn (f j) Q) : Pn (jn k f) Q := h2 k h1
theorem zb_blame {m : Mem} {x y : Int} (hx : x ≠ 0) (h : ZB 8 m) : Pn (pM_blame m x y) (ZB 8) := by
  unfold pM_blame
  refine pn_i (fun _ => pn_s h) (fun _ => pn_bp (P := fun a => a 475 8 = x) (pn_s (mset_s rfl rfl)) (fun m1 h1 => pn_bp (P := fun a => a 475 8 = x) (pn_s ((mset_o (by omega)).trans h1)) (fun m2 h2 => pn_s (fun c => absurd (h2.symm.trans c) hx))))
set_option maxHeartbeats 4000000 in
theorem zb_lex {m : Mem} (h : ZB 8 m) : Pn (pM_lex m) (ZB 8) := by
  unfold pM_lex
  repeat (first | assumption | with_reducible exact pn_n | with_reducible refine pn_s ?_ | with_reducible refine ZP.mk ?_ | with_reducible refine zb_blame (by decide) ?_ | with_reducible refine pn_i (fun _ => ?_) (fun _ => ?_) | with_reducible refine pn_ju ?_ (fun _ _ => ?_) | with_reducible refine pn_bi (fun _ => ?_) | with_reducible refine pn_bm (c := 8) ?_ (fun _ _ => ?_) | with_reducible refine pn_b2 (c := 8) ?_ (fun _ _ _ => ?_) | refine ZB.set ?_ (by omega) | decide)
theorem zb_L204 {N : Nat} {c c2 c3 c4 : Int} {k : Int → Mem → Option Mem} {Q : Mem → Prop} (hc : 7 < c ∧ c < 11) (hk : ∀ z m, ZB c m → Pn (k z m) Q) : ∀ (n : Nat) (x1 x5 : Int) (m : Mem), ZB c m → Pn (lpF (fun _ _ _ => none) (pM_ahead_L204b N c2 c3 c4 k) n x1 x5 m) Q := by
  intro n
  induction n with
  | zero => intro x1 x5 m h a e; cases e
  | succ n ih =>
    intro x1 x5 m h
    show Pn (pM_ahead_L204b N c2 c3 c4 k (lpF (fun _ _ _ => none) (pM_ahead_L204b N c2 c3 c4 k) n) x1 x5 m) Q
    generalize lpF (fun _ _ _ => none) (pM_ahead_L204b N c2 c3 c4 k) n = self at ih ⊢
    unfold pM_ahead_L204b
    have go : Pn ((if x5 = c4 then if m 475 12 = (-1) then (some (mset m 475 12 x1)).bind fun m260 => some (m260) else some (m) else some (m)).bind fun n263 => (if x5 < c4 then if c2 = 0 then some (n263) else if 0 ≤ x1 ∧ x1 < 1800 then (some (mset n263 475 7 (o64 (shl64 (n263 475 7) 8) (n263 476 x1)))).bind fun m290 => some (m290) else none else some (n263)).bind fun n293 => if x5 < c4 then if c3 = 0 then (some (w32 (x5 + 1) : Int)).bind fun x5_325 => (some (w32 (x1 + 1) : Int)).bind fun x1_328 => self x1_328 x5_325 n293 else if 0 ≤ x1 ∧ x1 < 1800 then (some (mset n293 475 6 (w32 ((w32 ((w32 (10 * (n293 475 6))) + (n293 476 x1))) - 48)))).bind fun m322 => (some (w32 (x5 + 1) : Int)).bind fun x5_325 => (some (w32 (x1 + 1) : Int)).bind fun x1_328 => self x1_328 x5_325 m322 else none else (some (w32 (x5 + 1) : Int)).bind fun x5_325 => (some (w32 (x1 + 1) : Int)).bind fun x1_328 => self x1_328 x5_325 n293) Q := by
      refine pn_bm (c := c) (pn_i (fun _ => pn_i (fun _ => pn_s (h.set (by omega))) (fun _ => pn_s h)) (fun _ => pn_s h)) (fun m1 h1 => ?_)
      refine pn_bm (c := c) (pn_i (fun _ => pn_i (fun _ => pn_s h1) (fun _ => pn_i (fun _ => pn_s (h1.set (by omega))) (fun _ => pn_n))) (fun _ => pn_s h1)) (fun m2 h2 => ?_)
      refine pn_i (fun _ => pn_i (fun _ => ?_) (fun _ => pn_i (fun _ => ?_) (fun _ => pn_n))) (fun _ => ?_)
      · exact ih _ _ _ h2
      · exact ih _ _ _ (h2.set (by omega))
      · exact ih _ _ _ h2
    refine pn_i (fun _ => pn_ju go (fun j hj => ?_)) (fun _ => hk _ _ h)
    exact pn_i (fun _ => pn_i (fun _ => pn_b (fun r => pn_i (fun _ => hk _ _ h) (fun _ => hj))) (fun _ => pn_n)) (fun _ => pn_i (fun _ => pn_b (fun r => pn_i (fun _ => hk _ _ h) (fun _ => hj))) (fun _ => pn_n))
set_option maxHeartbeats 4000000 in
theorem zb_ahead {N : Nat} {m : Mem} (h : ZB 8 m) : Pn (pM_ahead N m) (ZB 8) := by
  unfold pM_ahead
  refine pn_b (fun x => ?_)
  unfold pM_ahead_L5
  refine pn_L5 (fun z => ?_) N x
  repeat (first | assumption | with_reducible exact pn_n | with_reducible refine pn_s ?_ | with_reducible refine ZP.mk ?_ | exact zb_L204 (c := 8) (by decide) (fun _ _ h' => pn_bm (c := 8) (pn_s (h'.set (by omega))) (fun _ h'' => pn_s h'')) _ _ _ _ (by assumption) | with_reducible refine pn_i (fun _ => ?_) (fun _ => ?_) | with_reducible refine pn_ju ?_ (fun _ _ => ?_) | with_reducible refine pn_bi (fun _ => ?_) | with_reducible refine pn_bm (c := 8) ?_ (fun _ _ => ?_) | with_reducible refine pn_b2 (c := 8) ?_ (fun _ _ _ => ?_) | refine ZB.set ?_ (by omega) | decide)
set_option maxHeartbeats 4000000 in
theorem zb_must_ {N : Nat} {m : Mem} {x1 : Int} (h : ZB 8 m) : Pn (pM_must_ N m x1) (ZB 8) := by
  unfold pM_must_
  repeat (first | assumption | with_reducible exact pn_n | with_reducible refine pn_s ?_ | with_reducible refine ZP.mk ?_ | with_reducible refine zb_ahead ?_ | with_reducible refine zb_lex ?_ | with_reducible refine zb_blame (by decide) ?_ | with_reducible refine pn_i (fun _ => ?_) (fun _ => ?_) | with_reducible refine pn_ju ?_ (fun _ _ => ?_) | with_reducible refine pn_bi (fun _ => ?_) | with_reducible refine pn_bm (c := 8) ?_ (fun _ _ => ?_) | with_reducible refine pn_b2 (c := 8) ?_ (fun _ _ _ => ?_) | refine ZB.set ?_ (by omega) | decide)
set_option maxHeartbeats 4000000 in
theorem zb_number {N : Nat} {m : Mem} {x1 : Int} {x2 : Int} (h : ZB 8 m) : Pn (pM_number N m x1 x2) (ZP 8) := by
  unfold pM_number
  repeat (first | assumption | with_reducible exact pn_n | with_reducible refine pn_s ?_ | with_reducible refine ZP.mk ?_ | with_reducible refine zb_must_ ?_ | with_reducible refine zb_ahead ?_ | with_reducible refine zb_lex ?_ | with_reducible refine zb_blame (by decide) ?_ | with_reducible refine pn_i (fun _ => ?_) (fun _ => ?_) | with_reducible refine pn_ju ?_ (fun _ _ => ?_) | with_reducible refine pn_bi (fun _ => ?_) | with_reducible refine pn_bm (c := 8) ?_ (fun _ _ => ?_) | with_reducible refine pn_b2 (c := 8) ?_ (fun _ _ _ => ?_) | refine ZB.set ?_ (by omega) | decide)
set_option maxHeartbeats 4000000 in
theorem zb_fielding {N : Nat} {m : Mem} (h : ZB 8 m) : Pn (pM_fielding N m) (ZB 8) := by
  unfold pM_fielding
  repeat (first | assumption | with_reducible exact pn_n | with_reducible refine pn_s ?_ | with_reducible refine ZP.mk ?_ | with_reducible refine zb_number ?_ | with_reducible refine zb_must_ ?_ | with_reducible refine zb_ahead ?_ | with_reducible refine zb_lex ?_ | with_reducible refine zb_blame (by decide) ?_ | with_reducible refine pn_i (fun _ => ?_) (fun _ => ?_) | with_reducible refine pn_ju ?_ (fun _ _ => ?_) | with_reducible refine pn_bi (fun _ => ?_) | with_reducible refine pn_bm (c := 8) ?_ (fun _ _ => ?_) | with_reducible refine pn_b2 (c := 8) ?_ (fun _ _ _ => ?_) | refine ZB.set ?_ (by omega) | decide)
set_option maxHeartbeats 4000000 in
theorem zb_must {N : Nat} {m : Mem} {x1 : Int} (h : ZB 8 m) : Pn (pM_must N m x1) (ZB 8) := by
  unfold pM_must
  repeat (first | assumption | with_reducible exact pn_n | with_reducible refine pn_s ?_ | with_reducible refine ZP.mk ?_ | with_reducible refine zb_fielding ?_ | with_reducible refine zb_number ?_ | with_reducible refine zb_must_ ?_ | with_reducible refine zb_ahead ?_ | with_reducible refine zb_lex ?_ | with_reducible refine zb_blame (by decide) ?_ | with_reducible refine pn_i (fun _ => ?_) (fun _ => ?_) | with_reducible refine pn_ju ?_ (fun _ _ => ?_) | with_reducible refine pn_bi (fun _ => ?_) | with_reducible refine pn_bm (c := 8) ?_ (fun _ _ => ?_) | with_reducible refine pn_b2 (c := 8) ?_ (fun _ _ _ => ?_) | refine ZB.set ?_ (by omega) | decide)
set_option maxHeartbeats 4000000 in
theorem zb_finishes {N : Nat} {m : Mem} {x1 : Int} (h : ZB 8 m) : Pn (pM_finishes N m x1) (ZB 8) := by
  unfold pM_finishes
  refine pn_bm (c := 8) (zb_lex h) (fun m1 h1 => pn_i (fun _ => pn_s h1) (fun _ => pn_b (fun x => ?_)))
  unfold pM_finishes_L17
  refine pn_L5 (N := N) (m := m1) (fun z => ?_) N x
  repeat (first | assumption | with_reducible exact pn_n | with_reducible refine pn_s ?_ | with_reducible refine ZP.mk ?_ | with_reducible refine zb_must ?_ | with_reducible refine zb_fielding ?_ | with_reducible refine zb_number ?_ | with_reducible refine zb_must_ ?_ | with_reducible refine zb_ahead ?_ | with_reducible refine zb_lex ?_ | with_reducible refine zb_blame (by decide) ?_ | with_reducible refine pn_i (fun _ => ?_) (fun _ => ?_) | with_reducible refine pn_ju ?_ (fun _ _ => ?_) | with_reducible refine pn_bi (fun _ => ?_) | with_reducible refine pn_bm (c := 8) ?_ (fun _ _ => ?_) | with_reducible refine pn_b2 (c := 8) ?_ (fun _ _ _ => ?_) | refine ZB.set ?_ (by omega) | decide)
set_option maxHeartbeats 4000000 in
theorem zb_counts {N : Nat} {m : Mem} {x1 : Int} (h : ZB 8 m) : Pn (pM_counts N m x1) (ZP 8) := by
  unfold pM_counts
  repeat (first | assumption | with_reducible exact pn_n | with_reducible refine pn_s ?_ | with_reducible refine ZP.mk ?_ | with_reducible refine zb_finishes ?_ | with_reducible refine zb_must ?_ | with_reducible refine zb_fielding ?_ | with_reducible refine zb_number ?_ | with_reducible refine zb_must_ ?_ | with_reducible refine zb_ahead ?_ | with_reducible refine zb_lex ?_ | with_reducible refine zb_blame (by decide) ?_ | with_reducible refine pn_i (fun _ => ?_) (fun _ => ?_) | with_reducible refine pn_ju ?_ (fun _ _ => ?_) | with_reducible refine pn_bi (fun _ => ?_) | with_reducible refine pn_bm (c := 8) ?_ (fun _ _ => ?_) | with_reducible refine pn_b2 (c := 8) ?_ (fun _ _ _ => ?_) | refine ZB.set ?_ (by omega) | decide)
set_option maxHeartbeats 4000000 in
theorem zb_cellTold {N : Nat} {m : Mem} (h : ZB 8 m) : Pn (pM_cellTold N m) (ZP 8) := by
  unfold pM_cellTold
  repeat (first | assumption | with_reducible exact pn_n | with_reducible refine pn_s ?_ | with_reducible refine ZP.mk ?_ | with_reducible refine zb_counts ?_ | with_reducible refine zb_finishes ?_ | with_reducible refine zb_must ?_ | with_reducible refine zb_fielding ?_ | with_reducible refine zb_number ?_ | with_reducible refine zb_must_ ?_ | with_reducible refine zb_ahead ?_ | with_reducible refine zb_lex ?_ | with_reducible refine zb_blame (by decide) ?_ | with_reducible refine pn_i (fun _ => ?_) (fun _ => ?_) | with_reducible refine pn_ju ?_ (fun _ _ => ?_) | with_reducible refine pn_bi (fun _ => ?_) | with_reducible refine pn_bm (c := 8) ?_ (fun _ _ => ?_) | with_reducible refine pn_b2 (c := 8) ?_ (fun _ _ _ => ?_) | refine ZB.set ?_ (by omega) | decide)
set_option maxHeartbeats 4000000 in
theorem zb_misting {N : Nat} {m : Mem} (h : ZB 8 m) : Pn (pM_misting N m) (ZB 8) := by
  unfold pM_misting
  repeat (first | assumption | with_reducible exact pn_n | with_reducible refine pn_s ?_ | with_reducible refine ZP.mk ?_ | with_reducible refine zb_cellTold ?_ | with_reducible refine zb_counts ?_ | with_reducible refine zb_finishes ?_ | with_reducible refine zb_must ?_ | with_reducible refine zb_fielding ?_ | with_reducible refine zb_number ?_ | with_reducible refine zb_must_ ?_ | with_reducible refine zb_ahead ?_ | with_reducible refine zb_lex ?_ | with_reducible refine zb_blame (by decide) ?_ | with_reducible refine pn_i (fun _ => ?_) (fun _ => ?_) | with_reducible refine pn_ju ?_ (fun _ _ => ?_) | with_reducible refine pn_bi (fun _ => ?_) | with_reducible refine pn_bm (c := 8) ?_ (fun _ _ => ?_) | with_reducible refine pn_b2 (c := 8) ?_ (fun _ _ _ => ?_) | refine ZB.set ?_ (by omega) | decide)
set_option maxHeartbeats 4000000 in
theorem zb_dewing {N : Nat} {m : Mem} (h : ZB 8 m) : Pn (pM_dewing N m) (ZB 8) := by
  unfold pM_dewing
  repeat (first | assumption | with_reducible exact pn_n | with_reducible refine pn_s ?_ | with_reducible refine ZP.mk ?_ | with_reducible refine zb_misting ?_ | with_reducible refine zb_cellTold ?_ | with_reducible refine zb_counts ?_ | with_reducible refine zb_finishes ?_ | with_reducible refine zb_must ?_ | with_reducible refine zb_fielding ?_ | with_reducible refine zb_number ?_ | with_reducible refine zb_must_ ?_ | with_reducible refine zb_ahead ?_ | with_reducible refine zb_lex ?_ | with_reducible refine zb_blame (by decide) ?_ | with_reducible refine pn_i (fun _ => ?_) (fun _ => ?_) | with_reducible refine pn_ju ?_ (fun _ _ => ?_) | with_reducible refine pn_bi (fun _ => ?_) | with_reducible refine pn_bm (c := 8) ?_ (fun _ _ => ?_) | with_reducible refine pn_b2 (c := 8) ?_ (fun _ _ _ => ?_) | refine ZB.set ?_ (by omega) | decide)
set_option maxHeartbeats 4000000 in
theorem zb_personing {N : Nat} {m : Mem} (h : ZB 8 m) : Pn (pM_personing N m) (ZB 8) := by
  unfold pM_personing
  repeat (first | assumption | with_reducible exact pn_n | with_reducible refine pn_s ?_ | with_reducible refine ZP.mk ?_ | with_reducible refine zb_dewing ?_ | with_reducible refine zb_misting ?_ | with_reducible refine zb_cellTold ?_ | with_reducible refine zb_counts ?_ | with_reducible refine zb_finishes ?_ | with_reducible refine zb_must ?_ | with_reducible refine zb_fielding ?_ | with_reducible refine zb_number ?_ | with_reducible refine zb_must_ ?_ | with_reducible refine zb_ahead ?_ | with_reducible refine zb_lex ?_ | with_reducible refine zb_blame (by decide) ?_ | with_reducible refine pn_i (fun _ => ?_) (fun _ => ?_) | with_reducible refine pn_ju ?_ (fun _ _ => ?_) | with_reducible refine pn_bi (fun _ => ?_) | with_reducible refine pn_bm (c := 8) ?_ (fun _ _ => ?_) | with_reducible refine pn_b2 (c := 8) ?_ (fun _ _ _ => ?_) | refine ZB.set ?_ (by omega) | decide)
set_option maxHeartbeats 4000000 in
theorem zb_pushes {m : Mem} {x1 : Int} (h : ZB 8 m) : Pn (pM_pushes m x1) (ZB 8) := by
  unfold pM_pushes
  repeat (first | assumption | with_reducible exact pn_n | with_reducible refine pn_s ?_ | with_reducible refine ZP.mk ?_ | with_reducible refine zb_personing ?_ | with_reducible refine zb_dewing ?_ | with_reducible refine zb_misting ?_ | with_reducible refine zb_cellTold ?_ | with_reducible refine zb_counts ?_ | with_reducible refine zb_finishes ?_ | with_reducible refine zb_must ?_ | with_reducible refine zb_fielding ?_ | with_reducible refine zb_number ?_ | with_reducible refine zb_must_ ?_ | with_reducible refine zb_ahead ?_ | with_reducible refine zb_lex ?_ | with_reducible refine zb_blame (by decide) ?_ | with_reducible refine pn_i (fun _ => ?_) (fun _ => ?_) | with_reducible refine pn_ju ?_ (fun _ _ => ?_) | with_reducible refine pn_bi (fun _ => ?_) | with_reducible refine pn_bm (c := 8) ?_ (fun _ _ => ?_) | with_reducible refine pn_b2 (c := 8) ?_ (fun _ _ _ => ?_) | refine ZB.set ?_ (by omega) | decide)
set_option maxHeartbeats 4000000 in
theorem zb_opens {N : Nat} {m : Mem} {x1 : Int} (h : ZB 8 m) : Pn (pM_opens N m x1) (ZB 8) := by
  unfold pM_opens
  repeat (first | assumption | with_reducible exact pn_n | with_reducible refine pn_s ?_ | with_reducible refine ZP.mk ?_ | with_reducible refine zb_pushes ?_ | with_reducible refine zb_personing ?_ | with_reducible refine zb_dewing ?_ | with_reducible refine zb_misting ?_ | with_reducible refine zb_cellTold ?_ | with_reducible refine zb_counts ?_ | with_reducible refine zb_finishes ?_ | with_reducible refine zb_must ?_ | with_reducible refine zb_fielding ?_ | with_reducible refine zb_number ?_ | with_reducible refine zb_must_ ?_ | with_reducible refine zb_ahead ?_ | with_reducible refine zb_lex ?_ | with_reducible refine zb_blame (by decide) ?_ | with_reducible refine pn_i (fun _ => ?_) (fun _ => ?_) | with_reducible refine pn_ju ?_ (fun _ _ => ?_) | with_reducible refine pn_bi (fun _ => ?_) | with_reducible refine pn_bm (c := 8) ?_ (fun _ _ => ?_) | with_reducible refine pn_b2 (c := 8) ?_ (fun _ _ _ => ?_) | refine ZB.set ?_ (by omega) | decide)
set_option maxHeartbeats 4000000 in
theorem zb_add {m : Mem} {x1 : Int} {x2 : Int} (h : ZB 8 m) : Pn (pM_add m x1 x2) (ZB 8) := by
  unfold pM_add
  repeat (first | assumption | with_reducible exact pn_n | with_reducible refine pn_s ?_ | with_reducible refine ZP.mk ?_ | with_reducible refine zb_opens ?_ | with_reducible refine zb_pushes ?_ | with_reducible refine zb_personing ?_ | with_reducible refine zb_dewing ?_ | with_reducible refine zb_misting ?_ | with_reducible refine zb_cellTold ?_ | with_reducible refine zb_counts ?_ | with_reducible refine zb_finishes ?_ | with_reducible refine zb_must ?_ | with_reducible refine zb_fielding ?_ | with_reducible refine zb_number ?_ | with_reducible refine zb_must_ ?_ | with_reducible refine zb_ahead ?_ | with_reducible refine zb_lex ?_ | with_reducible refine zb_blame (by decide) ?_ | with_reducible refine pn_i (fun _ => ?_) (fun _ => ?_) | with_reducible refine pn_ju ?_ (fun _ _ => ?_) | with_reducible refine pn_bi (fun _ => ?_) | with_reducible refine pn_bm (c := 8) ?_ (fun _ _ => ?_) | with_reducible refine pn_b2 (c := 8) ?_ (fun _ _ _ => ?_) | refine ZB.set ?_ (by omega) | decide)
set_option maxHeartbeats 4000000 in
theorem zb_holdsBack {m : Mem} {x1 : Int} (h : ZB 8 m) : Pn (pM_holdsBack m x1) (ZB 8) := by
  unfold pM_holdsBack
  repeat (first | assumption | with_reducible exact pn_n | with_reducible refine pn_s ?_ | with_reducible refine ZP.mk ?_ | with_reducible refine zb_add ?_ | with_reducible refine zb_opens ?_ | with_reducible refine zb_pushes ?_ | with_reducible refine zb_personing ?_ | with_reducible refine zb_dewing ?_ | with_reducible refine zb_misting ?_ | with_reducible refine zb_cellTold ?_ | with_reducible refine zb_counts ?_ | with_reducible refine zb_finishes ?_ | with_reducible refine zb_must ?_ | with_reducible refine zb_fielding ?_ | with_reducible refine zb_number ?_ | with_reducible refine zb_must_ ?_ | with_reducible refine zb_ahead ?_ | with_reducible refine zb_lex ?_ | with_reducible refine zb_blame (by decide) ?_ | with_reducible refine pn_i (fun _ => ?_) (fun _ => ?_) | with_reducible refine pn_ju ?_ (fun _ _ => ?_) | with_reducible refine pn_bi (fun _ => ?_) | with_reducible refine pn_bm (c := 8) ?_ (fun _ _ => ?_) | with_reducible refine pn_b2 (c := 8) ?_ (fun _ _ _ => ?_) | refine ZB.set ?_ (by omega) | decide)
set_option maxHeartbeats 4000000 in
theorem zb_operand {N : Nat} {m : Mem} (h : ZB 8 m) : Pn (pM_operand N m) (ZP 8) := by
  unfold pM_operand
  repeat (first | assumption | with_reducible exact pn_n | with_reducible refine pn_s ?_ | with_reducible refine ZP.mk ?_ | with_reducible refine zb_holdsBack ?_ | with_reducible refine zb_add ?_ | with_reducible refine zb_opens ?_ | with_reducible refine zb_pushes ?_ | with_reducible refine zb_personing ?_ | with_reducible refine zb_dewing ?_ | with_reducible refine zb_misting ?_ | with_reducible refine zb_cellTold ?_ | with_reducible refine zb_counts ?_ | with_reducible refine zb_finishes ?_ | with_reducible refine zb_must ?_ | with_reducible refine zb_fielding ?_ | with_reducible refine zb_number ?_ | with_reducible refine zb_must_ ?_ | with_reducible refine zb_ahead ?_ | with_reducible refine zb_lex ?_ | with_reducible refine zb_blame (by decide) ?_ | with_reducible refine pn_i (fun _ => ?_) (fun _ => ?_) | with_reducible refine pn_ju ?_ (fun _ _ => ?_) | with_reducible refine pn_bi (fun _ => ?_) | with_reducible refine pn_bm (c := 8) ?_ (fun _ _ => ?_) | with_reducible refine pn_b2 (c := 8) ?_ (fun _ _ _ => ?_) | refine ZB.set ?_ (by omega) | decide)
set_option maxHeartbeats 4000000 in
theorem zb_joinsL {N : Nat} {c1 : Int} : ∀ (n : Nat) (m : Mem), ZB 8 m → Pn (lpF (fun _ => none) (pM_joins_L0b N c1 (fun n87 => some n87)) n m) (ZB 8) := by
  intro n
  induction n with
  | zero => intro m h a e; cases e
  | succ n ih =>
    intro m h
    show Pn (pM_joins_L0b N c1 (fun n87 => some n87) (lpF (fun _ => none) (pM_joins_L0b N c1 (fun n87 => some n87)) n) m) _
    generalize lpF (fun _ => none) (pM_joins_L0b N c1 (fun n87 => some n87)) n = self at ih ⊢
    unfold pM_joins_L0b
    repeat (first | assumption | with_reducible exact pn_n | with_reducible refine pn_s ?_ | with_reducible refine ZP.mk ?_ | with_reducible refine ih _ ?_ | with_reducible refine zb_operand ?_ | with_reducible refine zb_holdsBack ?_ | with_reducible refine zb_add ?_ | with_reducible refine zb_opens ?_ | with_reducible refine zb_pushes ?_ | with_reducible refine zb_personing ?_ | with_reducible refine zb_dewing ?_ | with_reducible refine zb_misting ?_ | with_reducible refine zb_cellTold ?_ | with_reducible refine zb_counts ?_ | with_reducible refine zb_finishes ?_ | with_reducible refine zb_must ?_ | with_reducible refine zb_fielding ?_ | with_reducible refine zb_number ?_ | with_reducible refine zb_must_ ?_ | with_reducible refine zb_ahead ?_ | with_reducible refine zb_lex ?_ | with_reducible refine zb_blame (by decide) ?_ | with_reducible refine pn_i (fun _ => ?_) (fun _ => ?_) | with_reducible refine pn_ju ?_ (fun _ _ => ?_) | with_reducible refine pn_bi (fun _ => ?_) | with_reducible refine pn_bm (c := 8) ?_ (fun _ _ => ?_) | with_reducible refine pn_b2 (c := 8) ?_ (fun _ _ _ => ?_) | refine ZB.set ?_ (by omega) | decide)
theorem zb_joins {N : Nat} {m : Mem} {x1 : Int} (h : ZB 8 m) : Pn (pM_joins N m x1) (ZB 8) := by
  unfold pM_joins pM_joins_L0
  exact zb_joinsL N m h
set_option maxHeartbeats 4000000 in
theorem zb_goesOn {N : Nat} {m : Mem} (h : ZB 8 m) : Pn (pM_goesOn N m) (ZP 8) := by
  unfold pM_goesOn
  repeat (first | assumption | with_reducible exact pn_n | with_reducible refine pn_s ?_ | with_reducible refine ZP.mk ?_ | with_reducible refine zb_joins ?_ | with_reducible refine zb_operand ?_ | with_reducible refine zb_holdsBack ?_ | with_reducible refine zb_add ?_ | with_reducible refine zb_opens ?_ | with_reducible refine zb_pushes ?_ | with_reducible refine zb_personing ?_ | with_reducible refine zb_dewing ?_ | with_reducible refine zb_misting ?_ | with_reducible refine zb_cellTold ?_ | with_reducible refine zb_counts ?_ | with_reducible refine zb_finishes ?_ | with_reducible refine zb_must ?_ | with_reducible refine zb_fielding ?_ | with_reducible refine zb_number ?_ | with_reducible refine zb_must_ ?_ | with_reducible refine zb_ahead ?_ | with_reducible refine zb_lex ?_ | with_reducible refine zb_blame (by decide) ?_ | with_reducible refine pn_i (fun _ => ?_) (fun _ => ?_) | with_reducible refine pn_ju ?_ (fun _ _ => ?_) | with_reducible refine pn_bi (fun _ => ?_) | with_reducible refine pn_bm (c := 8) ?_ (fun _ _ => ?_) | with_reducible refine pn_b2 (c := 8) ?_ (fun _ _ _ => ?_) | refine ZB.set ?_ (by omega) | decide)
set_option maxHeartbeats 4000000 in
theorem zb_readsL {N : Nat} : ∀ (n : Nat) (x : Int) (m : Mem), ZB 8 m → Pn (lpF (fun _ _ => none) (pM_reads_L43b N (fun n90 => some n90)) n x m) (ZB 8) := by
  intro n
  induction n with
  | zero => intro x m h a e; cases e
  | succ n ih =>
    intro x m h
    show Pn (pM_reads_L43b N (fun n90 => some n90) (lpF (fun _ _ => none) (pM_reads_L43b N (fun n90 => some n90)) n) x m) _
    generalize lpF (fun _ _ => none) (pM_reads_L43b N (fun n90 => some n90)) n = self at ih ⊢
    unfold pM_reads_L43b
    repeat (first | assumption | with_reducible exact pn_n | with_reducible refine pn_s ?_ | with_reducible refine ZP.mk ?_ | with_reducible refine ih _ _ ?_ | with_reducible refine zb_goesOn ?_ | with_reducible refine zb_joins ?_ | with_reducible refine zb_operand ?_ | with_reducible refine zb_holdsBack ?_ | with_reducible refine zb_add ?_ | with_reducible refine zb_opens ?_ | with_reducible refine zb_pushes ?_ | with_reducible refine zb_personing ?_ | with_reducible refine zb_dewing ?_ | with_reducible refine zb_misting ?_ | with_reducible refine zb_cellTold ?_ | with_reducible refine zb_counts ?_ | with_reducible refine zb_finishes ?_ | with_reducible refine zb_must ?_ | with_reducible refine zb_fielding ?_ | with_reducible refine zb_number ?_ | with_reducible refine zb_must_ ?_ | with_reducible refine zb_ahead ?_ | with_reducible refine zb_lex ?_ | with_reducible refine zb_blame (by decide) ?_ | with_reducible refine pn_i (fun _ => ?_) (fun _ => ?_) | with_reducible refine pn_ju ?_ (fun _ _ => ?_) | with_reducible refine pn_bi (fun _ => ?_) | with_reducible refine pn_bm (c := 8) ?_ (fun _ _ => ?_) | with_reducible refine pn_b2 (c := 8) ?_ (fun _ _ _ => ?_) | refine ZB.set ?_ (by omega) | decide)
set_option maxHeartbeats 4000000 in
theorem zb_reads {N : Nat} {m : Mem} {x1 : Int} (h : ZB 8 m) : Pn (pM_reads N m x1) (ZB 8) := by
  unfold pM_reads pM_reads_L43
  repeat (first | assumption | with_reducible exact pn_n | with_reducible refine pn_s ?_ | with_reducible refine ZP.mk ?_ | with_reducible refine zb_readsL _ _ _ ?_ | with_reducible refine zb_goesOn ?_ | with_reducible refine zb_joins ?_ | with_reducible refine zb_operand ?_ | with_reducible refine zb_holdsBack ?_ | with_reducible refine zb_add ?_ | with_reducible refine zb_opens ?_ | with_reducible refine zb_pushes ?_ | with_reducible refine zb_personing ?_ | with_reducible refine zb_dewing ?_ | with_reducible refine zb_misting ?_ | with_reducible refine zb_cellTold ?_ | with_reducible refine zb_counts ?_ | with_reducible refine zb_finishes ?_ | with_reducible refine zb_must ?_ | with_reducible refine zb_fielding ?_ | with_reducible refine zb_number ?_ | with_reducible refine zb_must_ ?_ | with_reducible refine zb_ahead ?_ | with_reducible refine zb_lex ?_ | with_reducible refine zb_blame (by decide) ?_ | with_reducible refine pn_i (fun _ => ?_) (fun _ => ?_) | with_reducible refine pn_ju ?_ (fun _ _ => ?_) | with_reducible refine pn_bi (fun _ => ?_) | with_reducible refine pn_bm (c := 8) ?_ (fun _ _ => ?_) | with_reducible refine pn_b2 (c := 8) ?_ (fun _ _ _ => ?_) | refine ZB.set ?_ (by omega) | decide)
set_option maxHeartbeats 4000000 in
theorem zb_reading {N : Nat} {m : Mem} {x1 : Int} (h : ZB 8 m) : Pn (pM_reading N m x1) (ZB 8) := by
  unfold pM_reading
  repeat (first | assumption | with_reducible exact pn_n | with_reducible refine pn_s ?_ | with_reducible refine ZP.mk ?_ | with_reducible refine zb_reads ?_ | with_reducible refine zb_goesOn ?_ | with_reducible refine zb_joins ?_ | with_reducible refine zb_operand ?_ | with_reducible refine zb_holdsBack ?_ | with_reducible refine zb_add ?_ | with_reducible refine zb_opens ?_ | with_reducible refine zb_pushes ?_ | with_reducible refine zb_personing ?_ | with_reducible refine zb_dewing ?_ | with_reducible refine zb_misting ?_ | with_reducible refine zb_cellTold ?_ | with_reducible refine zb_counts ?_ | with_reducible refine zb_finishes ?_ | with_reducible refine zb_must ?_ | with_reducible refine zb_fielding ?_ | with_reducible refine zb_number ?_ | with_reducible refine zb_must_ ?_ | with_reducible refine zb_ahead ?_ | with_reducible refine zb_lex ?_ | with_reducible refine zb_blame (by decide) ?_ | with_reducible refine pn_i (fun _ => ?_) (fun _ => ?_) | with_reducible refine pn_ju ?_ (fun _ _ => ?_) | with_reducible refine pn_bi (fun _ => ?_) | with_reducible refine pn_bm (c := 8) ?_ (fun _ _ => ?_) | with_reducible refine pn_b2 (c := 8) ?_ (fun _ _ _ => ?_) | refine ZB.set ?_ (by omega) | decide)
set_option maxHeartbeats 4000000 in
theorem zb_statement {N : Nat} {m : Mem} (h : ZB 8 m) : Pn (pM_statement N m) (ZB 8) := by
  unfold pM_statement
  repeat (first | assumption | with_reducible exact pn_n | with_reducible refine pn_s ?_ | with_reducible refine ZP.mk ?_ | with_reducible refine zb_reading ?_ | with_reducible refine zb_reads ?_ | with_reducible refine zb_goesOn ?_ | with_reducible refine zb_joins ?_ | with_reducible refine zb_operand ?_ | with_reducible refine zb_holdsBack ?_ | with_reducible refine zb_add ?_ | with_reducible refine zb_opens ?_ | with_reducible refine zb_pushes ?_ | with_reducible refine zb_personing ?_ | with_reducible refine zb_dewing ?_ | with_reducible refine zb_misting ?_ | with_reducible refine zb_cellTold ?_ | with_reducible refine zb_counts ?_ | with_reducible refine zb_finishes ?_ | with_reducible refine zb_must ?_ | with_reducible refine zb_fielding ?_ | with_reducible refine zb_number ?_ | with_reducible refine zb_must_ ?_ | with_reducible refine zb_ahead ?_ | with_reducible refine zb_lex ?_ | with_reducible refine zb_blame (by decide) ?_ | with_reducible refine pn_i (fun _ => ?_) (fun _ => ?_) | with_reducible refine pn_ju ?_ (fun _ _ => ?_) | with_reducible refine pn_bi (fun _ => ?_) | with_reducible refine pn_bm (c := 8) ?_ (fun _ _ => ?_) | with_reducible refine pn_b2 (c := 8) ?_ (fun _ _ _ => ?_) | refine ZB.set ?_ (by omega) | decide)
theorem zb_L60 {N : Nat} {c : Int} {k : Mem → Option (Int × Mem)} {Q : Int × Mem → Prop} (hk : ∀ m, ZB c m → Pn (k m) Q) : ∀ (n : Nat) (x : Int) (m : Mem), ZB c m → Pn (lpF (fun _ _ => none) (pM_valley_L60b N k) n x m) Q := by
  intro n
  induction n with
  | zero => intro x m h a e; cases e
  | succ n ih =>
    intro x m h
    show Pn (pM_valley_L60b N k (lpF (fun _ _ => none) (pM_valley_L60b N k) n) x m) Q
    generalize lpF (fun _ _ => none) (pM_valley_L60b N k) n = self at ih ⊢
    unfold pM_valley_L60b
    exact pn_i (fun _ => pn_i (fun _ => pn_bm (c := c) (pn_s (h.set (by omega))) (fun m1 h1 => pn_b (fun y => ih _ _ h1))) (fun _ => pn_n)) (fun _ => hk m h)
theorem zb_L94 {N : Nat} {c : Int} {k : Mem → Option (Int × Mem)} {Q : Int × Mem → Prop} (hk : ∀ m, ZB c m → Pn (k m) Q) : ∀ (n : Nat) (x : Int) (m : Mem), ZB c m → Pn (lpF (fun _ _ => none) (pM_valley_L94b N k) n x m) Q := by
  intro n
  induction n with
  | zero => intro x m h a e; cases e
  | succ n ih =>
    intro x m h
    show Pn (pM_valley_L94b N k (lpF (fun _ _ => none) (pM_valley_L94b N k) n) x m) Q
    generalize lpF (fun _ _ => none) (pM_valley_L94b N k) n = self at ih ⊢
    unfold pM_valley_L94b
    exact pn_i (fun _ => pn_i (fun _ => pn_bm (c := c) (pn_s (h.set (by omega))) (fun m1 h1 => pn_b (fun y => ih _ _ h1))) (fun _ => pn_n)) (fun _ => hk m h)
theorem zb_L139 {N : Nat} {k : Int → Mem → Option (Int × Mem)} {Q : Int × Mem → Prop} (hk : ∀ x m, ZB 8 m → Pn (k x m) Q) : ∀ (n : Nat) (x : Int) (m : Mem), ZB 8 m → Pn (lpF (fun _ _ => none) (pM_valley_L139b N k) n x m) Q := by
  intro n
  induction n with
  | zero => intro x m h a e; cases e
  | succ n ih =>
    intro x m h
    show Pn (pM_valley_L139b N k (lpF (fun _ _ => none) (pM_valley_L139b N k) n) x m) Q
    generalize lpF (fun _ _ => none) (pM_valley_L139b N k) n = self at ih ⊢
    unfold pM_valley_L139b
    exact pn_i (fun _ => pn_i (fun _ => hk x m h) (fun _ => pn_bm (c := 8) (zb_statement h) (fun m1 h1 => pn_b (fun y => pn_bm (c := 8) (zb_finishes h1) (fun m2 h2 => ih _ _ h2))))) (fun _ => hk x m h)
theorem zb_beg1 {N : Nat} {c : Int} {k : Mem → Option Mem} {Q : Mem → Prop} (hk : ∀ m, ZB c m → Pn (k m) Q) : ∀ (n : Nat) (x : Int) (m : Mem), ZB c m → Pn (lpF (fun _ _ => none) (pM_begin_L9b N k) n x m) Q := by
  intro n
  induction n with
  | zero => intro x m h a e; cases e
  | succ n ih =>
    intro x m h
    show Pn (pM_begin_L9b N k (lpF (fun _ _ => none) (pM_begin_L9b N k) n) x m) Q
    generalize lpF (fun _ _ => none) (pM_begin_L9b N k) n = self at ih ⊢
    unfold pM_begin_L9b
    exact pn_i (fun _ => pn_i (fun _ => pn_i (fun _ => pn_bm (c := c) (pn_s (h.set (by omega))) (fun m1 h1 => pn_b (fun y => ih _ _ h1))) (fun _ => pn_n)) (fun _ => pn_n)) (fun _ => hk m h)
theorem zb_beg2 {N : Nat} {k : Mem → Option Mem} {Q : Mem → Prop} (hk : ∀ m, ZB 10 m → Pn (k m) Q) : ∀ (n : Nat) (x : Int) (m : Mem), ZB 10 m → Pn (lpF (fun _ _ => none) (pM_begin_L43b N k) n x m) Q := by
  intro n
  induction n with
  | zero => intro x m h a e; cases e
  | succ n ih =>
    intro x m h
    show Pn (pM_begin_L43b N k (lpF (fun _ _ => none) (pM_begin_L43b N k) n) x m) Q
    generalize lpF (fun _ _ => none) (pM_begin_L43b N k) n = self at ih ⊢
    unfold pM_begin_L43b
    repeat (first | assumption | with_reducible exact pn_n | with_reducible refine pn_s ?_ | with_reducible refine ZP.mk ?_ | with_reducible refine ih _ _ ?_ | with_reducible refine hk _ ?_ | with_reducible refine pn_i (fun _ => ?_) (fun _ => ?_) | with_reducible refine pn_ju ?_ (fun _ _ => ?_) | with_reducible refine pn_bi (fun _ => ?_) | with_reducible refine pn_bm (c := 10) ?_ (fun _ _ => ?_) | with_reducible refine pn_b2 (c := 10) ?_ (fun _ _ _ => ?_) | refine ZB.set ?_ (by omega) | decide)
theorem zb_begin {N : Nat} {m : Mem} (h : ZB 10 m) : Pn (pM_begin N m) (ZB 10) := by
  unfold pM_begin pM_begin_L9 pM_begin_L43
  refine pn_bm (c := 10) (pn_s (h.set (by omega))) (fun m1 h1 => zb_beg1 (c := 10) (fun m2 h2 => zb_beg2 (fun m3 h3 => ?_) N 0 m2 h2) N 0 m1 h1)
  repeat (first | assumption | with_reducible exact pn_n | with_reducible refine pn_s ?_ | with_reducible refine ZP.mk ?_ | with_reducible refine pn_i (fun _ => ?_) (fun _ => ?_) | with_reducible refine pn_ju ?_ (fun _ _ => ?_) | with_reducible refine pn_bi (fun _ => ?_) | with_reducible refine pn_bm (c := 10) ?_ (fun _ _ => ?_) | with_reducible refine pn_b2 (c := 10) ?_ (fun _ _ _ => ?_) | refine ZB.set ?_ (by omega) | decide)
theorem zb_KRv {N : Nat} {x : Int} {m : Mem} (h : ZB 8 m) : Pn (KRv N x m) (ZP 10) := by
  unfold KRv
  refine pn_bp (P := fun a => a 475 10 = m 475 8 ∧ a 475 8 = m 475 8 ∧ a 475 9 = m 475 9) (pn_s ⟨mset_s rfl rfl, mset_o (by omega), mset_o (by omega)⟩) (fun m1 h1 => ?_)
  refine pn_bm (c := 10) (pn_s (fun c => ?_)) (fun m2 h2 => ?_)
  · have e : mset m1 475 11 (m1 475 9) 475 10 = m1 475 10 := mset_o (by omega)
    have e2 : mset m1 475 11 (m1 475 9) 475 (10 + 1) = m1 475 9 := mset_s rfl rfl
    rw [e2, h1.2.2]
    rw [e, h1.1] at c
    exact h c
  · refine pn_i (fun _ => ?_) (fun _ => ?_)
    · refine pn_b2 (c := 10) ?_ (fun a m3 h3 => pn_s h3)
      unfold pM_refuses
      repeat (first | assumption | with_reducible exact pn_n | with_reducible refine pn_s ?_ | with_reducible refine ZP.mk ?_ | with_reducible refine pn_i (fun _ => ?_) (fun _ => ?_) | with_reducible refine pn_ju ?_ (fun _ _ => ?_) | with_reducible refine pn_bi (fun _ => ?_) | with_reducible refine pn_bm (c := 10) ?_ (fun _ _ => ?_) | with_reducible refine pn_b2 (c := 10) ?_ (fun _ _ _ => ?_) | refine ZB.set ?_ (by omega) | decide)
    · exact pn_bm (c := 10) (pn_s (h2.set (by omega))) (fun m3 h3 => pn_bm (c := 10) (pn_s (h3.set (by omega))) (fun m4 h4 => pn_bm (c := 10) (zb_begin h4) (fun m5 h5 => pn_s h5)))
theorem zb_RV {N : Nat} {m : Mem} (h : ZB 8 m) : Pn (RV N (KRv N) m) (ZP 10) := by
  unfold RV pM_valley_L139
  exact pn_bm (c := 8) (zb_fielding h) (fun m1 h1 => pn_bm (c := 8) (zb_finishes h1) (fun m2 h2 => zb_L139 (fun x m3 h3 => zb_KRv h3) N 1 m2 h2))
/-- where the reference tells no fault, its place is -1 -/
theorem z_valley {N : Nat} {m : Mem} : Pn (pM_valley N m) (fun r => r.2 475 10 = 0 → r.2 475 11 = -1) := by
  rw [e_valley]
  unfold RBg pM_valley_L60 pM_valley_L94
  refine pn_b (fun m1 => pn_b (fun m2 => pn_b (fun m3 => pn_b (fun m4 => pn_bm (c := 8) (pn_s (fun _ => mset_s rfl rfl)) (fun m5 h5 => pn_bm (c := 8) (pn_s (h5.set (by omega))) (fun m6 h6 => ?_))))))
  refine pn_i (fun _ => pn_bm (c := 8) (pn_s (h6.set (by omega))) (fun m7 h7 => pn_i (fun _ => pn_bm (c := 8) (pn_s (h7.set (by omega))) (fun m8 h8 => ?_)) (fun _ => pn_n))) (fun _ => pn_n)
  refine zb_L60 (c := 8) (fun m9 h9 => pn_b (fun x => zb_L94 (c := 8) (fun m10 h10 => ?_) N x m9 h9)) N 0 m8 h8
  exact pn_bm (c := 8) (pn_s (h10.set (by omega))) (fun m11 h11 => pn_bm (c := 8) (zb_ahead h11) (fun m12 h12 => zb_RV h12))
