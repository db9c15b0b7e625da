/-! WAY: the reference's whole DAY with a chooser -/
def wT (pl : Mem) (i up : Int) (n : Nat) (g : Nat → Int) : Int → Int → Mem → Int := fun j h W => if j = i ∧ up ≤ h ∧ h < up + n then bsd pl (W 4 j) (g (h - up).toNat) else wetS pl (W 1) (W 4 j)
theorem gaT_eq {pl : Mem} {T : Int → Int → Mem → Int} {h : Int} (hg : PG pl) : ∀ (k : Nat) (x : Int) (W : Mem), WB pl W → 0 ≤ x → x + k ≤ pl 2 3 → (∀ j W, x ≤ j → j < x + k → T j h W = Tn pl j h W) → gaT pl T h k x W = some (gaS pl h k x W)
  | 0, _, _, _, _, _, _ => rfl
  | k + 1, x, W, hb, h0, h1, hT => by
    have e : oneT pl T h x W = some (oneS pl h x W) := by
      unfold oneT oneS
      rw [hT x W (Int.le_refl _) (by omega)]
      by_cases q : W 2 x ≤ h ∧ bitS (W 0 7) x = 1
      · rw [if_pos q, if_pos q, if_neg (show ¬ Tn pl x h W = -1 from wet_ne hg (hb.2.1 x h0 (by omega)).1)]
        rfl
      · rw [if_neg q, if_neg q]
    show (oneT pl T h x W).bind _ = _
    rw [e]
    exact gaT_eq hg k (x + 1) _ (hb.one hg ⟨h0, by omega⟩) (by omega) (by omega) (fun j W q0 q1 => hT j W (by omega) (by omega))
theorem gaT_add (pl : Mem) (T : Int → Int → Mem → Int) (h : Int) : ∀ (a b : Nat) (x : Int) (W : Mem), gaT pl T h (a + b) x W = (gaT pl T h a x W).bind (gaT pl T h b (x + a))
  | 0, b, x, W => by
    rw [Nat.zero_add]
    show _ = gaT pl T h b (x + ((0 : Nat) : Int)) W
    rw [show x + ((0 : Nat) : Int) = x by omega]
  | a + 1, b, x, W => by
    rw [show a + 1 + b = (a + b) + 1 by omega]
    show (oneT pl T h x W).bind (gaT pl T h (a + b) (x + 1)) = ((oneT pl T h x W).bind (gaT pl T h a (x + 1))).bind (gaT pl T h b (x + ((a + 1 : Nat) : Int)))
    cases oneT pl T h x W with
    | none => rfl
    | some W1 =>
      show gaT pl T h (a + b) (x + 1) W1 = (gaT pl T h a (x + 1) W1).bind (gaT pl T h b (x + ((a + 1 : Nat) : Int)))
      rw [gaT_add pl T h a b (x + 1) W1, show x + 1 + (a : Int) = x + ((a + 1 : Nat) : Int) by omega]
theorem thT_eq {pl : Mem} {T : Int → Int → Mem → Int} (hg : PG pl) : ∀ (k : Nat) (h : Int) (W : Mem), WB pl W → (∀ j x W, h ≤ x → x < h + k → T j x W = Tn pl j x W) → thT pl T k h W = some (thS pl k h W)
  | 0, _, _, _, _ => rfl
  | k + 1, h, W, hb, hT => by
    have hn := hg.num
    have e : hrT pl T h W = some (hrS pl h W) := by
      unfold hrT
      rw [gaT_eq hg _ 0 W hb (by omega) (by omega) (fun j W _ _ => hT j h W (Int.le_refl _) (by omega))]
      rfl
    show (hrT pl T h W).bind _ = _
    rw [e]
    exact thT_eq hg k (h + 1) _ (hb.hr hg) (fun j x W q0 q1 => hT j x W (by omega) (by omega))
theorem wT_led {pl : Mem} {i up : Int} {n : Nat} {g : Nat → Int} {d : Nat} (hd : d < n) (W : Mem) : wT pl i up n g i (up + d) W = bsd pl (W 4 i) (g d) := by
  unfold wT
  rw [if_pos (by omega), show (up + (d : Int) - up).toNat = d by omega]
theorem wT_not {pl : Mem} {i up : Int} {n : Nat} {g : Nat → Int} {j h : Int} (hd : ¬ (j = i ∧ up ≤ h ∧ h < up + n)) (W : Mem) : wT pl i up n g j h W = Tn pl j h W := if_neg hd
theorem hrT_led {pl : Mem} {i up : Int} {n : Nat} {g : Nat → Int} {d : Nat} {W : Mem} (hg : PG pl) (hi : 0 ≤ i ∧ i < pl 2 3) (hd : d < n) (hb : WB pl W) (hl : LW i up W) (hgd : 0 ≤ g d ∧ g d ≤ 4) : hrT pl (wT pl i up n g) (up + d) W = if bsd pl (gaS pl (up + d) i.toNat 0 W 4 i) (g d) = -1 then none else some (nxW pl i (up + d) (gaS pl (up + d) i.toNat 0 W) (bsd pl (gaS pl (up + d) i.toNat 0 W 4 i) (g d))) := by
  have hn := hg.num
  have hb1 : WB pl (gaS pl (up + d) i.toNat 0 W) := WB.ga hg _ 0 _ hb (by omega) (by omega)
  have hl1 := hl.ga (pl := pl) (h := up + d) i.toNat 0
  unfold hrT
  rw [show (pl 2 3).toNat = i.toNat + ((pl 2 3 - (i + 1)).toNat + 1) by omega, gaT_add, gaT_eq hg _ 0 W hb (by omega) (by omega) (fun j W q0 q1 => wT_not (by omega) W), Option.bind_some, show (0 : Int) + (i.toNat : Nat) = i by omega]
  generalize gaS pl (up + d) i.toNat 0 W = W1 at *
  have e1 : oneT pl (wT pl i up n g) (up + d) i W1 = if bsd pl (W1 4 i) (g d) = -1 then none else some (goS pl W1 i (bsd pl (W1 4 i) (g d)) (up + d)) := by
    unfold oneT
    have hbit := bit63 i.toNat (by omega)
    rw [show ((i.toNat : Nat) : Int) = i by omega] at hbit
    rw [wT_led hd W1, if_pos ⟨by rw [hl1.1]; omega, by rw [hl1.2]; exact hbit⟩]
  show ((oneT pl (wT pl i up n g) (up + d) i W1).bind (gaT pl (wT pl i up n g) (up + d) (pl 2 3 - (i + 1)).toNat (i + 1))).bind _ = _
  rw [e1]
  by_cases q : bsd pl (W1 4 i) (g d) = -1
  · rw [if_pos q, if_pos q]; rfl
  · rw [if_neg q, if_neg q, Option.bind_some]
    have hr2 : 0 ≤ bsd pl (W1 4 i) (g d) ∧ bsd pl (W1 4 i) (g d) < pl 2 2 := by
      have h4 := (hb1.2.1 i hi.1 hi.2).1
      have := bsd_rng (st := g d) hg h4 hgd
      omega
    rw [gaT_eq hg _ (i + 1) _ (hb1.go hi hr2) (by omega) (by omega) (fun j W q0 q1 => wT_not (by omega) W)]
    rfl
theorem thT_ev {pl : Mem} {i up : Int} {n : Nat} {g : Nat → Int} (hg : PG pl) (hi : 0 ≤ i ∧ i < pl 2 3) : ∀ (r d : Nat) (W : Mem), d + r = n → WB pl W → LW i up W → (∀ k, 0 ≤ g k ∧ g k ≤ 4) → (evD pl i up r d W g = none → thT pl (wT pl i up n g) r (up + d) W = none) ∧ (∀ a, evD pl i up r d W g = some a → ∃ W', thT pl (wT pl i up n g) r (up + d) W = some W' ∧ W' 5 i = a ∧ WB pl W')
  | 0, d, W, _, hb, _, _ => ⟨fun h => (nomatch (show some (W 5 i) = none from h)), fun a h => ⟨W, rfl, Option.some.inj h, hb⟩⟩
  | r + 1, d, W, hd, hb, hl, hgd => by
    have hn := hg.num
    have hb1 : WB pl (gaS pl (up + d) i.toNat 0 W) := WB.ga hg _ 0 _ hb (by omega) (by omega)
    have hl1 := hl.ga (pl := pl) (h := up + d) i.toNat 0
    have e0 : evD pl i up (r + 1) d W g = if bsd pl (gaS pl (up + d) i.toNat 0 W 4 i) (g d) = -1 then none else evD pl i up r (d + 1) (nxW pl i (up + d) (gaS pl (up + d) i.toNat 0 W) (bsd pl (gaS pl (up + d) i.toNat 0 W 4 i) (g d))) g := rfl
    have e1 : thT pl (wT pl i up n g) (r + 1) (up + d) W = (hrT pl (wT pl i up n g) (up + d) W).bind (thT pl (wT pl i up n g) r (up + d + 1)) := rfl
    rw [e0, e1, hrT_led hg hi (by omega) hb hl (hgd d)]
    have hbr := bsd_rng (st := g d) hg (hb1.2.1 i hi.1 hi.2).1 (hgd d)
    by_cases q : bsd pl (gaS pl (up + d) i.toNat 0 W 4 i) (g d) = -1
    · rw [if_pos q, if_pos q]
      exact ⟨fun _ => rfl, fun a h => by cases h⟩
    · rw [if_neg q, if_neg q, Option.bind_some, show up + (d : Int) + 1 = up + ((d + 1 : Nat) : Int) by omega]
      exact thT_ev hg hi r (d + 1) _ (by omega) (WB.nx hg hb1 hi (by omega)) hl1.nx hgd
theorem LW.th {pl : Mem} {i up : Int} : ∀ {W : Mem}, LW i up W → ∀ (k : Nat) (h : Int), LW i up (thS pl k h W)
  | W, hl, 0, h => hl
  | W, hl, k + 1, h => by
    have h1 : LW i up (hrS pl h W) := by
      unfold hrS LW
      rw [dryS_o (by omega), dryS_o (by omega)]
      exact hl.ga _ _
    exact LW.th h1 k (h + 1)
theorem way_day {pl : Mem} {i up : Int} {n : Nat} {g : Nat → Int} {B : Mem} (hg : PG pl) (hi : 0 ≤ i ∧ i < pl 2 3) (hup : 0 ≤ up ∧ up + n ≤ 9) (hb : WB pl B) (hl : LW i up B) (hgd : ∀ k, 0 ≤ g k ∧ g k ≤ 4) : (evD pl i up n 0 (thS pl up.toNat 0 B) g = none → thT pl (wT pl i up n g) 9 0 B = none) ∧ (∀ a, evD pl i up n 0 (thS pl up.toNat 0 B) g = some a → ∃ W' Wx, thT pl (wT pl i up n g) 9 0 B = some W' ∧ thT pl (wT pl i up n g) (up + n).toNat 0 B = some Wx ∧ Wx 5 i = a) := by
  have hb0 : WB pl (thS pl up.toNat 0 B) := WB.th hg _ 0 _ hb
  have hl0 : LW i up (thS pl up.toNat 0 B) := LW.th hl _ _
  have hev := thT_ev (n := n) (g := g) hg hi n 0 (thS pl up.toNat 0 B) (by omega) hb0 hl0 hgd
  rw [show up + ((0 : Nat) : Int) = up by omega] at hev
  have e0 : thT pl (wT pl i up n g) up.toNat 0 B = some (thS pl up.toNat 0 B) := thT_eq hg _ 0 B hb (fun j x W q0 q1 => wT_not (by omega) W)
  have e1 : thT pl (wT pl i up n g) (up + n).toNat 0 B = thT pl (wT pl i up n g) n up (thS pl up.toNat 0 B) := by
    rw [show (up + (n : Int)).toNat = up.toNat + n by omega, thT_add, e0, Option.bind_some, show (0 : Int) + (up.toNat : Nat) = up by omega]
  have e9 : thT pl (wT pl i up n g) 9 0 B = (thT pl (wT pl i up n g) n up (thS pl up.toNat 0 B)).bind (thT pl (wT pl i up n g) (9 - (up + n).toNat) (up + n)) := by
    rw [← e1, show (9 : Nat) = (up + (n : Int)).toNat + (9 - (up + (n : Int)).toNat) by omega, thT_add, show (0 : Int) + ((up + (n : Int)).toNat : Nat) = up + n by omega]
    congr 2
    omega
  refine ⟨fun h => by rw [e9, hev.1 h]; rfl, fun a h => ?_⟩
  obtain ⟨Wx, h1, h2, h3⟩ := hev.2 a h
  have e2 : thT pl (wT pl i up n g) (9 - (up + (n : Int)).toNat) (up + n) Wx = some (thS pl (9 - (up + (n : Int)).toNat) (up + n) Wx) := thT_eq hg _ _ _ h3 (fun j x W q0 q1 => wT_not (by omega) W)
  exact ⟨_, Wx, by rw [e9, h1, Option.bind_some]; exact e2, by rw [e1]; exact h1, h2⟩
