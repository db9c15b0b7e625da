/-! WAY: what a way gives -/
def dgN (n k x : Nat) : Int := ((x / 5 ^ (n - 1 - k) % 5 : Nat) : Int)
def nxW (pl : Mem) (i h : Int) (W1 : Mem) (p : Int) : Mem := dryS pl (gaS pl h (pl 2 3 - (i + 1)).toNat (i + 1) (goS pl W1 i p h)) h
def evD (pl : Mem) (i up : Int) : Nat → Nat → Mem → (Nat → Int) → Option Int
  | 0, _, W, _ => some (W 5 i)
  | r + 1, d, W, g => if bsd pl (gaS pl (up + d) i.toNat 0 W 4 i) (g d) = -1 then none else evD pl i up r (d + 1) (nxW pl i (up + d) (gaS pl (up + d) i.toNat 0 W) (bsd pl (gaS pl (up + d) i.toNat 0 W 4 i) (g d))) g
def jd (z : Int × Nat) (v : Option Int) (x : Nat) : Int × Nat := match v with
  | none => z
  | some a => if z.1 < a then (a, x) else z
def flN (F : Nat → Option Int) : Nat → Nat → Int × Nat → Int × Nat
  | 0, _, z => z
  | k + 1, x, z => flN F k (x + 1) (jd z (F x) x)
theorem flN_add (F : Nat → Option Int) : ∀ (a b x : Nat) (z : Int × Nat), flN F (a + b) x z = flN F b (x + a) (flN F a x z)
  | 0, b, x, z => by rw [Nat.zero_add]; rfl
  | a + 1, b, x, z => by
    rw [show a + 1 + b = (a + b) + 1 by omega]
    show flN F (a + b) (x + 1) (jd z (F x) x) = flN F b (x + (a + 1)) (flN F a (x + 1) (jd z (F x) x))
    rw [flN_add F a b (x + 1), show x + 1 + a = x + (a + 1) by omega]
theorem flN_none (F : Nat → Option Int) : ∀ (a x : Nat) (z : Int × Nat), (∀ y, y < a → F (x + y) = none) → flN F a x z = z
  | 0, _, _, _ => rfl
  | a + 1, x, z, h => by
    show flN F a (x + 1) (jd z (F x) x) = z
    have h0 := h 0 (by omega)
    rw [Nat.add_zero] at h0
    rw [h0]
    exact flN_none F a (x + 1) z (fun y hy => by rw [show x + 1 + y = x + (y + 1) by omega]; exact h (y + 1) (by omega))
theorem jd_in {z : Int × Nat} {v : Option Int} {x : Nat} (h : -1 ≤ z.1) : -1 ≤ (jd z v x).1 := by
  unfold jd
  cases v with
  | none => exact h
  | some a =>
    dsimp only
    split
    · dsimp only; omega
    · exact h
theorem flN_in (F : Nat → Option Int) : ∀ (a x : Nat) (z : Int × Nat), -1 ≤ z.1 → -1 ≤ (flN F a x z).1
  | 0, _, _, h => h
  | a + 1, x, z, h => flN_in F a (x + 1) _ (jd_in h)
theorem jd_up {z : Int × Nat} {v : Option Int} {x : Nat} (h : 0 ≤ z.1) : 0 ≤ (jd z v x).1 := by
  unfold jd
  cases v with
  | none => exact h
  | some a =>
    dsimp only
    split
    · dsimp only; omega
    · exact h
theorem flN_up (F : Nat → Option Int) : ∀ (a x : Nat) (z : Int × Nat), 0 ≤ z.1 → 0 ≤ (flN F a x z).1
  | 0, _, _, h => h
  | a + 1, x, z, h => flN_up F a (x + 1) _ (jd_up h)
theorem gaS_keep (pl : Mem) (h : Int) (b : Int) (hb : b = 2 ∨ b = 0 ∨ b = 3) (j : Int) : ∀ (k : Nat) (x : Int) (W : Mem), gaS pl h k x W b j = W b j
  | 0, _, _ => rfl
  | k + 1, x, W => by
    show gaS pl h k (x + 1) (oneS pl h x W) b j = W b j
    rw [gaS_keep pl h b hb j k (x + 1)]
    unfold oneS
    split
    · unfold goS
      rw [mset_o (by omega), mset_o (by omega), mset_o (by omega)]
    · rfl
theorem gaS_5 (pl : Mem) (h i : Int) : ∀ (k : Nat) (x : Int) (W : Mem), i < x → gaS pl h k x W 5 i = W 5 i
  | 0, _, _, _ => rfl
  | k + 1, x, W, hx => by
    show gaS pl h k (x + 1) (oneS pl h x W) 5 i = W 5 i
    rw [gaS_5 pl h i k (x + 1) _ (by omega)]
    unfold oneS
    split
    · unfold goS
      rw [mset_o (by omega), mset_o (by omega), mset_o (by omega)]
    · rfl
theorem dryS_o {pl W : Mem} {h b j : Int} (hb : b ≠ 1) : dryS pl W h b j = W b j := if_neg (fun c => hb c.1)
theorem nxW_5 (pl : Mem) (i h : Int) (W : Mem) (p : Int) : nxW pl i h W p 5 i = goS pl W i p h 5 i := by
  unfold nxW
  rw [dryS_o (by omega), gaS_5 pl h i _ _ _ (by omega)]
def LW (i up : Int) (W : Mem) : Prop := W 2 i = up ∧ W 0 7 = 63
theorem LW.ga {pl : Mem} {i up h : Int} {W : Mem} (hl : LW i up W) (k : Nat) (x : Int) : LW i up (gaS pl h k x W) := ⟨by rw [gaS_keep pl h 2 (by omega)]; exact hl.1, by rw [gaS_keep pl h 0 (by omega)]; exact hl.2⟩
theorem LW.go {pl : Mem} {i up h p : Int} {W : Mem} (hl : LW i up W) : LW i up (goS pl W i p h) := by
  unfold LW goS
  rw [mset_o (by omega), mset_o (by omega), mset_o (by omega), mset_o (by omega), mset_o (by omega), mset_o (by omega)]
  exact hl
theorem LW.nx {pl : Mem} {i up h p : Int} {W : Mem} (hl : LW i up W) : LW i up (nxW pl i h W p) := by
  have h1 := (hl.go (pl := pl) (h := h) (p := p)).ga (pl := pl) (h := h) (pl 2 3 - (i + 1)).toNat (i + 1)
  unfold nxW LW
  rw [dryS_o (by omega), dryS_o (by omega)]
  exact h1
theorem WB.nx {pl W : Mem} {i h p : Int} (hg : PG pl) (hb : WB pl W) (hi : 0 ≤ i ∧ i < pl 2 3) (hp : 0 ≤ p ∧ p < pl 2 2) : WB pl (nxW pl i h W p) := by
  have hn := hg.num
  unfold nxW
  exact (WB.ga hg _ _ _ (hb.go hi hp) (by omega) (by omega)).dry
theorem bsd_rng {pl : Mem} {p st : Int} (hg : PG pl) (hp : 0 ≤ p ∧ p < pl 2 2) (hs : 0 ≤ st ∧ st ≤ 4) : bsd pl p st = -1 ∨ (0 ≤ bsd pl p st ∧ bsd pl p st < pl 2 2) := (e_bsd hg (PE.rfl' pl) hp hs).2
theorem evD_nn {pl : Mem} {i up : Int} (hg : PG pl) (hi : 0 ≤ i ∧ i < pl 2 3) : ∀ (r d : Nat) (W : Mem) (g : Nat → Int), WB pl W → (∀ k, 0 ≤ g k ∧ g k ≤ 4) → ∀ a, evD pl i up r d W g = some a → 0 ≤ a
  | 0, _, W, _, hb, _, a, h => by
    have h1 : some (W 5 i) = some a := h
    cases h1
    exact (hb.2.1 i hi.1 hi.2).2.1.1
  | r + 1, d, W, g, hb, hgd, a, h => by
    have hn := hg.num
    have hb1 : WB pl (gaS pl (up + d) i.toNat 0 W) := WB.ga hg _ 0 _ hb (by omega) (by omega)
    have h1 : (if bsd pl (gaS pl (up + d) i.toNat 0 W 4 i) (g d) = -1 then none else evD pl i up r (d + 1) (nxW pl i (up + d) (gaS pl (up + d) i.toNat 0 W) (bsd pl (gaS pl (up + d) i.toNat 0 W 4 i) (g d))) g) = some a := h
    have hr := bsd_rng (st := g d) hg (hb1.2.1 i hi.1 hi.2).1 (hgd d)
    by_cases q : bsd pl (gaS pl (up + d) i.toNat 0 W 4 i) (g d) = -1
    · rw [if_pos q] at h1; cases h1
    · rw [if_neg q] at h1
      exact evD_nn hg hi r (d + 1) _ g (WB.nx hg hb1 hi (by omega)) hgd a h1
theorem evD_0 {pl : Mem} {i up : Int} (hg : PG pl) (hi : 0 ≤ i ∧ i < pl 2 3) : ∀ (r d : Nat) (W : Mem) (g : Nat → Int), WB pl W → (∀ k, g k = 0) → ∃ a, evD pl i up r d W g = some a
  | 0, _, W, _, _, _ => ⟨_, rfl⟩
  | r + 1, d, W, g, hb, hz => by
    have hn := hg.num
    have hb1 : WB pl (gaS pl (up + d) i.toNat 0 W) := WB.ga hg _ 0 _ hb (by omega) (by omega)
    have h4 := (hb1.2.1 i hi.1 hi.2).1
    have e0 : bsd pl (gaS pl (up + d) i.toNat 0 W 4 i) (g d) = gaS pl (up + d) i.toNat 0 W 4 i := by rw [hz d]; exact if_pos rfl
    show ∃ a, (if bsd pl (gaS pl (up + d) i.toNat 0 W 4 i) (g d) = -1 then none else evD pl i up r (d + 1) (nxW pl i (up + d) (gaS pl (up + d) i.toNat 0 W) (bsd pl (gaS pl (up + d) i.toNat 0 W 4 i) (g d))) g) = some a
    rw [e0, if_neg (by omega)]
    exact evD_0 hg hi r (d + 1) _ g (WB.nx hg hb1 hi h4) hz
theorem dgN_in (n k x : Nat) : 0 ≤ dgN n k x ∧ dgN n k x ≤ 4 := by
  unfold dgN
  have : x / 5 ^ (n - 1 - k) % 5 < 5 := Nat.mod_lt _ (by decide)
  omega
theorem pow_block {r q s y : Nat} (hs : s < 5) (hy : y < 5 ^ r) : (q * 5 ^ (r + 1) + s * 5 ^ r + y) = (5 * q + s) * 5 ^ r + y ∧ ((5 * q + s) * 5 ^ r + y) / 5 ^ r = 5 * q + s := by
  have hp : 0 < 5 ^ r := Nat.pow_pos (by decide)
  refine ⟨?_, ?_⟩
  · rw [Nat.pow_succ, Nat.add_mul, Nat.mul_comm 5 q, Nat.mul_assoc q 5, Nat.mul_comm 5 (5 ^ r)]
  · refine Nat.div_eq_of_lt_le (Nat.le_add_right _ _) ?_
    rw [Nat.add_mul (5 * q + s) 1, Nat.one_mul]
    omega
/-- all of a way's numbers: which has most -/
def wayF (pl : Mem) (i up : Int) (n : Nat) (W0 : Mem) (x : Nat) : Option Int := evD pl i up n 0 W0 (fun k => dgN n k x)
def wayZ (pl : Mem) (i up : Int) (n : Nat) (W0 : Mem) : Int × Nat := flN (wayF pl i up n W0) (5 ^ n) 0 (-1, 0)
theorem wayZ_in {pl : Mem} {i up : Int} {n : Nat} {W0 : Mem} (hg : PG pl) (hi : 0 ≤ i ∧ i < pl 2 3) (hb : WB pl W0) : 0 ≤ (wayZ pl i up n W0).1 := by
  have hp : 0 < 5 ^ n := Nat.pow_pos (by decide)
  have hz : ∀ k, (fun k => dgN n k 0) k = 0 := fun k => by show dgN n k 0 = 0; unfold dgN; rw [Nat.zero_div]; rfl
  obtain ⟨a, ha⟩ := evD_0 (up := up) hg hi n 0 W0 (fun k => dgN n k 0) hb hz
  have ha2 := evD_nn hg hi n 0 W0 _ hb (fun k => dgN_in n k 0) a ha
  unfold wayZ
  rw [show 5 ^ n = (5 ^ n - 1) + 1 by omega]
  show 0 ≤ (flN _ (5 ^ n - 1) (0 + 1) (jd (-1, 0) (wayF pl i up n W0 0) 0)).1
  refine flN_up _ _ _ _ ?_
  have e : wayF pl i up n W0 0 = some a := ha
  rw [e]
  show 0 ≤ (if (-1 : Int) < a then (a, 0) else (-1, 0) : Int × Nat).1
  rw [if_pos (by omega)]
  exact ha2
