/-! A DAY on its way: the values, and the component's Walk -/
def fallS (pl : Mem) (p d y : Int) : Int := max 0 (sv pl 0 (fx (p % pl 2 0) (p / pl 2 0) d y 0 0 0) 5)
def sunS (pl : Mem) (p d y h : Int) : Int := max 0 (sv pl 1 (fx (p % pl 2 0) (p / pl 2 0) d y h 0 0) 1)
def takeS (pl : Mem) (p d y h v e : Int) : Int := max 0 (sv pl 2 (fx (p % pl 2 0) (p / pl 2 0) d y h v e) 9)
def goA (pl W : Mem) (i p h : Int) : Int := min (min (W 1 p) (W 3 i - W 5 i)) (takeS pl p (W 1 p) (W 0 9) h (W 5 i) (W 3 i))
def goS (pl W : Mem) (i p h : Int) : Mem := mset (mset (mset W 4 i p) 5 i (W 5 i + goA pl W i p h)) 1 p (W 1 p - goA pl W i p h)
def bsd (pl : Mem) (p step : Int) : Int := if step = 0 then p else if step = 1 then (if 0 < p % pl 2 0 then p - 1 else -1) else if step = 2 then (if p % pl 2 0 + 1 < pl 2 0 then p + 1 else -1) else if step = 3 then (if p < pl 2 0 then -1 else p - pl 2 0) else if step = 4 then (if p + pl 2 0 < pl 2 2 then p + pl 2 0 else -1) else -1
def pick (d : Int → Int) (b n : Int) : Int := if n = -1 then b else if d b < d n then n else b
def wetS (pl : Mem) (d : Int → Int) (p : Int) : Int := pick d (pick d (pick d (pick d p (bsd pl p 1)) (bsd pl p 2)) (bsd pl p 3)) (bsd pl p 4)
def bitS (d i : Int) : Int := a32 (shr32 d i) 1
def oneS (pl : Mem) (h i : Int) (W : Mem) : Mem := if W 2 i ≤ h ∧ bitS (W 0 7) i = 1 then goS pl W i (wetS pl (W 1) (W 4 i)) h else W
def gaS (pl : Mem) (h : Int) : Nat → Int → Mem → Mem
  | 0, _, W => W
  | k + 1, i, W => gaS pl h k (i + 1) (oneS pl h i W)
def dryS (pl W : Mem) (h : Int) : Mem := fun k j => if k = 1 ∧ 0 ≤ j ∧ j < pl 2 2 then W 1 j - min (W 1 j) (sunS pl j (W 1 j) (W 0 9) h) else W k j
def hrS (pl : Mem) (h : Int) (W : Mem) : Mem := dryS pl (gaS pl h (pl 2 3).toNat 0 W) h
def thS (pl : Mem) : Nat → Int → Mem → Mem
  | 0, _, W => W
  | k + 1, h, W => thS pl k (h + 1) (hrS pl h W)
def WB (pl W : Mem) : Prop := (∀ p, 0 ≤ p → p < pl 2 2 → 0 ≤ W 1 p ∧ W 1 p ≤ 99) ∧ (∀ i, 0 ≤ i → i < pl 2 3 → (0 ≤ W 4 i ∧ W 4 i < pl 2 2) ∧ (0 ≤ W 5 i ∧ W 5 i ≤ W 3 i) ∧ W 3 i ≤ 99 ∧ (0 ≤ W 2 i ∧ W 2 i ≤ 8)) ∧ (0 ≤ W 0 9 ∧ W 0 9 ≤ 999)
def vW (m : Mem) (a : Int) : Mem := fun k j => if (k = 1 ∧ 0 ≤ j ∧ j < 64) ∨ ((2 ≤ k ∧ k ≤ 5) ∧ 0 ≤ j ∧ j < 6) then m (a + k) j else if k = 0 ∧ (j = 7 ∨ j = 9) then m a j else 0
theorem vW_in {m : Mem} {a k j : Int} (h : (k = 1 ∧ 0 ≤ j ∧ j < 64) ∨ ((2 ≤ k ∧ k ≤ 5) ∧ 0 ≤ j ∧ j < 6)) : vW m a k j = m (a + k) j := if_pos h
theorem vW_9 (m : Mem) (a : Int) : vW m a 0 9 = m a 9 := rfl
theorem vW_7 (m : Mem) (a : Int) : vW m a 0 7 = m a 7 := rfl
theorem vW_set {m : Mem} {a k0 j0 v : Int} (h : (k0 = 1 ∧ 0 ≤ j0 ∧ j0 < 64) ∨ ((2 ≤ k0 ∧ k0 ≤ 5) ∧ 0 ≤ j0 ∧ j0 < 6)) : vW (mset m (a + k0) j0 v) a = mset (vW m a) k0 j0 v := by
  funext k j
  unfold vW mset
  by_cases hk : (k = 1 ∧ 0 ≤ j ∧ j < 64) ∨ ((2 ≤ k ∧ k ≤ 5) ∧ 0 ≤ j ∧ j < 6)
  · have e : (a + k = a + k0 ∧ j = j0) ↔ (k = k0 ∧ j = j0) := by omega
    simp only [if_pos hk, e]
  · have e : ¬ (k = k0 ∧ j = j0) := by omega
    have e2 : ¬ (a = a + k0 ∧ j = j0) := by omega
    simp only [if_neg hk, if_neg e, if_neg e2]
theorem vW_fr {m m' : Mem} {a : Int} (h : ∀ b j, a ≤ b → b ≤ a + 5 → (b = a → j = 7 ∨ j = 9) → m' b j = m b j) : vW m' a = vW m a := by
  funext k j
  unfold vW
  by_cases hk : (k = 1 ∧ 0 ≤ j ∧ j < 64) ∨ ((2 ≤ k ∧ k ≤ 5) ∧ 0 ≤ j ∧ j < 6)
  · rw [if_pos hk, if_pos hk]; exact h _ _ (by omega) (by omega) (by omega)
  · rw [if_neg hk, if_neg hk]
    by_cases hj : k = 0 ∧ (j = 7 ∨ j = 9)
    · rw [if_pos hj, if_pos hj]; exact h _ _ (by omega) (by omega) (fun _ => hj.2)
    · rw [if_neg hj, if_neg hj]
theorem e_told' (m : Mem) (a : Int) : ∃ r, pU_isTold m a = some r ∧ ((r = 1 ∧ 0 < m a 2) ∨ (r = 0 ∧ ¬ 0 < m a 2)) := by
  refine ⟨_, e_told m a, ?_⟩
  by_cases h : 0 < m a 2
  · exact Or.inl ⟨if_pos h, h⟩
  · exact Or.inr ⟨if_neg h, h⟩
theorem mset_id {μ : Mem} {a k v : Int} (h : μ a k = v) : mset μ a k v = μ := by
  funext b j
  unfold mset
  by_cases e : b = a ∧ j = k
  · rw [if_pos e, e.1, e.2, h]
  · rw [if_neg e]
def FW (a : Int) : Int → Int → Prop := fun b _ => (a + 1 ≤ b ∧ b ≤ a + 6) ∨ b = 11 ∨ b = 14 ∨ b = 17
theorem FW_PE {pl m m' : Mem} {a : Int} (h : PE pl m) (ha : 194 ≤ a) (f : Fr (FW a) m m') : PE pl m' := h.fr f (fun b j q => by unfold plc at q; unfold FW; omega)
theorem goA_in {pl W : Mem} {i p h : Int} (hb : WB pl W) (hi : 0 ≤ i ∧ i < pl 2 3) (hp : 0 ≤ p ∧ p < pl 2 2) : 0 ≤ goA pl W i p h ∧ goA pl W i p h ≤ W 1 p ∧ goA pl W i p h ≤ W 3 i - W 5 i := by
  have h1 := hb.1 p hp.1 hp.2
  have h2 := hb.2.1 i hi.1 hi.2
  have h3 : 0 ≤ takeS pl p (W 1 p) (W 0 9) h (W 5 i) (W 3 i) := by unfold takeS; omega
  unfold goA
  omega
theorem WB.go {pl W : Mem} {i p h : Int} (hb : WB pl W) (hi : 0 ≤ i ∧ i < pl 2 3) (hp : 0 ≤ p ∧ p < pl 2 2) : WB pl (goS pl W i p h) := by
  have h0 := goA_in (h := h) hb hi hp
  generalize hA : goA pl W i p h = A at h0
  have h1 := hb.1 p hp.1 hp.2
  have h2 := hb.2.1 i hi.1 hi.2
  refine ⟨fun q hq0 hq => ?_, fun k hk0 hk => ?_, ?_⟩
  · unfold goS
    rw [hA]
    have h3 := hb.1 q hq0 hq
    by_cases e : q = p
    · rw [mset_s rfl e]; omega
    · rw [mset_o (by omega), mset_o (by omega), mset_o (by omega)]; exact h3
  · unfold goS
    rw [hA]
    have h3 := hb.2.1 k hk0 hk
    simp (disch := omega) only [mset_o]
    by_cases e : k = i
    · rw [mset_s rfl e, mset_s rfl e, e]; omega
    · rw [mset_o (by omega), mset_o (by omega)]; exact h3
  · unfold goS
    simp (disch := omega) only [mset_o]
    exact hb.2.2
theorem c_go {N : Nat} {pl m : Mem} {a i p h : Int} (hN : 2000 ≤ N) (hg : PG pl) (he : PE pl m) (ha : 194 ≤ a) (hb : WB pl (vW m a)) (hi : 0 ≤ i ∧ i < pl 2 3) (hp : 0 ≤ p ∧ p < pl 2 2) (hh : 0 ≤ h ∧ h ≤ 8) : Rn (pW_go N m a i p h) (fun m' => vW m' a = goS pl (vW m a) i p h ∧ Fr (FW a) m m') := by
  have hn := hg.num
  have hA := goA_in (h := h) hb hi hp
  have h1 := hb.1 p hp.1 hp.2
  have h2 := hb.2.1 i hi.1 hi.2
  have h9 := hb.2.2
  have hc := hg.pos hp
  have hcr := pl_cell hc.1 hc.2.1 (by rw [← hc.2.2]; exact hp)
  rw [vW_in (by omega)] at h1
  simp (disch := omega) only [vW_in] at h2
  rw [vW_9] at h9
  unfold pW_go
  refine rn_t (by omega) ?_
  refine rn_l (fun m6 hm6 => ?_)
  have f6 : Fr (FW a) m m6 := by rw [hm6]; exact Fr.rfl'.set (by unfold FW; omega)
  have he6 := FW_PE he ha f6
  have hv6 : vW m6 a = mset (vW m a) 4 i p := by rw [hm6]; exact vW_set (by omega)
  have g1 : m6 (a + 1) p = m (a + 1) p := by rw [hm6, mset_o (by omega)]
  have g3 : m6 (a + 3) i = m (a + 3) i := by rw [hm6, mset_o (by omega)]
  have g5 : m6 (a + 5) i = m (a + 5) i := by rw [hm6, mset_o (by omega)]
  have g9 : m6 a 9 = m a 9 := by rw [hm6, mset_o (by omega)]
  rw [g1, g3, g5, w32_eq (x := m (a + 3) i - m (a + 5) i) (by omega) (by omega)]
  refine rn_t (by omega) ?_
  refine rn_t (by omega) ?_
  refine rn_t (by omega) ?_
  refine rn_v ?_
  have hgA : goA pl (vW m a) i p h = min (min (m (a + 1) p) (m (a + 3) i - m (a + 5) i)) (takeS pl p (m (a + 1) p) (m a 9) h (m (a + 5) i) (m (a + 3) i)) := by
    unfold goA
    rw [vW_in (by omega), vW_in (by omega), vW_in (by omega), vW_9]
  refine rn_i (fun hm => ?_) (fun hm => ?_)
  · obtain ⟨r, hr, hr0⟩ := e_told' m6 15
    rw [he6 15 2 (by unfold plc; omega)] at hr0
    refine rn_e hr ?_
    refine rn_b2 (P := fun y n => max 0 y = takeS pl p (m (a + 1) p) (m a 9) h (m (a + 5) i) (m (a + 3) i) ∧ big y ∧ Fr (fun b _ => b = a + 6 ∨ b = 17) m6 n) ?_ (fun y n hy => ?_)
    · rcases hr0 with ⟨rfl, ht⟩ | ⟨rfl, ht⟩
      · refine rn_f (by decide) ?_
        refine rn_e (e_face hg he6 ha hp) ?_
        refine rn_t (by omega) ?_
        refine rn_l (fun m7 hm7 => ?_)
        refine rn_t (by omega) ?_
        refine rn_l (fun m8 hm8 => ?_)
        have f8 : Fr (fun b _ => b = a + 6) m6 m8 := by
          rw [hm8, hm7]
          unfold fc5
          exact Fr.set (Fr.set (Fr.set (Fr.set (Fr.set (Fr.set (Fr.set Fr.rfl' rfl) rfl) rfl) rfl) rfl) rfl) rfl
        have he8 : PE pl m8 := he6.fr f8 (fun b j q => by unfold plc at q; omega)
        have q7 : ∀ v, m7 (a + 6) v = if v = 5 then m (a + 5) i else fc5 m6 a p h pl (a + 6) v := by
          intro v
          rw [hm7, mset_row]
          show (if v = 5 then _ else _) = _
          unfold fc5
          rw [mset_o (by omega), mset_o (by omega), mset_o (by omega), mset_o (by omega), mset_o (by omega), g5]
        have q8 : ∀ v, m8 (a + 6) v = if v = 6 then m (a + 3) i else if v = 5 then m (a + 5) i else if v = 4 then h else if v = 3 then m a 9 else if v = 2 then m (a + 1) p else if v = 1 then p / pl 2 0 else if v = 0 then p % pl 2 0 else m6 (a + 6) v := by
          intro v
          rw [hm8, mset_row]
          show (if v = 6 then _ else _) = _
          rw [q7 v, hm7]
          unfold fc5
          rw [mset_o (by omega), mset_o (by omega), mset_o (by omega), mset_o (by omega), mset_o (by omega), mset_o (by omega), g3, g1, g9]
          simp only [mset_row]
        have q9 : ∀ v, 0 ≤ v → v < 7 → m8 (a + 6) v = fx (p % pl 2 0) (p / pl 2 0) (m (a + 1) p) (m a 9) h (m (a + 5) i) (m (a + 3) i) v := by
          intro v h0 h7
          rw [q8]
          unfold fx
          rcases (show v = 0 ∨ v = 1 ∨ v = 2 ∨ v = 3 ∨ v = 4 ∨ v = 5 ∨ v = 6 by omega) with rfl | rfl | rfl | rfl | rfl | rfl | rfl <;> rfl
        have q10 : ∀ v, 0 ≤ v → v < 7 → big (fx (p % pl 2 0) (p / pl 2 0) (m (a + 1) p) (m a 9) h (m (a + 5) i) (m (a + 3) i) v) := fun v _ _ => fx_big (by omega) (by omega) (by omega) (by omega) (by omega) (by omega) (by omega) v
        refine rn_b2 (P := fun y n => y = sv pl 2 (fx (p % pl 2 0) (p / pl 2 0) (m (a + 1) p) (m a 9) h (m (a + 5) i) (m (a + 3) i)) 9 ∧ big y ∧ Fr (fun b _ => b = 15 + 2) m8 n) (u_val (w := 2) rfl hN hg he8 ha (by omega) (fun v h0 h7 => q9 v h0 (by unfold bnd at h7; simpa using h7)) q10 ht) (fun y n hy => ?_)
        refine rn_s ⟨?_, hy.2.1, fun b j hb => ?_⟩
        · show max 0 y = _
          rw [hy.1]
          rfl
        · show n b j = _
          rw [hy.2.2 b j (by omega)]
          exact f8 b j (fun q => hb (Or.inl q))
      · refine rn_t rfl ?_
        refine rn_s ⟨?_, by unfold big; omega, Fr.rfl'⟩
        unfold takeS
        rw [sv_f (su := 15) rfl ht]
    · obtain ⟨hy1, hyb, hyf⟩ := hy
      dsimp only
      have k5 : n (a + 5) i = m (a + 5) i := (hyf _ _ (by omega)).trans g5
      have k1 : n (a + 1) p = m (a + 1) p := (hyf _ _ (by omega)).trans g1
      unfold big at hyb
      have hx : max 0 (min (min (m (a + 1) p) (m (a + 3) i - m (a + 5) i)) y) = goA pl (vW m a) i p h := by rw [hgA, ← hy1]; omega
      rw [hx]
      generalize hAA : goA pl (vW m a) i p h = A at hA ⊢
      refine rn_v ?_
      refine rn_t (by omega) ?_
      refine rn_t (by omega) ?_
      rw [k5]
      rw [vW_in (by omega), vW_in (by omega), vW_in (by omega)] at hA
      rw [w32_eq (x := m (a + 5) i + A) (by omega) (by omega)]
      refine rn_v ?_
      refine rn_t (by omega) ?_
      refine rn_t (by omega) ?_
      rw [mset_o (by omega), k1, w32_eq (x := m (a + 1) p - A) (by omega) (by omega)]
      refine rn_s ⟨?_, ?_⟩
      · rw [vW_set (by omega), vW_set (by omega)]
        rw [show vW n a = vW m6 a from vW_fr (fun b j h1 h2 _ => hyf b j (by omega)), hv6]
        unfold goS
        rw [hAA, vW_in (by omega), vW_in (by omega)]
      · exact ((f6.trans (hyf.mono (fun b j q => by unfold FW; omega))).set (by unfold FW; omega)).set (by unfold FW; omega)
  · refine rn_s ⟨?_, f6⟩
    rw [hv6]
    have h0 : goA pl (vW m a) i p h = 0 := by
      rw [vW_in (by omega), vW_in (by omega), vW_in (by omega)] at hA
      omega
    have e5 : mset (mset (vW m a) 4 i p) 5 i (vW m a 5 i) = mset (vW m a) 4 i p := mset_id (by rw [mset_o (by omega)])
    have e1 : mset (mset (vW m a) 4 i p) 1 p (vW m a 1 p) = mset (vW m a) 4 i p := mset_id (by rw [mset_o (by omega)])
    unfold goS
    rw [h0, Int.add_zero, Int.sub_zero, e5, e1]
