/-! THE REFERENCE's day: a person's hour, the sun -/
def cellC (pl : Mem) (c : Int) : Prop := (0 ≤ c % 8 ∧ c % 8 < pl 2 0) ∧ (0 ≤ c / 8 ∧ c / 8 < pl 2 1)
def RW (pl m : Mem) (v who : Int) (W : Mem) : Prop := (∀ p, 0 ≤ p → p < pl 2 2 → m 508 (ph pl p) = W 1 p) ∧ (∀ i, 0 ≤ i → i < pl 2 3 → m 509 i = ph pl (W 4 i) ∧ m 510 i = W 5 i ∧ m 501 (6 * v + i) = W 2 i ∧ m 502 (6 * v + i) = W 3 i ∧ bitS who i = bitS (W 0 7) i) ∧ m 498 v = W 0 9 ∧ (∀ c, 0 ≤ c → c < 64 → ¬ cellC pl c → m 508 c = 0)
theorem RW.eq {pl m m' W : Mem} {v who : Int} (h : RW pl m v who W) (f : ∀ b j, (b = 498 ∨ b = 501 ∨ b = 502 ∨ (508 ≤ b ∧ b ≤ 510)) → m' b j = m b j) : RW pl m' v who W := by
  refine ⟨fun p h0 h1 => ?_, fun i h0 h1 => ?_, ?_, fun c h0 h1 h2 => ?_⟩
  · rw [f 508 _ (by omega)]; exact h.1 p h0 h1
  · rw [f 509 _ (by omega), f 510 _ (by omega), f 501 _ (by omega), f 502 _ (by omega)]; exact h.2.1 i h0 h1
  · rw [f 498 _ (by omega)]; exact h.2.2.1
  · rw [f 508 _ (by omega)]; exact h.2.2.2 c h0 h1 h2
/-- where a person goes -/
noncomputable def r_to (N : Nat) (m : Mem) (i h : Int) : Option Int := if i = m 475 62 then (pM_is m h (m 475 63) (w32 ((w32 ((m 475 63) + (m 475 64))) - 1))).bind fun r24 => if r24 = 0 then if 0 ≤ i ∧ i < 6 then (pM_wettest N m (m 509 i)).bind fun r61 => some (r61) else none else if 0 ≤ i ∧ i < 6 then if 0 ≤ w32 (h - (m 475 63)) ∧ w32 (h - (m 475 63)) < 5 then (pM_stepTo m (m 509 i) (m 514 (w32 (h - (m 475 63))))).bind fun r48 => some (r48) else none else none else if 0 ≤ i ∧ i < 6 then (pM_wettest N m (m 509 i)).bind fun r61 => some (r61) else none
def FRw : Int → Int → Prop := fun b _ => 506 ≤ b ∧ b ≤ 510
theorem goA_min (pl W : Mem) (i p h : Int) : goA pl W i p h = min (takeS pl p (W 1 p) (W 0 9) h (W 5 i) (W 3 i)) (min (W 1 p) (W 3 i - W 5 i)) := by unfold goA; omega
theorem r_works {N : Nat} {pl m W : Mem} {v who i h x : Int} (hN : 2000 ≤ N) (hg : PG pl) (hr : PR pl) (hq : PQ pl m) (hv : 0 ≤ v ∧ v < 22) (hW : RW pl m v who W) (hb : WB pl W) (hi : 0 ≤ i ∧ i < pl 2 3) (hh : 0 ≤ h ∧ h ≤ 8) (hto : r_to N m i h = some (phx pl x)) (hx : x = -1 ∨ (0 ≤ x ∧ x < pl 2 2)) : Rn (pM_works N m v i h) (fun r => (x = -1 → r.1 = 0) ∧ (x ≠ -1 → r.1 = 1 ∧ RW pl r.2 v who (goS pl W i x h)) ∧ Fr FRw m r.2) := by
  have hn := hg.num
  unfold pM_works
  refine rn_e hto ?_
  by_cases hx1 : x = -1
  · refine rn_t (by unfold phx; rw [if_pos hx1]) ?_
    exact rn_s ⟨fun _ => rfl, fun c => absurd hx1 c, Fr.rfl'⟩
  · have hp : 0 ≤ x ∧ x < pl 2 2 := by omega
    have hph := ph_eq hg hp
    have e1 : phx pl x = ph pl x := by unfold phx; rw [if_neg hx1]
    rw [e1]
    have hA := goA_in (h := h) hb hi hp
    have h1 := hb.1 x hp.1 hp.2
    have h2 := hb.2.1 i hi.1 hi.2
    have h9 := hb.2.2
    have w2 := hW.2.1 i hi.1 hi.2
    have w1 := hW.1 x hp.1 hp.2
    have e6 : w32 (w32 (6 * v) + i) = 6 * v + i := by rw [w32_eq (x := 6 * v) (by omega) (by omega), w32_eq (by omega) (by omega)]
    refine rn_f (by omega) ?_
    refine rn_t (by omega) ?_
    refine rn_v ?_
    refine rn_v ?_
    refine rn_t (by omega) ?_
    refine rn_v ?_
    rw [e6]
    refine rn_t (by omega) ?_
    refine rn_l (fun m1 hm1 => ?_)
    have f1 : Fr (fun b j => (b = 509 ∧ j = i) ∨ (b = 507 ∧ 5 ≤ j)) m m1 := by
      rw [hm1]
      exact (((Fr.rfl'.set (by omega)).set (by omega)).set (by omega)).set (by omega)
    have a9 : m1 509 i = ph pl x := by rw [hm1]; simp (disch := omega) only [mset_o, mset_s]
    have a5 : m1 507 5 = h := by rw [hm1]; simp (disch := omega) only [mset_o, mset_s]
    have a6 : m1 507 6 = W 5 i := by rw [hm1]; simp (disch := omega) only [mset_o, mset_s]; exact w2.2.1
    have a7 : m1 507 7 = W 3 i := by rw [hm1]; simp (disch := omega) only [mset_o, mset_s]; exact w2.2.2.2.1
    clear hm1
    have k8 : m1 508 (ph pl x) = W 1 x := (f1 _ _ (by omega)).trans w1
    have k98 : m1 498 v = W 0 9 := (f1 _ _ (by omega)).trans hW.2.2.1
    refine rn_t (by omega) ?_
    refine rn_t (by omega) ?_
    rw [k8, k98]
    have hq1 : PQ pl m1 := hq.fr f1 (fun b j q => by unfold prc at q; omega)
    refine rn_b2 (P := fun r m2 => r = takeS pl x (W 1 x) (W 0 9) h (W 5 i) (W 3 i) ∧ Fr (fun b j => b = 506 ∨ (b = 507 ∧ 1 ≤ j ∧ j ≤ 4)) m1 m2) (r_val (w := 2) (h := h) (v := W 5 i) (e := W 3 i) hN hg hr hq1 (by omega) hp (by omega) (by omega) (by omega) (by omega) (by omega) (fun _ => a5) (fun _ => ⟨a6, a7⟩) (by omega)) (fun r m2 hm2 => ?_)
    obtain ⟨hr1, f2⟩ := hm2
    dsimp only
    have j8 : m2 508 (ph pl x) = W 1 x := (f2 _ _ (by omega)).trans k8
    have j2 : m2 502 (6 * v + i) = W 3 i := ((f2 _ _ (by omega)).trans (f1 _ _ (by omega))).trans w2.2.2.2.1
    have j10 : m2 510 i = W 5 i := ((f2 _ _ (by omega)).trans (f1 _ _ (by omega))).trans w2.2.1
    refine rn_t (by omega) ?_
    refine rn_t (by omega) ?_
    refine rn_t (by omega) ?_
    rw [j8, j2, j10, w32_eq (x := W 3 i - W 5 i) (by omega) (by omega)]
    refine rn_e (e_least _ _ _) ?_
    refine rn_e (e_least _ _ _) ?_
    rw [hr1, ← goA_min]
    generalize hAA : goA pl W i x h = A at hA
    refine rn_t (by omega) ?_
    refine rn_t (by omega) ?_
    rw [w32_eq (x := W 1 x - A) (by omega) (by omega)]
    refine rn_v ?_
    refine rn_t (by omega) ?_
    refine rn_t (by omega) ?_
    rw [mset_o (by omega), j10, w32_eq (x := W 5 i + A) (by omega) (by omega)]
    refine rn_s ⟨fun c => absurd c hx1, fun _ => ⟨rfl, ?_⟩, ?_⟩
    · refine ⟨fun p h0 hp1 => ?_, fun k h0 hk1 => ?_, ?_, fun c h0 hc1 hc2 => ?_⟩
      · show mset (mset m2 508 (ph pl x) (W 1 x - A)) 510 i (W 5 i + A) 508 (ph pl p) = goS pl W i x h 1 p
        unfold goS
        rw [hAA, mset_o (by omega)]
        by_cases e : p = x
        · rw [e, mset_s rfl rfl, mset_s rfl rfl]
        · rw [mset_o (fun c => e (ph_inj hg ⟨h0, hp1⟩ hp c.2)), mset_o (by omega), mset_o (by omega), mset_o (by omega), f2 _ _ (by omega), f1 _ _ (by omega)]
          exact hW.1 p h0 hp1
      · have w3 := hW.2.1 k h0 hk1
        show mset (mset m2 508 (ph pl x) (W 1 x - A)) 510 i (W 5 i + A) 509 k = _ ∧ mset (mset m2 508 (ph pl x) (W 1 x - A)) 510 i (W 5 i + A) 510 k = _ ∧ mset (mset m2 508 (ph pl x) (W 1 x - A)) 510 i (W 5 i + A) 501 (6 * v + k) = _ ∧ mset (mset m2 508 (ph pl x) (W 1 x - A)) 510 i (W 5 i + A) 502 (6 * v + k) = _ ∧ _
        unfold goS
        rw [hAA]
        simp (disch := omega) only [mset_o]
        refine ⟨?_, ?_, ?_, ?_, w3.2.2.2.2⟩
        · rw [f2 _ _ (by omega)]
          by_cases e : k = i
          · rw [e, a9, mset_s rfl rfl]
          · rw [f1 _ _ (by omega), mset_o (by omega)]; exact w3.1
        · by_cases e : k = i
          · rw [mset_s rfl e, mset_s rfl e]
          · rw [mset_o (by omega), mset_o (by omega), mset_o (by omega), f2 _ _ (by omega), f1 _ _ (by omega)]; exact w3.2.1
        · rw [f2 _ _ (by omega), f1 _ _ (by omega)]; exact w3.2.2.1
        · rw [f2 _ _ (by omega), f1 _ _ (by omega)]; exact w3.2.2.2.1
      · show mset (mset m2 508 (ph pl x) (W 1 x - A)) 510 i (W 5 i + A) 498 v = goS pl W i x h 0 9
        unfold goS
        simp (disch := omega) only [mset_o]
        rw [f2 _ _ (by omega)]
        exact k98
      · show mset (mset m2 508 (ph pl x) (W 1 x - A)) 510 i (W 5 i + A) 508 c = 0
        have hne : c ≠ ph pl x := fun e => hc2 (by unfold cellC; rw [e, hph.2.2.2.1, hph.2.2.2.2]; exact ⟨hph.1, hph.2.1⟩)
        rw [mset_o (by omega), mset_o (by omega), f2 _ _ (by omega), f1 _ _ (by omega)]
        exact hW.2.2.2 c h0 hc1 hc2
    · exact (((f1.mono (fun b j q => by unfold FRw; omega)).trans (f2.mono (fun b j q => by unfold FRw; omega))).set (by unfold FRw; omega)).set (by unfold FRw; omega)
def dryR (pl W : Mem) (h : Int) (p : Int) : Int := W 1 p - min (W 1 p) (sunS pl p (W 1 p) (W 0 9) h)
def FRs : Int → Int → Prop := fun b j => b = 506 ∨ (b = 507 ∧ 1 ≤ j ∧ j ≤ 5) ∨ b = 508
theorem r_shines_L {N : Nat} {Q : Mem → Prop} {kk : Mem → Option Mem} {bo : Int → Mem → Option Mem} {pl m0 W : Mem} {v h : Int} (hN : 2000 ≤ N) (hg : PG pl) (hr : PR pl) (hv : 0 ≤ v ∧ v < 22) (hh : 0 ≤ h ∧ h ≤ 8) (hb : WB pl W) (hk : ∀ m', (∀ p, 0 ≤ p → p < pl 2 2 → m' 508 (ph pl p) = dryR pl W h p) → (∀ c, 0 ≤ c → c < 64 → ¬ cellC pl c → m' 508 c = 0) → Fr FRs m0 m' → Rn (kk m') Q) :
    ∀ (k n : Nat) (x : Int) (m : Mem), k < n → PQ pl m → 0 ≤ x → x + k = 64 → m 507 5 = h → m 498 v = W 0 9 → (∀ p, 0 ≤ p → p < pl 2 2 → m 508 (ph pl p) = if ph pl p < x then dryR pl W h p else W 1 p) → (∀ c, 0 ≤ c → c < 64 → ¬ cellC pl c → m 508 c = 0) → Fr FRs m0 m → Rn (lpF bo (pM_shines_L9b N v kk) n x m) Q := by
  intro k
  have hn := hg.num
  induction k with
  | zero =>
    intro n x m hkn hq h0 hx h5 h98 hd hz hf
    obtain ⟨n, rfl⟩ : ∃ n', n = n' + 1 := ⟨n - 1, by omega⟩
    show Rn (pM_shines_L9b N v kk (lpF bo (pM_shines_L9b N v kk) n) x m) Q
    generalize lpF bo (pM_shines_L9b N v kk) n = self
    unfold pM_shines_L9b
    refine rn_f (by omega) ?_
    refine hk m (fun p h0 h1 => ?_) hz hf
    have hph := ph_eq hg (p := p) ⟨h0, h1⟩
    rw [hd p h0 h1, if_pos (by omega)]
  | succ k ih =>
    intro n x m hkn hq h0 hx h5 h98 hd hz hf
    obtain ⟨n, rfl⟩ : ∃ n', n = n' + 1 := ⟨n - 1, by omega⟩
    have ih' := ih n (x + 1)
    show Rn (pM_shines_L9b N v kk (lpF bo (pM_shines_L9b N v kk) n) x m) Q
    generalize lpF bo (pM_shines_L9b N v kk) n = self at ih' ⊢
    unfold pM_shines_L9b
    refine rn_t (by omega) ?_
    rw [r32_eq (by omega) (by omega) (by omega) (by omega), d32_eq (by omega) (by omega) (by omega) (by omega)]
    refine rn_e (e_isCell hg hr hq _ _) ?_
    by_cases hc : cellC pl x
    · obtain ⟨p, hp, hpx, -⟩ := ph_sur hg hc
      have hc' := hc
      unfold cellC at hc'
      rw [if_pos hc']
      have hw := hb.1 p hp.1 hp.2
      have h9 := hb.2.2
      have hx8 : m 508 x = W 1 p := by
        have := hd p hp.1 hp.2
        rw [hpx, if_neg (by omega)] at this
        exact this
      have hs := sunS_nn pl p (W 1 p) (W 0 9) h
      refine rn_f (by omega) ?_
      refine rn_t (by omega) ?_
      refine rn_t (by omega) ?_
      refine rn_t (by omega) ?_
      refine rn_t (by omega) ?_
      rw [hx8, h98]
      refine rn_b2 (P := fun r m2 => r = sunS pl p (W 1 p) (W 0 9) h ∧ Fr (fun b j => b = 506 ∨ (b = 507 ∧ 1 ≤ j ∧ j ≤ 4)) m m2) ?_ (fun r m2 hm2 => ?_)
      · rw [← hpx]
        exact r_val (w := 1) (h := h) (v := 0) (e := 0) hN hg hr hq (by omega) hp (by omega) (by omega) (by omega) (by omega) (by omega) (fun _ => h5) (fun q => by omega) (by omega)
      · obtain ⟨hr1, f2⟩ := hm2
        dsimp only
        refine rn_e (e_least _ _ _) ?_
        refine rn_t (by omega) ?_
        rw [hr1, w32_eq (x := W 1 p - min (W 1 p) (sunS pl p (W 1 p) (W 0 9) h)) (by omega) (by omega)]
        refine rn_v ?_
        refine rn_v ?_
        rw [w32_eq (by omega) (by omega)]
        have ff : Fr FRs m (mset m2 508 x (W 1 p - min (W 1 p) (sunS pl p (W 1 p) (W 0 9) h))) := (f2.mono (fun b j q => by unfold FRs; omega)).set (by unfold FRs; omega)
        refine ih' _ (by omega) (hq.fr ff (fun b j q => by unfold prc at q; unfold FRs; omega)) (by omega) (by omega) ?_ ?_ (fun q h0 h1 => ?_) (fun c h0 h1 h2 => ?_) (hf.trans ff)
        · rw [mset_o (by omega), f2 _ _ (by omega)]; exact h5
        · rw [mset_o (by omega), f2 _ _ (by omega)]; exact h98
        · by_cases e : q = p
          · rw [e, mset_s rfl hpx, if_pos (by omega)]
            rfl
          · have hne : ph pl q ≠ x := fun c => e (ph_inj hg ⟨h0, h1⟩ hp (by rw [hpx]; exact c))
            rw [mset_o (by omega), f2 _ _ (by omega), hd q h0 h1]
            by_cases e2 : ph pl q < x
            · rw [if_pos e2, if_pos (by omega)]
            · rw [if_neg e2, if_neg (by omega)]
        · rw [mset_o (fun e => h2 (by rw [e.2]; exact hc)), f2 _ _ (by omega)]
          exact hz c h0 h1 h2
    · have hc' := hc
      unfold cellC at hc'
      rw [if_neg hc']
      refine rn_t rfl ?_
      refine rn_v ?_
      rw [w32_eq (by omega) (by omega)]
      refine ih' _ (by omega) hq (by omega) (by omega) h5 h98 (fun q h0 h1 => ?_) hz hf
      have hph := ph_eq hg (p := q) ⟨h0, h1⟩
      have hne : ph pl q ≠ x := fun c => hc (by unfold cellC; rw [← c, hph.2.2.2.1, hph.2.2.2.2]; exact ⟨hph.1, hph.2.1⟩)
      rw [hd q h0 h1]
      by_cases e2 : ph pl q < x
      · rw [if_pos e2, if_pos (by omega)]
      · rw [if_neg e2, if_neg (by omega)]
theorem r_shines {N : Nat} {pl m W : Mem} {v who h : Int} (hN : 2000 ≤ N) (hg : PG pl) (hr : PR pl) (hq : PQ pl m) (hv : 0 ≤ v ∧ v < 22) (hW : RW pl m v who W) (hb : WB pl W) (hh : 0 ≤ h ∧ h ≤ 8) : Rn (pM_shines N m v h) (fun m' => RW pl m' v who (dryS pl W h) ∧ Fr FRw m m') := by
  have hn := hg.num
  unfold pM_shines pM_shines_L9
  refine rn_v ?_
  have f0 : Fr FRs m (mset m 507 5 h) := Fr.rfl'.set (by unfold FRs; omega)
  refine r_shines_L (m0 := m) (W := W) hN hg hr hv hh hb (fun m' h1 h2 h3 => rn_s ⟨?_, h3.mono (fun b j q => by unfold FRs at q; unfold FRw; omega)⟩) 64 N 0 _ (by omega) (hq.fr f0 (fun b j q => by unfold prc at q; unfold FRs; omega)) (by omega) (by omega) (mset_s rfl rfl) (by rw [mset_o (by omega)]; exact hW.2.2.1) (fun p h0 h1 => ?_) (fun c h0 h1 h2 => by rw [mset_o (by omega)]; exact hW.2.2.2 c h0 h1 h2) f0
  · have hph := ph_eq hg (p := p) ⟨h0, h1⟩
    rw [mset_o (by omega), if_neg (by omega)]
    exact hW.1 p h0 h1
  · refine ⟨fun p h0 hp => ?_, fun i h0 hi => ?_, ?_, h2⟩
    · rw [h1 p h0 hp]
      unfold dryS dryR
      rw [if_pos ⟨rfl, h0, hp⟩]
    · unfold dryS
      simp (disch := omega) only [if_neg]
      rw [h3 509 _ (by unfold FRs; omega), h3 510 _ (by unfold FRs; omega), h3 501 _ (by unfold FRs; omega), h3 502 _ (by unfold FRs; omega)]
      exact hW.2.1 i h0 hi
    · rw [h3 498 _ (by unfold FRs; omega)]
      exact hW.2.2.1
