/-! VALLEY: the reference's sign, and its small steps -/
def ownW (i : Nat) : Int := [439854918756, 25209, 6579575, 123581014175598, 24948, 30064, 495672714612, 1870095731, 439721159795, 7566702, 499850634611, 1835627380, 109330212154734, 7499639, 6578553, 1752135026, 1751217765, 26982, 28530, 6385252, 7237492, 6384748, 7170414, 7168376].getD i 0
def isSg (x : Int) : Prop := x = 43 ∨ x = 45 ∨ x = 42 ∨ x = 47 ∨ x = 37 ∨ x = 40 ∨ x = 41 ∨ x = 91 ∨ x = 93 ∨ x = 44 ∨ x = 59 ∨ x = 60 ∨ x = 62 ∨ x = 61
def RTk (t m : Mem) (k : Int) : Prop := m 475 4 = t 36 k ∧ ((t 35 k = 27 ∧ ((m 475 12 = t 37 k ∧ 0 ≤ t 37 k) ∨ (m 475 12 = -1 ∧ t 37 k = t 36 k ∧ m 475 3 = 3 ∧ ¬ isSg (m 475 6)))) ∨ (t 35 k ≠ 27 ∧ m 475 12 = -1 ∧ ((t 35 k = 26 ∧ m 475 3 = 0) ∨ (t 35 k = 25 ∧ m 475 3 = 2 ∧ m 475 6 = t 37 k) ∨ (0 ≤ t 35 k ∧ t 35 k ≤ 24 ∧ m 475 3 = 1 ∧ ∀ i : Nat, i < 24 → (m 475 7 = ownW i ↔ t 35 k = i)) ∨ (isSg (t 35 k) ∧ m 475 3 = 3 ∧ m 475 6 = t 35 k))))
theorem e_sign {t m : Mem} {k x : Int} (h : RTk t m k) (hl : m 475 12 = -1) (hx : isSg x) : pM_isSign m x = some (if t 35 k = x then 1 else 0) := by
  unfold pM_isSign
  unfold isSg at hx
  obtain ⟨-, h | ⟨h1, -, h⟩⟩ := h
  · rcases h with ⟨h1, h2 | ⟨-, -, h3, h4⟩⟩
    · omega
    · rw [if_pos h3, if_neg (fun c => h4 (by rw [c]; unfold isSg; exact hx)), if_neg (by omega)]
  · rcases h with ⟨h2, h3⟩ | ⟨h2, h3, -⟩ | ⟨h2, h3, h4, -⟩ | ⟨h2, h3, h4⟩
    · rw [if_neg (by omega), if_neg (by omega)]
    · rw [if_neg (by omega), if_neg (by omega)]
    · rw [if_neg (by omega), if_neg (by omega)]
    · rw [if_pos h3, h4]
      split <;> rfl
theorem e_word {t m : Mem} {k : Int} (i : Nat) (h : RTk t m k) (hl : m 475 12 = -1) (hi : i < 24) : pM_isWord m (ownW i) = some (if t 35 k = i then 1 else 0) := by
  unfold pM_isWord
  obtain ⟨-, h | ⟨h1, -, h⟩⟩ := h
  · rcases h with ⟨h1, h2 | ⟨-, -, h3, h4⟩⟩
    · omega
    · rw [if_neg (by omega), if_neg (by omega)]
  · rcases h with ⟨h2, h3⟩ | ⟨h2, h3, -⟩ | ⟨h2, h3, h4, h5⟩ | ⟨h2, h3, h4⟩
    · rw [if_neg (by omega), if_neg (by omega)]
    · rw [if_neg (by omega), if_neg (by omega)]
    · rw [if_pos h4]
      by_cases q : t 35 k = i
      · rw [if_pos q, if_pos ((h5 i hi).mpr q)]
      · rw [if_neg q, if_neg (fun c => q ((h5 i hi).mp c))]
    · unfold isSg at h2
      rw [if_neg (by omega), if_neg (by omega)]
def FRa : Int → Int → Prop := fun b j => b = 475 ∧ ((3 ≤ j ∧ j ≤ 7) ∨ j = 12)
def LX (N : Nat) (t : Mem) (RT : Int → Mem → Prop) : Prop := (∀ k m, RT k m → RTk t m k) ∧ (∀ k m m', RT k m → (∀ b j, (b = 475 ∧ ((2 ≤ j ∧ j ≤ 7) ∨ j = 12)) ∨ b = 476 → m' b j = m b j) → RT k m') ∧ (∀ k m, RT k m → 0 ≤ k → k + 1 < t 18 6 → Rn (pM_ahead N m) (fun m' => RT (k + 1) m' ∧ Fr FRa m m'))
theorem e_blame {m : Mem} {x y : Int} (h : m 475 8 = 0) : pM_blame m x y = some (mset (mset m 475 8 x) 475 9 y) := by
  unfold pM_blame
  rw [if_neg (by omega)]
  rfl
theorem e_blame0 {m : Mem} {x y : Int} (h : 0 < m 475 8) : pM_blame m x y = some m := by
  unfold pM_blame
  rw [if_pos h]
/-- the look at the sign itself: it goes on, or the text is at fault there -/
theorem r_lexM {t m : Mem} {k : Int} (h : RTk t m k) (h8 : m 475 8 = 0) : (pM_lex m = some m ∧ m 475 12 = -1) ∨ (t 35 k = 27 ∧ pM_lex m = some (mset (mset m 475 8 1) 475 9 (plcT t k))) := by
  by_cases q : m 475 12 = -1
  · refine Or.inl ⟨?_, q⟩
    unfold pM_lex
    rw [if_pos q]
  · refine Or.inr ?_
    obtain ⟨-, h | ⟨h1, h2, -⟩⟩ := h
    · rcases h with ⟨h1, h2 | ⟨h3, -⟩⟩
      · refine ⟨h1, ?_⟩
        unfold pM_lex plcT
        rw [if_neg q, e_blame h8, h2.1, if_pos h1]
        rfl
      · exact absurd h3 q
    · exact absurd h2 q
theorem plc_live {t m : Mem} {k : Int} (h : RTk t m k) (hl : m 475 12 = -1) : m 475 4 = plcT t k := by
  unfold plcT
  obtain ⟨h0, h | ⟨h1, h2, -⟩⟩ := h
  · rcases h with ⟨h1, h2 | ⟨h3, h4, -⟩⟩
    · omega
    · rw [if_pos h1, h4, h0]
  · rw [if_neg h1, h0]
def opq (o : Int) : Int := if o = 2 then 43 else o + 27
def prq (p : Int) : Int := if p = 3 then 44 else p + 27
theorem e_rank {m : Mem} {o : Int} (h : o = 2 ∨ (4 ≤ o ∧ o ≤ 8) ∨ (11 ≤ o ∧ o ≤ 15)) : pM_rank m (opq o) = some (rk o) := by
  rcases (show o = 2 ∨ o = 4 ∨ o = 5 ∨ o = 6 ∨ o = 7 ∨ o = 8 ∨ o = 11 ∨ o = 12 ∨ o = 13 ∨ o = 14 ∨ o = 15 by omega) with rfl | rfl | rfl | rfl | rfl | rfl | rfl | rfl | rfl | rfl | rfl <;> rfl
def OpR (m : Mem) (b : Int) : List Int → Prop
  | [] => True
  | o :: os => m 496 (b + os.length) = opq o ∧ OpR m b os
theorem OpR.eq {m m' : Mem} {b : Int} : ∀ {ops : List Int}, OpR m b ops → (∀ j, b ≤ j → j < b + ops.length → m' 496 j = m 496 j) → OpR m' b ops
  | [], _, _ => trivial
  | o :: os, h, f => by
    have e : ((o :: os).length : Int) = os.length + 1 := by show ((os.length + 1 : Nat) : Int) = _; omega
    rw [e] at f
    exact ⟨by rw [f _ (by omega) (by omega)]; exact h.1, h.2.eq (fun j h0 h1 => f j h0 (by omega))⟩
theorem RcOk.eq' {rs rv rs' rv' : Int → Int} : ∀ {L : List (Int × Int)} {i : Int}, RcOk rs rv i L → (∀ j, i ≤ j → j < i + L.length → rs' j = rs j ∧ rv' j = rv j) → RcOk rs' rv' i L
  | [], _, _, _ => trivial
  | c :: L, i, h, f => by
    have e : ((c :: L).length : Int) = L.length + 1 := by show ((L.length + 1 : Nat) : Int) = _; omega
    rw [e] at f
    have f0 := f i (Int.le_refl _) (by omega)
    exact ⟨by rw [f0.1, f0.2]; exact h.1, h.2.eq' (fun j h0 h1 => f j (by omega) (by omega))⟩
theorem RcOk.snoc {rs rv : Int → Int} {k v : Int} : ∀ {L : List (Int × Int)} {i : Int}, RcOk rs rv i L → srt (rs (i + L.length)) (rv (i + L.length)) k v → RcOk rs rv i (L ++ [(k, v)])
  | [], i, _, hs => by
    have e : i + (([] : List (Int × Int)).length : Int) = i := by show i + ((0 : Nat) : Int) = i; omega
    rw [e] at hs
    exact ⟨hs, trivial⟩
  | c :: L, i, h, hs => by
    have e : i + ((c :: L).length : Int) = i + 1 + L.length := by show i + ((L.length + 1 : Nat) : Int) = _; omega
    rw [e] at hs
    exact ⟨h.1, h.2.snoc hs⟩
theorem r_addM {m : Mem} {s v c ib : Int} (h29 : m 475 29 = ib) (hib : ib = 0 ∨ ib = 1) (h28 : m 475 28 = c) (hc : 0 ≤ c ∧ c < 1600) : Rn (pM_add m s v) (fun m' => m' 475 28 = c + 1 ∧ m' 488 (1600 * ib + c) = s ∧ m' 489 (1600 * ib + c) = v ∧ Fr (fun b j => (b = 475 ∧ j = 28) ∨ ((b = 488 ∨ b = 489) ∧ j = 1600 * ib + c)) m m') := by
  unfold pM_add
  rw [h29, h28, w32_eq (x := 1600 * ib) (by omega) (by omega), w32_eq (x := 1600 * ib + c) (by omega) (by omega)]
  refine rn_t (by omega) (rn_l (fun m1 hm1 => ?_))
  have a29 : m1 475 29 = ib := by rw [hm1, mset_o (by omega)]; exact h29
  have a28 : m1 475 28 = c := by rw [hm1, mset_o (by omega)]; exact h28
  rw [a29, a28, w32_eq (x := 1600 * ib) (by omega) (by omega), w32_eq (x := 1600 * ib + c) (by omega) (by omega)]
  refine rn_t (by omega) (rn_l (fun m2 hm2 => ?_))
  have b28 : m2 475 28 = c := by rw [hm2, mset_o (by omega)]; exact a28
  rw [b28, w32_eq (x := c + 1) (by omega) (by omega)]
  refine rn_v (rn_s ⟨mset_s rfl rfl, ?_, ?_, ?_⟩)
  · rw [mset_o (by omega), hm2, mset_o (by omega), hm1, mset_s rfl rfl]
  · rw [mset_o (by omega), hm2, mset_s rfl rfl]
  · rw [hm2, hm1]
    exact ((Fr.rfl'.set (by omega)).set (by omega)).set (by omega)
theorem r_hold {m : Mem} {n x : Int} (h39 : m 475 39 = n) (hn : 0 ≤ n ∧ n < 500) : Rn (pM_holdsBack m x) (fun m' => m' 475 39 = n + 1 ∧ m' 496 n = x ∧ Fr (fun b j => (b = 475 ∧ j = 39) ∨ (b = 496 ∧ j = n)) m m') := by
  unfold pM_holdsBack
  rw [h39]
  refine rn_t hn (rn_l (fun m1 hm1 => ?_))
  have a39 : m1 475 39 = n := by rw [hm1, mset_o (by omega)]; exact h39
  rw [a39, w32_eq (x := n + 1) (by omega) (by omega)]
  refine rn_v (rn_s ⟨mset_s rfl rfl, ?_, ?_⟩)
  · rw [mset_o (by omega), hm1, mset_s rfl rfl]
  · rw [hm1]
    exact (Fr.rfl'.set (by omega)).set (by omega)
theorem r_push {m : Mem} {d n x : Int} (h36 : m 475 36 = d) (hd : 0 ≤ d ∧ d < 20) (h39 : m 475 39 = n) : Rn (pM_pushes m x) (fun m' => m' 475 36 = d + 1 ∧ m' 491 d = x ∧ m' 492 d = 0 ∧ m' 493 d = 1 ∧ m' 495 d = n ∧ Fr (fun b j => (b = 475 ∧ j = 36) ∨ ((b = 491 ∨ b = 492 ∨ b = 493 ∨ b = 495) ∧ j = d)) m m') := by
  unfold pM_pushes
  rw [h36]
  refine rn_t hd (rn_l (fun m1 hm1 => ?_))
  have a1 : m1 475 36 = d := by rw [hm1, mset_o (by omega)]; exact h36
  rw [a1]
  refine rn_t hd (rn_l (fun m2 hm2 => ?_))
  have a2 : m2 475 36 = d := by rw [hm2, mset_o (by omega)]; exact a1
  rw [a2]
  refine rn_t hd (rn_l (fun m3 hm3 => ?_))
  have a3 : m3 475 36 = d := by rw [hm3, mset_o (by omega)]; exact a2
  have b3 : m3 475 39 = n := by rw [hm3, mset_o (by omega), hm2, mset_o (by omega), hm1, mset_o (by omega)]; exact h39
  rw [a3, b3]
  refine rn_t hd (rn_l (fun m4 hm4 => ?_))
  have a4 : m4 475 36 = d := by rw [hm4, mset_o (by omega)]; exact a3
  rw [a4, w32_eq (x := d + 1) (by omega) (by omega)]
  refine rn_v (rn_s ⟨mset_s rfl rfl, ?_, ?_, ?_, ?_, ?_⟩)
  · rw [mset_o (by omega), hm4, mset_o (by omega), hm3, mset_o (by omega), hm2, mset_o (by omega), hm1, mset_s rfl rfl]
  · rw [mset_o (by omega), hm4, mset_o (by omega), hm3, mset_o (by omega), hm2, mset_s rfl rfl]
  · rw [mset_o (by omega), hm4, mset_o (by omega), hm3, mset_s rfl rfl]
  · rw [mset_o (by omega), hm4, mset_s rfl rfl]
  · rw [hm4, hm3, hm2, hm1]
    exact ((((Fr.rfl'.set (by omega)).set (by omega)).set (by omega)).set (by omega)).set (by omega)
theorem nots_nn : ∀ P : List Int, 0 ≤ nots P
  | [] => Int.le_refl _
  | o :: os => by
    have := nots_nn os
    show 0 ≤ (if o = 2 then (1 : Int) else 0) + nots os
    split <;> omega
def FJn (ib c : Int) : Int → Int → Prop := fun b j => (b = 475 ∧ (j = 28 ∨ j = 37 ∨ j = 39)) ∨ ((b = 488 ∨ b = 489) ∧ 1600 * ib + c ≤ j ∧ j < 1600 * ib + 1600)
theorem r_joinsL {N : Nat} {Q : Mem → Prop} {kk : Mem → Option Mem} {bo : Mem → Option Mem} {m0 : Mem} {r D b ib f0 : Int} (hD : 0 ≤ D ∧ D < 20) (hb : 0 ≤ b) (hib : ib = 0 ∨ ib = 1) (hf0 : 0 ≤ f0) {c0 : Int} (hc0 : f0 ≤ c0) :
    ∀ (ops : List Int) (nn : Nat) (cs : List (Int × Int)) (op : Int) (m : Mem), ops.length < nn → OpV ops → b + ops.length < 500 → m 475 36 = D + 1 → m 495 D = b → m 475 39 = b + ops.length → OpR m b ops → m 475 28 = f0 + cs.length → c0 ≤ f0 + cs.length → m 475 29 = ib → RcOk (m 488) (m 489) (1600 * ib + f0) cs → f0 + cs.length + ops.length ≤ 1600 → m 475 37 = op → (nots ops ≤ op ∧ op ≤ 100) → Fr (FJn ib c0) m0 m →
      (∀ m', m' 475 39 = b + (flq r ops).2.length → OpR m' b (flq r ops).2 → m' 475 28 = f0 + (cs ++ cod (flq r ops).1).length → RcOk (m' 488) (m' 489) (1600 * ib + f0) (cs ++ cod (flq r ops).1) → m' 475 37 = op - nots (flq r ops).1 → Fr (FJn ib c0) m0 m' → Rn (kk m') Q) → Rn (lpF bo (pM_joins_L0b N r kk) nn m) Q := by
  intro ops
  induction ops with
  | nil =>
    intro nn cs op m hnn hv hbn h36 h495 h39 ho h28 hcc h29 hr hc h37 hop hfr hk
    obtain ⟨nn, rfl⟩ : ∃ n', nn = n' + 1 := ⟨nn - 1, by omega⟩
    show Rn (pM_joins_L0b N r kk (lpF bo (pM_joins_L0b N r kk) nn) m) Q
    generalize lpF bo (pM_joins_L0b N r kk) nn = self
    unfold pM_joins_L0b
    have e0 : (([] : List Int).length : Int) = 0 := rfl
    rw [e0] at h39
    rw [h36, w32_eq (x := D + 1 - 1) (by omega) (by omega), show D + 1 - 1 = D by omega, h495, h39]
    refine rn_t (by omega) (rn_f (by omega) ?_)
    refine hk m ?_ trivial ?_ ?_ ?_ hfr
    · exact h39
    · rw [show cod (flq r []).1 = [] from rfl, List.append_nil]; exact h28
    · rw [show cod (flq r []).1 = [] from rfl, List.append_nil]; exact hr
    · rw [show nots (flq r []).1 = 0 from rfl]; omega
  | cons o os ih =>
    intro nn cs op m hnn hv hbn h36 h495 h39 ho h28 hcc h29 hr hc h37 hop hfr hk
    have hnn' : os.length + 1 < nn := hnn
    obtain ⟨nn, rfl⟩ : ∃ n', nn = n' + 1 := ⟨nn - 1, by omega⟩
    have eL : ((o :: os).length : Int) = os.length + 1 := by show ((os.length + 1 : Nat) : Int) = _; omega
    rw [eL] at hbn h39 hc
    have hvo := hv o (List.mem_cons_self ..)
    have hvs : OpV os := fun x hx => hv x (List.mem_cons_of_mem _ hx)
    have ih' := ih nn (cs ++ [(o, 0)]) (op - (if o = 2 then 1 else 0))
    have eno : nots (o :: os) = (if o = 2 then 1 else 0) + nots os := rfl
    have hns := nots_nn os
    show Rn (pM_joins_L0b N r kk (lpF bo (pM_joins_L0b N r kk) nn) m) Q
    generalize lpF bo (pM_joins_L0b N r kk) nn = self at ih' ⊢
    unfold pM_joins_L0b
    rw [h36, w32_eq (x := D + 1 - 1) (by omega) (by omega), show D + 1 - 1 = D by omega, h495, h39, w32_eq (x := b + (os.length + 1) - 1) (by omega) (by omega), show b + ((os.length : Int) + 1) - 1 = b + os.length by omega, ho.1]
    refine rn_t (by omega) (rn_t (by omega) (rn_t (by omega) ?_))
    refine rn_e (e_rank hvo) ?_
    by_cases q : r ≤ rk o
    · have efl : flq r (o :: os) = (o :: (flq r os).1, (flq r os).2) := if_pos q
      rw [efl] at hk
      refine rn_f (by omega) (rn_l (fun m1 hm1 => ?_))
      have a39 : m1 475 39 = b + os.length := by rw [hm1, mset_s rfl rfl]
      have f1 : Fr (fun b j => b = 475 ∧ j = 39) m m1 := by rw [hm1]; exact Fr.rfl'.set ⟨rfl, rfl⟩
      clear hm1
      rw [a39]
      refine rn_t (by omega) ?_
      have a496 : m1 496 (b + os.length) = opq o := by rw [f1 _ _ (by omega)]; exact ho.1
      rw [a496]
      refine rn_b (r_addM (c := f0 + cs.length) (by rw [f1 _ _ (by omega)]; exact h29) hib (by rw [f1 _ _ (by omega)]; exact h28) (by omega)) (fun m2 h2 => ?_)
      obtain ⟨b28, b488, b489, f2⟩ := h2
      have b39 : m2 475 39 = b + os.length := by rw [f2 _ _ (by omega)]; exact a39
      have b496 : m2 496 (b + os.length) = opq o := by rw [f2 _ _ (by omega)]; exact a496
      rw [b39, b496]
      have hlen : (cs ++ [(o, (0 : Int))]).length = cs.length + 1 := by rw [List.length_append]; rfl
      have o2 : OpR m2 b os := ho.2.eq (fun j h0 h1 => by rw [f2 _ _ (by omega), f1 _ _ (by omega)])
      have rc2 : RcOk (m2 488) (m2 489) (1600 * ib + f0) (cs ++ [(o, 0)]) := by
        refine (hr.eq' (fun j h0 h1 => ?_)).snoc ?_
        · rw [f2 _ _ (by omega), f2 _ _ (by omega), f1 _ _ (by omega), f1 _ _ (by omega)]
          exact ⟨rfl, rfl⟩
        · rw [show 1600 * ib + f0 + (cs.length : Int) = 1600 * ib + (f0 + cs.length) by omega, b488]
          unfold srt opq
          by_cases q2 : o = 2
          · rw [if_pos q2]; exact Or.inr (Or.inr (Or.inl ⟨q2, rfl⟩))
          · rw [if_neg q2]; exact Or.inr (Or.inr (Or.inr (Or.inr (by omega))))
      have F2 : ∀ b' j', ¬ (b' = 475 ∧ (j' = 28 ∨ j' = 39)) → ¬ ((b' = 488 ∨ b' = 489) ∧ j' = 1600 * ib + (f0 + cs.length)) → m2 b' j' = m b' j' := fun b' j' z1 z2 => by
        rw [f2 _ _ (by omega), f1 _ _ (by omega)]
      have fr2 : Fr (FJn ib c0) m0 m2 := hfr.trans ((f1.mono (fun b j q => by unfold FJn; omega)).trans (f2.mono (fun b j q => by unfold FJn; omega)))
      have fin : ∀ m3 : Mem, (∀ b' j', ¬ (b' = 475 ∧ j' = 37) → m3 b' j' = m2 b' j') → m3 475 37 = op - (if o = 2 then 1 else 0) → Rn (self m3) Q := fun m3 hm3 h37' => by
        refine ih' m3 (by omega) hvs (by omega) ?_ ?_ ?_ (o2.eq (fun j _ _ => hm3 _ _ (by omega))) ?_ (by rw [hlen]; omega) ?_ (rc2.eq' (fun j _ _ => ⟨hm3 _ _ (by omega), hm3 _ _ (by omega)⟩)) (by rw [hlen]; omega) h37' ?_ ?_ ?_
        · rw [hm3 _ _ (by omega), F2 _ _ (by omega) (by omega)]; exact h36
        · rw [hm3 _ _ (by omega), F2 _ _ (by omega) (by omega)]; exact h495
        · rw [hm3 _ _ (by omega)]; exact b39
        · rw [hm3 _ _ (by omega), b28, hlen]; omega
        · rw [hm3 _ _ (by omega), F2 _ _ (by omega) (by omega)]; exact h29
        · rw [eno] at hop; split at hop <;> split <;> omega
        · exact fr2.trans (fun b' j' z => hm3 b' j' (fun c => z (by unfold FJn; omega)))
        · intro m' c1 c2 c3 c4 c5 c6
          have eapp : cs ++ [(o, (0 : Int))] ++ cod (flq r os).1 = cs ++ cod (o :: (flq r os).1) := by rw [List.append_assoc]; rfl
          rw [eapp] at c3 c4
          refine hk m' c1 c2 c3 c4 ?_ c6
          rw [c5]
          show op - (if o = 2 then 1 else 0) - nots (flq r os).1 = op - ((if o = 2 then 1 else 0) + nots (flq r os).1)
          omega
      have b37 : m2 475 37 = op := by rw [F2 _ _ (by omega) (by omega)]; exact h37
      refine rn_t (by omega) (rn_i (fun q43 => ?_) (fun q43 => ?_))
      · have q2 : o = 2 := by
          unfold opq at q43
          split at q43
          · assumption
          · omega
        rw [if_pos q2] at eno fin
        rw [b37, w32_eq (x := op - 1) (by omega) (by omega)]
        exact rn_v (fin _ (fun b' j' z => mset_o z) (mset_s rfl rfl))
      · have q2 : o ≠ 2 := fun c => q43 (by rw [c]; rfl)
        rw [if_neg q2] at fin
        exact fin m2 (fun _ _ _ => rfl) (by rw [b37]; omega)
    · have efl : flq r (o :: os) = ([], o :: os) := if_neg q
      rw [efl] at hk
      refine rn_t (by omega) ?_
      refine hk m ?_ ho ?_ ?_ ?_ hfr
      · rw [eL]; exact h39
      · rw [show cod ([] : List Int) = [] from rfl, List.append_nil]; exact h28
      · rw [show cod ([] : List Int) = [] from rfl, List.append_nil]; exact hr
      · rw [show nots ([] : List Int) = 0 from rfl]; omega
