/-! the State's picture; copies; a DAY's begin -/
def vS (m : Mem) (s : Int) : Mem := fun k j => if (k = 1 ∧ 0 ≤ j ∧ j < 64) ∨ ((2 ≤ k ∧ k ≤ 5) ∧ 0 ≤ j ∧ j < 6) ∨ (k = 6 ∧ 0 ≤ j ∧ j < 120) then m (s + k) j else if k = 0 ∧ (j = 0 ∨ j = 7) then m s j else 0
theorem vS_in {m : Mem} {s k j : Int} (h : (k = 1 ∧ 0 ≤ j ∧ j < 64) ∨ ((2 ≤ k ∧ k ≤ 5) ∧ 0 ≤ j ∧ j < 6) ∨ (k = 6 ∧ 0 ≤ j ∧ j < 120)) : vS m s k j = m (s + k) j := if_pos h
theorem vS_0 (m : Mem) (s : Int) : vS m s 0 0 = m s 0 := rfl
theorem vS_7 (m : Mem) (s : Int) : vS m s 0 7 = m s 7 := rfl
theorem vS_ext {W : Mem} {m : Mem} {s : Int} (h0 : ∀ k j, ¬ ((k = 1 ∧ 0 ≤ j ∧ j < 64) ∨ ((2 ≤ k ∧ k ≤ 5) ∧ 0 ≤ j ∧ j < 6) ∨ (k = 6 ∧ 0 ≤ j ∧ j < 120)) → ¬ (k = 0 ∧ (j = 0 ∨ j = 7)) → W k j = 0) (h1 : ∀ k j, (k = 1 ∧ 0 ≤ j ∧ j < 64) ∨ ((2 ≤ k ∧ k ≤ 5) ∧ 0 ≤ j ∧ j < 6) ∨ (k = 6 ∧ 0 ≤ j ∧ j < 120) → m (s + k) j = W k j) (h2 : m s 0 = W 0 0) (h3 : m s 7 = W 0 7) : vS m s = W := by
  funext k j
  unfold vS
  split
  · rename_i q; exact h1 k j q
  · split
    · rename_i q q2
      obtain ⟨rfl, rfl | rfl⟩ := q2
      · exact h2
      · exact h3
    · rename_i q q2; exact (h0 k j q q2).symm
theorem vS_fr {m m' : Mem} {s : Int} (h : ∀ b j, s ≤ b → b ≤ s + 6 → (b = s → j = 0 ∨ j = 7) → m' b j = m b j) : vS m' s = vS m s := by
  refine vS_ext (fun k j q q2 => ?_) (fun k j q => ?_) ?_ ?_
  · unfold vS
    rw [if_neg q, if_neg q2]
  · rw [vS_in q]
    exact h _ _ (by omega) (by omega) (by omega)
  · exact h _ _ (by omega) (by omega) (fun _ => Or.inl rfl)
  · exact h _ _ (by omega) (by omega) (fun _ => Or.inr rfl)
theorem vW_ext {W : Mem} {m : Mem} {a : Int} (h0 : ∀ k j, ¬ ((k = 1 ∧ 0 ≤ j ∧ j < 64) ∨ ((2 ≤ k ∧ k ≤ 5) ∧ 0 ≤ j ∧ j < 6)) → ¬ (k = 0 ∧ (j = 7 ∨ j = 9)) → W k j = 0) (h1 : ∀ k j, (k = 1 ∧ 0 ≤ j ∧ j < 64) ∨ ((2 ≤ k ∧ k ≤ 5) ∧ 0 ≤ j ∧ j < 6) → m (a + k) j = W k j) (h2 : m a 7 = W 0 7) (h3 : m a 9 = W 0 9) : vW m a = W := by
  funext k j
  unfold vW
  split
  · rename_i q; exact h1 k j q
  · split
    · rename_i q q2
      obtain ⟨rfl, rfl | rfl⟩ := q2
      · exact h2
      · exact h3
    · rename_i q q2; exact (h0 k j q q2).symm
def FS (s : Int) : Int → Int → Prop := fun b _ => s ≤ b ∧ b ≤ s + 6
theorem c_copyS {m : Mem} {d s : Int} (hds : d + 7 ≤ s ∨ s + 7 ≤ d) : Rn (pS_copyOf m d s) (fun m' => vS m' d = vS m s ∧ Fr (FS d) m m') := by
  unfold pS_copyOf
  refine rn_v (rn_v (rn_v (rn_v (rn_v (rn_v (rn_v (rn_v (rn_s ⟨?_, ?_⟩))))))))
  · refine vS_ext (fun k j q q2 => by unfold vS; rw [if_neg q, if_neg q2]) (fun k j q => ?_) ?_ ?_
    · rw [vS_in q]
      rcases (show k = 1 ∨ k = 2 ∨ k = 3 ∨ k = 4 ∨ k = 5 ∨ k = 6 by omega) with rfl | rfl | rfl | rfl | rfl | rfl <;> (simp (disch := omega) only [mcpy_o, mcpy_i, mset_o]; congr 1; omega)
    · simp (disch := omega) only [mcpy_o, mset_o, mset_s]
      rfl
    · simp (disch := omega) only [mcpy_o, mset_o, mset_s]
      rfl
  · have h : ∀ k, 0 ≤ k → k ≤ 6 → ∀ j, FS d (d + k) j := fun k h1 h2 j => by unfold FS; omega
    have h0 : ∀ j, FS d d j := fun j => by unfold FS; omega
    exact (((((((Fr.rfl'.set (h0 _)).set (h0 _)).cpy (fun j _ _ => h _ (by omega) (by omega) j)).cpy (fun j _ _ => h _ (by omega) (by omega) j)).cpy (fun j _ _ => h _ (by omega) (by omega) j)).cpy (fun j _ _ => h _ (by omega) (by omega) j)).cpy (fun j _ _ => h _ (by omega) (by omega) j)).cpy (fun j _ _ => h _ (by omega) (by omega) j)
def FC (d : Int) : Int → Int → Prop := fun b j => d ≤ b ∧ b ≤ d + 5 ∧ (b = d → j = 7 ∨ j = 9)
theorem c_copyW {m : Mem} {d s : Int} (hds : d + 7 ≤ s ∨ s + 7 ≤ d) : Rn (pW_copyOf m d s) (fun m' => vW m' d = vW m s ∧ Fr (FC d) m m') := by
  unfold pW_copyOf
  refine rn_v (rn_v (rn_v (rn_v (rn_v (rn_v (rn_v (rn_s ⟨?_, ?_⟩)))))))
  · refine vW_ext (fun k j q q2 => by unfold vW; rw [if_neg q, if_neg q2]) (fun k j q => ?_) ?_ ?_
    · rw [vW_in q]
      rcases (show k = 1 ∨ k = 2 ∨ k = 3 ∨ k = 4 ∨ k = 5 by omega) with rfl | rfl | rfl | rfl | rfl <;> (simp (disch := omega) only [mcpy_o, mcpy_i, mset_o]; congr 1; omega)
    · simp (disch := omega) only [mcpy_o, mset_o, mset_s]
      rfl
    · simp (disch := omega) only [mcpy_o, mset_o, mset_s]
      rfl
  · have h : ∀ k : Int, 1 ≤ k → k ≤ 5 → ∀ j : Int, FC d (d + k) j := fun k h1 h2 j => by unfold FC; omega
    exact ((((((Fr.rfl'.set (by unfold FC; omega)).set (by unfold FC; omega)).cpy (fun j _ _ => h _ (by omega) (by omega) j)).cpy (fun j _ _ => h _ (by omega) (by omega) j)).cpy (fun j _ _ => h _ (by omega) (by omega) j)).cpy (fun j _ _ => h _ (by omega) (by omega) j)).cpy (fun j _ _ => h _ (by omega) (by omega) j)
def SB (pl S : Mem) : Prop := (∀ p, 0 ≤ p → p < pl 2 2 → 0 ≤ S 1 p ∧ S 1 p ≤ 99) ∧ (∀ i, 0 ≤ i → i < pl 2 3 → (0 ≤ S 2 i ∧ S 2 i < pl 2 2) ∧ (0 ≤ S 3 i ∧ S 3 i ≤ 8) ∧ (1 ≤ S 4 i ∧ S 4 i ≤ 99) ∧ (0 ≤ S 5 i ∧ S 5 i ≤ 999)) ∧ (0 ≤ S 0 0 ∧ S 0 0 ≤ 999) ∧ (0 ≤ S 0 7 ∧ S 0 7 ≤ 40)
def begP (pl S : Mem) (t x : Int) : Mem := fun k j => if k = 0 ∧ j = 9 then S 0 0 else if k = 0 ∧ j = 7 then 63 else if k = 1 ∧ 0 ≤ j ∧ j < 64 then (if j < x then min 99 (S 1 j + fallS pl j (S 1 j) (S 0 0) * t) else S 1 j) else if k = 2 ∧ 0 ≤ j ∧ j < 6 then S 3 j else if k = 3 ∧ 0 ≤ j ∧ j < 6 then S 4 j else if k = 4 ∧ 0 ≤ j ∧ j < 6 then S 2 j else 0
def begS (pl S : Mem) (t : Int) : Mem := begP pl S t (pl 2 2)
theorem begP_next {pl S : Mem} {t x : Int} (hx : 0 ≤ x ∧ x < 64) : mset (begP pl S t x) 1 x (min 99 (S 1 x + fallS pl x (S 1 x) (S 0 0) * t)) = begP pl S t (x + 1) := by
  funext k j
  unfold mset begP
  by_cases q : k = 1 ∧ j = x
  · obtain ⟨rfl, rfl⟩ := q
    rw [if_pos ⟨rfl, rfl⟩, if_neg (by omega), if_neg (by omega), if_pos (by omega), if_pos (by omega)]
  · rw [if_neg q]
    by_cases q2 : k = 1 ∧ 0 ≤ j ∧ j < 64
    · have e : (j < x) ↔ (j < x + 1) := by omega
      simp only [e]
    · simp only [if_neg q2]
theorem WB.beg {pl S : Mem} {t : Int} (hg : PG pl) (hs : SB pl S) (ht : t = 1 ∨ t = 2) : WB pl (begS pl S t) := by
  have hn := hg.num
  refine ⟨fun p h0 h1 => ?_, fun i h0 h1 => ?_, ?_⟩
  · have h := hs.1 p h0 h1
    have hf := fallS_nn pl p (S 1 p) (S 0 0)
    unfold begS begP
    rw [if_neg (by omega), if_neg (by omega), if_pos (by omega), if_pos h1]
    rcases ht with rfl | rfl <;> omega
  · have h := hs.2.1 i h0 h1
    unfold begS begP
    simp (disch := omega) only [if_neg, if_pos, true_and]
    omega
  · unfold begS begP
    rw [if_pos ⟨rfl, rfl⟩]
    exact hs.2.2.1
theorem fallS_big {pl : Mem} (hg : PG pl) {p d y : Int} (hp : 0 ≤ p ∧ p < pl 2 2) (hd : 0 ≤ d ∧ d ≤ 99) (hy : 0 ≤ y ∧ y ≤ 999) : fallS pl p d y ≤ 1000000 := by
  have hn := hg.num
  have hc := hg.pos hp
  have hcr := pl_cell hc.1 hc.2.1 (by rw [← hc.2.2]; exact hp)
  unfold fallS
  by_cases ht : 0 < pl 9 2
  · have h1 := hg.2.2.2.2 0 (by omega) (by omega)
    obtain ⟨v, hv, hev⟩ := (h1.2 ht).2 (fx (p % pl 2 0) (p / pl 2 0) d y 0 0 0) (fun v _ _ => fx_big (by omega) (by omega) (by omega) (by omega) (by omega) (by omega) (by omega) v)
    rw [sv_t (su := 9) rfl ht, vl_of hev]
    unfold big at hv
    omega
  · rw [sv_f (su := 9) rfl ht]
    omega
theorem c_beg_L {N : Nat} {Q : Mem → Prop} {kk : Mem → Option Mem} {bo : Int → Mem → Option Mem} {pl m0 S : Mem} {a t : Int} (hN : 2000 ≤ N) (hg : PG pl) (ha : 194 ≤ a) (ht : t = 1 ∨ t = 2) (hs : SB pl S) (hk : ∀ m', vW m' a = begS pl S t → Fr (fun b _ => b = a + 1 ∨ b = a + 6 ∨ b = 11) m0 m' → Rn (kk m') Q) :
    ∀ (k n : Nat) (x : Int) (m : Mem), k < n → PE pl m → 0 ≤ x → x + k = pl 2 2 → vW m a = begP pl S t x → Fr (fun b _ => b = a + 1 ∨ b = a + 6 ∨ b = 11) m0 m → Rn (lpF bo (pW_begin_L97b N a t kk) n x m) Q := by
  intro k
  have hn := hg.num
  induction k with
  | zero =>
    intro n x m hkn he h0 hx hv hf
    obtain ⟨n, rfl⟩ : ∃ n', n = n' + 1 := ⟨n - 1, by omega⟩
    show Rn (pW_begin_L97b N a t kk (lpF bo (pW_begin_L97b N a t kk) n) x m) Q
    generalize lpF bo (pW_begin_L97b N a t kk) n = self
    unfold pW_begin_L97b
    refine rn_f (by rw [he.d]; omega) ?_
    refine hk m ?_ hf
    rw [hv, show x = pl 2 2 by omega]
    rfl
  | succ k ih =>
    intro n x m hkn he h0 hx hv hf
    obtain ⟨n, rfl⟩ : ∃ n', n = n' + 1 := ⟨n - 1, by omega⟩
    have hp : 0 ≤ x ∧ x < pl 2 2 := by omega
    have hc := hg.pos hp
    have hcr := pl_cell hc.1 hc.2.1 (by rw [← hc.2.2]; exact hp)
    have hgo : ∀ m1, vW m1 a = begP pl S t (x + 1) → Fr (fun b _ => b = a + 1 ∨ b = a + 6 ∨ b = 11) m m1 → Rn (lpF bo (pW_begin_L97b N a t kk) n (x + 1) m1) Q := by
      intro m1 hv1 hf1
      exact ih n (x + 1) m1 (by omega) (he.fr hf1 (fun b j q => by unfold plc at q; omega)) (by omega) (by omega) hv1 (hf.trans hf1)
    show Rn (pW_begin_L97b N a t kk (lpF bo (pW_begin_L97b N a t kk) n) x m) Q
    generalize lpF bo (pW_begin_L97b N a t kk) n = self at hgo ⊢
    unfold pW_begin_L97b
    have hw := hs.1 x hp.1 hp.2
    have h9 := hs.2.2.1
    have hfb := fallS_big hg hp (d := S 1 x) (y := S 0 0) (by omega) (by omega)
    have hfn := fallS_nn pl x (S 1 x) (S 0 0)
    have w1 : m (a + 1) x = S 1 x := by
      rw [← vW_in (m := m) (a := a) (k := 1) (j := x) (by omega), hv]
      unfold begP
      rw [if_neg (by omega), if_neg (by omega), if_pos (by omega), if_neg (by omega)]
    have w9 : m a 9 = S 0 0 := by
      rw [← vW_9 m a, hv]
      unfold begP
      rw [if_pos ⟨rfl, rfl⟩]
    refine rn_t (by rw [he.d]; omega) ?_
    refine rn_e (e_face hg he ha hp) ?_
    have f5 := fc5_fr m a x 0 pl
    have he5 : PE pl (fc5 m a x 0 pl) := he.fr f5 (fun b j q => by unfold plc at q; omega)
    obtain ⟨r, hr, hr0⟩ := e_told' (fc5 m a x 0 pl) 9
    rw [he5 9 2 (by unfold plc; omega)] at hr0
    refine rn_e hr ?_
    have q9 : ∀ v, 0 ≤ v → v < 4 → fc5 m a x 0 pl (a + 6) v = fx (x % pl 2 0) (x / pl 2 0) (S 1 x) (S 0 0) 0 0 0 v := by
      intro v h0 h7
      rw [fc5_row, w1, w9]
      unfold fx
      rcases (show v = 0 ∨ v = 1 ∨ v = 2 ∨ v = 3 by omega) with rfl | rfl | rfl | rfl <;> rfl
    refine rn_b2 (P := fun y n => max 0 y = fallS pl x (S 1 x) (S 0 0) ∧ Fr (fun b _ => b = a + 6 ∨ b = 11) m n) ?_ (fun y n hy => ?_)
    · rcases hr0 with ⟨rfl, ht⟩ | ⟨rfl, ht⟩
      · refine rn_f (by decide) ?_
        refine rn_b2 (P := fun y n => y = sv pl 0 (fx (x % pl 2 0) (x / pl 2 0) (S 1 x) (S 0 0) 0 0 0) 5 ∧ big y ∧ Fr (fun b _ => b = 9 + 2) (fc5 m a x 0 pl) n) (u_val (w := 0) rfl hN hg he5 ha (by omega) (fun v h0 h7 => q9 v h0 (by unfold bnd at h7; simpa using h7)) (fun v _ _ => fx_big (by omega) (by omega) (by omega) (by omega) (by omega) (by omega) (by omega) v) ht) (fun y n hy => ?_)
        refine rn_s ⟨?_, fun b j hb => ?_⟩
        · show max 0 y = _
          rw [hy.1]
          rfl
        · show n b j = _
          rw [hy.2.2 b j (by omega)]
          exact f5 b j (fun q => hb (Or.inl q))
      · refine rn_t rfl ?_
        refine rn_s ⟨?_, f5.mono (fun b j q => Or.inl q)⟩
        unfold fallS
        rw [sv_f (su := 9) rfl ht]
    · obtain ⟨hy1, hyf⟩ := hy
      dsimp only
      have k1 : n (a + 1) x = S 1 x := (hyf _ _ (by omega)).trans w1
      rw [k1, hy1]
      have hm : 0 ≤ fallS pl x (S 1 x) (S 0 0) * t ∧ fallS pl x (S 1 x) (S 0 0) * t ≤ 2000000 := by rcases ht with rfl | rfl <;> omega
      rw [w32_eq (x := fallS pl x (S 1 x) (S 0 0) * t) (by omega) (by omega), w32_eq (x := S 1 x + fallS pl x (S 1 x) (S 0 0) * t) (by omega) (by omega)]
      refine rn_t (by omega) ?_
      refine rn_t (by omega) ?_
      refine rn_v ?_
      refine rn_v ?_
      rw [w32_eq (by omega) (by omega)]
      refine hgo _ ?_ ?_
      · rw [vW_set (by omega), show vW n a = vW m a from vW_fr (fun b j h1 h2 _ => hyf b j (by omega)), hv]
        exact begP_next (by omega)
      · exact (hyf.mono (fun b j q => by omega)).set (by omega)
theorem c_zero_L {N : Nat} {Q : Mem → Prop} {kk : Mem → Option Mem} {bo : Int → Mem → Option Mem} {m0 : Mem} {a t : Int} (hk : ∀ m', (∀ b j, m' b j = if b = a + 5 ∧ 0 ≤ j ∧ j < 6 then 0 else m0 b j) → Rn (kk m') Q) :
    ∀ (k n : Nat) (x : Int) (m : Mem), k < n → 0 ≤ x → x + k = 6 → (∀ b j, m b j = if b = a + 5 ∧ 0 ≤ j ∧ j < x then 0 else m0 b j) → Rn (lpF bo (pW_begin_L76b N a t kk) n x m) Q := by
  intro k
  induction k with
  | zero =>
    intro n x m hkn h0 hx hm
    obtain ⟨n, rfl⟩ : ∃ n', n = n' + 1 := ⟨n - 1, by omega⟩
    show Rn (pW_begin_L76b N a t kk (lpF bo (pW_begin_L76b N a t kk) n) x m) Q
    generalize lpF bo (pW_begin_L76b N a t kk) n = self
    unfold pW_begin_L76b
    refine rn_f (by omega) ?_
    refine hk m ?_
    rw [show (6 : Int) = x by omega]
    exact hm
  | succ k ih =>
    intro n x m hkn h0 hx hm
    obtain ⟨n, rfl⟩ : ∃ n', n = n' + 1 := ⟨n - 1, by omega⟩
    have h := ih n (x + 1) (mset m (a + 5) x 0) (by omega) (by omega) (by omega) (fun b j => by
      unfold mset
      by_cases q : b = a + 5 ∧ j = x
      · rw [if_pos q, if_pos (by omega)]
      · rw [if_neg q, hm b j]
        by_cases q2 : b = a + 5 ∧ 0 ≤ j ∧ j < x
        · rw [if_pos q2, if_pos (by omega)]
        · rw [if_neg q2, if_neg (by omega)])
    show Rn (pW_begin_L76b N a t kk (lpF bo (pW_begin_L76b N a t kk) n) x m) Q
    generalize lpF bo (pW_begin_L76b N a t kk) n = self at h ⊢
    unfold pW_begin_L76b
    refine rn_t (by omega) ?_
    refine rn_t (by omega) ?_
    refine rn_v ?_
    refine rn_v ?_
    rw [w32_eq (by omega) (by omega)]
    exact h
def FB (a : Int) : Int → Int → Prop := fun b j => (a ≤ b ∧ b ≤ a + 6 ∧ (b = a → j = 7 ∨ j = 9)) ∨ b = 11
theorem c_beg {N : Nat} {pl m : Mem} {a s t : Int} (hN : 2000 ≤ N) (hg : PG pl) (he : PE pl m) (ha : 194 ≤ a) (hsa : s + 7 ≤ a ∨ a + 7 ≤ s) (hs : SB pl (vS m s)) (ht : t = 1 ∨ t = 2) : Rn (pW_begin N m a s t) (fun m' => vW m' a = begS pl (vS m s) t ∧ Fr (FB a) m m') := by
  have hn := hg.num
  unfold pW_begin
  refine rn_v (rn_v (rn_v (rn_v (rn_v (rn_l (fun m1 hm1 => ?_))))))
  have f1 : Fr (FB a) m m1 := by
    rw [hm1]
    have h : ∀ k, 1 ≤ k → k ≤ 6 → ∀ j, FB a (a + k) j := fun k h1 h2 j => by unfold FB; omega
    exact (((((Fr.rfl'.set (by unfold FB; omega)).set (by unfold FB; omega)).cpy (fun j _ _ => h _ (by omega) (by omega) j)).cpy (fun j _ _ => h _ (by omega) (by omega) j)).cpy (fun j _ _ => h _ (by omega) (by omega) j)).cpy (fun j _ _ => h _ (by omega) (by omega) j)
  have g9 : m1 a 9 = vS m s 0 0 := by
    rw [hm1]
    simp (disch := omega) only [mcpy_o, mset_o, mset_s]
    rfl
  have g7 : m1 a 7 = 63 := by
    rw [hm1]
    simp (disch := omega) only [mcpy_o, mset_o, mset_s]
  have g1 : ∀ j, 0 ≤ j ∧ j < 64 → m1 (a + 1) j = vS m s 1 j := fun j hj => by
    rw [hm1, vS_in (by omega)]
    simp (disch := omega) only [mcpy_o, mcpy_i, mset_o]
    congr 1; omega
  have g2 : ∀ j, 0 ≤ j ∧ j < 6 → m1 (a + 2) j = vS m s 3 j := fun j hj => by
    rw [hm1, vS_in (by omega)]
    simp (disch := omega) only [mcpy_o, mcpy_i, mset_o]
    congr 1; omega
  have g3 : ∀ j, 0 ≤ j ∧ j < 6 → m1 (a + 3) j = vS m s 4 j := fun j hj => by
    rw [hm1, vS_in (by omega)]
    simp (disch := omega) only [mcpy_o, mcpy_i, mset_o]
    congr 1; omega
  have g4 : ∀ j, 0 ≤ j ∧ j < 6 → m1 (a + 4) j = vS m s 2 j := fun j hj => by
    rw [hm1, vS_in (by omega)]
    simp (disch := omega) only [mcpy_o, mcpy_i, mset_o]
    congr 1; omega
  clear hm1
  unfold pW_begin_L76
  refine c_zero_L (m0 := m1) (fun m2 hm2 => ?_) 6 N 0 m1 (by omega) (by omega) (by omega) (fun b j => by rw [if_neg (by omega)])
  have f2 : Fr (FB a) m1 m2 := fun b j q => by rw [hm2, if_neg (by intro c; exact q (by unfold FB; omega))]
  have he2 : PE pl m2 := (he.fr f1 (fun b j q => by unfold plc at q; unfold FB; omega)).fr f2 (fun b j q => by unfold plc at q; unfold FB; omega)
  unfold pW_begin_L97
  refine c_beg_L (m0 := m2) (S := vS m s) hN hg ha ht hs (fun m' hv hf => rn_s ⟨hv, (f1.trans f2).trans (hf.mono (fun b j q => by unfold FB; omega))⟩) (pl 2 2).toNat N 0 m2 (by omega) he2 (by omega) (by omega) ?_ Fr.rfl'
  refine vW_ext (fun k j q q2 => ?_) (fun k j q => ?_) ?_ ?_
  · unfold begP
    simp (disch := omega) only [if_neg]
  · rw [hm2]
    rcases (show k = 1 ∨ k = 2 ∨ k = 3 ∨ k = 4 ∨ k = 5 by omega) with rfl | rfl | rfl | rfl | rfl
    · rw [if_neg (by omega), g1 j (by omega)]
      unfold begP
      simp (disch := omega) only [if_neg, if_pos, true_and]
    · rw [if_neg (by omega), g2 j (by omega)]
      unfold begP
      simp (disch := omega) only [if_neg, if_pos, true_and]
    · rw [if_neg (by omega), g3 j (by omega)]
      unfold begP
      simp (disch := omega) only [if_neg, if_pos, true_and]
    · rw [if_neg (by omega), g4 j (by omega)]
      unfold begP
      simp (disch := omega) only [if_neg, if_pos, true_and]
    · rw [if_pos (by omega)]
      unfold begP
      simp (disch := omega) only [if_neg]
  · rw [hm2, if_neg (by omega), g7]
    rfl
  · rw [hm2, if_neg (by omega), g9]
    rfl
