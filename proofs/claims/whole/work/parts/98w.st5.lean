/-! VALLEY: statements side by side, step by step -/
def SQt (t : Mem) (RT : Int → Mem → Prop) (ib k0 : Int) (mc0 : Mem) (pre : Mem → Mem → Prop) (rf : Mem → Option Mem) (r : Int × Mem) : Prop := Fr FCv mc0 r.2 ∧ ((r.1 = 1 ∧ ∃ k', k0 ≤ k' ∧ CKt t r.2 k' ∧ ∀ mr0 mr, pre mr0 mr → Rn (rf mr) (fun mr' => RDY RT ib k' r.2 mr' ∧ Fr (FV ib) mr0 mr')) ∨ (r.1 = 0 ∧ 1 ≤ r.2 18 1 ∧ ∀ mr0 mr, pre mr0 mr → Rn (rf mr) (fun mr' => mr' 475 8 = r.2 18 1 ∧ mr' 475 9 = r.2 18 2 ∧ Fr (FV ib) mr0 mr')))
def DDk (ib : Int) (G : Mem → Option Mem) : Prop := ∀ m, 0 < m 475 8 → m 475 29 = ib → Rn (G m) (fun m' => m' 475 8 = m 475 8 ∧ m' 475 9 = m 475 9 ∧ Fr (FV ib) m m')
def LVf (RT : Int → Mem → Prop) (ib k : Int) (pre : Mem → Mem → Prop) : Prop := ∀ mr0 mr, pre mr0 mr → LVr RT k mr ∧ Fr (FV ib) mr0 mr ∧ mr 475 29 = ib
def nxP (RT : Int → Mem → Prop) (k : Int) (pre : Mem → Mem → Prop) : Mem → Mem → Prop := fun mr0 m' => ∃ mr, pre mr0 mr ∧ Fr FRa mr m' ∧ LVr RT k m'
theorem SQt.stm {t : Mem} {RT : Int → Mem → Prop} {ib k : Int} {mc : Mem} {rf : Mem → Option Mem} {r : Int × Mem} (h : SQt t RT ib k mc (fun a b => b = a ∧ RDY RT ib k mc a) rf r) : STM t RT ib k mc rf r := by
  obtain ⟨f, h⟩ := h
  refine ⟨f, ?_⟩
  rcases h with ⟨a, k', b, c, d⟩ | ⟨a, b, c⟩
  · exact Or.inl ⟨a, k', b, c, fun mr hr => d mr mr ⟨rfl, hr⟩⟩
  · exact Or.inr ⟨a, b, fun mr hr => c mr mr ⟨rfl, hr⟩⟩
theorem nxP_LVf {RT : Int → Mem → Prop} {ib k k' : Int} {pre : Mem → Mem → Prop} (h : LVf RT ib k pre) : LVf RT ib k' (nxP RT k' pre) := by
  intro mr0 m' hp
  obtain ⟨mr, h1, h2, h3⟩ := hp
  obtain ⟨-, f, e⟩ := h mr0 mr h1
  exact ⟨h3, f.trans (h2.mono (fun b j c => FV_a c)), (h2 475 29 (by unfold FRa; omega)).trans e⟩
def FCw : Int → Int → Prop := fun b _ => 19 ≤ b ∧ b ≤ 34
/-- a fault of both -/
theorem SQt.bad {t : Mem} {RT : Int → Mem → Prop} {ib k0 k kd pl : Int} {mc0 mc mc' : Mem} {pre : Mem → Mem → Prop} {rf : Mem → Option Mem} (hl : LVf RT ib k pre) (hf : Fr FCv mc0 mc) (hb : BADk kd pl mc mc') (hkd : 1 ≤ kd) {r : Int × Mem} (hr : r.1 = 0 ∧ Fr FCw mc' r.2) (h : ∀ mr0 mr, pre mr0 mr → Rn (rf mr) (fun mr' => mr' 475 8 = kd ∧ mr' 475 9 = pl ∧ Fr (FV ib) mr mr')) : SQt t RT ib k0 mc0 pre rf r := by
  have h1 : r.2 18 1 = kd := (hr.2 18 1 (by unfold FCw; omega)).trans hb.1
  have h2 : r.2 18 2 = pl := (hr.2 18 2 (by unfold FCw; omega)).trans hb.2.1
  refine ⟨(hf.trans (hb.2.2.mono (fun b j c => FCv_k c))).trans (hr.2.mono (fun b j c => Or.inr c)), Or.inr ⟨hr.1, ?_, fun mr0 mr hp => ?_⟩⟩
  · rw [h1]; exact hkd
  · refine rn_q (h mr0 mr hp) (fun m' hm => ⟨hm.1.trans h1.symm, hm.2.1.trans h2.symm, (hl mr0 mr hp).2.1.trans hm.2.2⟩)
theorem BADr.dd {ib kd pl : Int} {m m1 : Mem} {G : Mem → Option Mem} (hg : DDk ib G) (hb : BADr kd pl m m1) (hkd : 1 ≤ kd) (h29 : m 475 29 = ib) : Rn (G m1) (fun mr' => mr' 475 8 = kd ∧ mr' 475 9 = pl ∧ Fr (FV ib) m mr') := by
  refine rn_q (hg m1 (by rw [hb.1]; omega) ((hb.2.2 475 29 (by unfold FRb; omega)).trans h29)) (fun m' hm => ⟨hm.1.trans hb.1, hm.2.1.trans hb.2.1, (hb.2.2.mono (fun b j c => FV_b c)).trans hm.2.2⟩)
theorem j_num' {N : Nat} {t mc0 mc : Mem} {RT : Int → Mem → Prop} {ib k0 k a b : Int} {pre : Mem → Mem → Prop} {F : Int × Mem → Option (Int × Mem)} {G : Int × Mem → Option Mem} (hL : LX N t RT) (hz : NXt t) (hf : Fr FCv mc0 mc) (hc : CKt t mc k) (hl : LVf RT ib k pre) (hF : ∀ m', Rn (F (0, m')) (fun r => r.1 = 0 ∧ Fr FCw m' r.2)) (hG : ∀ v, DDk ib (fun m => G (v, m)))
    (hk : t 35 k = 25 → (a ≤ t 37 k ∧ t 37 k ≤ b) → pR_lastValue (mset mc 18 7 (k + 1)) = some (t 37 k) → CKt t (mset mc 18 7 (k + 1)) (k + 1) → Rn (F (1, mset mc 18 7 (k + 1))) (SQt t RT ib k0 mc0 (nxP RT (k + 1) pre) (fun m' => G (t 37 k, m')))) :
    Rn ((pR_takeNumber mc a b).bind F) (SQt t RT ib k0 mc0 pre (fun mr => (pM_number N mr a b).bind G)) := by
  refine rn_b (ck_num (a := a) (b := b) hz hc) (fun r hr => ?_)
  obtain ⟨r1, r2⟩ := r
  rcases hr with ⟨q1, q2, q3, q4, q5, q6⟩ | ⟨q1, q2, q3, q4⟩ | ⟨q1, q2, q3⟩
  · have q3' : r1 = 1 := q3
    have q4' : r2 = mset mc 18 7 (k + 1) := q4
    subst q3' q4'
    refine rn_q (hk q1 q2 q6 q5) (fun r hr => ⟨hr.1, ?_⟩)
    have up : ∀ mr0 mr, pre mr0 mr → ∀ Q, (∀ m', nxP RT (k + 1) pre mr0 m' → Rn (G (t 37 k, m')) Q) → Rn ((pM_number N mr a b).bind G) Q := by
      intro mr0 mr hp Q hQ
      refine rn_b (rk_num (a := a) (b := b) hL hz.2 hc.1 (hl mr0 mr hp).1) (fun s hs => ?_)
      obtain ⟨s1, s2⟩ := s
      rcases hs with ⟨-, -, e, l, f⟩ | ⟨-, c, -⟩ | ⟨c, -⟩
      · have e' : s1 = t 37 k := e
        rw [e']
        exact hQ s2 ⟨mr, hp, f, l⟩
      · exact absurd q2 c
      · exact absurd q1 c
    rcases hr.2 with ⟨a1, k', b1, c1, d1⟩ | ⟨a1, b1, c1⟩
    · exact Or.inl ⟨a1, k', b1, c1, fun mr0 mr hp => up mr0 mr hp _ (fun m' hm => d1 mr0 m' hm)⟩
    · exact Or.inr ⟨a1, b1, fun mr0 mr hp => up mr0 mr hp _ (fun m' hm => c1 mr0 m' hm)⟩
  · have q3' : r1 = 0 := q3
    subst q3'
    refine rn_q (hF r2) (fun r hr => SQt.bad hl hf q4 (by decide) hr (fun mr0 mr hp => ?_))
    refine rn_b (rk_num (a := a) (b := b) hL hz.2 hc.1 (hl mr0 mr hp).1) (fun s hs => ?_)
    obtain ⟨s1, s2⟩ := s
    rcases hs with ⟨-, c, -⟩ | ⟨-, -, e⟩ | ⟨c, -⟩
    · exact absurd c q2
    · exact BADr.dd (hG s1) e (by decide) (hl mr0 mr hp).2.2
    · exact absurd q1 c
  · have q2' : r1 = 0 := q2
    subst q2'
    refine rn_q (hF r2) (fun r hr => SQt.bad hl hf q3 (by decide) hr (fun mr0 mr hp => ?_))
    refine rn_b (rk_num (a := a) (b := b) hL hz.2 hc.1 (hl mr0 mr hp).1) (fun s hs => ?_)
    obtain ⟨s1, s2⟩ := s
    rcases hs with ⟨c, -⟩ | ⟨c, -⟩ | ⟨-, e⟩
    · exact absurd c q1
    · exact absurd c q1
    · exact BADr.dd (hG s1) e (by decide) (hl mr0 mr hp).2.2
theorem j_num {N : Nat} {t mc0 mc : Mem} {RT : Int → Mem → Prop} {ib k0 k a b : Int} {pre : Mem → Mem → Prop} {F : Int × Mem → Option (Int × Mem)} {G : Int × Mem → Option Mem} (hL : LX N t RT) (hz : NXt t) (hf : Fr FCv mc0 mc) (hc : CKt t mc k) (hl : LVf RT ib k pre) (hF : ∀ m', F (0, m') = some (0, m')) (hG : ∀ v, DDk ib (fun m => G (v, m)))
    (hk : t 35 k = 25 → (a ≤ t 37 k ∧ t 37 k ≤ b) → pR_lastValue (mset mc 18 7 (k + 1)) = some (t 37 k) → CKt t (mset mc 18 7 (k + 1)) (k + 1) → Rn (F (1, mset mc 18 7 (k + 1))) (SQt t RT ib k0 mc0 (nxP RT (k + 1) pre) (fun m' => G (t 37 k, m')))) :
    Rn ((pR_takeNumber mc a b).bind F) (SQt t RT ib k0 mc0 pre (fun mr => (pM_number N mr a b).bind G)) := j_num' hL hz hf hc hl (fun m' => by rw [hF]; exact rn_s ⟨rfl, Fr.rfl'⟩) hG hk
theorem j_word {N : Nat} {t mc0 mc : Mem} {RT : Int → Mem → Prop} {ib k0 k w : Int} {pre : Mem → Mem → Prop} {F : Int × Mem → Option (Int × Mem)} {G : Mem → Option Mem} (i : Nat) (hi : i < 24) (hw : w = ownW i) (hL : LX N t RT) (hz : NXt t) (hf : Fr FCv mc0 mc) (hc : CKt t mc k) (hl : LVf RT ib k pre) (hF : ∀ m', F (0, m') = some (0, m')) (hG : DDk ib G)
    (hk : t 35 k = i → CKt t (mset mc 18 7 (k + 1)) (k + 1) → Rn (F (1, mset mc 18 7 (k + 1))) (SQt t RT ib k0 mc0 (nxP RT (k + 1) pre) G)) :
    Rn ((pR_take mc i).bind F) (SQt t RT ib k0 mc0 pre (fun mr => (pM_must_ N mr w).bind G)) := by
  refine rn_b (ck_take (x := (i : Int)) hz hc (by omega)) (fun r hr => ?_)
  obtain ⟨r1, r2⟩ := r
  rcases hr with ⟨q1, q3, q4, q5⟩ | ⟨q1, q2, q3⟩
  · have q3' : r1 = 1 := q3
    have q4' : r2 = mset mc 18 7 (k + 1) := q4
    subst q3' q4'
    refine rn_q (hk q1 q5) (fun r hr => ⟨hr.1, ?_⟩)
    have up : ∀ mr0 mr, pre mr0 mr → ∀ Q, (∀ m', nxP RT (k + 1) pre mr0 m' → Rn (G m') Q) → Rn ((pM_must_ N mr w).bind G) Q := by
      intro mr0 mr hp Q hQ
      refine rn_b (rk_word i hL hz.2 hc.1 hi hw (hl mr0 mr hp).1) (fun s hs => ?_)
      rcases hs with ⟨-, l, f⟩ | ⟨c, -⟩
      · exact hQ s ⟨mr, hp, f, l⟩
      · exact absurd q1 c
    rcases hr.2 with ⟨a1, k', b1, c1, d1⟩ | ⟨a1, b1, c1⟩
    · exact Or.inl ⟨a1, k', b1, c1, fun mr0 mr hp => up mr0 mr hp _ (fun m' hm => d1 mr0 m' hm)⟩
    · exact Or.inr ⟨a1, b1, fun mr0 mr hp => up mr0 mr hp _ (fun m' hm => c1 mr0 m' hm)⟩
  · have q2' : r1 = 0 := q2
    subst q2'
    rw [hF]
    refine rn_s (SQt.bad hl hf q3 (by decide) ⟨rfl, Fr.rfl'⟩ (fun mr0 mr hp => ?_))
    refine rn_b (rk_word i hL hz.2 hc.1 hi hw (hl mr0 mr hp).1) (fun s hs => ?_)
    rcases hs with ⟨c, -⟩ | ⟨-, e⟩
    · exact absurd c q1
    · exact BADr.dd hG e (by decide) (hl mr0 mr hp).2.2
