/-! VALLEY: the reference reads a sum as the machine does -/
theorem Ends.inv {t : Mem} {C : Mc} {r : Rz4} (h : Ends t C r) : (∃ D, mstep t C = .inl D ∧ Ends t D r) ∨ mstep t C = .inr r := by
  obtain ⟨n, e⟩ := h
  cases n with
  | zero => cases (show (.inl C : Mc ⊕ Rz4) = .inr r from e)
  | succ n =>
    have e' : (match mstep t C with | .inl D => mrun t n D | .inr r => .inr r) = (.inr r : Mc ⊕ Rz4) := e
    cases hm : mstep t C with
    | inl D =>
      rw [hm] at e'
      exact Or.inl ⟨D, rfl, n, e'⟩
    | inr r' =>
      rw [hm] at e'
      exact Or.inr e'
theorem opd_tok {t : Mem} {k : Int} {c : Int × Int} (h : opd t k = some c) : t 35 k ≠ 26 ∧ t 35 k ≠ 27 := by
  refine ⟨fun q => ?_, fun q => ?_⟩
  · unfold opd at h
    rw [if_neg (by omega), if_neg (by omega), if_neg (by omega), if_neg (by omega), if_neg (by omega), if_neg (by omega), if_neg (by omega), if_neg (by omega)] at h
    cases h
  · unfold opd at h
    rw [if_neg (by omega), if_neg (by omega), if_neg (by omega), if_neg (by omega), if_neg (by omega), if_neg (by omega), if_neg (by omega), if_neg (by omega)] at h
    cases h
theorem k_step {t : Mem} {k op fl : Int} {cs : List (Int × Int)} {F : Fm} {Fs : List Fm} {D : Mc} (hw : WT t) (hk : 0 ≤ k ∧ k < t 18 6) (e : mstep t (k, op, cs, F :: Fs, fl) = .inl D) : k < D.1 ∧ D.1 < t 18 6 := by
  obtain ⟨kd, ph, bg, pr, ops⟩ := F
  have nl : ∀ j, 0 ≤ j → j < t 18 6 → t 35 j ≠ 26 → t 35 j ≠ 27 → j + 1 < t 18 6 := fun j h0 h1 h2 h3 => hw.2.1 j h0 h1 h2 h3
  by_cases q : fl = 0
  · have e' : mOpd t k op cs kd ph bg pr ops Fs = .inl D := by
      have : mstep t (k, op, cs, (kd, ph, bg, pr, ops) :: Fs, fl) = if fl = 0 then mOpd t k op cs kd ph bg pr ops Fs else mGo t k op cs kd ph bg pr ops Fs := rfl
      rw [this, if_pos q] at e
      exact e
    unfold mOpd at e'
    by_cases q1 : t 35 k = 20 ∧ bg = 1 ∧ (kd = 5 ∨ kd = 6)
    · rw [if_pos q1] at e'
      have := nl k hk.1 hk.2 (by omega) (by omega)
      by_cases q : op = 7
      · rw [if_pos q] at e'; cases e'
      · rw [if_neg q] at e'; cases e'; exact ⟨by dsimp only; omega, this⟩
    rw [if_neg q1] at e'
    by_cases q2 : t 35 k = 91 ∧ bg = 1 ∧ (kd = 5 ∨ kd = 6)
    · rw [if_pos q2] at e'
      have := nl k hk.1 hk.2 (by omega) (by omega)
      by_cases q : op = 7
      · rw [if_pos q] at e'; cases e'
      · rw [if_neg q] at e'; cases e'; exact ⟨by dsimp only; omega, this⟩
    rw [if_neg q2] at e'
    by_cases q3 : t 35 k = 21 ∧ bg = 1 ∧ (kd = 5 ∨ kd = 6)
    · rw [if_pos q3] at e'
      have := nl k hk.1 hk.2 (by omega) (by omega)
      cases e'; exact ⟨by dsimp only; omega, this⟩
    rw [if_neg q3] at e'
    by_cases q4 : t 35 k = 40
    · rw [if_pos q4] at e'
      have := nl k hk.1 hk.2 (by omega) (by omega)
      by_cases q : op = 7
      · rw [if_pos q] at e'; cases e'
      · rw [if_neg q] at e'; cases e'; exact ⟨by dsimp only; omega, this⟩
    rw [if_neg q4] at e'
    by_cases q5 : t 35 k = 22 ∨ t 35 k = 23 ∨ t 35 k = 17
    · rw [if_pos q5] at e'
      have k1 := nl k hk.1 hk.2 (by omega) (by omega)
      by_cases q6 : t 35 (k + 1) ≠ 40
      · rw [if_pos q6] at e'; cases e'
      · rw [if_neg q6] at e'
        have k2 := nl (k + 1) (by omega) k1 (by omega) (by omega)
        by_cases q : op = 7
        · rw [if_pos q] at e'; cases e'
        · rw [if_neg q] at e'; cases e'; exact ⟨by dsimp only; omega, by dsimp only; omega⟩
    rw [if_neg q5] at e'
    cases hop : opd t k with
    | none => rw [hop] at e'; cases e'
    | some c =>
      rw [hop] at e'
      have ht := opd_tok hop
      have := nl k hk.1 hk.2 ht.1 ht.2
      cases e'; exact ⟨by dsimp only; omega, this⟩
  · have e' : mGo t k op cs kd ph bg pr ops Fs = .inl D := by
      have : mstep t (k, op, cs, (kd, ph, bg, pr, ops) :: Fs, fl) = if fl = 0 then mOpd t k op cs kd ph bg pr ops Fs else mGo t k op cs kd ph bg pr ops Fs := rfl
      rw [this, if_neg q] at e
      exact e
    unfold mGo at e'
    by_cases q0 : t 35 k = 27 ∧ 2 ≤ kd
    · rw [if_pos q0] at e'; cases e'
    rw [if_neg q0] at e'
    by_cases q1 : ph < 2 ∧ (t 35 k = 43 ∨ t 35 k = 45)
    · rw [if_pos q1] at e'
      have := nl k hk.1 hk.2 (by omega) (by omega)
      cases e'; exact ⟨by dsimp only; omega, this⟩
    rw [if_neg q1] at e'
    by_cases q2 : ph < 2 ∧ (t 35 k = 42 ∨ t 35 k = 47 ∨ t 35 k = 37)
    · rw [if_pos q2] at e'
      have := nl k hk.1 hk.2 (by omega) (by omega)
      cases e'; exact ⟨by dsimp only; omega, this⟩
    rw [if_neg q2] at e'
    by_cases q3 : (kd = 5 ∨ kd = 6) ∧ ph = 0 ∧ (t 35 k = 60 ∨ t 35 k = 62 ∨ t 35 k = 61)
    · rw [if_pos q3] at e'
      have := nl k hk.1 hk.2 (by omega) (by omega)
      cases e'; exact ⟨by dsimp only; omega, this⟩
    rw [if_neg q3] at e'
    by_cases q4 : (kd = 5 ∨ kd = 6) ∧ (t 35 k = 19 ∨ t 35 k = 18)
    · rw [if_pos q4] at e'
      have := nl k hk.1 hk.2 (by omega) (by omega)
      by_cases q : ph = 0
      · rw [if_pos q] at e'; cases e'
      · rw [if_neg q] at e'; cases e'; exact ⟨by dsimp only; omega, this⟩
    rw [if_neg q4] at e'
    by_cases q5 : (kd = 5 ∨ kd = 6) ∧ ph = 0
    · rw [if_pos q5] at e'; cases e'
    rw [if_neg q5] at e'
    by_cases q6 : kd < 2
    · rw [if_pos q6] at e'; cases e'
    rw [if_neg q6] at e'
    by_cases q7 : kd = 3 ∨ kd = 6
    · rw [if_pos q7] at e'
      by_cases q8 : t 35 k = 44
      · rw [if_pos q8] at e'
        have := nl k hk.1 hk.2 (by omega) (by omega)
        cases e'; exact ⟨by dsimp only; omega, this⟩
      · rw [if_neg q8] at e'; cases e'
    rw [if_neg q7] at e'
    by_cases q8 : t 35 k = (if kd = 5 then 93 else 41)
    · rw [if_pos q8] at e'
      have := nl k hk.1 hk.2 (by rw [q8]; split <;> omega) (by rw [q8]; split <;> omega)
      cases Fs with
      | nil => cases e'
      | cons G Gs => cases e'; exact ⟨by dsimp only; omega, this⟩
    · rw [if_neg q8] at e'; cases e'
theorem e_kind {t : Mem} {k op fl : Int} {cs : List (Int × Int)} {F : Fm} {Fs : List Fm} {r : Rz4} (hfl : fl = 0) (e : mstep t (k, op, cs, F :: Fs, fl) = .inr r) : r.1 = 1 ∨ r.1 = 5 := by
  obtain ⟨kd, ph, bg, pr, ops⟩ := F
  subst hfl
  have e' : mOpd t k op cs kd ph bg pr ops Fs = .inr r := e
  unfold mOpd at e'
  by_cases q1 : t 35 k = 20 ∧ bg = 1 ∧ (kd = 5 ∨ kd = 6)
  · rw [if_pos q1] at e'
    by_cases q : op = 7
    · rw [if_pos q] at e'; cases e'; exact Or.inr rfl
    · rw [if_neg q] at e'; cases e'
  rw [if_neg q1] at e'
  by_cases q2 : t 35 k = 91 ∧ bg = 1 ∧ (kd = 5 ∨ kd = 6)
  · rw [if_pos q2] at e'
    by_cases q : op = 7
    · rw [if_pos q] at e'; cases e'; exact Or.inr rfl
    · rw [if_neg q] at e'; cases e'
  rw [if_neg q2] at e'
  by_cases q3 : t 35 k = 21 ∧ bg = 1 ∧ (kd = 5 ∨ kd = 6)
  · rw [if_pos q3] at e'; cases e'
  rw [if_neg q3] at e'
  by_cases q4 : t 35 k = 40
  · rw [if_pos q4] at e'
    by_cases q : op = 7
    · rw [if_pos q] at e'; cases e'; exact Or.inr rfl
    · rw [if_neg q] at e'; cases e'
  rw [if_neg q4] at e'
  by_cases q5 : t 35 k = 22 ∨ t 35 k = 23 ∨ t 35 k = 17
  · rw [if_pos q5] at e'
    by_cases q6 : t 35 (k + 1) ≠ 40
    · rw [if_pos q6] at e'; cases e'; exact Or.inl rfl
    · rw [if_neg q6] at e'
      by_cases q : op = 7
      · rw [if_pos q] at e'; cases e'; exact Or.inr rfl
      · rw [if_neg q] at e'; cases e'
  rw [if_neg q5] at e'
  cases hop : opd t k with
  | none => rw [hop] at e'; cases e'; exact Or.inl rfl
  | some c => rw [hop] at e'; cases e'
def RPo (t : Mem) (RT : Int → Mem → Prop) (ib f0 : Int) (res : Rz4) (m m' : Mem) : Prop := Fr (FMs ib f0) m m' ∧ (res.1 = 0 → (m' 475 8 = 0 ∧ m' 475 28 = f0 + res.2.2.1.length ∧ RcOk (m' 488) (m' 489) (1600 * ib + f0) res.2.2.1 ∧ RT res.2.2.2 m') ∨ (m' 475 8 = 1 ∧ m' 475 9 = plcT t res.2.2.2 ∧ t 35 res.2.2.2 = 27)) ∧ (res.1 ≠ 0 → m' 475 8 = res.1 ∧ m' 475 9 = res.2.1)
theorem r_rd0 {N : Nat} {m : Mem} {kk : Mem → Option Mem} {bo : Int → Mem → Option Mem} {nn : Nat} (hn : 0 < nn) : lpF bo (pM_reads_L43b N kk) nn 0 m = kk m := by
  obtain ⟨nn, rfl⟩ : ∃ n', nn = n' + 1 := ⟨nn - 1, by omega⟩
  show pM_reads_L43b N kk (lpF bo (pM_reads_L43b N kk) nn) 0 m = _
  generalize lpF bo (pM_reads_L43b N kk) nn = self
  unfold pM_reads_L43b
  rw [if_pos rfl]
theorem r_rdL {N : Nat} {t m0 : Mem} {RT : Int → Mem → Prop} {ib f0 : Int} {res : Rz4} {kk : Mem → Option Mem} {bo : Int → Mem → Option Mem} {Q : Mem → Prop} (hN : 2000 ≤ N) (hL : LX N t RT) (hw : WT t) (hib : ib = 0 ∨ ib = 1) (hres : res.1 = 0 ∨ res.1 = 1 ∨ res.1 = 5) (hkk : ∀ m', RPo t RT ib f0 res m0 m' → Rn (kk m') Q) :
    ∀ (c nn : Nat) (C : Mc) (m : Mem), t 18 6 - C.1 ≤ c → c + 1 < nn → (0 ≤ C.1 ∧ C.1 < t 18 6) → MI f0 C → MR t m ib f0 C → RT C.1 m → m 475 40 = C.2.2.2.2 → Fr (FMs ib f0) m0 m → Ends t C res → Rn (lpF bo (pM_reads_L43b N kk) nn 1 m) Q := by
  intro c
  have hz := hw.1
  induction c with
  | zero => intro nn C m hc hnn hk; omega
  | succ c ih =>
    intro nn C m hc hnn hk hmi hm hrt h40 hfr he
    obtain ⟨nn, rfl⟩ : ∃ n', nn = n' + 1 := ⟨nn - 1, by omega⟩
    have ih' := ih nn
    have z0 : ∀ m', lpF bo (pM_reads_L43b N kk) nn 0 m' = kk m' := fun m' => r_rd0 (by omega)
    show Rn (pM_reads_L43b N kk (lpF bo (pM_reads_L43b N kk) nn) 1 m) Q
    generalize lpF bo (pM_reads_L43b N kk) nn = self at ih' z0 ⊢
    have hmi' := hmi
    obtain ⟨k, op, cs, FF, fl⟩ := C
    obtain ⟨F, Fs, e1, -, -, -, -, e6, -⟩ := hmi'
    dsimp only at e1 e6 hk hc h40 hrt
    subst e1
    obtain ⟨kd, ph, bg, pr, ops⟩ := F
    unfold pM_reads_L43b
    refine rn_f (by omega) ?_
    rcases e6 with rfl | rfl
    · -- an operand
      rw [if_pos h40]
      refine rn_b (P := fun z : Int × Mem => z.1 = 1 ∧ ((∃ D, mstep t (k, op, cs, (kd, ph, bg, pr, ops) :: Fs, 0) = .inl D ∧ MR t z.2 ib f0 D ∧ RT D.1 z.2 ∧ z.2 475 40 = D.2.2.2.2) ∨ (∃ e, mstep t (k, op, cs, (kd, ph, bg, pr, ops) :: Fs, 0) = .inr e ∧ z.2 475 8 = e.1 ∧ z.2 475 9 = e.2.1)) ∧ Fr (FMs ib f0) m z.2) ?_ (fun z hz' => ?_)
      · refine rn_b (r_opd hL hw hmi hm hrt hk hib) (fun z hz' => ?_)
        obtain ⟨r56, m56⟩ := z
        obtain ⟨f1, f2, f3⟩ := hz'
        dsimp only at f1 f2 f3 ⊢
        refine rn_v (rn_s ⟨rfl, ?_, f1.set (by unfold FMs; omega)⟩)
        cases hs : mOpd t k op cs kd ph bg pr ops Fs with
        | inl D =>
          obtain ⟨g1, g2, g3⟩ := f2 D hs
          refine Or.inl ⟨D, hs, ?_, hL.2.1 _ _ _ g3 (fun b j y => mset_o (by omega)), by dsimp only; rw [mset_s rfl rfl]; exact g1⟩
          obtain ⟨Dk, Dop, Dcs, DF, Dfl⟩ := D
          exact g2.eq (fun b j y => mset_o (by omega))
        | inr e =>
          obtain ⟨g1, g2⟩ := f3 e hs
          exact Or.inr ⟨e, hs, by dsimp only; rw [mset_o (by omega)]; exact g1, by dsimp only; rw [mset_o (by omega)]; exact g2⟩
      · obtain ⟨y2, n70⟩ := z
        obtain ⟨h1, h2, h3⟩ := hz'
        dsimp only at h1 h2 h3 ⊢
        refine rn_f (by omega) ?_
        rcases h2 with ⟨D, s1, s2, s3, s4⟩ | ⟨e, s1, s2, s3⟩
        · refine rn_t s2.2.2.2.2.2.2.2.2 ?_
          have hks := k_step hw hk s1
          have he2 : Ends t D res := by
            rcases he.inv with ⟨D', d1, d2⟩ | d
            · rw [s1] at d1; cases d1; exact d2
            · rw [s1] at d; cases d
          exact ih' D n70 (by omega) (by omega) ⟨by omega, hks.2⟩ (mi_step hmi s1) s2 s3 s4 (hfr.trans h3) he2
        · have hk1 := e_kind rfl s1
          refine rn_f (by omega) ?_
          rw [z0]
          have hre : e = res := by
            rcases he.inv with ⟨D', d1, d2⟩ | d
            · rw [s1] at d1; cases d1
            · rw [s1] at d; cases d; rfl
          subst hre
          exact hkk n70 ⟨hfr.trans h3, fun y => by omega, fun _ => ⟨s2, s3⟩⟩
    · rw [if_neg (by omega)]
      refine rn_b (P := fun z : Int × Mem => GPo t RT ib f0 m (mGo t k op cs kd ph bg pr ops Fs) z) ?_ (fun z hz' => ?_)
      · refine rn_b (r_go hN hL hw hmi hm hrt hk hib h40) (fun z hz' => rn_s hz')
      · obtain ⟨y2, n70⟩ := z
        obtain ⟨f1, f2, f3⟩ := hz'
        dsimp only at f1 f2 f3 ⊢
        cases hs : mGo t k op cs kd ph bg pr ops Fs with
        | inl D =>
          obtain ⟨g1, g2, g3, g4⟩ := f2 D hs
          have s1 : mstep t (k, op, cs, (kd, ph, bg, pr, ops) :: Fs, 1) = .inl D := hs
          refine rn_f (by omega) ?_
          refine rn_t g2.2.2.2.2.2.2.2.2 ?_
          have hks := k_step hw hk s1
          have he2 : Ends t D res := by
            rcases he.inv with ⟨D', d1, d2⟩ | d
            · rw [s1] at d1; cases d1; exact d2
            · rw [s1] at d; cases d
          exact ih' D n70 (by omega) (by omega) ⟨by omega, hks.2⟩ (mi_step hmi s1) g2 g3 g4 (hfr.trans f1) he2
        | inr e =>
          obtain ⟨g1, g2⟩ := f3 e hs
          have s1 : mstep t (k, op, cs, (kd, ph, bg, pr, ops) :: Fs, 1) = .inr e := hs
          have hre : e = res := by
            rcases he.inv with ⟨D', d1, d2⟩ | d
            · rw [s1] at d1; cases d1
            · rw [s1] at d; cases d; rfl
          subst hre
          have toK : Rn (kk n70) Q := by
            by_cases q : e.1 = 0
            · refine hkk n70 ⟨hfr.trans f1, fun _ => ?_, fun y => absurd q y⟩
              rcases g1 q with ⟨u1, u2, u3, u4, u5⟩ | u
              · exact Or.inl ⟨u2, u3, u4, u5⟩
              · exact Or.inr u
            · exact hkk n70 ⟨hfr.trans f1, fun y => absurd y q, fun _ => g2 q⟩
          have h0or : y2 = 0 ∨ n70 475 8 ≠ 0 := by
            by_cases q : e.1 = 0
            · rcases g1 q with ⟨u1, -⟩ | u
              · exact Or.inl u1
              · exact Or.inr (by omega)
            · exact Or.inr (by rw [(g2 q).1]; exact q)
          by_cases qy : y2 = 0
          · refine rn_t qy ?_
            rw [z0]; exact toK
          · refine rn_f qy (rn_f (by omega) ?_)
            rw [z0]; exact toK
theorem r_reads {N : Nat} {t m : Mem} {RT : Int → Mem → Prop} {ib f0 k : Int} {res : Rz4} (hN : 4000 ≤ N) (hL : LX N t RT) (hw : WT t) (hib : ib = 0 ∨ ib = 1) (hres : res.1 = 0 ∨ res.1 = 1 ∨ res.1 = 5) (hk : 0 ≤ k ∧ k < t 18 6) (h8 : m 475 8 = 0) (h28 : m 475 28 = f0) (h29 : m 475 29 = ib) (h30 : m 475 30 = t 18 9 - 8) (hf0 : 0 ≤ f0 ∧ f0 ≤ k) (hrt : RT k m) (he : Ends t (k, 0, [], [(0, 0, 1, 0, [])], 0) res) : Rn (pM_reads N m 0) (fun m' => RPo t RT ib f0 res m m') := by
  have hz := hw.1
  unfold pM_reads
  refine rn_f (by omega) (rn_l (fun m1 hm1 => rn_l (fun m2 hm2 => rn_l (fun m3 hm3 => rn_l (fun m4 hm4 => ?_)))))
  have a36 : m4 475 36 = 0 := by rw [hm4, mset_o (by omega), hm3, mset_o (by omega), hm2, mset_o (by omega), hm1, mset_s rfl rfl]
  have a37 : m4 475 37 = 0 := by rw [hm4, mset_o (by omega), hm3, mset_o (by omega), hm2, mset_s rfl rfl]
  have a39 : m4 475 39 = 0 := by rw [hm4, mset_o (by omega), hm3, mset_s rfl rfl]
  have a40 : m4 475 40 = 0 := by rw [hm4, mset_s rfl rfl]
  have f4 : Fr (fun b j => b = 475 ∧ (j = 36 ∨ j = 37 ∨ j = 39 ∨ j = 40)) m m4 := by rw [hm4, hm3, hm2, hm1]; exact (((Fr.rfl'.set (by omega)).set (by omega)).set (by omega)).set (by omega)
  clear hm1 hm2 hm3 hm4
  rw [if_pos (show (0 : Int) = 0 from rfl)]
  refine rn_v ?_
  refine rn_b (r_push (d := 0) (n := 0) (x := 0) a36 (by omega) a39) (fun m5 h5 => ?_)
  obtain ⟨b36, b491, b492, b493, b495, f5⟩ := h5
  have F : ∀ b j : Int, ¬ (b = 475 ∧ (j = 36 ∨ j = 37 ∨ j = 39 ∨ j = 40)) → ¬ (491 ≤ b ∧ b ≤ 495) → m5 b j = m b j := fun b j z1 z2 => by rw [f5 _ _ (by omega), f4 _ _ (by omega)]
  unfold pM_reads_L43
  refine r_rdL (m0 := m) (by omega) hL hw hib hres (fun m' h => rn_s h) (t 18 6 - k).toNat N (k, 0, [], [(0, 0, 1, 0, [])], 0) m5 (by dsimp only; omega) (by omega) hk ?_ ?_ ?_ ?_ ?_ he
  · exact ⟨(0, 0, 1, 0, []), [], rfl, FI.new (fun q => by omega), Or.inl ⟨rfl, rfl⟩, trivial, fun c => absurd (show (0 : Int) = 1 from c) (by decide), Or.inl rfl, rfl, (show (0 : Int) ≤ 0 ∧ (0 : Int) ≤ 7 by decide), hf0.1, by show f0 + ((0 : Nat) : Int) + (((0 : Nat) : Int) + 0) + ((if (0 : Int) = 3 ∨ (0 : Int) = 4 ∨ (0 : Int) = 6 then 1 else 0) + 0) ≤ k; rw [if_neg (by decide)]; omega⟩
  · refine ⟨b36, ?_, ?_, ⟨⟨b491, b492, b493, fun z => absurd (show (0 : Int) = 3 ∨ (0 : Int) = 4 ∨ (0 : Int) = 6 from z) (by decide), ?_⟩, trivial, rfl⟩, ?_, ?_, trivial, ?_, ?_⟩
    · rw [f5 _ _ (by omega)]; exact a37
    · rw [f5 _ _ (by omega)]; exact a39
    · exact b495
    · rw [F _ _ (by omega) (by omega), h28]
      show f0 = f0 + ((0 : Nat) : Int)
      omega
    · rw [F _ _ (by omega) (by omega)]; exact h29
    · rw [F _ _ (by omega) (by omega)]; exact h30
    · rw [F _ _ (by omega) (by omega)]; exact h8
  · exact hL.2.1 _ _ _ hrt (fun b j z => F b j (by omega) (by omega))
  · rw [f5 _ _ (by omega)]; exact a40
  · exact (f4.mono (fun b j z => by unfold FMs; omega)).trans (f5.mono (fun b j z => by unfold FMs; omega))
