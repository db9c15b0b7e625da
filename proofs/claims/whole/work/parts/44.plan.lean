/-! A DAY: what is asked of the plan (component's cells 2 .. 17) -/
theorem evs_congr {D : Nat} {f g : Int → Int} : ∀ (L : List (Int × Int)) (st : List Int), (∀ c ∈ L, c.1 = 1 → f c.2 = g c.2) → evs D f L st = evs D g L st
  | [], _, _ => rfl
  | c :: L, st, h => by
    have h1 : st1 D f c.1 c.2 st = st1 D g c.1 c.2 st := by
      unfold st1
      by_cases q : c.1 = 1
      · rw [h c List.mem_cons_self q]
      · simp only [q, if_false]
    show (st1 D f c.1 c.2 st).bind (evs D f L) = (st1 D g c.1 c.2 st).bind (evs D g L)
    rw [h1]
    cases st1 D g c.1 c.2 st with
    | none => rfl
    | some s => exact evs_congr L s (fun c hc => h c (List.mem_cons_of_mem _ hc))
def codeOf (m : Mem) (w : Int) : List (Int × Int) := (List.range (m (9 + 3 * w) 2).toNat).map (fun j : Nat => (a32 (m (10 + 3 * w) (j : Int)) 15, shr32 (m (10 + 3 * w) (j : Int)) 4))
def bnd (w : Int) : Int := if w = 0 then 4 else if w = 1 then 5 else 7
def goodL (w : Int) (L : List (Int × Int)) : Prop := (∀ c ∈ L, c.1 = 1 → 0 ≤ c.2 ∧ c.2 < bnd w) ∧ ∀ fc : Int → Int, (∀ v, 0 ≤ v → v < 7 → big (fc v)) → ∃ v, big v ∧ evs 64 fc L [] = some [v]
def vl (L : List (Int × Int)) (fc : Int → Int) : Int := match evs 64 fc L [] with | some (v :: _) => v | _ => 0
def sv (m : Mem) (w : Int) (fc : Int → Int) (d : Int) : Int := if 0 < m (9 + 3 * w) 2 then vl (codeOf m w) fc else d
def fx (c r d y h v e : Int) : Int → Int := fun k => if k = 0 then c else if k = 1 then r else if k = 2 then d else if k = 3 then y else if k = 4 then h else if k = 5 then v else e
def PG (m : Mem) : Prop := ((m 2 0 = 0 ∧ m 2 1 = 0 ∧ m 2 3 = 0) ∨ ((2 ≤ m 2 0 ∧ m 2 0 ≤ 8) ∧ (2 ≤ m 2 1 ∧ m 2 1 ≤ 8))) ∧ m 2 2 = m 2 0 * m 2 1 ∧ (0 ≤ m 2 3 ∧ m 2 3 ≤ 6) ∧ (0 ≤ m 2 4 ∧ m 2 4 ≤ 100) ∧ ∀ w, 0 ≤ w → w < 3 → (0 ≤ m (9 + 3 * w) 2 ∧ m (9 + 3 * w) 2 ≤ 1600) ∧ (0 < m (9 + 3 * w) 2 → goodL w (codeOf m w))
def plc (b : Int) : Prop := b = 2 ∨ b = 4 ∨ b = 8 ∨ b = 9 ∨ b = 10 ∨ b = 12 ∨ b = 13 ∨ b = 15 ∨ b = 16
def PE (pl m : Mem) : Prop := ∀ b j, plc b → m b j = pl b j
theorem PE.fr {S : Int → Int → Prop} {pl m m' : Mem} (h : PE pl m) (f : Fr S m m') (hs : ∀ b j, plc b → ¬ S b j) : PE pl m' := fun b j q => (f b j (hs b j q)).trans (h b j q)
theorem plc_w {w : Int} (h : 0 ≤ w ∧ w < 3) : plc (9 + 3 * w) ∧ plc (10 + 3 * w) := by unfold plc; omega
theorem PE.sv {pl m : Mem} (h : PE pl m) {w : Int} (hw : 0 ≤ w ∧ w < 3) : m (9 + 3 * w) 2 = pl (9 + 3 * w) 2 ∧ codeOf m w = codeOf pl w := by
  have h1 := h (9 + 3 * w) 2 (plc_w hw).1
  refine ⟨h1, ?_⟩
  unfold codeOf
  rw [h1]
  refine List.map_congr_left (fun j _ => ?_)
  rw [h (10 + 3 * w) j (plc_w hw).2]
theorem PE.d {pl m : Mem} (h : PE pl m) (j : Int) : m 2 j = pl 2 j := h 2 j (Or.inl rfl)
/-- the numbers of a plan -/
theorem PG.num {m : Mem} (h : PG m) : (0 ≤ m 2 0 ∧ m 2 0 ≤ 8) ∧ (0 ≤ m 2 1 ∧ m 2 1 ≤ 8) ∧ (0 ≤ m 2 2 ∧ m 2 2 ≤ 64) ∧ (0 ≤ m 2 3 ∧ m 2 3 ≤ 6) := by
  obtain ⟨h1, h2, h3, -⟩ := h
  generalize m 2 0 = C at *
  generalize m 2 1 = R at *
  generalize m 2 2 = n at *
  rcases h1 with h1 | ⟨h1, h4⟩
  · obtain ⟨rfl, rfl, h5⟩ := h1
    simp at h2
    omega
  · rcases (show C = 2 ∨ C = 3 ∨ C = 4 ∨ C = 5 ∨ C = 6 ∨ C = 7 ∨ C = 8 by omega) with rfl | rfl | rfl | rfl | rfl | rfl | rfl <;> omega
theorem PG.pos {m : Mem} (h : PG m) {p : Int} (hp : 0 ≤ p ∧ p < m 2 2) : (2 ≤ m 2 0 ∧ m 2 0 ≤ 8) ∧ (2 ≤ m 2 1 ∧ m 2 1 ≤ 8) ∧ m 2 2 = m 2 0 * m 2 1 := by
  obtain ⟨h1, h2, h3, -⟩ := h
  rcases h1 with h1 | h1
  · rw [h1.1, h1.2.1] at h2
    simp at h2
    omega
  · exact ⟨h1.1, h1.2, h2⟩
/-- a CELL's column and row -/
theorem pl_cell {C R p : Int} (hC : 2 ≤ C ∧ C ≤ 8) (hR : 2 ≤ R ∧ R ≤ 8) (hp : 0 ≤ p ∧ p < C * R) : (0 ≤ p % C ∧ p % C < C) ∧ (0 ≤ p / C ∧ p / C < R) ∧ p = p / C * C + p % C := by
  rcases (show C = 2 ∨ C = 3 ∨ C = 4 ∨ C = 5 ∨ C = 6 ∨ C = 7 ∨ C = 8 by omega) with rfl | rfl | rfl | rfl | rfl | rfl | rfl <;> omega
theorem e_col {m : Mem} {p : Int} (hC : 1 ≤ m 2 0 ∧ m 2 0 ≤ 8) (hp : 0 ≤ p ∧ p < 1000) : pP_columnOf m 2 p = some (p % m 2 0) := by
  unfold pP_columnOf
  rw [if_neg (by omega), if_pos (by omega), r32_eq (by omega) (by omega) (by omega) (by omega)]
theorem e_row {m : Mem} {p : Int} (hC : 1 ≤ m 2 0 ∧ m 2 0 ≤ 8) (hp : 0 ≤ p ∧ p < 1000) : pP_rowOf m 2 p = some (p / m 2 0) := by
  unfold pP_rowOf
  rw [if_neg (by omega), if_pos (by omega), d32_eq (by omega) (by omega) (by omega) (by omega)]
theorem e_told (m : Mem) (a : Int) : pU_isTold m a = some (if 0 < m a 2 then 1 else 0) := by
  unfold pU_isTold
  split <;> rfl
/-- the facts' cell behind face -/
def fc5 (m : Mem) (a p h : Int) (pl : Mem) : Mem := mset (mset (mset (mset (mset m (a + 6) 0 (p % pl 2 0)) (a + 6) 1 (p / pl 2 0)) (a + 6) 2 (m (a + 1) p)) (a + 6) 3 (m a 9)) (a + 6) 4 h
theorem e_face {pl m : Mem} {a p h : Int} (hg : PG pl) (he : PE pl m) (ha : 194 ≤ a) (hp : 0 ≤ p ∧ p < pl 2 2) : pW_face m a p h = some (fc5 m a p h pl) := by
  have hn := hg.num
  have hc := hg.pos hp
  have h0 := he.d 0
  unfold pW_face fc5
  rw [e_col (by rw [h0]; omega) (by omega), h0]
  show (pP_rowOf (mset m (a + 6) 0 (p % pl 2 0)) 2 p).bind _ = _
  rw [e_row (by rw [mset_o (by omega), h0]; omega) (by omega), mset_o (by omega), h0]
  simp (disch := omega) only [Option.bind_some, if_pos, mset_o]
theorem StpOk_of (row : Int → Int) : ∀ (n : Nat) (i : Int), StpOk row i ((List.range n).map (fun j : Nat => (a32 (row (i + (j : Int))) 15, shr32 (row (i + (j : Int))) 4)))
  | 0, _ => trivial
  | n + 1, i => by
    rw [List.range_succ_eq_map, List.map_cons, List.map_map]
    refine ⟨⟨by simp, by simp⟩, ?_⟩
    have h := StpOk_of row n (i + 1)
    have e : (List.range n).map (fun j : Nat => (a32 (row (i + 1 + (j : Int))) 15, shr32 (row (i + 1 + (j : Int))) 4)) = (List.range n).map ((fun j : Nat => (a32 (row (i + (j : Int))) 15, shr32 (row (i + (j : Int))) 4)) ∘ Nat.succ) := by
      refine List.map_congr_left (fun j _ => ?_)
      show _ = (a32 (row (i + ((j + 1 : Nat) : Int))) 15, shr32 (row (i + ((j + 1 : Nat) : Int))) 4)
      have e2 : i + ((j + 1 : Nat) : Int) = i + 1 + (j : Int) := by omega
      rw [e2]
    rw [← e]
    exact h
theorem codeOf_ok (m : Mem) (w : Int) : StpOk (m (10 + 3 * w)) 0 (codeOf m w) := by
  have h := StpOk_of (m (10 + 3 * w)) (m (9 + 3 * w) 2).toNat 0
  simpa [codeOf] using h
theorem codeOf_len (m : Mem) (w : Int) : (codeOf m w).length = (m (9 + 3 * w) 2).toNat := by simp [codeOf]
theorem vl_of {L : List (Int × Int)} {fc : Int → Int} {v : Int} (h : evs 64 fc L [] = some [v]) : vl L fc = v := by unfold vl; rw [h]
/-- the value that the component takes of a law that is told -/
theorem sv_t {pl : Mem} {w d su : Int} {fc : Int → Int} (hsu : su = 9 + 3 * w) (h : 0 < pl su 2) : sv pl w fc d = vl (codeOf pl w) fc := by
  unfold sv
  rw [← hsu, if_pos h]
theorem sv_f {pl : Mem} {w d su : Int} {fc : Int → Int} (hsu : su = 9 + 3 * w) (h : ¬ 0 < pl su 2) : sv pl w fc d = d := by
  unfold sv
  rw [← hsu, if_neg h]
theorem bnd_le (w : Int) : bnd w ≤ 7 := by unfold bnd; split; omega; split <;> omega
theorem u_val {N : Nat} {pl m : Mem} {a w d su : Int} {fc : Int → Int} (hsu : su = 9 + 3 * w) (hN : 2000 ≤ N) (hg : PG pl) (he : PE pl m) (ha : 194 ≤ a) (hw : 0 ≤ w ∧ w < 3) (hfc : ∀ v, 0 ≤ v → v < bnd w → m (a + 6) v = fc v) (hfb : ∀ v, 0 ≤ v → v < 7 → big (fc v)) (ht : 0 < pl su 2) : Rn (pU_value N m su (a + 6)) (fun p => p.1 = sv pl w fc d ∧ big p.1 ∧ Fr (fun b _ => b = su + 2) m p.2) := by
  have h1 := hg.2.2.2.2 w hw.1 hw.2
  rw [← hsu] at h1
  have h2 := h1.2 ht
  have h3 := he.sv hw
  rw [← hsu] at h3
  obtain ⟨v, hv, hev⟩ := h2.2 fc hfb
  have hcl := codeOf_len m w
  rw [← hsu] at hcl
  have e1 : su + 1 = 10 + 3 * w := by omega
  have hb := bnd_le w
  have h := u_value (N := N) (μ := m) (a0 := su) (a1 := a + 6) (fc := fc) (L := codeOf m w) (v := v) (B := bnd w) (by rw [hcl, h3.1]; omega) (by omega) hfc (fun v h0 h7 => hfb v h0 (by omega)) (by rw [h3.2]; exact fun c hc q => (h2.1 c hc q).2) (by rw [hcl, h3.1]; omega) (by rw [hcl, h3.1]; omega) (by rw [e1]; exact codeOf_ok m w) (by rw [h3.2]; exact hev)
  refine rn_q h (fun p hp => ?_)
  rw [sv_t hsu ht, vl_of hev]
  exact ⟨hp.1, by rw [hp.1]; exact hv, fun b j hb => hp.2 b j hb⟩
theorem fx_big {c r d y h v e : Int} (hc : 0 ≤ c ∧ c ≤ 100) (hr : 0 ≤ r ∧ r ≤ 100) (hd : 0 ≤ d ∧ d ≤ 100) (hy : 0 ≤ y ∧ y ≤ 1000) (hh : 0 ≤ h ∧ h ≤ 100) (hv : 0 ≤ v ∧ v ≤ 100) (he : 0 ≤ e ∧ e ≤ 100) (k : Int) : big (fx c r d y h v e k) := by
  unfold big fx
  split
  · omega
  split
  · omega
  split
  · omega
  split
  · omega
  split
  · omega
  split <;> omega
