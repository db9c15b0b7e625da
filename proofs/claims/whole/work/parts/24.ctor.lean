/-! THE MAKING OF CELLS: the memory that the constructors leave (mI), what a fresh slot holds (dfl) -/
def dfl (t : Nat) (k : Int) : Int := if kd t k = 2 ∨ kd t k = 3 then -1 else 0
/-- what the constructors set beside the static references -/
def i0 (a : Int) (t : Nat) (k : Int) : Int := if t = 5 ∧ k = 2 then -1 else if t = 5 ∧ k = 10 then 26 else if t = 9 ∧ k = 7 then 63 else if t = 11 ∧ k = 5 then -1 else if t = 12 ∧ k = 14 then 1 else if t = 13 ∧ (k = 9 ∨ k = 11 ∨ k = 12 ∨ k = 62) then -1 else if t = 13 ∧ (k = 29 ∨ k = 53) then 1 else if a = 486 ∧ 0 ≤ k ∧ k < 6 then -1 else 0
def mI : Mem := fun a k => if kd (ty a) k = 2 then sl (ty a) a k else i0 a (ty a) k
def fill (μ : Mem) (lo hi : Int) : Mem := fun a k => if lo ≤ a ∧ a < hi then mI a k else μ a k
def Fresh (μ : Mem) (a0 : Int) : Prop := ∀ a k : Int, a0 ≤ a → μ a k = dfl (ty a) k
def m0 : Mem := fun a k => dfl (ty a) k
theorem fresh0 : Fresh m0 0 := fun _ _ _ => rfl
theorem Fresh.mono {μ : Mem} {a b : Int} (h : Fresh μ a) (hab : a ≤ b) : Fresh μ b := fun c k hc => h c k (Int.le_trans hab hc)
theorem fresh_set {μ : Mem} {a c k v : Int} (h : Fresh μ a) (hc : c < a) : Fresh (mset μ c k v) a := fun b j hb => by
  unfold mset
  rw [if_neg (fun q => by omega)]
  exact h b j hb
theorem fresh_fill {μ : Mem} {a lo hi : Int} (h : Fresh μ a) (hc : hi ≤ a) : Fresh (fill μ lo hi) a := fun b j hb => by
  unfold fill
  rw [if_neg (fun q => by omega)]
  exact h b j hb
theorem arrV_congr {c : ClassId} {n : Nat} {f g : Nat → Value} (h : ∀ j, j < n → f j = g j) : arrV c n f = arrV c n g := by
  unfold arrV
  congr 1
  congr 1
  funext j
  exact h j.val j.isLt
/-- what of a memory shows in cnt cells -/
def Same (cnt : Nat) (μ μ1 : Mem) : Prop := ∀ a k : Int, 0 ≤ a → a < cnt → 0 ≤ k → (ty a < 20 → k < (fk (ty a)).length) → (20 ≤ ty a → k < ln a) → μ a k = μ1 a k
theorem flds_congr {B : Nat} {ks : List Nat} {r1 r2 : Int → Int} (h : ∀ k : Nat, k < ks.length → r1 k = r2 k) : flds B ks r1 = flds B ks r2 := by
  apply List.ext_getElem?
  intro j
  cases hx : ks[j]? with
  | none => simp [flds, hx]
  | some kx => rw [flds_get hx, flds_get hx, h j (List.getElem?_eq_some_iff.mp hx).1]
theorem cell_at {en : En} {cl : List vw_C} {a : Nat} {t : Nat} {n : Int} {r1 r2 : Int → Int} {H : Heap} (h1 : t < 20 → ∀ k : Nat, k < (fk t).length → r1 k = r2 k) (h2 : 20 ≤ t → ∀ k : Nat, (k : Int) < n → r1 k = r2 k) (h : va_at en.1 cl (a, cellOf en t n r1) H) : va_at en.1 cl (a, cellOf en t n r2) H := by
  by_cases ht : t < 20
  · rw [cell_obj en n _ ht] at h ⊢
    rw [← flds_congr (h1 ht)]
    exact h
  · have h3 := h2 (by omega)
    by_cases h20 : t = 20
    · subst h20
      refine Eq.trans h (congrArg some ?_)
      exact arrV_congr (n := n.toNat) (f := fun j : Nat => Value.int (Int32.ofInt (r1 j))) (g := fun j : Nat => Value.int (Int32.ofInt (r2 j))) (fun j hj => by show Value.int (Int32.ofInt _) = Value.int (Int32.ofInt _); rw [h3 j (by omega)])
    by_cases h21 : t = 21
    · subst h21
      refine Eq.trans h (congrArg some ?_)
      exact arrV_congr (n := n.toNat) (f := fun j : Nat => Value.int (Int32.ofInt (r1 j))) (g := fun j : Nat => Value.int (Int32.ofInt (r2 j))) (fun j hj => by show Value.int (Int32.ofInt _) = Value.int (Int32.ofInt _); rw [h3 j (by omega)])
    by_cases h22 : t = 22
    · subst h22
      refine Eq.trans h (congrArg some ?_)
      exact arrV_congr (n := n.toNat) (f := fun j : Nat => Value.long (Int64.ofInt (r1 j))) (g := fun j : Nat => Value.long (Int64.ofInt (r2 j))) (fun j hj => by show Value.long (Int64.ofInt _) = Value.long (Int64.ofInt _); rw [h3 j (by omega)])
    by_cases h23 : t = 23 ∨ t = 24 ∨ t = 25
    · rw [cellR en n _ h23] at h ⊢
      refine Eq.trans h (congrArg some ?_)
      exact arrV_congr (n := n.toNat) (f := fun j : Nat => va_rf (toR en.2.2.1 (r1 j))) (g := fun j : Nat => va_rf (toR en.2.2.1 (r2 j))) (fun j hj => by show va_rf (toR _ _) = va_rf (toR _ _); rw [h3 j (by omega)])
    · have hk : fk t = [] := by
        unfold fk
        split <;> first | omega | rfl
      have hc : ∀ r, cellOf en t n r = .inr (t - 1, flds en.2.2.1 (fk t) r) := fun r => by
        unfold cellOf
        split <;> first | omega | rfl
      rw [hc] at h ⊢
      rw [hk] at h ⊢
      exact h
theorem Wd.same {en : En} {cnt : Nat} {μ μ1 : Mem} {H : Heap} (hs : Same cnt μ μ1) (h : Wd en cnt μ H) : Wd en cnt μ1 H := by
  refine ⟨fun k q hk => ?_, h.2⟩
  unfold pl at hk
  rw [List.getElem?_map] at hk
  by_cases hc : k < cnt
  · rw [List.getElem?_range hc] at hk
    cases hk
    have h1 := h.1 k _ (by unfold pl; rw [List.getElem?_map, List.getElem?_range hc]; rfl)
    exact cell_at (fun ht j hj => hs k j (by omega) (by omega) (by omega) (fun _ => by omega) (fun q => by omega)) (fun ht j hj => hs k j (by omega) (by omega) (by omega) (fun q => by omega) (fun _ => hj)) h1
  · rw [List.getElem?_eq_none (by simp; omega)] at hk
    cases hk
theorem pl_succ (en : En) (cnt : Nat) (μ : Mem) : pl en (cnt + 1) μ = pl en cnt μ ++ [(en.2.2.1 + cnt, cellOf en (ty cnt) (ln cnt) (μ cnt))] := by
  unfold pl
  rw [List.range_succ, List.map_append]
  rfl
theorem Wd.push {en : En} {cnt : Nat} {μ : Mem} {H H1 : Heap} (hc : cnt < nCells) (h : Wd en cnt μ H) (z : H1.size = H.size + 1) (ho : ∀ q : Nat, q < H.size → H1[q]? = H[q]?) (hn : va_at en.1 vwCl (en.2.2.1 + cnt, cellOf en (ty cnt) (ln cnt) (μ cnt)) H1) : Wd en (cnt + 1) μ H1 := by
  refine ⟨?_, fun _ => by rw [z, h.2 hc]; omega⟩
  rw [pl_succ]
  refine (h.1.kept (fun k q hk => ho q.1 ((h.1 k q hk).lt))).app (fun k q hk => ?_)
  have h0 : k < 1 := (List.getElem?_eq_some_iff.mp hk).1
  rw [show k = 0 by omega] at hk
  cases hk
  exact hn
theorem va_S.grow {A : Nat → Prop} {H0 H H1 : Heap} {locs : List Loc} (h : va_S A H0 H locs) (z : H.size ≤ H1.size) (ho : ∀ q : Nat, q < H.size → H1[q]? = H[q]?) : va_S A H0 H1 locs :=
  ⟨Nat.le_trans h.1 z, fun x h1 h2 => (ho x (Nat.lt_of_lt_of_le h1 h.1)).trans (h.2.1 x h1 h2), h.2.2⟩
/-- what the tables say of 'new' -/
def NW (own : String) (i t : Nat) : Prop := ∃ (C : String) (T : u_T) (N : Nat) (tyf : Nat → FieldType), vwCl[t - 1]? = some (C, T, N) ∧ (∀ w ∈ u_ws C T N, w ∈ GW) ∧ (∀ k, k < N → parseFieldDescriptor (T k).2.2.1 = some (tyf k)) ∧ Cond.classLink own i C ∈ GW ∧ Cond.instantiable C N ∈ GW ∧ Cond.initialized C ∈ GW ∧ N = (fk t).length ∧ ∀ B : Nat, flds B (fk t) (dfl t) = (List.range N).map (fun j => defaultValue (tyf j))
section CT
variable {ini : Bool} {res : Option Rs} {l : Launch} {en : En} {cc : ByteArray} {own : String} {nL : Nat} {R : Room} {K : KT} {z : Zt} {pc cnt c s : Nat} {L : Lo} {st stk : List Value} {μ μ1 : Mem}
theorem r_same (Ra : Ru ini res l en cc own nL R K) (hs : Same z.1 μ μ1) (k : K z pc L st μ1) : K z pc L st μ := by
  obtain ⟨p, e, s9, m, args, below, meth, c9, Q, hx, hb, hml, hown, hts, hTB, hA, hni, hres, rfl⟩ := Ra
  intro H locs ls hP hS hl
  exact k H locs ls (hP.same hs) hS hl
theorem r_new (Ra : Ru ini res l en cc own nL R K) {i t : Nat} {a : Int} (ha : 0 ≤ a ∧ a < nCells) (hcnt : cnt = a.toNat) (ht : ty a = t) (h20 : Nat.blt t 20 = true) (hN : NW own i t) (hμ : ∀ j, μ a j = dfl t j) (hc : c + 1 ≤ R.cells) (hs : s + (fk t).length ≤ R.slots) (hd : decode cc pc = .ok (.new i, 3)) (kk : K ((a + 1).toNat, c + 1, s + (fk t).length) (pc + 3) L (vA en a :: st) μ) : K (cnt, c, s) pc L st μ := by
  obtain ⟨p, e, s9, m, args, below, meth, c9, Q, hx, hb, hml, hown, hts, hTB, hA, hni, hres, rfl⟩ := Ra
  intro H locs ls hP hS hl
  obtain ⟨C, T, N, tyf, h1, h2, h3, h4, h5, h6, h7, h8⟩ := hN
  subst h7
  subst hcnt
  have hKn := hTB.1.1 (t - 1) _ h1
  have hsz := hP.2 (show a.toNat < nCells by omega)
  have ea : ((a.toNat : Nat) : Int) = a := Int.toNat_of_nonneg ha.1
  refine W.newcK hx hb hown (hts _ h4) (hts _ h5) (hts _ h6) rfl hd hc hs hKn.2.1 rfl fun H1 kC hkC e1 z1 o1 => ?_
  have hW := Wd.push (show a.toNat < nCells by omega) hP z1 o1 (by
    rw [ea, ht, cell_obj en _ _ (Nat.le_of_ble_eq_true h20)]
    refine ⟨_, h1, ?_⟩
    rw [← hsz]
    refine (u_born tyf hts h2 hKn hkC e1 h3).to (fun j hj => ?_)
    rw [show μ a = dfl t from funext hμ, h8]
    unfold vp_V
    rw [List.getD_eq_getElem?_getD, List.getElem?_map, List.getElem?_range hj]
    rfl)
  have e2 : a.toNat + 1 = (a + 1).toNat := by omega
  rw [e2] at hW
  have := kk H1 locs ls hW (hS.grow (by omega) o1) hl
  unfold vA at this
  rw [← hsz] at this
  exact this
theorem r_newa (Ra : Ru ini res l en cc own nL R K) {n a : Int} {t : Nat} {at0 : ArrayType} (hat : (at0 = .int ∧ t = 20) ∨ (at0 = .boolean ∧ t = 21) ∨ (at0 = .long ∧ t = 22)) (ha : 0 ≤ a ∧ a < nCells) (hcnt : cnt = a.toNat) (ht : ty a = t) (hln : ln a = n) (hμ : ∀ j, μ a j = dfl t j) (hw : Cond.arrayClass (newarray.typeOf at0) ∈ GW) (hc : c + 1 ≤ R.cells) (hs : s + n.toNat ≤ R.slots) (hd : decode cc pc = .ok (.newarray at0, 2)) (kk : K ((a + 1).toNat, c + 1, s + n.toNat) (pc + 2) L (vA en a :: st) μ) : K (cnt, c, s) pc L (vI n :: st) μ := by
  obtain ⟨p, e, s9, m, args, below, meth, c9, Q, hx, hb, hml, hown, hts, hTB, hA, hni, hres, rfl⟩ := Ra
  intro H locs ls hP hS hl
  subst hcnt
  have hsz := hP.2 (show a.toNat < nCells by omega)
  have ea : ((a.toNat : Nat) : Int) = a := Int.toNat_of_nonneg ha.1
  have hb9 := ln_ok a
  rw [hln] at hb9
  have hbytes : n.toNat * componentBytes (newarray.typeOf at0) ≤ 536870912 := by
    have h1 : componentBytes (newarray.typeOf at0) ≤ 8 := by rcases hat with ⟨rfl, -⟩ | ⟨rfl, -⟩ | ⟨rfl, -⟩ <;> decide
    have h2 : n.toNat * componentBytes (newarray.typeOf at0) ≤ 65536 * 8 := Nat.mul_le_mul (by omega) h1
    omega
  refine va_newaK hx hb (hts _ hw) rfl hd rfl (fun q => by have := (lt32 (x := n) (y := 0) ⟨by omega, by omega⟩ ⟨by decide, by decide⟩).mp q; omega) (idx_eq hb9.1 hb9.2) hbytes hc hs rfl fun H1 cA e1 z1 o1 hAr hNm => ?_
  have hW := Wd.push (show a.toNat < nCells by omega) hP z1 o1 (by
    rw [ea, ht, hln, ← hsz]
    rcases hat with ⟨rfl, rfl⟩ | ⟨rfl, rfl⟩ | ⟨rfl, rfl⟩
    · have hcl : cA = en.2.1 0 := Option.some.inj (hNm.symm.trans (hTB.1.2 0 _ rfl).2)
      rw [hcl] at e1
      refine e1.trans (congrArg some (arrV_congr (g := fun j : Nat => Value.int (Int32.ofInt (μ a j))) (fun j _ => ?_)))
      show _ = Value.int (Int32.ofInt (μ a j))
      rw [hμ]; rfl
    · have hcl : cA = en.2.1 1 := Option.some.inj (hNm.symm.trans (hTB.1.2 1 _ rfl).2)
      rw [hcl] at e1
      refine e1.trans (congrArg some (arrV_congr (g := fun j : Nat => Value.int (Int32.ofInt (μ a j))) (fun j _ => ?_)))
      show _ = Value.int (Int32.ofInt (μ a j))
      rw [hμ]; rfl
    · have hcl : cA = en.2.1 2 := Option.some.inj (hNm.symm.trans (hTB.1.2 2 _ rfl).2)
      rw [hcl] at e1
      refine e1.trans (congrArg some (arrV_congr (g := fun j : Nat => Value.long (Int64.ofInt (μ a j))) (fun j _ => ?_)))
      show _ = Value.long (Int64.ofInt (μ a j))
      rw [hμ]; rfl)
  have e2 : a.toNat + 1 = (a + 1).toNat := by omega
  rw [e2] at hW
  have := kk H1 locs ls hW (hS.grow (by omega) o1) hl
  unfold vA at this
  rw [← hsz] at this
  exact this
theorem r_objI (Ra : Ru ini res l en cc own nL R K) {i : Nat} {a : Int} (h1 : Cond.methodLink own i objectInit ∈ GW) (h2 : Cond.instanceMethod objectInit ∈ GW) (h3 : Cond.code objectInit ⟨#[0xb1]⟩ 1 none ∈ GW) (hr1 : 1 ≤ R.frames) (hr2 : (st.map fun v => v.category).sum + 12 ≤ R.locals) (hd : decode cc pc = .ok (.invokespecial i, 3)) (kk : K z (pc + 3) L st μ) : K z pc L (vA en a :: st) μ := by
  obtain ⟨p, e, s9, m, args, below, meth, c9, Q, hx, hb, hml, hown, hts, hTB, hA, hni, hres, rfl⟩ := Ra
  intro H locs ls hP hS hl
  exact W.objInit hx hb hown (hts _ h1) (hts _ h2) (hts _ h3) rfl (hl.1.trans hml.symm) rfl hd hr1 (by show 2 * 0 + _ + 12 ≤ _; omega) (kk H locs ls hP hS hl)
theorem r_anew (Ra : Ru ini res l en cc own nL R K) {n a : Int} {i t : Nat} {C : String} (hat : (C = "DewWages$State" ∧ t = 24) ∨ (C = "DewWages$Walk" ∧ t = 25)) (ha : 0 ≤ a ∧ a < nCells) (hcnt : cnt = a.toNat) (ht : ty a = t) (hln : ln a = n) (hμ : ∀ j, μ a j = dfl t j) (hw : Cond.classLink own i C ∈ GW) (hc : c + 1 ≤ R.cells) (hs : s + n.toNat ≤ R.slots) (hd : decode cc pc = .ok (.anewarray i, 3)) (kk : K ((a + 1).toNat, c + 1, s + n.toNat) (pc + 3) L (vA en a :: st) μ) : K (cnt, c, s) pc L (vI n :: st) μ := by
  obtain ⟨p, e, s9, m, args, below, meth, c9, Q, hx, hb, hml, hown, hts, hTB, hA, hni, hres, rfl⟩ := Ra
  intro H locs ls hP hS hl
  subst hcnt
  have hsz := hP.2 (show a.toNat < nCells by omega)
  have ea : ((a.toNat : Nat) : Int) = a := Int.toNat_of_nonneg ha.1
  have hb9 := ln_ok a
  rw [hln] at hb9
  have hao : (Cond.arrayOver (.object C)).before args s9 = true := by
    rcases hat with ⟨rfl, -⟩ | ⟨rfl, -⟩
    · exact va_AO.use hTB.2.2.1.1
    · exact va_AO.use hTB.2.2.1.2.1
  have hidx := idx_eq hb9.1 hb9.2
  refine W.anew hx hb hown (hts _ hw) hao rfl hd rfl (fun q => by have := (lt32 (x := n) (y := 0) ⟨by omega, by omega⟩ ⟨by decide, by decide⟩).mp q; omega) (by rw [hidx]; omega) hc (by rw [hidx]; exact hs) (fun cA kA comp g1 g2 g3 g4 => ?_)
  rw [hidx]
  generalize hH1 : H.push ({ cls := cA, slots := Array.replicate n.toNat .null, vm := .none } : Cell) = H1
  have z1 : H1.size = H.size + 1 := by rw [← hH1]; simp
  have o1 : ∀ q : Nat, q < H.size → H1[q]? = H[q]? := fun q hq => by rw [← hH1, Array.getElem?_push, if_neg (Nat.ne_of_lt hq)]
  have e1 : H1[H.size]? = some (arrV cA n.toNat (fun _ => .null)) := by rw [← hH1, Array.getElem?_push, if_pos rfl, arrV_new]
  have hW := Wd.push (show a.toNat < nCells by omega) hP z1 o1 (by
    rw [ea, ht, hln, ← hsz]
    rcases hat with ⟨rfl, rfl⟩ | ⟨rfl, rfl⟩
    · obtain ⟨kA', comp', q1, q2, q3, q4⟩ := (hTB.1.2 4 _ rfl).2
      have hcl : cA = en.2.1 4 := Option.some.inj (g1.symm.trans q4)
      rw [hcl] at e1
      refine e1.trans (congrArg some (arrV_congr (g := fun j : Nat => va_rf (toR en.2.2.1 (μ a j))) (fun j _ => ?_)))
      show _ = va_rf (toR _ (μ a j))
      rw [hμ]; rfl
    · obtain ⟨kA', comp', q1, q2, q3, q4⟩ := (hTB.1.2 5 _ rfl).2
      have hcl : cA = en.2.1 5 := Option.some.inj (g1.symm.trans q4)
      rw [hcl] at e1
      refine e1.trans (congrArg some (arrV_congr (g := fun j : Nat => va_rf (toR en.2.2.1 (μ a j))) (fun j _ => ?_)))
      show _ = va_rf (toR _ (μ a j))
      rw [hμ]; rfl)
  have e2 : a.toNat + 1 = (a + 1).toNat := by omega
  rw [e2] at hW
  have := kk H1 locs ls hW (hS.grow (by omega) o1) hl
  unfold vA at this
  rw [← hsz] at this
  exact this
theorem r_aast (Ra : Ru ini res l en cc own nL R K) {a i v : Int} {t tv : Nat} (hat : (t = 24 ∧ tv = 6) ∨ (t = 25 ∧ tv = 9)) (hμ : μ1 = mset μ a i v) (hin : 0 ≤ a ∧ a < z.1) (ha : ty a = t) (hi : 0 ≤ i ∧ i < ln a) (hvn : 0 ≤ v ∧ v < z.1) (hv : ty v = tv) (hd : decode cc pc = .ok (.aastore, 1)) (kk : K z (pc + 1) L st μ1) : K z pc L (vA en v :: vI i :: vA en a :: st) μ := by
  obtain ⟨p, e, s9, m, args, below, meth, c9, Q, hx, hb, hml, hown, hts, hTB, hA, hni, hres, rfl⟩ := Ra
  intro H locs ls hP hS hl
  have hb9 := (ln_ok a).2
  have ht3 : t = 23 ∨ t = 24 ∨ t = 25 := by rcases hat with ⟨h, -⟩ | ⟨h, -⟩ <;> omega
  have hpl := (pl_get (en := en) (μ := μ) hin ha).trans (by rw [cellR en _ _ ht3])
  have hc := hP.1 a.toNat _ hpl
  have hT : ∃ (C : String) (ci : Nat) (q : vw_C), (eT en)[t - 20]? = some (en.2.1 (t - 20), .object C) ∧ vwCl[ci]? = some q ∧ q.1 = C ∧ ci = tv - 1 ∧ tv < 20 := by
    rcases hat with ⟨rfl, rfl⟩ | ⟨rfl, rfl⟩
    · exact ⟨_, 5, _, rfl, rfl, rfl, rfl, by decide⟩
    · exact ⟨_, 8, _, rfl, rfl, rfl, rfl, by decide⟩
  obtain ⟨C, ci, q9, hT1, hT2, hT3, hT4, hT5⟩ := hT
  have hlt : (Int32.ofInt i).toNatClampNeg < (ln a).toNat := by rw [idx_eq hi.1 (by omega)]; omega
  obtain ⟨kA, comp, k1, k2, k3, -⟩ := (hTB.1.2 _ _ hT1).2
  have hcls := (hTB.1.1 ci q9 hT2).2
  have hcomp : comp = en.1.1 ci := by
    have := hcls.1
    rw [hT3] at this
    exact Option.some.inj (k3.symm.trans this)
  subst hcomp
  obtain ⟨r, g0, cellV, g1, g2, g3, -⟩ := hP.1 v.toNat _ ((pl_get hvn hv).trans (by rw [cell_obj en _ _ hT5]))
  rw [← hT4] at g2
  obtain ⟨kC, hkC, -⟩ := hcls.2
  refine W.aast hx hb hc (fun q h => by cases h) (fun h => by cases h) k1 k2 rfl hkC ⟨(fun q => by have := (lt32 (x := i) (y := 0) ⟨by omega, by omega⟩ ⟨by decide, by decide⟩).mp q; omega), by show _ < (arrV _ _ _).slots.size; rw [arrV_size]; exact hlt⟩ g1 (fun q h => by rw [g3] at h; cases h) (by rw [g2]; exact hkC) (by rw [g2]; exact va_assign hcls) rfl rfl hd fun H1 e1 z1 oq => ?_
  refine kk H1 _ ls ⟨?_, fun hc9 => by rw [z1]; exact hP.2 hc9⟩ (hS.put z1 oq (by show en.2.2.1 ≤ _; omega)) hl
  rw [hμ, ← pl_set (μ := μ) hin (e := cellOf en t (ln a) (fun j => if j = i then v else μ a j)) (by rw [ha, mset_at]) (fun b hb => mset_off μ hb)]
  refine hP.1.set (pl_D en z.1 μ) hpl ?_ oq
  rw [cellR en _ _ ht3]
  show H1[_]? = some (vp_cell _ _)
  rw [e1]
  show some ((arrV _ _ _).setSlot _ _) = _
  rw [arrV_store, vp_cell_q]
  refine congrArg some (arrV_congr (fun j hj => ?_))
  rw [idx_eq hi.1 (by omega)]
  unfold updV
  by_cases hji : j = i.toNat
  · rw [if_pos hji, if_pos (by omega)]
    unfold toR
    rw [if_neg (by omega)]
    rfl
  · rw [if_neg hji, if_neg (by omega)]
end CT
