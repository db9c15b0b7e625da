/-! THE CONSTRUCTORS -/
section CI0
/-- under construction: a's slots S are set, the cells behind it up to hi are complete, of array x the slots ahead of q -/
def pa (μ : Mem) (a hi : Int) (S : List Int) (x q : Int) : Mem := fun b j => if b = a then (if j ∈ S then mI a j else dfl (ty a) j) else if a < b ∧ b < hi then (if b = x ∧ ¬ (0 ≤ j ∧ j < q) then dfl (ty b) j else mI b j) else μ b j
theorem pa_start {μ : Mem} {a : Int} (x q : Int) (h : Fresh μ a) : μ = pa μ a (a + 1) [] x q := by
  funext b j
  unfold pa
  by_cases hb : b = a
  · rw [if_pos hb, if_neg (by simp), hb]
    exact h a j (Int.le_refl a)
  · rw [if_neg hb, if_neg (by omega)]
theorem pa_put {μ : Mem} {a hi k v x q : Int} {S : List Int} (hv : mI a k = v) : pa μ a hi (k :: S) x q = mset (pa μ a hi S x q) a k v := by
  funext b j
  unfold mset pa
  by_cases hb : b = a
  · rw [if_pos hb, if_pos hb]
    by_cases hj : j = k
    · rw [if_pos (show j ∈ k :: S by rw [hj]; exact List.mem_cons_self), if_pos (show b = a ∧ j = k from ⟨hb, hj⟩), hj, hv]
    · rw [if_neg (show ¬ (b = a ∧ j = k) from fun h => hj h.2)]
      by_cases hm : j ∈ S
      · rw [if_pos hm, if_pos (show j ∈ k :: S from List.mem_cons_of_mem _ hm)]
      · rw [if_neg hm, if_neg (show ¬ j ∈ k :: S by rw [List.mem_cons]; exact fun h => h.elim hj hm)]
  · rw [if_neg hb, if_neg (show ¬ (b = a ∧ j = k) from fun h => hb h.1), if_neg hb]
theorem mI_arr {b j : Int} (ht : ty b = 20 ∨ ty b = 21 ∨ ty b = 22) (h6 : b ≠ 486) : mI b j = dfl (ty b) j := by
  unfold mI dfl i0
  rcases ht with h | h | h
  · rw [h, kd20, if_neg (by decide), if_neg (by omega), if_neg (by omega), if_neg (by omega), if_neg (by omega), if_neg (by omega), if_neg (by omega), if_neg (by omega), if_neg (by omega), if_neg (by omega)]
  · rw [h, kd21, if_neg (by decide), if_neg (by omega), if_neg (by omega), if_neg (by omega), if_neg (by omega), if_neg (by omega), if_neg (by omega), if_neg (by omega), if_neg (by omega), if_neg (by omega)]
  · rw [h, kd22, if_neg (by decide), if_neg (by omega), if_neg (by omega), if_neg (by omega), if_neg (by omega), if_neg (by omega), if_neg (by omega), if_neg (by omega), if_neg (by omega), if_neg (by omega)]
theorem pa_arr {μ : Mem} {a lo hi x q : Int} {S : List Int} (hF : Fresh μ a) (h1 : hi = lo + 1) (ha : a < lo) (ht : ty lo = 20 ∨ ty lo = 21 ∨ ty lo = 22) (hx : lo ≠ x ∧ lo ≠ 486) : pa μ a lo S x q = pa μ a hi S x q := by
  funext b j
  unfold pa
  by_cases hb : b = a
  · rw [if_pos hb, if_pos hb]
  · rw [if_neg hb, if_neg hb]
    by_cases hl : b = lo
    · rw [if_neg (by omega), if_pos (by omega), if_neg (by omega), hF b j (by omega), hl]
      exact (mI_arr ht hx.2).symm
    · by_cases h2 : a < b ∧ b < lo
      · rw [if_pos h2, if_pos (show a < b ∧ b < hi by omega)]
      · rw [if_neg h2, if_neg (show ¬ (a < b ∧ b < hi) by omega)]
theorem pa_x {μ : Mem} {a lo hi q : Int} {S : List Int} (hF : Fresh μ a) (h1 : hi = lo + 1) (ha : a < lo) (hq : q = 0) : pa μ a lo S lo q = pa μ a hi S lo q := by
  funext b j
  unfold pa
  by_cases hb : b = a
  · rw [if_pos hb, if_pos hb]
  · rw [if_neg hb, if_neg hb]
    by_cases hl : b = lo
    · rw [if_neg (by omega), if_pos (by omega), if_pos ⟨hl, by omega⟩, hF b j (by omega)]
    · by_cases h2 : a < b ∧ b < lo
      · rw [if_pos h2, if_pos (show a < b ∧ b < hi by omega)]
      · rw [if_neg h2, if_neg (show ¬ (a < b ∧ b < hi) by omega)]
theorem pa_ast {μ : Mem} {a hi x q q1 v : Int} {S : List Int} (ha : a < x ∧ x < hi) (hq : 0 ≤ q) (h1 : q1 = q + 1) (hv : mI x q = v) : pa μ a hi S x q1 = mset (pa μ a hi S x q) x q v := by
  funext b j
  unfold mset pa
  by_cases hb : b = a
  · rw [if_pos hb, if_neg (show ¬ (b = x ∧ j = q) by omega), if_pos hb]
  · rw [if_neg hb, if_neg hb]
    by_cases hl : b = x
    · rw [if_pos (by omega), if_pos (show a < b ∧ b < hi by omega)]
      by_cases hj : j = q
      · rw [if_neg (by omega), if_pos ⟨hl, hj⟩, hl, hj, hv]
      · rw [if_neg (show ¬ (b = x ∧ j = q) from fun h => hj h.2)]
        by_cases h3 : 0 ≤ j ∧ j < q
        · rw [if_neg (by omega), if_neg (by omega)]
        · rw [if_pos (by omega), if_pos (by omega)]
    · rw [if_neg (show ¬ (b = x ∧ j = q) from fun h => hl h.1)]
      by_cases h2 : a < b ∧ b < hi
      · rw [if_pos h2, if_pos h2, if_neg (by omega), if_neg (by omega)]
      · rw [if_neg h2, if_neg h2]
theorem pa_call {μ : Mem} {a lo hi x q : Int} {S : List Int} (h : a < lo ∧ lo ≤ hi) (hx : x < lo ∨ hi ≤ x) : fill (pa μ a lo S x q) lo hi = pa μ a hi S x q := by
  funext b j
  unfold fill pa
  by_cases hb : b = a
  · rw [if_neg (by omega), if_pos hb, if_pos hb]
  · rw [if_neg hb, if_neg hb]
    by_cases h1 : lo ≤ b ∧ b < hi
    · rw [if_pos h1, if_pos (by omega), if_neg (by omega)]
    · rw [if_neg h1]
      by_cases h2 : a < b ∧ b < lo
      · rw [if_pos h2, if_pos (show a < b ∧ b < hi by omega)]
      · rw [if_neg h2, if_neg (show ¬ (a < b ∧ b < hi) by omega)]
theorem pa_fresh {μ : Mem} {a lo x q : Int} {S : List Int} (hF : Fresh μ a) (h : a < lo) : Fresh (pa μ a lo S x q) lo := fun b j hb => by
  unfold pa
  rw [if_neg (by omega), if_neg (by omega)]
  exact hF b j (by omega)
def ckD (t : Nat) (S : List Int) : Bool := (List.range (fk t).length).all fun k => decide ((k : Int) ∈ S) || (decide (kd t (k : Int) ≠ 2) && decide (kd t (k : Int) ≠ 3) && decide (i0 0 t (k : Int) = 0))
theorem i0_obj {a k : Int} {t : Nat} (ht : ty a = t) (h20 : Nat.blt t 20 = true) : i0 a t k = i0 0 t k := by
  have h6 : a ≠ 486 := fun h => by
    rw [h, t486] at ht
    rw [← ht] at h20
    exact absurd h20 (by decide)
  unfold i0
  rw [if_neg (show ¬ (a = 486 ∧ 0 ≤ k ∧ k < 6) from fun h => h6 h.1), if_neg (show ¬ ((0 : Int) = 486 ∧ 0 ≤ k ∧ k < 6) from fun h => absurd h.1 (by decide))]
theorem mI_ref {a k v : Int} {t : Nat} (ht : ty a = t) (hk : kd t k = 2) (hs : sl t a k = v) : mI a k = v := by
  unfold mI
  rw [ht, if_pos hk, hs]
theorem mI_val {a k v : Int} {t : Nat} (ht : ty a = t) (h20 : Nat.blt t 20 = true) (hk : kd t k ≠ 2) (hs : i0 0 t k = v) : mI a k = v := by
  unfold mI
  rw [ht, if_neg hk, i0_obj ht h20, hs]
theorem toV_r {en : En} {v : Int} (h : 0 ≤ v) : toV en.2.2.1 2 v = vA en v := by
  show (if (2 : Nat) = 1 then _ else if (2 : Nat) = 2 ∨ (2 : Nat) = 3 then (if v < 0 then Value.null else Value.ref (en.2.2.1 + v.toNat)) else _) = vA en v
  rw [if_neg (by decide), if_pos (by decide), if_neg (by omega)]
  rfl
theorem toV_s {en : En} {v : Int} (h : 0 ≤ v) : toV en.2.2.1 3 v = vA en v := by
  show (if (3 : Nat) = 1 then _ else if (3 : Nat) = 2 ∨ (3 : Nat) = 3 then (if v < 0 then Value.null else Value.ref (en.2.2.1 + v.toNat)) else _) = vA en v
  rw [if_neg (by decide), if_pos (by decide), if_neg (by omega)]
  rfl
theorem pa_done {μ : Mem} {a hi x q : Int} {S : List Int} {t cnt : Nat} (ht : ty a = t) (h20 : Nat.blt t 20 = true) (hcnt : cnt = hi.toNat) (hah : a < hi) (hS : ckD t S = true) (hx : a < x → x < hi → 20 ≤ ty x ∧ ln x ≤ q) : Same cnt (pa μ a hi S x q) (fill μ a hi) := fun b j hb0 hb1 hj0 hj1 hj2 => by
  subst hcnt
  unfold pa fill
  by_cases hb : b = a
  · rw [if_pos hb, if_pos (show a ≤ b ∧ b < hi by omega)]
    by_cases hm : j ∈ S
    · rw [if_pos hm, hb]
    · rw [if_neg hm]
      have h1 := hj1 (by rw [hb, ht]; exact Nat.le_of_ble_eq_true h20)
      rw [hb, ht] at h1
      have h2 := List.all_eq_true.mp hS j.toNat (List.mem_range.mpr (by omega))
      rw [Int.toNat_of_nonneg hj0, Bool.or_eq_true, decide_eq_true_eq] at h2
      rcases h2 with h2 | h2
      · exact absurd h2 hm
      · rw [Bool.and_eq_true, Bool.and_eq_true, decide_eq_true_eq, decide_eq_true_eq, decide_eq_true_eq] at h2
        rw [hb, mI_val ht h20 h2.1.1 h2.2]
        unfold dfl
        rw [ht, if_neg (fun h => h.elim h2.1.1 h2.1.2)]
  · rw [if_neg hb]
    by_cases h2 : a < b ∧ b < hi
    · rw [if_pos h2, if_pos (show a ≤ b ∧ b < hi by omega), if_neg]
      rintro ⟨rfl, h3⟩
      have h4 := hx h2.1 h2.2
      exact h3 ⟨hj0, Int.lt_of_lt_of_le (hj2 h4.1) h4.2⟩
    · rw [if_neg h2, if_neg (show ¬ (a ≤ b ∧ b < hi) by omega)]
end CI0
section CI
variable {ini : Bool} {res : Option Rs} {l : Launch} {en : En} {cc : ByteArray} {own : String} {nL : Nat} {R : Room} {K : KT} {z : Zt} {pc cnt cnt1 c s c1 s1 : Nat} {L : Lo} {st stk : List Value} {μ : Mem} {a lo hi x q n v : Int} {S : List Int} {y : MethodName} {ccY : ByteArray} {nLY i t k kn nn mc ms : Nat} {rmY : Room} {As : List Value} {V : Value} {fty : FieldType}
theorem i_newa (Ra : Ru ini res l en cc own nL R K) {at0 : ArrayType} (hat : (at0 = .int ∧ t = 20) ∨ (at0 = .boolean ∧ t = 21) ∨ (at0 = .long ∧ t = 22)) (hF : Fresh μ a) (hal : a < lo) (ht : ty lo = t) (hln : ln lo = n) (hx : lo ≠ x ∧ lo ≠ 486) (hh : hi = lo + 1) (hcnt : cnt = lo.toNat) (hcn1 : cnt1 = hi.toNat) (hw : Cond.arrayClass (newarray.typeOf at0) ∈ GW) (hc1 : c1 = c + 1) (hs1 : s1 = s + n.toNat) (hc : c1 ≤ R.cells) (hs : s1 ≤ R.slots) (hd : decode cc pc = .ok (.newarray at0, 2)) (kk : K (cnt1, c1, s1) (pc + 2) L (vA en lo :: st) (pa μ a hi S x q)) : K (cnt, c, s) pc L (vI n :: st) (pa μ a lo S x q) := by
  have ht3 : ty lo = 20 ∨ ty lo = 21 ∨ ty lo = 22 := by rcases hat with ⟨-, h⟩ | ⟨-, h⟩ | ⟨-, h⟩ <;> omega
  have hb := ty_in (a := lo) (by omega)
  refine r_newa Ra hat ⟨hb.1, hb.2.1⟩ hcnt ht hln (fun j => by rw [← ht]; exact pa_fresh hF hal lo j (Int.le_refl lo)) hw (by omega) (by omega) hd ?_
  rw [pa_arr hF hh hal ht3 hx]
  subst hh hcn1 hc1 hs1
  exact kk
theorem i_newx (Ra : Ru ini res l en cc own nL R K) (hF : Fresh μ a) (hal : a < lo) (ht : ty lo = 20) (hln : ln lo = n) (hq : q = 0) (hh : hi = lo + 1) (hcnt : cnt = lo.toNat) (hcn1 : cnt1 = hi.toNat) (hw : Cond.arrayClass (newarray.typeOf .int) ∈ GW) (hc1 : c1 = c + 1) (hs1 : s1 = s + n.toNat) (hc : c1 ≤ R.cells) (hs : s1 ≤ R.slots) (hd : decode cc pc = .ok (.newarray .int, 2)) (kk : K (cnt1, c1, s1) (pc + 2) L (vA en lo :: st) (pa μ a hi S lo q)) : K (cnt, c, s) pc L (vI n :: st) (pa μ a lo S lo q) := by
  have hb := ty_in (a := lo) (by omega)
  refine r_newa Ra (Or.inl ⟨rfl, rfl⟩) ⟨hb.1, hb.2.1⟩ hcnt ht hln (fun j => by rw [← ht]; exact pa_fresh hF hal lo j (Int.le_refl lo)) hw (by omega) (by omega) hd ?_
  rw [pa_x hF hh hal hq]
  subst hh hcn1 hc1 hs1
  exact kk
theorem i_anew (Ra : Ru ini res l en cc own nL R K) {C : String} (hat : (C = "DewWages$State" ∧ t = 24) ∨ (C = "DewWages$Walk" ∧ t = 25)) (hF : Fresh μ a) (hal : a < lo) (ht : ty lo = t) (hln : ln lo = n) (hq : q = 0) (hh : hi = lo + 1) (hcnt : cnt = lo.toNat) (hcn1 : cnt1 = hi.toNat) (hw : Cond.classLink own i C ∈ GW) (hc1 : c1 = c + 1) (hs1 : s1 = s + n.toNat) (hc : c1 ≤ R.cells) (hs : s1 ≤ R.slots) (hd : decode cc pc = .ok (.anewarray i, 3)) (kk : K (cnt1, c1, s1) (pc + 3) L (vA en lo :: st) (pa μ a hi S lo q)) : K (cnt, c, s) pc L (vI n :: st) (pa μ a lo S lo q) := by
  have ht3 : t = 24 ∨ t = 25 := by rcases hat with ⟨-, h⟩ | ⟨-, h⟩ <;> omega
  have hb := ty_in (a := lo) (by omega)
  refine r_anew Ra hat ⟨hb.1, hb.2.1⟩ hcnt ht hln (fun j => by rw [← ht]; exact pa_fresh hF hal lo j (Int.le_refl lo)) hw (by omega) (by omega) hd ?_
  rw [pa_x hF hh hal hq]
  subst hh hcn1 hc1 hs1
  exact kk
theorem i_mna (Ra : Ru ini res l en cc own nL R K) {kk0 : Int} (hF : Fresh μ a) (hal : a < lo) (ht : ty lo = 23) (hln : ln lo = n) (hin : ∀ j, 0 ≤ j → j < n → ty (lo + 1 + j) = 20 ∧ ln (lo + 1 + j) = kk0) (hk0 : 0 ≤ kk0 ∧ kk0 < 65536) (hb : 0 ≤ lo ∧ lo + n < nCells) (hx : x < lo ∨ hi ≤ x) (hh : hi = lo + 1 + n) (hn0 : 0 ≤ n) (hcnt : cnt = lo.toNat) (hcn1 : cnt1 = hi.toNat) (hw1 : Cond.classLink own i "[[I" ∈ GW) (hw2 : Cond.arrayClass .int ∈ GW) (hc1 : c1 = c + 1 + n.toNat) (hs1 : s1 = s + n.toNat + n.toNat * kk0.toNat) (hc : c1 ≤ R.cells) (hs : s1 ≤ R.slots) (hd : decode cc pc = .ok (.multianewarray i 2, 4)) (kk : K (cnt1, c1, s1) (pc + 4) L (vA en lo :: st) (pa μ a hi S x q)) : K (cnt, c, s) pc L (vI kk0 :: vI n :: st) (pa μ a lo S x q) := by
  refine r_mna Ra hb hcnt ht hln hin hk0 (pa_fresh hF hal) hw1 hw2 (by omega) (by omega) rfl hd ?_
  rw [← hh, pa_call ⟨hal, by omega⟩ hx]
  subst hcn1 hc1 hs1
  exact kk
theorem i_new (Ra : Ru ini res l en cc own nL R K) (hF : Fresh μ a) (hal : a < lo) (ht : ty lo = t) (ht0 : (t != 0) = true) (h20 : Nat.blt t 20 = true) (hN : NW own i t) (hcnt : cnt = lo.toNat) (hcn1 : cnt1 = (lo + 1).toNat) (hc1 : c1 = c + 1) (hs1 : s1 = s + (fk t).length) (hc : c1 ≤ R.cells) (hs : s1 ≤ R.slots) (hd : decode cc pc = .ok (.new i, 3)) (kk : K (cnt1, c1, s1) (pc + 3) L (vA en lo :: st) (pa μ a lo S x q)) : K (cnt, c, s) pc L st (pa μ a lo S x q) := by
  refine r_new Ra (tin ht ht0) hcnt ht h20 hN (fun j => by rw [← ht]; exact pa_fresh hF hal lo j (Int.le_refl lo)) (by omega) (by omega) hd ?_
  subst hcn1 hc1 hs1
  exact kk
theorem i_put (Ra : Ru ini res l en cc own nL R K) (h0 : 0 ≤ a) (hz : a < z.1) (ht : ty a = t) (h20 : Nat.blt t 20 = true) (hk : (fk t)[k]? = some kn) (hv : mI a (k : Int) = v) (hV : toV en.2.2.1 kn v = V) (hf : FL own i t k) (hp : FP t k false fty) (hn : narrow fty V = V) (hfit : fits fty V = true) (hd : decode cc pc = .ok (.putfield i, 3)) (kk : K z (pc + 3) L st (pa μ a hi ((k : Int) :: S) x q)) : K z pc L (V :: vA en a :: st) (pa μ a hi S x q) :=
  r_putf Ra (pa_put hv) ⟨h0, hz⟩ ht (Nat.le_of_ble_eq_true h20) hk hV hf hp hn hfit hd kk
theorem i_putF (Ra : Ru ini res l en cc own nL R K) (h0 : 0 ≤ a) (hz : a < z.1) (ht : ty a = t) (h20 : Nat.blt t 20 = true) (hk : (fk t)[k]? = some kn) (hv : mI a (k : Int) = v) (hV : toV en.2.2.1 kn v = V) (hf : FL own i t k) (hp : FP t k true fty) (hn : narrow fty V = V) (hfit : fits fty V = true) (hini : ini = true) (hdecl : ∀ C T N, vwCl[t - 1]? = some (C, T, N) → (T k).1 = own) (hd : decode cc pc = .ok (.putfield i, 3)) (kk : K z (pc + 3) L st (pa μ a hi ((k : Int) :: S) x q)) : K z pc L (V :: vA en a :: st) (pa μ a hi S x q) :=
  r_putF Ra (pa_put hv) ⟨h0, hz⟩ ht (Nat.le_of_ble_eq_true h20) hk hV hf hp hn hfit hini hdecl hd kk
theorem r_callIN {host : String} {ρ : Rs} (Ra : Ru ini res l en cc own nL R K) (hM : Tr l en y ccY nLY rmY (vA en a :: As) z.1 μ ρ) (hw : Mw y ccY nLY ρ.1 nn) (hr0 : ρ.1 = none) (hi0 : Cond.instanceMethod y ∈ GW) (hy1 : y.name = "<init>") (hn : As.length = nn) (hstk : stk = As.reverse ++ vA en a :: st) (hlk : Cond.methodLinkNest own i y host ∈ lw_tbl) (hrm : rmY.cells = ρ.2.2.2.2.1 ∧ rmY.slots = ρ.2.2.2.2.2.1 ∧ rmY.frames + 1 ≤ R.frames ∧ 8 + (nLY + 11) + rmY.locals ≤ R.locals) (hf : z.2.1 + ρ.2.2.2.2.1 ≤ R.cells ∧ z.2.2 + ρ.2.2.2.2.2.1 ≤ R.slots) (hst : (st.map fun v => v.category).sum ≤ 8) (hd : decode cc pc = .ok (.invokespecial i, 3)) (kk : ρ.2.2.2.2.2.2 → K (ρ.2.2.1, z.2.1 + ρ.2.2.2.2.1, z.2.2 + ρ.2.2.2.2.2.1) (pc + 3) L (ρ.2.1.toList ++ st) ρ.2.2.2.1) : K z pc L stk μ := by
  obtain ⟨p, e, s, m, args, below, meth, c, Q, hx, hb, hml, hown, hts, hTB, hA, hni, hres, rfl⟩ := Ra
  obtain ⟨ret0, ρ⟩ := ρ
  simp only at hr0
  subst hr0
  intro H locs ls hP hS hl
  have hG : GoodIn GW (wsM y ccY nLY none) := gwIn hw.1 (fun x hx => hx)
  have cb := va_cnB (R := R) (args := args) nn hts hG rfl hrm.1 hrm.2.1 (hTB.2.1 _ hlk rfl) (hts _ hw.2.1) ⟨hw.2.2.1, hw.2.2.2.1, hw.2.2.2.2⟩ ⟨hrm.2.2.1, hrm.2.2.2⟩
  have hPc : ∀ U : State, U.heap = H → s.WarmedH U.vm → va_Pc (vA en a :: As) (Pw en z.1 μ) (vA en a :: As).toArray U := fun U hU hW => ⟨rfl, by rw [hU]; exact hP, hTB.warm hW hS hU⟩
  have hrun := va_runIN (As := As) (rest := st) (H := H) (locs := locs) (cells := z.2.1) (slots := z.2.2) (e := e) (below := below) (meth := meth) (g := F0 m pc ls stk) ⟨hx, hb, hml, hown, hts⟩ hM ⟨cb, hy1, hts _ hi0⟩ ⟨Pw.blind, hPc⟩ rfl hn hl.1 hstk (lv_room hst) hd hf
  intro T hT X
  obtain ⟨v, st₀, t9, T', L9, h0, X', hL, e1, e2, ⟨⟨⟨hv, hok⟩, hWd⟩, hz, hk⟩, sp⟩ := hrun T hT X
  cases hv
  rw [h0] at hz hk
  have hS1 : va_S (eA en) s.heap T'.heap (locs ++ L9) := ⟨Nat.le_trans hS.1 (by rw [e1]; exact hz), fun q h1 h2 => by rw [e1, hk q (Nat.lt_of_lt_of_le h1 hS.1) h2]; exact hS.2.1 q h1 h2, fun q hq => by
      rcases List.mem_append.mp hq with h | h
      · exact hS.2.2 q h
      · exact hL q h⟩
  obtain ⟨t2, a1, b1⟩ := kk hok T'.heap (locs ++ L9) ls (by rw [e1]; exact hWd) hS1 hl T' rfl X'
  exact ⟨t2, sp t2 a1, b1⟩
/-- a constructor's contract: what lies behind a is made and filled -/
def CtN (l : Launch) (en : En) (y : MethodName) (cc : ByteArray) (nL f q mc ms : Nat) (As : List Value) (a hi : Int) (μ : Mem) : Prop := Tr l en y cc nL { frames := f, cells := mc, slots := ms, locals := q } (vA en a :: As) (a + 1).toNat μ (none, none, hi.toNat, fill μ a hi, mc, ms, True)
theorem i_call {f q0 cnt2 : Nat} (Ra : Ru ini res l en cc own nL R K) (hM : CtN l en y ccY nLY f q0 mc ms As lo hi (pa μ a lo S x q)) (hw : Mw y ccY nLY none nn) (hi0 : Cond.instanceMethod y ∈ GW) (hy1 : y.name = "<init>") (hn : As.length = nn) (hstk : stk = As.reverse ++ vA en lo :: st) (hlk : Cond.methodLink own i y ∈ GW) (hal : a < lo ∧ lo ≤ hi) (hx : x < lo ∨ hi ≤ x) (hcnt : cnt = (lo + 1).toNat) (hcn2 : cnt2 = hi.toNat) (hc1 : c1 = c + mc) (hs1 : s1 = s + ms) (hf : c1 ≤ R.cells ∧ s1 ≤ R.slots) (hr1 : f + 1 ≤ R.frames) (hr2 : 8 + (nLY + 11) + q0 ≤ R.locals) (hst : Nat.ble ((st.map fun v => v.category).sum) 8 = true) (hd : decode cc pc = .ok (.invokespecial i, 3)) (kk : K (cnt2, c1, s1) (pc + 3) L st (pa μ a hi S x q)) : K (cnt, c, s) pc L stk (pa μ a lo S x q) := by
  subst hcnt hcn2 hc1 hs1
  refine r_callI Ra (z := ((lo + 1).toNat, c, s)) hM hw rfl hi0 hy1 hn hstk hlk ⟨rfl, rfl, hr1, hr2⟩ hf (Nat.le_of_ble_eq_true hst) hd (fun _ => ?_)
  show K _ _ _ _ (fill _ lo hi)
  rw [pa_call hal hx]
  exact kk
theorem i_callN {host : String} {f q0 cnt2 : Nat} (Ra : Ru ini res l en cc own nL R K) (hM : CtN l en y ccY nLY f q0 mc ms As lo hi (pa μ a lo S x q)) (hw : Mw y ccY nLY none nn) (hi0 : Cond.instanceMethod y ∈ GW) (hy1 : y.name = "<init>") (hn : As.length = nn) (hstk : stk = As.reverse ++ vA en lo :: st) (hlk : Cond.methodLinkNest own i y host ∈ lw_tbl) (hal : a < lo ∧ lo ≤ hi) (hx : x < lo ∨ hi ≤ x) (hcnt : cnt = (lo + 1).toNat) (hcn2 : cnt2 = hi.toNat) (hc1 : c1 = c + mc) (hs1 : s1 = s + ms) (hf : c1 ≤ R.cells ∧ s1 ≤ R.slots) (hr1 : f + 1 ≤ R.frames) (hr2 : 8 + (nLY + 11) + q0 ≤ R.locals) (hst : Nat.ble ((st.map fun v => v.category).sum) 8 = true) (hd : decode cc pc = .ok (.invokespecial i, 3)) (kk : K (cnt2, c1, s1) (pc + 3) L st (pa μ a hi S x q)) : K (cnt, c, s) pc L stk (pa μ a lo S x q) := by
  subst hcnt hcn2 hc1 hs1
  refine r_callIN Ra (z := ((lo + 1).toNat, c, s)) hM hw rfl hi0 hy1 hn hstk hlk ⟨rfl, rfl, hr1, hr2⟩ hf (Nat.le_of_ble_eq_true hst) hd (fun _ => ?_)
  show K _ _ _ _ (fill _ lo hi)
  rw [pa_call hal hx]
  exact kk
theorem i_ret (Ra : Ru ini (some (none, none, cnt, fill μ a hi, c, s, True)) l en cc own nL R K) (ht : ty a = t) (h20 : Nat.blt t 20 = true) (hcnt : cnt = hi.toNat) (hah : a < hi) (hS : ckD t S = true) (hx : a < x → x < hi → 20 ≤ ty x ∧ ln x ≤ q) (hd : decode cc pc = .ok (.return_, 1)) : K (cnt, c, s) pc L [] (pa μ a hi S x q) :=
  r_same Ra (z := (cnt, c, s)) (pa_done ht h20 hcnt hah hS hx) (r_vret Ra trivial hd)
end CI
theorem wa_int : Cond.arrayClass .int ∈ GW := gw 1 51 (by decide +kernel)
theorem wa_long : Cond.arrayClass .long ∈ GW := gw 7 56 (by decide +kernel)
theorem wa_boolean : Cond.arrayClass .boolean ∈ GW := gw 7 57 (by decide +kernel)
theorem wo_c : Cond.methodLink RX11 3 objectInit ∈ GW ∧ Cond.instanceMethod objectInit ∈ GW ∧ Cond.code objectInit ⟨#[0xb1]⟩ 1 none ∈ GW := ⟨k_X11_3, gw 1 27 (by decide +kernel), gw 1 28 rfl⟩
theorem cl_L_7 : Cond.classLink RL 7 "DewWages" ∈ GW := gw 1 21 (by decide +kernel)
theorem nw_L_7 : NW RL 7 12 := ⟨RX11, TX11, 15, tyX11, rfl, u_X11, tyX11_ok, cl_L_7, gw 1 22 (by decide +kernel), gw 1 1 (by decide +kernel), rfl, fun _ => rfl⟩
theorem cl_X11_13 : Cond.classLink RX11 13 "DewWages$Plan" ∈ GW := gw 1 29 (by decide +kernel)
theorem nw_X11_13 : NW RX11 13 4 := ⟨RX3, TX3, 15, tyX3, rfl, u_X3, tyX3_ok, cl_X11_13, gw 1 30 (by decide +kernel), gw 1 2 (by decide +kernel), rfl, fun _ => rfl⟩
theorem cl_X3_30 : Cond.classLink RX3 30 "DewWages$Sum" ∈ GW := gw 1 35 (by decide +kernel)
theorem nw_X3_30 : NW RX3 30 7 := ⟨RX6, TX6, 3, tyX6, rfl, u_X6, tyX6_ok, cl_X3_30, gw 1 36 (by decide +kernel), gw 1 3 (by decide +kernel), rfl, fun _ => rfl⟩
theorem cl_X11_20 : Cond.classLink RX11 20 "DewWages$Reader" ∈ GW := gw 1 139 (by decide +kernel)
theorem nw_X11_20 : NW RX11 20 5 := ⟨RX4, TX4, 11, tyX4, rfl, u_X4, tyX4_ok, cl_X11_20, gw 1 140 (by decide +kernel), gw 1 4 (by decide +kernel), rfl, fun _ => rfl⟩
theorem cl_X4_9 : Cond.classLink RX4 9 "DewWages$Plan" ∈ GW := gw 1 145 (by decide +kernel)
theorem nw_X4_9 : NW RX4 9 4 := ⟨RX3, TX3, 15, tyX3, rfl, u_X3, tyX3_ok, cl_X4_9, gw 1 30 (by decide +kernel), gw 1 2 (by decide +kernel), rfl, fun _ => rfl⟩
theorem cl_X11_27 : Cond.classLink RX11 27 "DewWages$State" ∈ GW := gw 1 184 (by decide +kernel)
theorem nw_X11_27 : NW RX11 27 6 := ⟨RX5, TX5, 8, tyX5, rfl, u_X5, tyX5_ok, cl_X11_27, gw 1 185 (by decide +kernel), gw 1 5 (by decide +kernel), rfl, fun _ => rfl⟩
theorem cl_X11_37 : Cond.classLink RX11 37 "DewWages$Acts" ∈ GW := gw 1 238 (by decide +kernel)
theorem nw_X11_37 : NW RX11 37 1 := ⟨RX0, TX0, 3, tyX0, rfl, u_X0, tyX0_ok, cl_X11_37, gw 1 239 (by decide +kernel), gw 1 6 (by decide +kernel), rfl, fun _ => rfl⟩
theorem cl_X0_9 : Cond.classLink RX0 9 "DewWages$State" ∈ GW := gw 2 4 (by decide +kernel)
theorem nw_X0_9 : NW RX0 9 6 := ⟨RX5, TX5, 8, tyX5, rfl, u_X5, tyX5_ok, cl_X0_9, gw 1 185 (by decide +kernel), gw 1 5 (by decide +kernel), rfl, fun _ => rfl⟩
theorem cl_X11_44 : Cond.classLink RX11 44 "DewWages$Walk" ∈ GW := gw 2 18 (by decide +kernel)
theorem nw_X11_44 : NW RX11 44 9 := ⟨RX8, TX8, 10, tyX8, rfl, u_X8, tyX8_ok, cl_X11_44, gw 2 19 (by decide +kernel), gw 1 7 (by decide +kernel), rfl, fun _ => rfl⟩
theorem cl_X11_53 : Cond.classLink RX11 53 "DewWages$Today" ∈ GW := gw 2 67 (by decide +kernel)
theorem nw_X11_53 : NW RX11 53 8 := ⟨RX7, TX7, 15, tyX7, rfl, u_X7, tyX7_ok, cl_X11_53, gw 2 68 (by decide +kernel), gw 1 8 (by decide +kernel), rfl, fun _ => rfl⟩
theorem cl_X7_9 : Cond.classLink RX7 9 "[[I" ∈ GW := gw 2 73 (by decide +kernel)
theorem cl_X7_39 : Cond.classLink RX7 39 "DewWages$Walk" ∈ GW := gw 2 75 (by decide +kernel)
theorem nw_X7_39 : NW RX7 39 9 := ⟨RX8, TX8, 10, tyX8, rfl, u_X8, tyX8_ok, cl_X7_39, gw 2 19 (by decide +kernel), gw 1 7 (by decide +kernel), rfl, fun _ => rfl⟩
theorem cl_X11_60 : Cond.classLink RX11 60 "DewWages$Ways" ∈ GW := gw 2 134 (by decide +kernel)
theorem nw_X11_60 : NW RX11 60 11 := ⟨RX10, TX10, 7, tyX10, rfl, u_X10, tyX10_ok, cl_X11_60, gw 2 135 (by decide +kernel), gw 1 9 (by decide +kernel), rfl, fun _ => rfl⟩
theorem cl_X10_9 : Cond.classLink RX10 9 "DewWages$Walk" ∈ GW := gw 2 140 (by decide +kernel)
theorem nw_X10_9 : NW RX10 9 9 := ⟨RX8, TX8, 10, tyX8, rfl, u_X8, tyX8_ok, cl_X10_9, gw 2 19 (by decide +kernel), gw 1 7 (by decide +kernel), rfl, fun _ => rfl⟩
theorem cl_X11_67 : Cond.classLink RX11 67 "DewWages$Ahead" ∈ GW := gw 2 167 (by decide +kernel)
theorem nw_X11_67 : NW RX11 67 2 := ⟨RX1, TX1, 7, tyX1, rfl, u_X1, tyX1_ok, cl_X11_67, gw 2 168 (by decide +kernel), gw 1 10 (by decide +kernel), rfl, fun _ => rfl⟩
theorem cl_X1_9 : Cond.classLink RX1 9 "DewWages$State" ∈ GW := gw 2 173 (by decide +kernel)
theorem nw_X1_9 : NW RX1 9 6 := ⟨RX5, TX5, 8, tyX5, rfl, u_X5, tyX5_ok, cl_X1_9, gw 1 185 (by decide +kernel), gw 1 5 (by decide +kernel), rfl, fun _ => rfl⟩
theorem cl_X1_18 : Cond.classLink RX1 18 "[[I" ∈ GW := gw 2 175 (by decide +kernel)
theorem cl_X1_34 : Cond.classLink RX1 34 "DewWages$Walk" ∈ GW := gw 2 176 (by decide +kernel)
theorem nw_X1_34 : NW RX1 34 9 := ⟨RX8, TX8, 10, tyX8, rfl, u_X8, tyX8_ok, cl_X1_34, gw 2 19 (by decide +kernel), gw 1 7 (by decide +kernel), rfl, fun _ => rfl⟩
theorem cl_X11_74 : Cond.classLink RX11 74 "DewWages$Walkers" ∈ GW := gw 2 203 (by decide +kernel)
theorem nw_X11_74 : NW RX11 74 10 := ⟨RX9, TX9, 13, tyX9, rfl, u_X9, tyX9_ok, cl_X11_74, gw 2 204 (by decide +kernel), gw 1 11 (by decide +kernel), rfl, fun _ => rfl⟩
theorem cl_X9_15 : Cond.classLink RX9 15 "[[I" ∈ GW := gw 2 209 (by decide +kernel)
theorem cl_X9_30 : Cond.classLink RX9 30 "DewWages$Walk" ∈ GW := gw 2 210 (by decide +kernel)
theorem nw_X9_30 : NW RX9 30 9 := ⟨RX8, TX8, 10, tyX8, rfl, u_X8, tyX8_ok, cl_X9_30, gw 2 19 (by decide +kernel), gw 1 7 (by decide +kernel), rfl, fun _ => rfl⟩
theorem cl_X11_81 : Cond.classLink RX11 81 "DewWages$Image" ∈ GW := gw 3 18 (by decide +kernel)
theorem nw_X11_81 : NW RX11 81 3 := ⟨RX2, TX2, 2, tyX2, rfl, u_X2, tyX2_ok, cl_X11_81, gw 3 19 (by decide +kernel), gw 1 12 (by decide +kernel), rfl, fun _ => rfl⟩
theorem cl_L_10 : Cond.classLink RL 10 "DewWagesModel" ∈ GW := gw 6 57 (by decide +kernel)
theorem nw_L_10 : NW RL 10 13 := ⟨RX12, TX12, 77, tyX12, rfl, u_X12, tyX12_ok, cl_L_10, gw 6 58 (by decide +kernel), gw 1 13 (by decide +kernel), rfl, fun _ => rfl⟩
theorem pa_st {μ : Mem} {a hi : Int} (x q : Int) (h : Fresh μ a) (hh : hi = a + 1) : μ = pa μ a hi [] x q := by subst hh; exact pa_start x q h
theorem mI_sum {k : Int} (h : 0 ≤ k ∧ k < 6) : mI 486 k = -1 := by
  unfold mI
  rw [t486, kd20, if_neg (by decide)]
  unfold i0
  rw [if_neg (by omega), if_neg (by omega), if_neg (by omega), if_neg (by omega), if_neg (by omega), if_neg (by omega), if_neg (by omega), if_pos ⟨rfl, h⟩]
theorem i_getA {ini : Bool} {res : Option Rs} {l : Launch} {en : En} {cc : ByteArray} {own : String} {nL : Nat} {R : Room} {K : KT} {z : Zt} {pc : Nat} {L : Lo} {st : List Value} {μ : Mem} (Ra : Ru ini res l en cc own nL R K) {i t k : Nat} {a b : Int} (ha : ty a = t) (ht : (t != 0) = true) (h20 : Nat.blt t 20 = true) (hk : (fk t)[k]? = some 2) (hx : μ a (k : Int) = b) (h0 : 0 ≤ b) (hf : FL own i t k) (hz : a < z.1) (hd : decode cc pc = .ok (.getfield i, 3)) (kk : K z (pc + 3) L (vA en b :: st) μ) : K z pc L (vA en a :: st) μ :=
  r_getf Ra ⟨(tin ha ht).1, hz⟩ ha (Nat.le_of_ble_eq_true h20) hk (by rw [hx]; exact toV_r h0) hf hd kk
theorem ci_X6_init {l : Launch} {en : En} {μ : Mem} {a hi : Int} (ht : ty a = 7) (hh : hi = a + 3) (hF : Fresh μ a) : CtN l en yX6_init cX6_init 1 1 12 2 1664 [] a hi μ := by
  subst hh
  have h0 := (in7_ok ht).2
  have hle : a ≤ 465 := by
    have h1 := (in7_ok ht).1
    have h2 : ∀ m ∈ in7, m ≤ 465 := by decide
    have := h2 _ h1
    omega
  refine Tr.of true (fun _ => rfl) (by decide) (Nat.le_of_ble_eq_true rfl) (fun K Ra => ?_)
  refine r_aload_n Ra (i := 0) dX6_init_0 rfl rfl ?_
  refine r_objI Ra k_X6_3 wo_c.2.1 wo_c.2.2 (Nat.le_of_ble_eq_true rfl) (Nat.le_of_ble_eq_true rfl) dX6_init_1 ?_
  rw [pa_st (hi := (a + 1)) (-1) 0 hF (by omega)]
  refine r_aload_n Ra (i := 0) dX6_init_4 rfl rfl ?_
  refine r_sipush Ra dX6_init_5 rfl ?_
  refine i_newa Ra (lo := (a + 1)) (hi := (a + 2)) (cnt1 := Int.toNat ((a + 2))) (c1 := 1) (s1 := 1600) (Or.inl ⟨rfl, rfl⟩) hF (by omega) (tn7_0 ht).1 (tn7_0 ht).2 (by omega) (by omega) (by omega) rfl wa_int (by omega) (by omega) (by show (_ : Nat) ≤ 2; omega) (by show (_ : Nat) ≤ 1664; omega) dX6_init_8 ?_
  refine i_putF Ra (v := (a + 1)) h0 (by show _ < (_ : Int); omega) ht rfl rfl (mI_ref ht rfl rfl) (toV_r (by omega)) f_X6_9 p_X6_0 rfl rfl rfl (fun C T N h => by have h1 : some (RX6, TX6, 3) = some (C, T, N) := h; cases h1; rfl) dX6_init_10 ?_
  refine r_aload_n Ra (i := 0) dX6_init_13 rfl rfl ?_
  refine r_bipush Ra dX6_init_14 rfl ?_
  refine i_newa Ra (lo := (a + 2)) (hi := (a + 3)) (cnt1 := Int.toNat ((a + 3))) (c1 := 2) (s1 := 1664) (Or.inl ⟨rfl, rfl⟩) hF (by omega) (tn7_1 ht).1 (tn7_1 ht).2 (by omega) (by omega) (by omega) rfl wa_int (by omega) (by omega) (by show (_ : Nat) ≤ 2; omega) (by show (_ : Nat) ≤ 1664; omega) dX6_init_16 ?_
  refine i_putF Ra (v := (a + 2)) h0 (by show _ < (_ : Int); omega) ht rfl rfl (mI_ref ht rfl rfl) (toV_r (by omega)) f_X6_15 p_X6_1 rfl rfl rfl (fun C T N h => by have h1 : some (RX6, TX6, 3) = some (C, T, N) := h; cases h1; rfl) dX6_init_18 ?_
  exact i_ret Ra ht rfl rfl (by omega) (by decide) (fun h1 h2 => absurd h1 (by omega)) dX6_init_21
theorem ci_X5_init {l : Launch} {en : En} {μ : Mem} {a hi : Int} (ht : ty a = 6) (hh : hi = a + 7) (hF : Fresh μ a) : CtN l en yX5_init cX5_init 1 1 12 6 208 [] a hi μ := by
  subst hh
  have h0 := (in6_ok ht).2
  have hle : a ≤ 465 := by
    have h1 := (in6_ok ht).1
    have h2 : ∀ m ∈ in6, m ≤ 465 := by decide
    have := h2 _ h1
    omega
  refine Tr.of true (fun _ => rfl) (by decide) (Nat.le_of_ble_eq_true rfl) (fun K Ra => ?_)
  refine r_aload_n Ra (i := 0) dX5_init_0 rfl rfl ?_
  refine r_objI Ra k_X5_3 wo_c.2.1 wo_c.2.2 (Nat.le_of_ble_eq_true rfl) (Nat.le_of_ble_eq_true rfl) dX5_init_1 ?_
  rw [pa_st (hi := (a + 1)) (-1) 0 hF (by omega)]
  refine r_aload_n Ra (i := 0) dX5_init_4 rfl rfl ?_
  refine r_bipush Ra dX5_init_5 rfl ?_
  refine i_newa Ra (lo := (a + 1)) (hi := (a + 2)) (cnt1 := Int.toNat ((a + 2))) (c1 := 1) (s1 := 64) (Or.inl ⟨rfl, rfl⟩) hF (by omega) (tn6_1 ht).1 (tn6_1 ht).2 (by omega) (by omega) (by omega) rfl wa_int (by omega) (by omega) (by show (_ : Nat) ≤ 6; omega) (by show (_ : Nat) ≤ 208; omega) dX5_init_7 ?_
  refine i_putF Ra (v := (a + 1)) h0 (by show _ < (_ : Int); omega) ht rfl rfl (mI_ref ht rfl rfl) (toV_r (by omega)) f_X5_9 p_X5_1 rfl rfl rfl (fun C T N h => by have h1 : some (RX5, TX5, 8) = some (C, T, N) := h; cases h1; rfl) dX5_init_9 ?_
  refine r_aload_n Ra (i := 0) dX5_init_12 rfl rfl ?_
  refine r_bipush Ra dX5_init_13 rfl ?_
  refine i_newa Ra (lo := (a + 2)) (hi := (a + 3)) (cnt1 := Int.toNat ((a + 3))) (c1 := 2) (s1 := 70) (Or.inl ⟨rfl, rfl⟩) hF (by omega) (tn6_2 ht).1 (tn6_2 ht).2 (by omega) (by omega) (by omega) rfl wa_int (by omega) (by omega) (by show (_ : Nat) ≤ 6; omega) (by show (_ : Nat) ≤ 208; omega) dX5_init_15 ?_
  refine i_putF Ra (v := (a + 2)) h0 (by show _ < (_ : Int); omega) ht rfl rfl (mI_ref ht rfl rfl) (toV_r (by omega)) f_X5_15 p_X5_2 rfl rfl rfl (fun C T N h => by have h1 : some (RX5, TX5, 8) = some (C, T, N) := h; cases h1; rfl) dX5_init_17 ?_
  refine r_aload_n Ra (i := 0) dX5_init_20 rfl rfl ?_
  refine r_bipush Ra dX5_init_21 rfl ?_
  refine i_newa Ra (lo := (a + 3)) (hi := (a + 4)) (cnt1 := Int.toNat ((a + 4))) (c1 := 3) (s1 := 76) (Or.inl ⟨rfl, rfl⟩) hF (by omega) (tn6_3 ht).1 (tn6_3 ht).2 (by omega) (by omega) (by omega) rfl wa_int (by omega) (by omega) (by show (_ : Nat) ≤ 6; omega) (by show (_ : Nat) ≤ 208; omega) dX5_init_23 ?_
  refine i_putF Ra (v := (a + 3)) h0 (by show _ < (_ : Int); omega) ht rfl rfl (mI_ref ht rfl rfl) (toV_r (by omega)) f_X5_18 p_X5_3 rfl rfl rfl (fun C T N h => by have h1 : some (RX5, TX5, 8) = some (C, T, N) := h; cases h1; rfl) dX5_init_25 ?_
  refine r_aload_n Ra (i := 0) dX5_init_28 rfl rfl ?_
  refine r_bipush Ra dX5_init_29 rfl ?_
  refine i_newa Ra (lo := (a + 4)) (hi := (a + 5)) (cnt1 := Int.toNat ((a + 5))) (c1 := 4) (s1 := 82) (Or.inl ⟨rfl, rfl⟩) hF (by omega) (tn6_4 ht).1 (tn6_4 ht).2 (by omega) (by omega) (by omega) rfl wa_int (by omega) (by omega) (by show (_ : Nat) ≤ 6; omega) (by show (_ : Nat) ≤ 208; omega) dX5_init_31 ?_
  refine i_putF Ra (v := (a + 4)) h0 (by show _ < (_ : Int); omega) ht rfl rfl (mI_ref ht rfl rfl) (toV_r (by omega)) f_X5_21 p_X5_4 rfl rfl rfl (fun C T N h => by have h1 : some (RX5, TX5, 8) = some (C, T, N) := h; cases h1; rfl) dX5_init_33 ?_
  refine r_aload_n Ra (i := 0) dX5_init_36 rfl rfl ?_
  refine r_bipush Ra dX5_init_37 rfl ?_
  refine i_newa Ra (lo := (a + 5)) (hi := (a + 6)) (cnt1 := Int.toNat ((a + 6))) (c1 := 5) (s1 := 88) (Or.inl ⟨rfl, rfl⟩) hF (by omega) (tn6_5 ht).1 (tn6_5 ht).2 (by omega) (by omega) (by omega) rfl wa_int (by omega) (by omega) (by show (_ : Nat) ≤ 6; omega) (by show (_ : Nat) ≤ 208; omega) dX5_init_39 ?_
  refine i_putF Ra (v := (a + 5)) h0 (by show _ < (_ : Int); omega) ht rfl rfl (mI_ref ht rfl rfl) (toV_r (by omega)) f_X5_24 p_X5_5 rfl rfl rfl (fun C T N h => by have h1 : some (RX5, TX5, 8) = some (C, T, N) := h; cases h1; rfl) dX5_init_41 ?_
  refine r_aload_n Ra (i := 0) dX5_init_44 rfl rfl ?_
  refine r_bipush Ra dX5_init_45 rfl ?_
  refine i_newa Ra (lo := (a + 6)) (hi := (a + 7)) (cnt1 := Int.toNat ((a + 7))) (c1 := 6) (s1 := 208) (Or.inl ⟨rfl, rfl⟩) hF (by omega) (tn6_6 ht).1 (tn6_6 ht).2 (by omega) (by omega) (by omega) rfl wa_int (by omega) (by omega) (by show (_ : Nat) ≤ 6; omega) (by show (_ : Nat) ≤ 208; omega) dX5_init_47 ?_
  refine i_putF Ra (v := (a + 6)) h0 (by show _ < (_ : Int); omega) ht rfl rfl (mI_ref ht rfl rfl) (toV_r (by omega)) f_X5_27 p_X5_6 rfl rfl rfl (fun C T N h => by have h1 : some (RX5, TX5, 8) = some (C, T, N) := h; cases h1; rfl) dX5_init_49 ?_
  exact i_ret Ra ht rfl rfl (by omega) (by decide) (fun h1 h2 => absurd h1 (by omega)) dX5_init_52
theorem ci_X8_init {l : Launch} {en : En} {μ : Mem} {a hi : Int} (ht : ty a = 9) (hh : hi = a + 7) (hF : Fresh μ a) : CtN l en yX8_init cX8_init 2 1 12 6 95 [vA en 2] a hi μ := by
  subst hh
  have h0 := (in9_ok ht).2
  have hle : a ≤ 465 := by
    have h1 := (in9_ok ht).1
    have h2 : ∀ m ∈ in9, m ≤ 465 := by decide
    have := h2 _ h1
    omega
  refine Tr.of true (fun _ => rfl) (by decide) (Nat.le_of_ble_eq_true rfl) (fun K Ra => ?_)
  refine r_aload_n Ra (i := 0) dX8_init_0 rfl rfl ?_
  refine r_objI Ra k_X8_3 wo_c.2.1 wo_c.2.2 (Nat.le_of_ble_eq_true rfl) (Nat.le_of_ble_eq_true rfl) dX8_init_1 ?_
  rw [pa_st (hi := (a + 1)) (-1) 0 hF (by omega)]
  refine r_aload_n Ra (i := 0) dX8_init_4 rfl rfl ?_
  refine r_bipush Ra dX8_init_5 rfl ?_
  refine i_newa Ra (lo := (a + 1)) (hi := (a + 2)) (cnt1 := Int.toNat ((a + 2))) (c1 := 1) (s1 := 64) (Or.inl ⟨rfl, rfl⟩) hF (by omega) (tn9_1 ht).1 (tn9_1 ht).2 (by omega) (by omega) (by omega) rfl wa_int (by omega) (by omega) (by show (_ : Nat) ≤ 6; omega) (by show (_ : Nat) ≤ 95; omega) dX8_init_7 ?_
  refine i_putF Ra (v := (a + 1)) h0 (by show _ < (_ : Int); omega) ht rfl rfl (mI_ref ht rfl rfl) (toV_r (by omega)) f_X8_9 p_X8_1 rfl rfl rfl (fun C T N h => by have h1 : some (RX8, TX8, 10) = some (C, T, N) := h; cases h1; rfl) dX8_init_9 ?_
  refine r_aload_n Ra (i := 0) dX8_init_12 rfl rfl ?_
  refine r_bipush Ra dX8_init_13 rfl ?_
  refine i_newa Ra (lo := (a + 2)) (hi := (a + 3)) (cnt1 := Int.toNat ((a + 3))) (c1 := 2) (s1 := 70) (Or.inl ⟨rfl, rfl⟩) hF (by omega) (tn9_2 ht).1 (tn9_2 ht).2 (by omega) (by omega) (by omega) rfl wa_int (by omega) (by omega) (by show (_ : Nat) ≤ 6; omega) (by show (_ : Nat) ≤ 95; omega) dX8_init_15 ?_
  refine i_putF Ra (v := (a + 2)) h0 (by show _ < (_ : Int); omega) ht rfl rfl (mI_ref ht rfl rfl) (toV_r (by omega)) f_X8_15 p_X8_2 rfl rfl rfl (fun C T N h => by have h1 : some (RX8, TX8, 10) = some (C, T, N) := h; cases h1; rfl) dX8_init_17 ?_
  refine r_aload_n Ra (i := 0) dX8_init_20 rfl rfl ?_
  refine r_bipush Ra dX8_init_21 rfl ?_
  refine i_newa Ra (lo := (a + 3)) (hi := (a + 4)) (cnt1 := Int.toNat ((a + 4))) (c1 := 3) (s1 := 76) (Or.inl ⟨rfl, rfl⟩) hF (by omega) (tn9_3 ht).1 (tn9_3 ht).2 (by omega) (by omega) (by omega) rfl wa_int (by omega) (by omega) (by show (_ : Nat) ≤ 6; omega) (by show (_ : Nat) ≤ 95; omega) dX8_init_23 ?_
  refine i_putF Ra (v := (a + 3)) h0 (by show _ < (_ : Int); omega) ht rfl rfl (mI_ref ht rfl rfl) (toV_r (by omega)) f_X8_18 p_X8_3 rfl rfl rfl (fun C T N h => by have h1 : some (RX8, TX8, 10) = some (C, T, N) := h; cases h1; rfl) dX8_init_25 ?_
  refine r_aload_n Ra (i := 0) dX8_init_28 rfl rfl ?_
  refine r_bipush Ra dX8_init_29 rfl ?_
  refine i_newa Ra (lo := (a + 4)) (hi := (a + 5)) (cnt1 := Int.toNat ((a + 5))) (c1 := 4) (s1 := 82) (Or.inl ⟨rfl, rfl⟩) hF (by omega) (tn9_4 ht).1 (tn9_4 ht).2 (by omega) (by omega) (by omega) rfl wa_int (by omega) (by omega) (by show (_ : Nat) ≤ 6; omega) (by show (_ : Nat) ≤ 95; omega) dX8_init_31 ?_
  refine i_putF Ra (v := (a + 4)) h0 (by show _ < (_ : Int); omega) ht rfl rfl (mI_ref ht rfl rfl) (toV_r (by omega)) f_X8_21 p_X8_4 rfl rfl rfl (fun C T N h => by have h1 : some (RX8, TX8, 10) = some (C, T, N) := h; cases h1; rfl) dX8_init_33 ?_
  refine r_aload_n Ra (i := 0) dX8_init_36 rfl rfl ?_
  refine r_bipush Ra dX8_init_37 rfl ?_
  refine i_newa Ra (lo := (a + 5)) (hi := (a + 6)) (cnt1 := Int.toNat ((a + 6))) (c1 := 5) (s1 := 88) (Or.inl ⟨rfl, rfl⟩) hF (by omega) (tn9_5 ht).1 (tn9_5 ht).2 (by omega) (by omega) (by omega) rfl wa_int (by omega) (by omega) (by show (_ : Nat) ≤ 6; omega) (by show (_ : Nat) ≤ 95; omega) dX8_init_39 ?_
  refine i_putF Ra (v := (a + 5)) h0 (by show _ < (_ : Int); omega) ht rfl rfl (mI_ref ht rfl rfl) (toV_r (by omega)) f_X8_24 p_X8_5 rfl rfl rfl (fun C T N h => by have h1 : some (RX8, TX8, 10) = some (C, T, N) := h; cases h1; rfl) dX8_init_41 ?_
  refine r_aload_n Ra (i := 0) dX8_init_44 rfl rfl ?_
  refine r_bipush Ra dX8_init_45 rfl ?_
  refine i_newa Ra (lo := (a + 6)) (hi := (a + 7)) (cnt1 := Int.toNat ((a + 7))) (c1 := 6) (s1 := 95) (Or.inl ⟨rfl, rfl⟩) hF (by omega) (tn9_6 ht).1 (tn9_6 ht).2 (by omega) (by omega) (by omega) rfl wa_int (by omega) (by omega) (by show (_ : Nat) ≤ 6; omega) (by show (_ : Nat) ≤ 95; omega) dX8_init_47 ?_
  refine i_putF Ra (v := (a + 6)) h0 (by show _ < (_ : Int); omega) ht rfl rfl (mI_ref ht rfl rfl) (toV_r (by omega)) f_X8_29 p_X8_6 rfl rfl rfl (fun C T N h => by have h1 : some (RX8, TX8, 10) = some (C, T, N) := h; cases h1; rfl) dX8_init_49 ?_
  refine r_aload_n Ra (i := 0) dX8_init_52 rfl rfl ?_
  refine r_bipush Ra dX8_init_53 rfl ?_
  refine i_put Ra (v := 63) h0 (by show _ < (_ : Int); omega) ht rfl rfl (mI_val ht rfl (by decide) (by decide)) rfl f_X8_32 p_X8_7 rfl rfl dX8_init_55 ?_
  refine r_aload_n Ra (i := 0) dX8_init_58 rfl rfl ?_
  refine r_aload_n Ra (i := 1) dX8_init_59 rfl rfl ?_
  refine i_putF Ra (v := 2) h0 (by show _ < (_ : Int); omega) ht rfl rfl (mI_ref ht rfl rfl) (toV_r (by omega)) f_X8_36 p_X8_0 rfl rfl rfl (fun C T N h => by have h1 : some (RX8, TX8, 10) = some (C, T, N) := h; cases h1; rfl) dX8_init_60 ?_
  exact i_ret Ra ht rfl rfl (by omega) (by decide) (fun h1 h2 => absurd h1 (by omega)) dX8_init_63
theorem ci_X3_init {l : Launch} {en : En} {μ : Mem} {a hi : Int} (ht : ty a = 4) (hh : hi = a + 16) (hF : Fresh μ a) : CtN l en yX3_init cX3_init 1 2 32 15 5125 [] a hi μ := by
  subst hh
  have h0 := (in4_ok ht).2
  have hle : a ≤ 465 := by
    have h1 := (in4_ok ht).1
    have h2 : ∀ m ∈ in4, m ≤ 465 := by decide
    have := h2 _ h1
    omega
  refine Tr.of true (fun _ => rfl) (by decide) (Nat.le_of_ble_eq_true rfl) (fun K Ra => ?_)
  refine r_aload_n Ra (i := 0) dX3_init_0 rfl rfl ?_
  refine r_objI Ra k_X3_3 wo_c.2.1 wo_c.2.2 (Nat.le_of_ble_eq_true rfl) (Nat.le_of_ble_eq_true rfl) dX3_init_1 ?_
  rw [pa_st (hi := (a + 1)) (-1) 0 hF (by omega)]
  refine r_aload_n Ra (i := 0) dX3_init_4 rfl rfl ?_
  refine r_bipush Ra dX3_init_5 rfl ?_
  refine i_newa Ra (lo := (a + 1)) (hi := (a + 2)) (cnt1 := Int.toNat ((a + 2))) (c1 := 1) (s1 := 64) (Or.inl ⟨rfl, rfl⟩) hF (by omega) (tn4_6 ht).1 (tn4_6 ht).2 (by omega) (by omega) (by omega) rfl wa_int (by omega) (by omega) (by show (_ : Nat) ≤ 15; omega) (by show (_ : Nat) ≤ 5125; omega) dX3_init_7 ?_
  refine i_putF Ra (v := (a + 1)) h0 (by show _ < (_ : Int); omega) ht rfl rfl (mI_ref ht rfl rfl) (toV_r (by omega)) f_X3_9 p_X3_6 rfl rfl rfl (fun C T N h => by have h1 : some (RX3, TX3, 15) = some (C, T, N) := h; cases h1; rfl) dX3_init_9 ?_
  refine r_aload_n Ra (i := 0) dX3_init_12 rfl rfl ?_
  refine r_bipush Ra dX3_init_13 rfl ?_
  refine i_newa Ra (lo := (a + 2)) (hi := (a + 3)) (cnt1 := Int.toNat ((a + 3))) (c1 := 2) (s1 := 100) (Or.inl ⟨rfl, rfl⟩) hF (by omega) (tn4_7 ht).1 (tn4_7 ht).2 (by omega) (by omega) (by omega) rfl wa_int (by omega) (by omega) (by show (_ : Nat) ≤ 15; omega) (by show (_ : Nat) ≤ 5125; omega) dX3_init_15 ?_
  refine i_putF Ra (v := (a + 2)) h0 (by show _ < (_ : Int); omega) ht rfl rfl (mI_ref ht rfl rfl) (toV_r (by omega)) f_X3_15 p_X3_7 rfl rfl rfl (fun C T N h => by have h1 : some (RX3, TX3, 15) = some (C, T, N) := h; cases h1; rfl) dX3_init_17 ?_
  refine r_aload_n Ra (i := 0) dX3_init_20 rfl rfl ?_
  refine r_bipush Ra dX3_init_21 rfl ?_
  refine i_newa Ra (lo := (a + 3)) (hi := (a + 4)) (cnt1 := Int.toNat ((a + 4))) (c1 := 3) (s1 := 106) (Or.inl ⟨rfl, rfl⟩) hF (by omega) (tn4_8 ht).1 (tn4_8 ht).2 (by omega) (by omega) (by omega) rfl wa_int (by omega) (by omega) (by show (_ : Nat) ≤ 15; omega) (by show (_ : Nat) ≤ 5125; omega) dX3_init_23 ?_
  refine i_putF Ra (v := (a + 3)) h0 (by show _ < (_ : Int); omega) ht rfl rfl (mI_ref ht rfl rfl) (toV_r (by omega)) f_X3_18 p_X3_8 rfl rfl rfl (fun C T N h => by have h1 : some (RX3, TX3, 15) = some (C, T, N) := h; cases h1; rfl) dX3_init_25 ?_
  refine r_aload_n Ra (i := 0) dX3_init_28 rfl rfl ?_
  refine r_bipush Ra dX3_init_29 rfl ?_
  refine i_newa Ra (lo := (a + 4)) (hi := (a + 5)) (cnt1 := Int.toNat ((a + 5))) (c1 := 4) (s1 := 112) (Or.inl ⟨rfl, rfl⟩) hF (by omega) (tn4_9 ht).1 (tn4_9 ht).2 (by omega) (by omega) (by omega) rfl wa_int (by omega) (by omega) (by show (_ : Nat) ≤ 15; omega) (by show (_ : Nat) ≤ 5125; omega) dX3_init_31 ?_
  refine i_putF Ra (v := (a + 4)) h0 (by show _ < (_ : Int); omega) ht rfl rfl (mI_ref ht rfl rfl) (toV_r (by omega)) f_X3_21 p_X3_9 rfl rfl rfl (fun C T N h => by have h1 : some (RX3, TX3, 15) = some (C, T, N) := h; cases h1; rfl) dX3_init_33 ?_
  refine r_aload_n Ra (i := 0) dX3_init_36 rfl rfl ?_
  refine r_bipush Ra dX3_init_37 rfl ?_
  refine i_newa Ra (lo := (a + 5)) (hi := (a + 6)) (cnt1 := Int.toNat ((a + 6))) (c1 := 5) (s1 := 118) (Or.inl ⟨rfl, rfl⟩) hF (by omega) (tn4_10 ht).1 (tn4_10 ht).2 (by omega) (by omega) (by omega) rfl wa_int (by omega) (by omega) (by show (_ : Nat) ≤ 15; omega) (by show (_ : Nat) ≤ 5125; omega) dX3_init_39 ?_
  refine i_putF Ra (v := (a + 5)) h0 (by show _ < (_ : Int); omega) ht rfl rfl (mI_ref ht rfl rfl) (toV_r (by omega)) f_X3_24 p_X3_10 rfl rfl rfl (fun C T N h => by have h1 : some (RX3, TX3, 15) = some (C, T, N) := h; cases h1; rfl) dX3_init_41 ?_
  refine r_aload_n Ra (i := 0) dX3_init_44 rfl rfl ?_
  refine r_bipush Ra dX3_init_45 rfl ?_
  refine i_newa Ra (lo := (a + 6)) (hi := (a + 7)) (cnt1 := Int.toNat ((a + 7))) (c1 := 6) (s1 := 124) (Or.inl ⟨rfl, rfl⟩) hF (by omega) (tn4_11 ht).1 (tn4_11 ht).2 (by omega) (by omega) (by omega) rfl wa_int (by omega) (by omega) (by show (_ : Nat) ≤ 15; omega) (by show (_ : Nat) ≤ 5125; omega) dX3_init_47 ?_
  refine i_putF Ra (v := (a + 6)) h0 (by show _ < (_ : Int); omega) ht rfl rfl (mI_ref ht rfl rfl) (toV_r (by omega)) f_X3_27 p_X3_11 rfl rfl rfl (fun C T N h => by have h1 : some (RX3, TX3, 15) = some (C, T, N) := h; cases h1; rfl) dX3_init_49 ?_
  refine r_aload_n Ra (i := 0) dX3_init_52 rfl rfl ?_
  refine i_new Ra (t := 7) (cnt1 := Int.toNat ((a + 7) + 1)) (c1 := 7) (s1 := 127) hF (by omega) (tn4_12 ht) rfl rfl nw_X3_30 (by omega) rfl (by omega) (by show _ = _ + 3; omega) (by show (_ : Nat) ≤ 15; omega) (by show (_ : Nat) ≤ 5125; omega) dX3_init_53 ?_
  refine r_dupA Ra dX3_init_56 ?_
  refine i_callN Ra (As := []) (lo := (a + 7)) (hi := (a + 10)) (cnt2 := Int.toNat ((a + 10))) (c1 := 9) (s1 := 1791) (st := [vA en ((a + 7)), vA en (a)]) (ci_X6_init (a := (a + 7)) (hi := (a + 10)) (tn4_12 ht) (by omega) (pa_fresh hF (by omega))) mw_X6_init mn_X6_init rfl rfl rfl kn_X3_32 (by omega) (by omega) (by omega) rfl (by omega) (by omega) ⟨(by show (_ : Nat) ≤ 15; omega), (by show (_ : Nat) ≤ 5125; omega)⟩ (Nat.le_of_ble_eq_true rfl) (Nat.le_of_ble_eq_true rfl) rfl dX3_init_57 ?_
  refine i_putF Ra (v := (a + 7)) h0 (by show _ < (_ : Int); omega) ht rfl rfl (mI_ref ht rfl rfl) (toV_r (by omega)) f_X3_33 p_X3_12 rfl rfl rfl (fun C T N h => by have h1 : some (RX3, TX3, 15) = some (C, T, N) := h; cases h1; rfl) dX3_init_60 ?_
  refine r_aload_n Ra (i := 0) dX3_init_63 rfl rfl ?_
  refine i_new Ra (t := 7) (cnt1 := Int.toNat ((a + 10) + 1)) (c1 := 10) (s1 := 1794) hF (by omega) (tn4_13 ht) rfl rfl nw_X3_30 (by omega) rfl (by omega) (by show _ = _ + 3; omega) (by show (_ : Nat) ≤ 15; omega) (by show (_ : Nat) ≤ 5125; omega) dX3_init_64 ?_
  refine r_dupA Ra dX3_init_67 ?_
  refine i_callN Ra (As := []) (lo := (a + 10)) (hi := (a + 13)) (cnt2 := Int.toNat ((a + 13))) (c1 := 12) (s1 := 3458) (st := [vA en ((a + 10)), vA en (a)]) (ci_X6_init (a := (a + 10)) (hi := (a + 13)) (tn4_13 ht) (by omega) (pa_fresh hF (by omega))) mw_X6_init mn_X6_init rfl rfl rfl kn_X3_32 (by omega) (by omega) (by omega) rfl (by omega) (by omega) ⟨(by show (_ : Nat) ≤ 15; omega), (by show (_ : Nat) ≤ 5125; omega)⟩ (Nat.le_of_ble_eq_true rfl) (Nat.le_of_ble_eq_true rfl) rfl dX3_init_68 ?_
  refine i_putF Ra (v := (a + 10)) h0 (by show _ < (_ : Int); omega) ht rfl rfl (mI_ref ht rfl rfl) (toV_r (by omega)) f_X3_37 p_X3_13 rfl rfl rfl (fun C T N h => by have h1 : some (RX3, TX3, 15) = some (C, T, N) := h; cases h1; rfl) dX3_init_71 ?_
  refine r_aload_n Ra (i := 0) dX3_init_74 rfl rfl ?_
  refine i_new Ra (t := 7) (cnt1 := Int.toNat ((a + 13) + 1)) (c1 := 13) (s1 := 3461) hF (by omega) (tn4_14 ht) rfl rfl nw_X3_30 (by omega) rfl (by omega) (by show _ = _ + 3; omega) (by show (_ : Nat) ≤ 15; omega) (by show (_ : Nat) ≤ 5125; omega) dX3_init_75 ?_
  refine r_dupA Ra dX3_init_78 ?_
  refine i_callN Ra (As := []) (lo := (a + 13)) (hi := (a + 16)) (cnt2 := Int.toNat ((a + 16))) (c1 := 15) (s1 := 5125) (st := [vA en ((a + 13)), vA en (a)]) (ci_X6_init (a := (a + 13)) (hi := (a + 16)) (tn4_14 ht) (by omega) (pa_fresh hF (by omega))) mw_X6_init mn_X6_init rfl rfl rfl kn_X3_32 (by omega) (by omega) (by omega) rfl (by omega) (by omega) ⟨(by show (_ : Nat) ≤ 15; omega), (by show (_ : Nat) ≤ 5125; omega)⟩ (Nat.le_of_ble_eq_true rfl) (Nat.le_of_ble_eq_true rfl) rfl dX3_init_79 ?_
  refine i_putF Ra (v := (a + 13)) h0 (by show _ < (_ : Int); omega) ht rfl rfl (mI_ref ht rfl rfl) (toV_r (by omega)) f_X3_40 p_X3_14 rfl rfl rfl (fun C T N h => by have h1 : some (RX3, TX3, 15) = some (C, T, N) := h; cases h1; rfl) dX3_init_82 ?_
  exact i_ret Ra ht rfl rfl (by omega) (by decide) (fun h1 h2 => absurd h1 (by omega)) dX3_init_85
theorem ci_X4_init {l : Launch} {en : En} {μ : Mem} {a hi : Int} (h9 : a = 18) (hh : hi = a + 20) (hF : Fresh μ a) : CtN l en yX4_init cX4_init 1 3 52 19 9943 [] a hi μ := by
  subst hh
  subst h9
  have ht := t18
  have h0 : (0 : Int) ≤ 18 := by decide
  refine Tr.of true (fun _ => rfl) (by decide) (Nat.le_of_ble_eq_true rfl) (fun K Ra => ?_)
  refine r_aload_n Ra (i := 0) dX4_init_0 rfl rfl ?_
  refine r_objI Ra k_X4_3 wo_c.2.1 wo_c.2.2 (Nat.le_of_ble_eq_true rfl) (Nat.le_of_ble_eq_true rfl) dX4_init_1 ?_
  rw [pa_st (hi := 19) (-1) 0 hF (by omega)]
  refine r_aload_n Ra (i := 0) dX4_init_4 rfl rfl ?_
  refine i_new Ra (t := 4) (cnt1 := Int.toNat (19 + 1)) (c1 := 1) (s1 := 15) hF (by omega) t19 rfl rfl nw_X4_9 (by omega) rfl (by omega) (by show _ = _ + 15; omega) (by show (_ : Nat) ≤ 19; omega) (by show (_ : Nat) ≤ 9943; omega) dX4_init_5 ?_
  refine r_dupA Ra dX4_init_8 ?_
  refine i_callN Ra (As := []) (lo := 19) (hi := 35) (cnt2 := Int.toNat (35)) (c1 := 16) (s1 := 5140) (st := [vA en (19), vA en (18)]) (ci_X3_init (a := 19) (hi := 35) t19 (by omega) (pa_fresh hF (by omega))) mw_X3_init mn_X3_init rfl rfl rfl kn_X4_11 (by omega) (by omega) (by omega) rfl (by omega) (by omega) ⟨(by show (_ : Nat) ≤ 19; omega), (by show (_ : Nat) ≤ 9943; omega)⟩ (Nat.le_of_ble_eq_true rfl) (Nat.le_of_ble_eq_true rfl) rfl dX4_init_9 ?_
  refine i_putF Ra (v := 19) h0 (by show _ < (_ : Int); omega) ht rfl rfl (mI_ref ht rfl rfl) (toV_r (by omega)) f_X4_12 p_X4_0 rfl rfl rfl (fun C T N h => by have h1 : some (RX4, TX4, 11) = some (C, T, N) := h; cases h1; rfl) dX4_init_12 ?_
  refine r_aload_n Ra (i := 0) dX4_init_15 rfl rfl ?_
  refine r_iconst Ra dX4_init_16 ?_
  refine i_put Ra (v := -1) h0 (by show _ < (_ : Int); omega) ht rfl rfl (mI_val ht rfl (by decide) (by decide)) rfl f_X4_18 p_X4_2 rfl rfl dX4_init_17 ?_
  refine r_aload_n Ra (i := 0) dX4_init_20 rfl rfl ?_
  refine r_sipush Ra dX4_init_21 rfl ?_
  refine i_newa Ra (lo := 35) (hi := 36) (cnt1 := Int.toNat (36)) (c1 := 17) (s1 := 6741) (Or.inl ⟨rfl, rfl⟩) hF (by omega) t35 l35 (by omega) (by omega) (by omega) rfl wa_int (by omega) (by omega) (by show (_ : Nat) ≤ 19; omega) (by show (_ : Nat) ≤ 9943; omega) dX4_init_24 ?_
  refine i_putF Ra (v := 35) h0 (by show _ < (_ : Int); omega) ht rfl rfl (mI_ref ht rfl rfl) (toV_r (by omega)) f_X4_22 p_X4_3 rfl rfl rfl (fun C T N h => by have h1 : some (RX4, TX4, 11) = some (C, T, N) := h; cases h1; rfl) dX4_init_26 ?_
  refine r_aload_n Ra (i := 0) dX4_init_29 rfl rfl ?_
  refine r_sipush Ra dX4_init_30 rfl ?_
  refine i_newa Ra (lo := 36) (hi := 37) (cnt1 := Int.toNat (37)) (c1 := 18) (s1 := 8342) (Or.inl ⟨rfl, rfl⟩) hF (by omega) t36 l36 (by omega) (by omega) (by omega) rfl wa_int (by omega) (by omega) (by show (_ : Nat) ≤ 19; omega) (by show (_ : Nat) ≤ 9943; omega) dX4_init_33 ?_
  refine i_putF Ra (v := 36) h0 (by show _ < (_ : Int); omega) ht rfl rfl (mI_ref ht rfl rfl) (toV_r (by omega)) f_X4_26 p_X4_4 rfl rfl rfl (fun C T N h => by have h1 : some (RX4, TX4, 11) = some (C, T, N) := h; cases h1; rfl) dX4_init_35 ?_
  refine r_aload_n Ra (i := 0) dX4_init_38 rfl rfl ?_
  refine r_sipush Ra dX4_init_39 rfl ?_
  refine i_newa Ra (lo := 37) (hi := 38) (cnt1 := Int.toNat (38)) (c1 := 19) (s1 := 9943) (Or.inl ⟨rfl, rfl⟩) hF (by omega) t37 l37 (by omega) (by omega) (by omega) rfl wa_int (by omega) (by omega) (by show (_ : Nat) ≤ 19; omega) (by show (_ : Nat) ≤ 9943; omega) dX4_init_42 ?_
  refine i_putF Ra (v := 37) h0 (by show _ < (_ : Int); omega) ht rfl rfl (mI_ref ht rfl rfl) (toV_r (by omega)) f_X4_29 p_X4_5 rfl rfl rfl (fun C T N h => by have h1 : some (RX4, TX4, 11) = some (C, T, N) := h; cases h1; rfl) dX4_init_44 ?_
  refine r_aload_n Ra (i := 0) dX4_init_47 rfl rfl ?_
  refine r_aload_n Ra (i := 0) dX4_init_48 rfl rfl ?_
  refine i_getA Ra (b := 19) t18 rfl rfl rfl (by unfold pa; rw [if_pos rfl, if_pos (by decide)]; exact mI_ref ht rfl rfl) (by decide) f_X4_12 (by show _ < (_ : Int); omega) dX4_init_49 ?_
  refine i_getA Ra (b := 26) t19 rfl rfl rfl (by unfold pa; rw [if_neg (by decide), if_pos (by decide), if_neg (by decide)]; exact mI_ref t19 rfl rfl) (by decide) f_X4_32 (by show _ < (_ : Int); omega) dX4_init_52 ?_
  refine i_put Ra (v := 26) h0 (by show _ < (_ : Int); omega) ht rfl rfl (mI_val ht rfl (by decide) (by decide)) (toV_s (by omega)) f_X4_36 p_X4_10 rfl rfl dX4_init_55 ?_
  exact i_ret Ra ht rfl rfl (by omega) (by decide) (fun h1 h2 => absurd h1 (by omega)) dX4_init_58
theorem ci_X2_init {l : Launch} {en : En} {μ : Mem} {a hi : Int} (h9 : a = 472) (hh : hi = a + 2) (hF : Fresh μ a) : CtN l en yX2_init cX2_init 1 1 12 1 103 [] a hi μ := by
  subst hh
  subst h9
  have ht := t472
  have h0 : (0 : Int) ≤ 472 := by decide
  refine Tr.of true (fun _ => rfl) (by decide) (Nat.le_of_ble_eq_true rfl) (fun K Ra => ?_)
  refine r_aload_n Ra (i := 0) dX2_init_0 rfl rfl ?_
  refine r_objI Ra k_X2_5 wo_c.2.1 wo_c.2.2 (Nat.le_of_ble_eq_true rfl) (Nat.le_of_ble_eq_true rfl) dX2_init_1 ?_
  rw [pa_st (hi := 473) (-1) 0 hF (by omega)]
  refine r_aload_n Ra (i := 0) dX2_init_4 rfl rfl ?_
  refine r_bipush Ra dX2_init_5 rfl ?_
  refine i_newa Ra (lo := 473) (hi := 474) (cnt1 := Int.toNat (474)) (c1 := 1) (s1 := 103) (Or.inl ⟨rfl, rfl⟩) hF (by omega) t473 l473 (by omega) (by omega) (by omega) rfl wa_int (by omega) (by omega) (by show (_ : Nat) ≤ 1; omega) (by show (_ : Nat) ≤ 103; omega) dX2_init_7 ?_
  refine i_putF Ra (v := 473) h0 (by show _ < (_ : Int); omega) ht rfl rfl (mI_ref ht rfl rfl) (toV_r (by omega)) f_X2_11 p_X2_0 rfl rfl rfl (fun C T N h => by have h1 : some (RX2, TX2, 2) = some (C, T, N) := h; cases h1; rfl) dX2_init_9 ?_
  exact i_ret Ra ht rfl rfl (by omega) (by decide) (fun h1 h2 => absurd h1 (by omega)) dX2_init_12
theorem ci_X0_init {l : Launch} {en : En} {μ : Mem} {a hi : Int} (h9 : a = 52) (hh : hi = a + 142) (hF : Fresh μ a) : CtN l en yX0_init cX0_init 2 2 32 141 4340 [] a hi μ := by
  subst hh
  subst h9
  have ht := t52
  have h0 : (0 : Int) ≤ 52 := by decide
  refine Tr.of true (fun _ => rfl) (by decide) (Nat.le_of_ble_eq_true rfl) (fun K Ra => ?_)
  refine r_aload_n Ra (i := 0) dX0_init_0 rfl rfl ?_
  refine r_objI Ra k_X0_3 wo_c.2.1 wo_c.2.2 (Nat.le_of_ble_eq_true rfl) (Nat.le_of_ble_eq_true rfl) dX0_init_1 ?_
  rw [pa_st (hi := 53) (53) 0 hF (by omega)]
  refine r_aload_n Ra (i := 0) dX0_init_4 rfl rfl ?_
  refine r_bipush Ra dX0_init_5 rfl ?_
  refine i_anew Ra (lo := 53) (hi := 54) (cnt1 := Int.toNat (54)) (c1 := 1) (s1 := 20) (Or.inl ⟨rfl, rfl⟩) hF (by omega) t53 l53 rfl (by omega) (by omega) rfl cl_X0_9 (by omega) (by omega) (by show (_ : Nat) ≤ 141; omega) (by show (_ : Nat) ≤ 4340; omega) dX0_init_7 ?_
  refine i_putF Ra (v := 53) h0 (by show _ < (_ : Int); omega) ht rfl rfl (mI_ref ht rfl rfl) (toV_r (by omega)) f_X0_11 p_X0_0 rfl rfl rfl (fun C T N h => by have h1 : some (RX0, TX0, 3) = some (C, T, N) := h; cases h1; rfl) dX0_init_10 ?_
  refine r_iconst Ra dX0_init_13 ?_
  refine r_istore_n Ra (i := 1) dX0_init_14 rfl (by decide) ?_
  have loop : ∀ (n : Nat) (i : Int) (L : Lo), L 0 = some (vA en 52) → L 1 = some (vI i) → 0 ≤ i → i + n = 20 → K (Int.toNat (54 + 7 * i), 1 + 7 * i.toNat, 20 + 216 * i.toNat) 15 L [] (pa μ 52 (54 + 7 * i) [0] 53 i) := by
    intro n
    induction n with
    | zero =>
      intro i L hL0 hLi h1 h2
      obtain rfl : i = 20 := by omega
      refine r_iload_n Ra (i := 1) dX0_init_15 rfl hLi ?_
      refine r_bipush Ra dX0_init_16 rfl ?_
      refine r_icmp_ge Ra 40 dX0_init_18 ⟨by omega, by omega⟩ ⟨by omega, by omega⟩ rfl (fun _ => ?_) (fun h => absurd h (by omega))
      exact i_ret Ra ht rfl rfl (by omega) (by decide) (fun _ _ => ⟨by rw [t53]; decide, by rw [l53]; decide⟩) dX0_init_40
    | succ n ih =>
      intro i L hL0 hLi h1 h2
      have htj := g53 (k := i) ⟨h1, by omega⟩
      refine r_iload_n Ra (i := 1) dX0_init_15 rfl hLi ?_
      refine r_bipush Ra dX0_init_16 rfl ?_
      refine r_icmp_ge Ra 40 dX0_init_18 ⟨by omega, by omega⟩ ⟨by omega, by omega⟩ rfl (fun h => absurd h (by omega)) (fun _ => ?_)
      refine r_aload_n Ra (i := 0) (x := 52) dX0_init_21 rfl hL0 ?_
      refine i_getA Ra (b := 53) t52 rfl rfl rfl (by unfold pa; rw [if_pos rfl, if_pos (by decide)]; exact mI_ref t52 rfl rfl) (by decide) f_X0_11 (by show _ < (_ : Int); omega) dX0_init_22 ?_
      refine r_iload_n Ra (i := 1) dX0_init_25 rfl hLi ?_
      refine i_new Ra (t := 6) (cnt1 := Int.toNat (54 + 7 * i + 1)) (c1 := 2 + 7 * i.toNat) (s1 := 28 + 216 * i.toNat) hF (by omega) htj rfl rfl nw_X0_9 rfl rfl (by omega) (by show _ = _ + 8; omega) (by show (_ : Nat) ≤ 141; omega) (by show (_ : Nat) ≤ 4340; omega) dX0_init_26 ?_
      refine r_dupA Ra dX0_init_29 ?_
      refine i_callN Ra (As := []) (lo := 54 + 7 * i) (hi := 54 + 7 * (i + 1)) (cnt2 := Int.toNat (54 + 7 * (i + 1))) (c1 := 1 + 7 * (i + 1).toNat) (s1 := 20 + 216 * (i + 1).toNat) (st := [vA en (54 + 7 * i), vI i, vA en 53]) (ci_X5_init (a := 54 + 7 * i) (hi := 54 + 7 * (i + 1)) htj (by omega) (pa_fresh hF (by omega))) mw_X5_init mn_X5_init rfl rfl rfl kn_X0_17 (by omega) (by omega) rfl rfl (by omega) (by omega) ⟨(by show (_ : Nat) ≤ 141; omega), (by show (_ : Nat) ≤ 4340; omega)⟩ (Nat.le_of_ble_eq_true rfl) (Nat.le_of_ble_eq_true rfl) rfl dX0_init_30 ?_
      refine r_aast Ra (tv := 6) (Or.inl ⟨rfl, rfl⟩) (pa_ast (q1 := i + 1) (v := 54 + 7 * i) ⟨by omega, by omega⟩ (by omega) rfl (mI_ref t53 rfl rfl)) ⟨by omega, by show _ < (_ : Int); omega⟩ t53 ⟨by omega, by rw [l53]; omega⟩ ⟨by omega, by show _ < (_ : Int); omega⟩ htj dX0_init_33 ?_
      refine r_iinc Ra dX0_init_34 hLi ?_
      refine r_goto Ra 15 dX0_init_37 rfl ?_
      rw [w32_id (x := i + 1) ⟨by omega, by omega⟩]
      exact ih (i + 1) _ hL0 rfl (by omega) (by omega)
  exact loop 20 0 _ rfl rfl (by decide) (by decide)
theorem ci_X7_init {l : Launch} {en : En} {μ : Mem} {a hi : Int} (h9 : a = 201) (hh : hi = a + 49) (hF : Fresh μ a) : CtN l en yX7_init cX7_init 2 2 33 48 945 [vA en 2] a hi μ := by
  subst hh
  subst h9
  have ht := t201
  have h0 : (0 : Int) ≤ 201 := by decide
  refine Tr.of true (fun _ => rfl) (by decide) (Nat.le_of_ble_eq_true rfl) (fun K Ra => ?_)
  refine r_aload_n Ra (i := 0) dX7_init_0 rfl rfl ?_
  refine r_objI Ra k_X7_3 wo_c.2.1 wo_c.2.2 (Nat.le_of_ble_eq_true rfl) (Nat.le_of_ble_eq_true rfl) dX7_init_1 ?_
  rw [pa_st (hi := 202) (-1) 0 hF (by omega)]
  refine r_aload_n Ra (i := 0) dX7_init_4 rfl rfl ?_
  refine r_bipush Ra dX7_init_5 rfl ?_
  refine r_bipush Ra dX7_init_7 rfl ?_
  refine i_mna Ra (lo := 202) (hi := 212) (cnt1 := Int.toNat (212)) (c1 := 10) (s1 := 585) hF (by omega) t202 l202 (fun j h1 h2 => g202 ⟨h1, h2⟩) (by decide) (by decide) (by omega) (by omega) (by decide) (by omega) rfl cl_X7_9 wa_int (by omega) rfl (by show (_ : Nat) ≤ 48; omega) (by show (_ : Nat) ≤ 945; omega) dX7_init_9 ?_
  refine i_putF Ra (v := 202) h0 (by show _ < (_ : Int); omega) ht rfl rfl (mI_ref ht rfl rfl) (toV_r (by omega)) f_X7_11 p_X7_3 rfl rfl rfl (fun C T N h => by have h1 : some (RX7, TX7, 15) = some (C, T, N) := h; cases h1; rfl) dX7_init_13 ?_
  refine r_aload_n Ra (i := 0) dX7_init_16 rfl rfl ?_
  refine r_bipush Ra dX7_init_17 rfl ?_
  refine r_bipush Ra dX7_init_19 rfl ?_
  refine i_mna Ra (lo := 212) (hi := 222) (cnt1 := Int.toNat (222)) (c1 := 20) (s1 := 648) hF (by omega) t212 l212 (fun j h1 h2 => g212 ⟨h1, h2⟩) (by decide) (by decide) (by omega) (by omega) (by decide) (by omega) rfl cl_X7_9 wa_int (by omega) rfl (by show (_ : Nat) ≤ 48; omega) (by show (_ : Nat) ≤ 945; omega) dX7_init_21 ?_
  refine i_putF Ra (v := 212) h0 (by show _ < (_ : Int); omega) ht rfl rfl (mI_ref ht rfl rfl) (toV_r (by omega)) f_X7_16 p_X7_4 rfl rfl rfl (fun C T N h => by have h1 : some (RX7, TX7, 15) = some (C, T, N) := h; cases h1; rfl) dX7_init_25 ?_
  refine r_aload_n Ra (i := 0) dX7_init_28 rfl rfl ?_
  refine r_bipush Ra dX7_init_29 rfl ?_
  refine r_bipush Ra dX7_init_31 rfl ?_
  refine i_mna Ra (lo := 222) (hi := 232) (cnt1 := Int.toNat (232)) (c1 := 30) (s1 := 711) hF (by omega) t222 l222 (fun j h1 h2 => g222 ⟨h1, h2⟩) (by decide) (by decide) (by omega) (by omega) (by decide) (by omega) rfl cl_X7_9 wa_int (by omega) rfl (by show (_ : Nat) ≤ 48; omega) (by show (_ : Nat) ≤ 945; omega) dX7_init_33 ?_
  refine i_putF Ra (v := 222) h0 (by show _ < (_ : Int); omega) ht rfl rfl (mI_ref ht rfl rfl) (toV_r (by omega)) f_X7_19 p_X7_5 rfl rfl rfl (fun C T N h => by have h1 : some (RX7, TX7, 15) = some (C, T, N) := h; cases h1; rfl) dX7_init_37 ?_
  refine r_aload_n Ra (i := 0) dX7_init_40 rfl rfl ?_
  refine r_bipush Ra dX7_init_41 rfl ?_
  refine i_newa Ra (lo := 232) (hi := 233) (cnt1 := Int.toNat (233)) (c1 := 31) (s1 := 717) (Or.inl ⟨rfl, rfl⟩) hF (by omega) t232 l232 (by omega) (by omega) (by omega) rfl wa_int (by omega) (by omega) (by show (_ : Nat) ≤ 48; omega) (by show (_ : Nat) ≤ 945; omega) dX7_init_43 ?_
  refine i_putF Ra (v := 232) h0 (by show _ < (_ : Int); omega) ht rfl rfl (mI_ref ht rfl rfl) (toV_r (by omega)) f_X7_22 p_X7_6 rfl rfl rfl (fun C T N h => by have h1 : some (RX7, TX7, 15) = some (C, T, N) := h; cases h1; rfl) dX7_init_45 ?_
  refine r_aload_n Ra (i := 0) dX7_init_48 rfl rfl ?_
  refine r_bipush Ra dX7_init_49 rfl ?_
  refine i_newa Ra (lo := 233) (hi := 234) (cnt1 := Int.toNat (234)) (c1 := 32) (s1 := 723) (Or.inl ⟨rfl, rfl⟩) hF (by omega) t233 l233 (by omega) (by omega) (by omega) rfl wa_int (by omega) (by omega) (by show (_ : Nat) ≤ 48; omega) (by show (_ : Nat) ≤ 945; omega) dX7_init_51 ?_
  refine i_putF Ra (v := 233) h0 (by show _ < (_ : Int); omega) ht rfl rfl (mI_ref ht rfl rfl) (toV_r (by omega)) f_X7_26 p_X7_7 rfl rfl rfl (fun C T N h => by have h1 : some (RX7, TX7, 15) = some (C, T, N) := h; cases h1; rfl) dX7_init_53 ?_
  refine r_aload_n Ra (i := 0) dX7_init_56 rfl rfl ?_
  refine r_bipush Ra dX7_init_57 rfl ?_
  refine i_newa Ra (lo := 234) (hi := 235) (cnt1 := Int.toNat (235)) (c1 := 33) (s1 := 729) (Or.inl ⟨rfl, rfl⟩) hF (by omega) t234 l234 (by omega) (by omega) (by omega) rfl wa_int (by omega) (by omega) (by show (_ : Nat) ≤ 48; omega) (by show (_ : Nat) ≤ 945; omega) dX7_init_59 ?_
  refine i_putF Ra (v := 234) h0 (by show _ < (_ : Int); omega) ht rfl rfl (mI_ref ht rfl rfl) (toV_r (by omega)) f_X7_29 p_X7_8 rfl rfl rfl (fun C T N h => by have h1 : some (RX7, TX7, 15) = some (C, T, N) := h; cases h1; rfl) dX7_init_61 ?_
  refine r_aload_n Ra (i := 0) dX7_init_64 rfl rfl ?_
  refine r_bipush Ra dX7_init_65 rfl ?_
  refine i_newa Ra (lo := 235) (hi := 236) (cnt1 := Int.toNat (236)) (c1 := 34) (s1 := 735) (Or.inl ⟨rfl, rfl⟩) hF (by omega) t235 l235 (by omega) (by omega) (by omega) rfl wa_int (by omega) (by omega) (by show (_ : Nat) ≤ 48; omega) (by show (_ : Nat) ≤ 945; omega) dX7_init_67 ?_
  refine i_putF Ra (v := 235) h0 (by show _ < (_ : Int); omega) ht rfl rfl (mI_ref ht rfl rfl) (toV_r (by omega)) f_X7_32 p_X7_9 rfl rfl rfl (fun C T N h => by have h1 : some (RX7, TX7, 15) = some (C, T, N) := h; cases h1; rfl) dX7_init_69 ?_
  refine r_aload_n Ra (i := 0) dX7_init_72 rfl rfl ?_
  refine r_aload_n Ra (i := 1) dX7_init_73 rfl rfl ?_
  refine i_putF Ra (v := 2) h0 (by show _ < (_ : Int); omega) ht rfl rfl (mI_ref ht rfl rfl) (toV_r (by omega)) f_X7_35 p_X7_0 rfl rfl rfl (fun C T N h => by have h1 : some (RX7, TX7, 15) = some (C, T, N) := h; cases h1; rfl) dX7_init_74 ?_
  refine r_aload_n Ra (i := 0) dX7_init_77 rfl rfl ?_
  refine i_new Ra (t := 9) (cnt1 := Int.toNat (236 + 1)) (c1 := 35) (s1 := 745) hF (by omega) t236 rfl rfl nw_X7_39 (by omega) rfl (by omega) (by show _ = _ + 10; omega) (by show (_ : Nat) ≤ 48; omega) (by show (_ : Nat) ≤ 945; omega) dX7_init_78 ?_
  refine r_dupA Ra dX7_init_81 ?_
  refine r_aload_n Ra (i := 1) dX7_init_82 rfl rfl ?_
  refine i_call Ra (As := [vA en 2]) (lo := 236) (hi := 243) (cnt2 := Int.toNat (243)) (c1 := 41) (s1 := 840) (st := [vA en (236), vA en (201)]) (ci_X8_init (a := 236) (hi := 243) t236 (by omega) (pa_fresh hF (by omega))) mw_X8_init mn_X8_init rfl rfl rfl k_X7_41 (by omega) (by omega) (by omega) rfl (by omega) (by omega) ⟨(by show (_ : Nat) ≤ 48; omega), (by show (_ : Nat) ≤ 945; omega)⟩ (Nat.le_of_ble_eq_true rfl) (Nat.le_of_ble_eq_true rfl) rfl dX7_init_83 ?_
  refine i_putF Ra (v := 236) h0 (by show _ < (_ : Int); omega) ht rfl rfl (mI_ref ht rfl rfl) (toV_r (by omega)) f_X7_44 p_X7_1 rfl rfl rfl (fun C T N h => by have h1 : some (RX7, TX7, 15) = some (C, T, N) := h; cases h1; rfl) dX7_init_86 ?_
  refine r_aload_n Ra (i := 0) dX7_init_89 rfl rfl ?_
  refine i_new Ra (t := 9) (cnt1 := Int.toNat (243 + 1)) (c1 := 42) (s1 := 850) hF (by omega) t243 rfl rfl nw_X7_39 (by omega) rfl (by omega) (by show _ = _ + 10; omega) (by show (_ : Nat) ≤ 48; omega) (by show (_ : Nat) ≤ 945; omega) dX7_init_90 ?_
  refine r_dupA Ra dX7_init_93 ?_
  refine r_aload_n Ra (i := 1) dX7_init_94 rfl rfl ?_
  refine i_call Ra (As := [vA en 2]) (lo := 243) (hi := 250) (cnt2 := Int.toNat (250)) (c1 := 48) (s1 := 945) (st := [vA en (243), vA en (201)]) (ci_X8_init (a := 243) (hi := 250) t243 (by omega) (pa_fresh hF (by omega))) mw_X8_init mn_X8_init rfl rfl rfl k_X7_41 (by omega) (by omega) (by omega) rfl (by omega) (by omega) ⟨(by show (_ : Nat) ≤ 48; omega), (by show (_ : Nat) ≤ 945; omega)⟩ (Nat.le_of_ble_eq_true rfl) (Nat.le_of_ble_eq_true rfl) rfl dX7_init_95 ?_
  refine i_putF Ra (v := 243) h0 (by show _ < (_ : Int); omega) ht rfl rfl (mI_ref ht rfl rfl) (toV_r (by omega)) f_X7_48 p_X7_2 rfl rfl rfl (fun C T N h => by have h1 : some (RX7, TX7, 15) = some (C, T, N) := h; cases h1; rfl) dX7_init_98 ?_
  exact i_ret Ra ht rfl rfl (by omega) (by decide) (fun h1 h2 => absurd h1 (by omega)) dX7_init_101
theorem ci_X10_init {l : Launch} {en : En} {μ : Mem} {a hi : Int} (h9 : a = 250) (hh : hi = a + 46) (hF : Fresh μ a) : CtN l en yX10_init cX10_init 3 2 33 45 646 [vA en 2] a hi μ := by
  subst hh
  subst h9
  have ht := t250
  have h0 : (0 : Int) ≤ 250 := by decide
  refine Tr.of true (fun _ => rfl) (by decide) (Nat.le_of_ble_eq_true rfl) (fun K Ra => ?_)
  refine r_aload_n Ra (i := 0) dX10_init_0 rfl rfl ?_
  refine r_objI Ra k_X10_3 wo_c.2.1 wo_c.2.2 (Nat.le_of_ble_eq_true rfl) (Nat.le_of_ble_eq_true rfl) dX10_init_1 ?_
  rw [pa_st (hi := 251) (251) 0 hF (by omega)]
  refine r_aload_n Ra (i := 0) dX10_init_4 rfl rfl ?_
  refine r_bipush Ra dX10_init_5 rfl ?_
  refine i_anew Ra (lo := 251) (hi := 252) (cnt1 := Int.toNat (252)) (c1 := 1) (s1 := 6) (Or.inr ⟨rfl, rfl⟩) hF (by omega) t251 l251 rfl (by omega) (by omega) rfl cl_X10_9 (by omega) (by omega) (by show (_ : Nat) ≤ 45; omega) (by show (_ : Nat) ≤ 646; omega) dX10_init_7 ?_
  refine i_putF Ra (v := 251) h0 (by show _ < (_ : Int); omega) ht rfl rfl (mI_ref ht rfl rfl) (toV_r (by omega)) f_X10_11 p_X10_1 rfl rfl rfl (fun C T N h => by have h1 : some (RX10, TX10, 7) = some (C, T, N) := h; cases h1; rfl) dX10_init_10 ?_
  refine r_aload_n Ra (i := 0) dX10_init_13 rfl rfl ?_
  refine r_iconst Ra dX10_init_14 ?_
  refine i_newa Ra (lo := 252) (hi := 253) (cnt1 := Int.toNat (253)) (c1 := 2) (s1 := 11) (Or.inl ⟨rfl, rfl⟩) hF (by omega) t252 l252 (by omega) (by omega) (by omega) rfl wa_int (by omega) (by omega) (by show (_ : Nat) ≤ 45; omega) (by show (_ : Nat) ≤ 646; omega) dX10_init_15 ?_
  refine i_putF Ra (v := 252) h0 (by show _ < (_ : Int); omega) ht rfl rfl (mI_ref ht rfl rfl) (toV_r (by omega)) f_X10_17 p_X10_2 rfl rfl rfl (fun C T N h => by have h1 : some (RX10, TX10, 7) = some (C, T, N) := h; cases h1; rfl) dX10_init_17 ?_
  refine r_aload_n Ra (i := 0) dX10_init_20 rfl rfl ?_
  refine r_iconst Ra dX10_init_21 ?_
  refine i_newa Ra (lo := 253) (hi := 254) (cnt1 := Int.toNat (254)) (c1 := 3) (s1 := 16) (Or.inl ⟨rfl, rfl⟩) hF (by omega) t253 l253 (by omega) (by omega) (by omega) rfl wa_int (by omega) (by omega) (by show (_ : Nat) ≤ 45; omega) (by show (_ : Nat) ≤ 646; omega) dX10_init_22 ?_
  refine i_putF Ra (v := 253) h0 (by show _ < (_ : Int); omega) ht rfl rfl (mI_ref ht rfl rfl) (toV_r (by omega)) f_X10_21 p_X10_3 rfl rfl rfl (fun C T N h => by have h1 : some (RX10, TX10, 7) = some (C, T, N) := h; cases h1; rfl) dX10_init_24 ?_
  refine r_aload_n Ra (i := 0) dX10_init_27 rfl rfl ?_
  refine r_iconst Ra dX10_init_28 ?_
  refine i_put Ra (v := -1) h0 (by show _ < (_ : Int); omega) ht rfl rfl (mI_val ht rfl (by decide) (by decide)) rfl f_X10_24 p_X10_5 rfl rfl dX10_init_29 ?_
  refine r_aload_n Ra (i := 0) dX10_init_32 rfl rfl ?_
  refine r_aload_n Ra (i := 1) dX10_init_33 rfl rfl ?_
  refine i_putF Ra (v := 2) h0 (by show _ < (_ : Int); omega) ht rfl rfl (mI_ref ht rfl rfl) (toV_r (by omega)) f_X10_28 p_X10_0 rfl rfl rfl (fun C T N h => by have h1 : some (RX10, TX10, 7) = some (C, T, N) := h; cases h1; rfl) dX10_init_34 ?_
  refine r_iconst Ra dX10_init_37 ?_
  refine r_istore_n Ra (i := 2) dX10_init_38 rfl (by decide) ?_
  have loop : ∀ (n : Nat) (i : Int) (L : Lo), L 0 = some (vA en 250) → L 1 = some (vA en 2) → L 2 = some (vI i) → 0 ≤ i → i + n = 6 → K (Int.toNat (254 + 7 * i), 3 + 7 * i.toNat, 16 + 105 * i.toNat) 39 L [] (pa μ 250 (254 + 7 * i) [0, 5, 3, 2, 1] 251 i) := by
    intro n
    induction n with
    | zero =>
      intro i L hL0 hL1 hLi h1 h2
      obtain rfl : i = 6 := by omega
      refine r_iload_n Ra (i := 2) dX10_init_39 rfl hLi ?_
      refine r_iconst Ra dX10_init_40 ?_
      refine r_icmp_gt Ra 64 dX10_init_41 ⟨by omega, by omega⟩ ⟨by omega, by omega⟩ rfl (fun _ => ?_) (fun h => absurd h (by omega))
      exact i_ret Ra ht rfl rfl (by omega) (by decide) (fun _ _ => ⟨by rw [t251]; decide, by rw [l251]; decide⟩) dX10_init_64
    | succ n ih =>
      intro i L hL0 hL1 hLi h1 h2
      have htj := g251 (k := i) ⟨h1, by omega⟩
      refine r_iload_n Ra (i := 2) dX10_init_39 rfl hLi ?_
      refine r_iconst Ra dX10_init_40 ?_
      refine r_icmp_gt Ra 64 dX10_init_41 ⟨by omega, by omega⟩ ⟨by omega, by omega⟩ rfl (fun h => absurd h (by omega)) (fun _ => ?_)
      refine r_aload_n Ra (i := 0) (x := 250) dX10_init_44 rfl hL0 ?_
      refine i_getA Ra (b := 251) t250 rfl rfl rfl (by unfold pa; rw [if_pos rfl, if_pos (by decide)]; exact mI_ref t250 rfl rfl) (by decide) f_X10_11 (by show _ < (_ : Int); omega) dX10_init_45 ?_
      refine r_iload_n Ra (i := 2) dX10_init_48 rfl hLi ?_
      refine i_new Ra (t := 9) (cnt1 := Int.toNat (254 + 7 * i + 1)) (c1 := 4 + 7 * i.toNat) (s1 := 26 + 105 * i.toNat) hF (by omega) htj rfl rfl nw_X10_9 rfl rfl (by omega) (by show _ = _ + 10; omega) (by show (_ : Nat) ≤ 45; omega) (by show (_ : Nat) ≤ 646; omega) dX10_init_49 ?_
      refine r_dupA Ra dX10_init_52 ?_
      refine r_aload_n Ra (i := 1) (x := 2) dX10_init_53 rfl hL1 ?_
      refine i_call Ra (As := [vA en 2]) (lo := 254 + 7 * i) (hi := 254 + 7 * (i + 1)) (cnt2 := Int.toNat (254 + 7 * (i + 1))) (c1 := 3 + 7 * (i + 1).toNat) (s1 := 16 + 105 * (i + 1).toNat) (st := [vA en (254 + 7 * i), vI i, vA en 251]) (ci_X8_init (a := 254 + 7 * i) (hi := 254 + 7 * (i + 1)) htj (by omega) (pa_fresh hF (by omega))) mw_X8_init mn_X8_init rfl rfl rfl k_X10_32 (by omega) (by omega) rfl rfl (by omega) (by omega) ⟨(by show (_ : Nat) ≤ 45; omega), (by show (_ : Nat) ≤ 646; omega)⟩ (Nat.le_of_ble_eq_true rfl) (Nat.le_of_ble_eq_true rfl) rfl dX10_init_54 ?_
      refine r_aast Ra (tv := 9) (Or.inr ⟨rfl, rfl⟩) (pa_ast (q1 := i + 1) (v := 254 + 7 * i) ⟨by omega, by omega⟩ (by omega) rfl (mI_ref t251 rfl rfl)) ⟨by omega, by show _ < (_ : Int); omega⟩ t251 ⟨by omega, by rw [l251]; omega⟩ ⟨by omega, by show _ < (_ : Int); omega⟩ htj dX10_init_57 ?_
      refine r_iinc Ra dX10_init_58 hLi ?_
      refine r_goto Ra 39 dX10_init_61 rfl ?_
      rw [w32_id (x := i + 1) ⟨by omega, by omega⟩]
      exact ih (i + 1) _ hL0 hL1 rfl (by omega) (by omega)
  exact loop 6 0 _ rfl rfl rfl (by decide) (by decide)
theorem ci_X1_init {l : Launch} {en : En} {μ : Mem} {a hi : Int} (h9 : a = 296) (hh : hi = a + 100) (hF : Fresh μ a) : CtN l en yX1_init cX1_init 2 2 33 99 3279 [vA en 2] a hi μ := by
  subst hh
  subst h9
  have ht := t296
  have h0 : (0 : Int) ≤ 296 := by decide
  refine Tr.of true (fun _ => rfl) (by decide) (Nat.le_of_ble_eq_true rfl) (fun K Ra => ?_)
  refine r_aload_n Ra (i := 0) dX1_init_0 rfl rfl ?_
  refine r_objI Ra k_X1_3 wo_c.2.1 wo_c.2.2 (Nat.le_of_ble_eq_true rfl) (Nat.le_of_ble_eq_true rfl) dX1_init_1 ?_
  rw [pa_st (hi := 297) (-1) 0 hF (by omega)]
  refine r_aload_n Ra (i := 0) dX1_init_4 rfl rfl ?_
  refine i_new Ra (t := 6) (cnt1 := Int.toNat (297 + 1)) (c1 := 1) (s1 := 8) hF (by omega) t297 rfl rfl nw_X1_9 (by omega) rfl (by omega) (by show _ = _ + 8; omega) (by show (_ : Nat) ≤ 99; omega) (by show (_ : Nat) ≤ 3279; omega) dX1_init_5 ?_
  refine r_dupA Ra dX1_init_8 ?_
  refine i_callN Ra (As := []) (lo := 297) (hi := 304) (cnt2 := Int.toNat (304)) (c1 := 7) (s1 := 216) (st := [vA en (297), vA en (296)]) (ci_X5_init (a := 297) (hi := 304) t297 (by omega) (pa_fresh hF (by omega))) mw_X5_init mn_X5_init rfl rfl rfl kn_X1_11 (by omega) (by omega) (by omega) rfl (by omega) (by omega) ⟨(by show (_ : Nat) ≤ 99; omega), (by show (_ : Nat) ≤ 3279; omega)⟩ (Nat.le_of_ble_eq_true rfl) (Nat.le_of_ble_eq_true rfl) rfl dX1_init_9 ?_
  refine i_putF Ra (v := 297) h0 (by show _ < (_ : Int); omega) ht rfl rfl (mI_ref ht rfl rfl) (toV_r (by omega)) f_X1_12 p_X1_2 rfl rfl rfl (fun C T N h => by have h1 : some (RX1, TX1, 7) = some (C, T, N) := h; cases h1; rfl) dX1_init_12 ?_
  refine r_aload_n Ra (i := 0) dX1_init_15 rfl rfl ?_
  refine r_bipush Ra dX1_init_16 rfl ?_
  refine r_bipush Ra dX1_init_18 rfl ?_
  refine i_mna Ra (lo := 304) (hi := 346) (cnt1 := Int.toNat (346)) (c1 := 49) (s1 := 2881) hF (by omega) t304 l304 (fun j h1 h2 => g304 ⟨h1, h2⟩) (by decide) (by decide) (by omega) (by omega) (by decide) (by omega) rfl cl_X1_18 wa_int (by omega) rfl (by show (_ : Nat) ≤ 99; omega) (by show (_ : Nat) ≤ 3279; omega) dX1_init_20 ?_
  refine i_putF Ra (v := 304) h0 (by show _ < (_ : Int); omega) ht rfl rfl (mI_ref ht rfl rfl) (toV_r (by omega)) f_X1_20 p_X1_3 rfl rfl rfl (fun C T N h => by have h1 : some (RX1, TX1, 7) = some (C, T, N) := h; cases h1; rfl) dX1_init_24 ?_
  refine r_aload_n Ra (i := 0) dX1_init_27 rfl rfl ?_
  refine r_bipush Ra dX1_init_28 rfl ?_
  refine r_bipush Ra dX1_init_30 rfl ?_
  refine i_mna Ra (lo := 346) (hi := 388) (cnt1 := Int.toNat (388)) (c1 := 91) (s1 := 3168) hF (by omega) t346 l346 (fun j h1 h2 => g346 ⟨h1, h2⟩) (by decide) (by decide) (by omega) (by omega) (by decide) (by omega) rfl cl_X1_18 wa_int (by omega) rfl (by show (_ : Nat) ≤ 99; omega) (by show (_ : Nat) ≤ 3279; omega) dX1_init_32 ?_
  refine i_putF Ra (v := 346) h0 (by show _ < (_ : Int); omega) ht rfl rfl (mI_ref ht rfl rfl) (toV_r (by omega)) f_X1_23 p_X1_4 rfl rfl rfl (fun C T N h => by have h1 : some (RX1, TX1, 7) = some (C, T, N) := h; cases h1; rfl) dX1_init_36 ?_
  refine r_aload_n Ra (i := 0) dX1_init_39 rfl rfl ?_
  refine r_bipush Ra dX1_init_40 rfl ?_
  refine i_newa Ra (lo := 388) (hi := 389) (cnt1 := Int.toNat (389)) (c1 := 92) (s1 := 3174) (Or.inl ⟨rfl, rfl⟩) hF (by omega) t388 l388 (by omega) (by omega) (by omega) rfl wa_int (by omega) (by omega) (by show (_ : Nat) ≤ 99; omega) (by show (_ : Nat) ≤ 3279; omega) dX1_init_42 ?_
  refine i_putF Ra (v := 388) h0 (by show _ < (_ : Int); omega) ht rfl rfl (mI_ref ht rfl rfl) (toV_r (by omega)) f_X1_26 p_X1_5 rfl rfl rfl (fun C T N h => by have h1 : some (RX1, TX1, 7) = some (C, T, N) := h; cases h1; rfl) dX1_init_44 ?_
  refine r_aload_n Ra (i := 0) dX1_init_47 rfl rfl ?_
  refine r_aload_n Ra (i := 1) dX1_init_48 rfl rfl ?_
  refine i_putF Ra (v := 2) h0 (by show _ < (_ : Int); omega) ht rfl rfl (mI_ref ht rfl rfl) (toV_r (by omega)) f_X1_30 p_X1_1 rfl rfl rfl (fun C T N h => by have h1 : some (RX1, TX1, 7) = some (C, T, N) := h; cases h1; rfl) dX1_init_49 ?_
  refine r_aload_n Ra (i := 0) dX1_init_52 rfl rfl ?_
  refine i_new Ra (t := 9) (cnt1 := Int.toNat (389 + 1)) (c1 := 93) (s1 := 3184) hF (by omega) t389 rfl rfl nw_X1_34 (by omega) rfl (by omega) (by show _ = _ + 10; omega) (by show (_ : Nat) ≤ 99; omega) (by show (_ : Nat) ≤ 3279; omega) dX1_init_53 ?_
  refine r_dupA Ra dX1_init_56 ?_
  refine r_aload_n Ra (i := 1) dX1_init_57 rfl rfl ?_
  refine i_call Ra (As := [vA en 2]) (lo := 389) (hi := 396) (cnt2 := Int.toNat (396)) (c1 := 99) (s1 := 3279) (st := [vA en (389), vA en (296)]) (ci_X8_init (a := 389) (hi := 396) t389 (by omega) (pa_fresh hF (by omega))) mw_X8_init mn_X8_init rfl rfl rfl k_X1_36 (by omega) (by omega) (by omega) rfl (by omega) (by omega) ⟨(by show (_ : Nat) ≤ 99; omega), (by show (_ : Nat) ≤ 3279; omega)⟩ (Nat.le_of_ble_eq_true rfl) (Nat.le_of_ble_eq_true rfl) rfl dX1_init_58 ?_
  refine i_putF Ra (v := 389) h0 (by show _ < (_ : Int); omega) ht rfl rfl (mI_ref ht rfl rfl) (toV_r (by omega)) f_X1_39 p_X1_0 rfl rfl rfl (fun C T N h => by have h1 : some (RX1, TX1, 7) = some (C, T, N) := h; cases h1; rfl) dX1_init_61 ?_
  exact i_ret Ra ht rfl rfl (by omega) (by decide) (fun h1 h2 => absurd h1 (by omega)) dX1_init_64
theorem ci_X9_init {l : Launch} {en : En} {μ : Mem} {a hi : Int} (h9 : a = 396) (hh : hi = a + 76) (hF : Fresh μ a) : CtN l en yX9_init cX9_init 2 2 33 75 37261 [vA en 2] a hi μ := by
  subst hh
  subst h9
  have ht := t396
  have h0 : (0 : Int) ≤ 396 := by decide
  refine Tr.of true (fun _ => rfl) (by decide) (Nat.le_of_ble_eq_true rfl) (fun K Ra => ?_)
  refine r_aload_n Ra (i := 0) dX9_init_0 rfl rfl ?_
  refine r_objI Ra k_X9_3 wo_c.2.1 wo_c.2.2 (Nat.le_of_ble_eq_true rfl) (Nat.le_of_ble_eq_true rfl) dX9_init_1 ?_
  rw [pa_st (hi := 397) (-1) 0 hF (by omega)]
  refine r_aload_n Ra (i := 0) dX9_init_4 rfl rfl ?_
  refine r_bipush Ra dX9_init_5 rfl ?_
  refine i_newa Ra (lo := 397) (hi := 398) (cnt1 := Int.toNat (398)) (c1 := 1) (s1 := 64) (Or.inl ⟨rfl, rfl⟩) hF (by omega) t397 l397 (by omega) (by omega) (by omega) rfl wa_int (by omega) (by omega) (by show (_ : Nat) ≤ 75; omega) (by show (_ : Nat) ≤ 37261; omega) dX9_init_7 ?_
  refine i_putF Ra (v := 397) h0 (by show _ < (_ : Int); omega) ht rfl rfl (mI_ref ht rfl rfl) (toV_r (by omega)) f_X9_9 p_X9_2 rfl rfl rfl (fun C T N h => by have h1 : some (RX9, TX9, 13) = some (C, T, N) := h; cases h1; rfl) dX9_init_9 ?_
  refine r_aload_n Ra (i := 0) dX9_init_12 rfl rfl ?_
  refine r_bipush Ra dX9_init_13 rfl ?_
  refine r_sipush Ra dX9_init_15 rfl ?_
  refine i_mna Ra (lo := 398) (hi := 463) (cnt1 := Int.toNat (463)) (c1 := 66) (s1 := 36992) hF (by omega) t398 l398 (fun j h1 h2 => g398 ⟨h1, h2⟩) (by decide) (by decide) (by omega) (by omega) (by decide) (by omega) rfl cl_X9_15 wa_int (by omega) rfl (by show (_ : Nat) ≤ 75; omega) (by show (_ : Nat) ≤ 37261; omega) dX9_init_18 ?_
  refine i_putF Ra (v := 398) h0 (by show _ < (_ : Int); omega) ht rfl rfl (mI_ref ht rfl rfl) (toV_r (by omega)) f_X9_17 p_X9_4 rfl rfl rfl (fun C T N h => by have h1 : some (RX9, TX9, 13) = some (C, T, N) := h; cases h1; rfl) dX9_init_22 ?_
  refine r_aload_n Ra (i := 0) dX9_init_25 rfl rfl ?_
  refine r_bipush Ra dX9_init_26 rfl ?_
  refine i_newa Ra (lo := 463) (hi := 464) (cnt1 := Int.toNat (464)) (c1 := 67) (s1 := 37056) (Or.inl ⟨rfl, rfl⟩) hF (by omega) t463 l463 (by omega) (by omega) (by omega) rfl wa_int (by omega) (by omega) (by show (_ : Nat) ≤ 75; omega) (by show (_ : Nat) ≤ 37261; omega) dX9_init_28 ?_
  refine i_putF Ra (v := 463) h0 (by show _ < (_ : Int); omega) ht rfl rfl (mI_ref ht rfl rfl) (toV_r (by omega)) f_X9_20 p_X9_5 rfl rfl rfl (fun C T N h => by have h1 : some (RX9, TX9, 13) = some (C, T, N) := h; cases h1; rfl) dX9_init_30 ?_
  refine r_aload_n Ra (i := 0) dX9_init_33 rfl rfl ?_
  refine r_bipush Ra dX9_init_34 rfl ?_
  refine i_newa Ra (lo := 464) (hi := 465) (cnt1 := Int.toNat (465)) (c1 := 68) (s1 := 37156) (Or.inl ⟨rfl, rfl⟩) hF (by omega) t464 l464 (by omega) (by omega) (by omega) rfl wa_int (by omega) (by omega) (by show (_ : Nat) ≤ 75; omega) (by show (_ : Nat) ≤ 37261; omega) dX9_init_36 ?_
  refine i_putF Ra (v := 464) h0 (by show _ < (_ : Int); omega) ht rfl rfl (mI_ref ht rfl rfl) (toV_r (by omega)) f_X9_23 p_X9_7 rfl rfl rfl (fun C T N h => by have h1 : some (RX9, TX9, 13) = some (C, T, N) := h; cases h1; rfl) dX9_init_38 ?_
  refine r_aload_n Ra (i := 0) dX9_init_41 rfl rfl ?_
  refine r_aload_n Ra (i := 1) dX9_init_42 rfl rfl ?_
  refine i_putF Ra (v := 2) h0 (by show _ < (_ : Int); omega) ht rfl rfl (mI_ref ht rfl rfl) (toV_r (by omega)) f_X9_26 p_X9_0 rfl rfl rfl (fun C T N h => by have h1 : some (RX9, TX9, 13) = some (C, T, N) := h; cases h1; rfl) dX9_init_43 ?_
  refine r_aload_n Ra (i := 0) dX9_init_46 rfl rfl ?_
  refine i_new Ra (t := 9) (cnt1 := Int.toNat (465 + 1)) (c1 := 69) (s1 := 37166) hF (by omega) t465 rfl rfl nw_X9_30 (by omega) rfl (by omega) (by show _ = _ + 10; omega) (by show (_ : Nat) ≤ 75; omega) (by show (_ : Nat) ≤ 37261; omega) dX9_init_47 ?_
  refine r_dupA Ra dX9_init_50 ?_
  refine r_aload_n Ra (i := 1) dX9_init_51 rfl rfl ?_
  refine i_call Ra (As := [vA en 2]) (lo := 465) (hi := 472) (cnt2 := Int.toNat (472)) (c1 := 75) (s1 := 37261) (st := [vA en (465), vA en (396)]) (ci_X8_init (a := 465) (hi := 472) t465 (by omega) (pa_fresh hF (by omega))) mw_X8_init mn_X8_init rfl rfl rfl k_X9_32 (by omega) (by omega) (by omega) rfl (by omega) (by omega) ⟨(by show (_ : Nat) ≤ 75; omega), (by show (_ : Nat) ≤ 37261; omega)⟩ (Nat.le_of_ble_eq_true rfl) (Nat.le_of_ble_eq_true rfl) rfl dX9_init_52 ?_
  refine i_putF Ra (v := 465) h0 (by show _ < (_ : Int); omega) ht rfl rfl (mI_ref ht rfl rfl) (toV_r (by omega)) f_X9_35 p_X9_1 rfl rfl rfl (fun C T N h => by have h1 : some (RX9, TX9, 13) = some (C, T, N) := h; cases h1; rfl) dX9_init_55 ?_
  exact i_ret Ra ht rfl rfl (by omega) (by decide) (fun h1 h2 => absurd h1 (by omega)) dX9_init_58
theorem ci_X11_init {l : Launch} {en : En} {μ : Mem} {a hi : Int} (h9 : a = 0) (hh : hi = a + 475) (hF : Fresh μ a) : CtN l en yX11_init cX11_init 1 4 72 474 63858 [] a hi μ := by
  subst hh
  subst h9
  have ht := t0
  have h0 : (0 : Int) ≤ 0 := by decide
  refine Tr.of true (fun _ => rfl) (by decide) (Nat.le_of_ble_eq_true rfl) (fun K Ra => ?_)
  refine r_aload_n Ra (i := 0) dX11_init_0 rfl rfl ?_
  refine r_objI Ra k_X11_3 wo_c.2.1 wo_c.2.2 (Nat.le_of_ble_eq_true rfl) (Nat.le_of_ble_eq_true rfl) dX11_init_1 ?_
  rw [pa_st (hi := 1) (-1) 0 hF (by omega)]
  refine r_aload_n Ra (i := 0) dX11_init_4 rfl rfl ?_
  refine r_sipush Ra dX11_init_5 rfl ?_
  refine i_newa Ra (lo := 1) (hi := 2) (cnt1 := Int.toNat (2)) (c1 := 1) (s1 := 1600) (Or.inl ⟨rfl, rfl⟩) hF (by omega) t1 l1 (by omega) (by omega) (by omega) rfl wa_int (by omega) (by omega) (by show (_ : Nat) ≤ 474; omega) (by show (_ : Nat) ≤ 63858; omega) dX11_init_8 ?_
  refine i_putF Ra (v := 1) h0 (by show _ < (_ : Int); omega) ht rfl rfl (mI_ref ht rfl rfl) (toV_r (by omega)) f_X11_9 p_X11_0 rfl rfl rfl (fun C T N h => by have h1 : some (RX11, TX11, 15) = some (C, T, N) := h; cases h1; rfl) dX11_init_10 ?_
  refine r_aload_n Ra (i := 0) dX11_init_13 rfl rfl ?_
  refine i_new Ra (t := 4) (cnt1 := Int.toNat (2 + 1)) (c1 := 2) (s1 := 1615) hF (by omega) t2 rfl rfl nw_X11_13 (by omega) rfl (by omega) (by show _ = _ + 15; omega) (by show (_ : Nat) ≤ 474; omega) (by show (_ : Nat) ≤ 63858; omega) dX11_init_14 ?_
  refine r_dupA Ra dX11_init_17 ?_
  refine i_callN Ra (As := []) (lo := 2) (hi := 18) (cnt2 := Int.toNat (18)) (c1 := 17) (s1 := 6740) (st := [vA en (2), vA en (0)]) (ci_X3_init (a := 2) (hi := 18) t2 (by omega) (pa_fresh hF (by omega))) mw_X3_init mn_X3_init rfl rfl rfl kn_X11_15 (by omega) (by omega) (by omega) rfl (by omega) (by omega) ⟨(by show (_ : Nat) ≤ 474; omega), (by show (_ : Nat) ≤ 63858; omega)⟩ (Nat.le_of_ble_eq_true rfl) (Nat.le_of_ble_eq_true rfl) rfl dX11_init_18 ?_
  refine i_putF Ra (v := 2) h0 (by show _ < (_ : Int); omega) ht rfl rfl (mI_ref ht rfl rfl) (toV_r (by omega)) f_X11_16 p_X11_2 rfl rfl rfl (fun C T N h => by have h1 : some (RX11, TX11, 15) = some (C, T, N) := h; cases h1; rfl) dX11_init_21 ?_
  refine r_aload_n Ra (i := 0) dX11_init_24 rfl rfl ?_
  refine i_new Ra (t := 5) (cnt1 := Int.toNat (18 + 1)) (c1 := 18) (s1 := 6751) hF (by omega) t18 rfl rfl nw_X11_20 (by omega) rfl (by omega) (by show _ = _ + 11; omega) (by show (_ : Nat) ≤ 474; omega) (by show (_ : Nat) ≤ 63858; omega) dX11_init_25 ?_
  refine r_dupA Ra dX11_init_28 ?_
  refine i_callN Ra (As := []) (lo := 18) (hi := 38) (cnt2 := Int.toNat (38)) (c1 := 37) (s1 := 16694) (st := [vA en (18), vA en (0)]) (ci_X4_init (a := 18) (hi := 38) rfl (by omega) (pa_fresh hF (by omega))) mw_X4_init mn_X4_init rfl rfl rfl kn_X11_22 (by omega) (by omega) (by omega) rfl (by omega) (by omega) ⟨(by show (_ : Nat) ≤ 474; omega), (by show (_ : Nat) ≤ 63858; omega)⟩ (Nat.le_of_ble_eq_true rfl) (Nat.le_of_ble_eq_true rfl) rfl dX11_init_29 ?_
  refine i_putF Ra (v := 18) h0 (by show _ < (_ : Int); omega) ht rfl rfl (mI_ref ht rfl rfl) (toV_r (by omega)) f_X11_23 p_X11_3 rfl rfl rfl (fun C T N h => by have h1 : some (RX11, TX11, 15) = some (C, T, N) := h; cases h1; rfl) dX11_init_32 ?_
  refine r_aload_n Ra (i := 0) dX11_init_35 rfl rfl ?_
  refine i_new Ra (t := 6) (cnt1 := Int.toNat (38 + 1)) (c1 := 38) (s1 := 16702) hF (by omega) t38 rfl rfl nw_X11_27 (by omega) rfl (by omega) (by show _ = _ + 8; omega) (by show (_ : Nat) ≤ 474; omega) (by show (_ : Nat) ≤ 63858; omega) dX11_init_36 ?_
  refine r_dupA Ra dX11_init_39 ?_
  refine i_callN Ra (As := []) (lo := 38) (hi := 45) (cnt2 := Int.toNat (45)) (c1 := 44) (s1 := 16910) (st := [vA en (38), vA en (0)]) (ci_X5_init (a := 38) (hi := 45) t38 (by omega) (pa_fresh hF (by omega))) mw_X5_init mn_X5_init rfl rfl rfl kn_X11_29 (by omega) (by omega) (by omega) rfl (by omega) (by omega) ⟨(by show (_ : Nat) ≤ 474; omega), (by show (_ : Nat) ≤ 63858; omega)⟩ (Nat.le_of_ble_eq_true rfl) (Nat.le_of_ble_eq_true rfl) rfl dX11_init_40 ?_
  refine i_putF Ra (v := 38) h0 (by show _ < (_ : Int); omega) ht rfl rfl (mI_ref ht rfl rfl) (toV_r (by omega)) f_X11_30 p_X11_4 rfl rfl rfl (fun C T N h => by have h1 : some (RX11, TX11, 15) = some (C, T, N) := h; cases h1; rfl) dX11_init_43 ?_
  refine r_aload_n Ra (i := 0) dX11_init_46 rfl rfl ?_
  refine i_new Ra (t := 6) (cnt1 := Int.toNat (45 + 1)) (c1 := 45) (s1 := 16918) hF (by omega) t45 rfl rfl nw_X11_27 (by omega) rfl (by omega) (by show _ = _ + 8; omega) (by show (_ : Nat) ≤ 474; omega) (by show (_ : Nat) ≤ 63858; omega) dX11_init_47 ?_
  refine r_dupA Ra dX11_init_50 ?_
  refine i_callN Ra (As := []) (lo := 45) (hi := 52) (cnt2 := Int.toNat (52)) (c1 := 51) (s1 := 17126) (st := [vA en (45), vA en (0)]) (ci_X5_init (a := 45) (hi := 52) t45 (by omega) (pa_fresh hF (by omega))) mw_X5_init mn_X5_init rfl rfl rfl kn_X11_29 (by omega) (by omega) (by omega) rfl (by omega) (by omega) ⟨(by show (_ : Nat) ≤ 474; omega), (by show (_ : Nat) ≤ 63858; omega)⟩ (Nat.le_of_ble_eq_true rfl) (Nat.le_of_ble_eq_true rfl) rfl dX11_init_51 ?_
  refine i_putF Ra (v := 45) h0 (by show _ < (_ : Int); omega) ht rfl rfl (mI_ref ht rfl rfl) (toV_r (by omega)) f_X11_34 p_X11_5 rfl rfl rfl (fun C T N h => by have h1 : some (RX11, TX11, 15) = some (C, T, N) := h; cases h1; rfl) dX11_init_54 ?_
  refine r_aload_n Ra (i := 0) dX11_init_57 rfl rfl ?_
  refine i_new Ra (t := 1) (cnt1 := Int.toNat (52 + 1)) (c1 := 52) (s1 := 17129) hF (by omega) t52 rfl rfl nw_X11_37 (by omega) rfl (by omega) (by show _ = _ + 3; omega) (by show (_ : Nat) ≤ 474; omega) (by show (_ : Nat) ≤ 63858; omega) dX11_init_58 ?_
  refine r_dupA Ra dX11_init_61 ?_
  refine i_call Ra (As := []) (lo := 52) (hi := 194) (cnt2 := Int.toNat (194)) (c1 := 193) (s1 := 21469) (st := [vA en (52), vA en (0)]) (ci_X0_init (a := 52) (hi := 194) rfl (by omega) (pa_fresh hF (by omega))) mw_X0_init mn_X0_init rfl rfl rfl k_X11_39 (by omega) (by omega) (by omega) rfl (by omega) (by omega) ⟨(by show (_ : Nat) ≤ 474; omega), (by show (_ : Nat) ≤ 63858; omega)⟩ (Nat.le_of_ble_eq_true rfl) (Nat.le_of_ble_eq_true rfl) rfl dX11_init_62 ?_
  refine i_putF Ra (v := 52) h0 (by show _ < (_ : Int); omega) ht rfl rfl (mI_ref ht rfl rfl) (toV_r (by omega)) f_X11_40 p_X11_6 rfl rfl rfl (fun C T N h => by have h1 : some (RX11, TX11, 15) = some (C, T, N) := h; cases h1; rfl) dX11_init_65 ?_
  refine r_aload_n Ra (i := 0) dX11_init_68 rfl rfl ?_
  refine i_new Ra (t := 9) (cnt1 := Int.toNat (194 + 1)) (c1 := 194) (s1 := 21479) hF (by omega) t194 rfl rfl nw_X11_44 (by omega) rfl (by omega) (by show _ = _ + 10; omega) (by show (_ : Nat) ≤ 474; omega) (by show (_ : Nat) ≤ 63858; omega) dX11_init_69 ?_
  refine r_dupA Ra dX11_init_72 ?_
  refine r_aload_n Ra (i := 0) dX11_init_73 rfl rfl ?_
  refine i_getA Ra (b := 2) t0 rfl rfl rfl (by unfold pa; rw [if_pos rfl, if_pos (by decide)]; exact mI_ref ht rfl rfl) (by decide) f_X11_16 (by show _ < (_ : Int); omega) dX11_init_74 ?_
  refine i_call Ra (As := [vA en 2]) (lo := 194) (hi := 201) (cnt2 := Int.toNat (201)) (c1 := 200) (s1 := 21574) (st := [vA en (194), vA en (0)]) (ci_X8_init (a := 194) (hi := 201) t194 (by omega) (pa_fresh hF (by omega))) mw_X8_init mn_X8_init rfl rfl rfl k_X11_46 (by omega) (by omega) (by omega) rfl (by omega) (by omega) ⟨(by show (_ : Nat) ≤ 474; omega), (by show (_ : Nat) ≤ 63858; omega)⟩ (Nat.le_of_ble_eq_true rfl) (Nat.le_of_ble_eq_true rfl) rfl dX11_init_77 ?_
  refine i_putF Ra (v := 194) h0 (by show _ < (_ : Int); omega) ht rfl rfl (mI_ref ht rfl rfl) (toV_r (by omega)) f_X11_49 p_X11_7 rfl rfl rfl (fun C T N h => by have h1 : some (RX11, TX11, 15) = some (C, T, N) := h; cases h1; rfl) dX11_init_80 ?_
  refine r_aload_n Ra (i := 0) dX11_init_83 rfl rfl ?_
  refine i_new Ra (t := 8) (cnt1 := Int.toNat (201 + 1)) (c1 := 201) (s1 := 21589) hF (by omega) t201 rfl rfl nw_X11_53 (by omega) rfl (by omega) (by show _ = _ + 15; omega) (by show (_ : Nat) ≤ 474; omega) (by show (_ : Nat) ≤ 63858; omega) dX11_init_84 ?_
  refine r_dupA Ra dX11_init_87 ?_
  refine r_aload_n Ra (i := 0) dX11_init_88 rfl rfl ?_
  refine i_getA Ra (b := 2) t0 rfl rfl rfl (by unfold pa; rw [if_pos rfl, if_pos (by decide)]; exact mI_ref ht rfl rfl) (by decide) f_X11_16 (by show _ < (_ : Int); omega) dX11_init_89 ?_
  refine i_call Ra (As := [vA en 2]) (lo := 201) (hi := 250) (cnt2 := Int.toNat (250)) (c1 := 249) (s1 := 22534) (st := [vA en (201), vA en (0)]) (ci_X7_init (a := 201) (hi := 250) rfl (by omega) (pa_fresh hF (by omega))) mw_X7_init mn_X7_init rfl rfl rfl k_X11_55 (by omega) (by omega) (by omega) rfl (by omega) (by omega) ⟨(by show (_ : Nat) ≤ 474; omega), (by show (_ : Nat) ≤ 63858; omega)⟩ (Nat.le_of_ble_eq_true rfl) (Nat.le_of_ble_eq_true rfl) rfl dX11_init_92 ?_
  refine i_putF Ra (v := 201) h0 (by show _ < (_ : Int); omega) ht rfl rfl (mI_ref ht rfl rfl) (toV_r (by omega)) f_X11_56 p_X11_8 rfl rfl rfl (fun C T N h => by have h1 : some (RX11, TX11, 15) = some (C, T, N) := h; cases h1; rfl) dX11_init_95 ?_
  refine r_aload_n Ra (i := 0) dX11_init_98 rfl rfl ?_
  refine i_new Ra (t := 11) (cnt1 := Int.toNat (250 + 1)) (c1 := 250) (s1 := 22541) hF (by omega) t250 rfl rfl nw_X11_60 (by omega) rfl (by omega) (by show _ = _ + 7; omega) (by show (_ : Nat) ≤ 474; omega) (by show (_ : Nat) ≤ 63858; omega) dX11_init_99 ?_
  refine r_dupA Ra dX11_init_102 ?_
  refine r_aload_n Ra (i := 0) dX11_init_103 rfl rfl ?_
  refine i_getA Ra (b := 2) t0 rfl rfl rfl (by unfold pa; rw [if_pos rfl, if_pos (by decide)]; exact mI_ref ht rfl rfl) (by decide) f_X11_16 (by show _ < (_ : Int); omega) dX11_init_104 ?_
  refine i_call Ra (As := [vA en 2]) (lo := 250) (hi := 296) (cnt2 := Int.toNat (296)) (c1 := 295) (s1 := 23187) (st := [vA en (250), vA en (0)]) (ci_X10_init (a := 250) (hi := 296) rfl (by omega) (pa_fresh hF (by omega))) mw_X10_init mn_X10_init rfl rfl rfl k_X11_62 (by omega) (by omega) (by omega) rfl (by omega) (by omega) ⟨(by show (_ : Nat) ≤ 474; omega), (by show (_ : Nat) ≤ 63858; omega)⟩ (Nat.le_of_ble_eq_true rfl) (Nat.le_of_ble_eq_true rfl) rfl dX11_init_107 ?_
  refine i_putF Ra (v := 250) h0 (by show _ < (_ : Int); omega) ht rfl rfl (mI_ref ht rfl rfl) (toV_r (by omega)) f_X11_63 p_X11_9 rfl rfl rfl (fun C T N h => by have h1 : some (RX11, TX11, 15) = some (C, T, N) := h; cases h1; rfl) dX11_init_110 ?_
  refine r_aload_n Ra (i := 0) dX11_init_113 rfl rfl ?_
  refine i_new Ra (t := 2) (cnt1 := Int.toNat (296 + 1)) (c1 := 296) (s1 := 23194) hF (by omega) t296 rfl rfl nw_X11_67 (by omega) rfl (by omega) (by show _ = _ + 7; omega) (by show (_ : Nat) ≤ 474; omega) (by show (_ : Nat) ≤ 63858; omega) dX11_init_114 ?_
  refine r_dupA Ra dX11_init_117 ?_
  refine r_aload_n Ra (i := 0) dX11_init_118 rfl rfl ?_
  refine i_getA Ra (b := 2) t0 rfl rfl rfl (by unfold pa; rw [if_pos rfl, if_pos (by decide)]; exact mI_ref ht rfl rfl) (by decide) f_X11_16 (by show _ < (_ : Int); omega) dX11_init_119 ?_
  refine i_call Ra (As := [vA en 2]) (lo := 296) (hi := 396) (cnt2 := Int.toNat (396)) (c1 := 395) (s1 := 26473) (st := [vA en (296), vA en (0)]) (ci_X1_init (a := 296) (hi := 396) rfl (by omega) (pa_fresh hF (by omega))) mw_X1_init mn_X1_init rfl rfl rfl k_X11_69 (by omega) (by omega) (by omega) rfl (by omega) (by omega) ⟨(by show (_ : Nat) ≤ 474; omega), (by show (_ : Nat) ≤ 63858; omega)⟩ (Nat.le_of_ble_eq_true rfl) (Nat.le_of_ble_eq_true rfl) rfl dX11_init_122 ?_
  refine i_putF Ra (v := 296) h0 (by show _ < (_ : Int); omega) ht rfl rfl (mI_ref ht rfl rfl) (toV_r (by omega)) f_X11_70 p_X11_10 rfl rfl rfl (fun C T N h => by have h1 : some (RX11, TX11, 15) = some (C, T, N) := h; cases h1; rfl) dX11_init_125 ?_
  refine r_aload_n Ra (i := 0) dX11_init_128 rfl rfl ?_
  refine i_new Ra (t := 10) (cnt1 := Int.toNat (396 + 1)) (c1 := 396) (s1 := 26486) hF (by omega) t396 rfl rfl nw_X11_74 (by omega) rfl (by omega) (by show _ = _ + 13; omega) (by show (_ : Nat) ≤ 474; omega) (by show (_ : Nat) ≤ 63858; omega) dX11_init_129 ?_
  refine r_dupA Ra dX11_init_132 ?_
  refine r_aload_n Ra (i := 0) dX11_init_133 rfl rfl ?_
  refine i_getA Ra (b := 2) t0 rfl rfl rfl (by unfold pa; rw [if_pos rfl, if_pos (by decide)]; exact mI_ref ht rfl rfl) (by decide) f_X11_16 (by show _ < (_ : Int); omega) dX11_init_134 ?_
  refine i_call Ra (As := [vA en 2]) (lo := 396) (hi := 472) (cnt2 := Int.toNat (472)) (c1 := 471) (s1 := 63747) (st := [vA en (396), vA en (0)]) (ci_X9_init (a := 396) (hi := 472) rfl (by omega) (pa_fresh hF (by omega))) mw_X9_init mn_X9_init rfl rfl rfl k_X11_76 (by omega) (by omega) (by omega) rfl (by omega) (by omega) ⟨(by show (_ : Nat) ≤ 474; omega), (by show (_ : Nat) ≤ 63858; omega)⟩ (Nat.le_of_ble_eq_true rfl) (Nat.le_of_ble_eq_true rfl) rfl dX11_init_137 ?_
  refine i_putF Ra (v := 396) h0 (by show _ < (_ : Int); omega) ht rfl rfl (mI_ref ht rfl rfl) (toV_r (by omega)) f_X11_77 p_X11_11 rfl rfl rfl (fun C T N h => by have h1 : some (RX11, TX11, 15) = some (C, T, N) := h; cases h1; rfl) dX11_init_140 ?_
  refine r_aload_n Ra (i := 0) dX11_init_143 rfl rfl ?_
  refine i_new Ra (t := 3) (cnt1 := Int.toNat (472 + 1)) (c1 := 472) (s1 := 63749) hF (by omega) t472 rfl rfl nw_X11_81 (by omega) rfl (by omega) (by show _ = _ + 2; omega) (by show (_ : Nat) ≤ 474; omega) (by show (_ : Nat) ≤ 63858; omega) dX11_init_144 ?_
  refine r_dupA Ra dX11_init_147 ?_
  refine i_callN Ra (As := []) (lo := 472) (hi := 474) (cnt2 := Int.toNat (474)) (c1 := 473) (s1 := 63852) (st := [vA en (472), vA en (0)]) (ci_X2_init (a := 472) (hi := 474) rfl (by omega) (pa_fresh hF (by omega))) mw_X2_init mn_X2_init rfl rfl rfl kn_X11_83 (by omega) (by omega) (by omega) rfl (by omega) (by omega) ⟨(by show (_ : Nat) ≤ 474; omega), (by show (_ : Nat) ≤ 63858; omega)⟩ (Nat.le_of_ble_eq_true rfl) (Nat.le_of_ble_eq_true rfl) rfl dX11_init_148 ?_
  refine i_putF Ra (v := 472) h0 (by show _ < (_ : Int); omega) ht rfl rfl (mI_ref ht rfl rfl) (toV_r (by omega)) f_X11_84 p_X11_12 rfl rfl rfl (fun C T N h => by have h1 : some (RX11, TX11, 15) = some (C, T, N) := h; cases h1; rfl) dX11_init_151 ?_
  refine r_aload_n Ra (i := 0) dX11_init_154 rfl rfl ?_
  refine r_bipush Ra dX11_init_155 rfl ?_
  refine i_newa Ra (lo := 474) (hi := 475) (cnt1 := Int.toNat (475)) (c1 := 474) (s1 := 63858) (Or.inl ⟨rfl, rfl⟩) hF (by omega) t474 l474 (by omega) (by omega) (by omega) rfl wa_int (by omega) (by omega) (by show (_ : Nat) ≤ 474; omega) (by show (_ : Nat) ≤ 63858; omega) dX11_init_157 ?_
  refine i_putF Ra (v := 474) h0 (by show _ < (_ : Int); omega) ht rfl rfl (mI_ref ht rfl rfl) (toV_r (by omega)) f_X11_88 p_X11_13 rfl rfl rfl (fun C T N h => by have h1 : some (RX11, TX11, 15) = some (C, T, N) := h; cases h1; rfl) dX11_init_159 ?_
  refine r_aload_n Ra (i := 0) dX11_init_162 rfl rfl ?_
  refine r_iconst Ra dX11_init_163 ?_
  refine i_put Ra (v := 1) h0 (by show _ < (_ : Int); omega) ht rfl rfl (mI_val ht rfl (by decide) (by decide)) rfl f_X11_91 p_X11_14 rfl rfl dX11_init_164 ?_
  exact i_ret Ra ht rfl rfl (by omega) (by decide) (fun h1 h2 => absurd h1 (by omega)) dX11_init_167
theorem ci_X12_init {l : Launch} {en : En} {μ : Mem} {a hi : Int} (h9 : a = 475) (hh : hi = a + 48) (hF : Fresh μ a) : CtN l en yX12_init cX12_init 2 1 12 47 52164 [] a hi μ := by
  subst hh
  subst h9
  have ht := t475
  have h0 : (0 : Int) ≤ 475 := by decide
  refine Tr.of true (fun _ => rfl) (by decide) (Nat.le_of_ble_eq_true rfl) (fun K Ra => ?_)
  refine r_aload_n Ra (i := 0) dX12_init_0 rfl rfl ?_
  refine r_objI Ra k_X12_1 wo_c.2.1 wo_c.2.2 (Nat.le_of_ble_eq_true rfl) (Nat.le_of_ble_eq_true rfl) dX12_init_1 ?_
  rw [pa_st (hi := 476) (486) 0 hF (by omega)]
  refine r_aload_n Ra (i := 0) dX12_init_4 rfl rfl ?_
  refine r_sipush Ra dX12_init_5 rfl ?_
  refine i_newa Ra (lo := 476) (hi := 477) (cnt1 := Int.toNat (477)) (c1 := 1) (s1 := 1800) (Or.inl ⟨rfl, rfl⟩) hF (by omega) t476 l476 (by omega) (by omega) (by omega) rfl wa_int (by omega) (by omega) (by show (_ : Nat) ≤ 47; omega) (by show (_ : Nat) ≤ 52164; omega) dX12_init_8 ?_
  refine i_putF Ra (v := 476) h0 (by show _ < (_ : Int); omega) ht rfl rfl (mI_ref ht rfl rfl) (toV_r (by omega)) f_X12_7 p_X12_0 rfl rfl rfl (fun C T N h => by have h1 : some (RX12, TX12, 77) = some (C, T, N) := h; cases h1; rfl) dX12_init_10 ?_
  refine r_aload_n Ra (i := 0) dX12_init_13 rfl rfl ?_
  refine r_iconst Ra dX12_init_14 ?_
  refine i_put Ra (v := 0) h0 (by show _ < (_ : Int); omega) ht rfl rfl (mI_val ht rfl (by decide) (by decide)) rfl f_X12_13 p_X12_1 rfl rfl dX12_init_15 ?_
  refine r_aload_n Ra (i := 0) dX12_init_18 rfl rfl ?_
  refine r_iconst Ra dX12_init_19 ?_
  refine i_put Ra (v := 0) h0 (by show _ < (_ : Int); omega) ht rfl rfl (mI_val ht rfl (by decide) (by decide)) rfl f_X12_17 p_X12_2 rfl rfl dX12_init_20 ?_
  refine r_aload_n Ra (i := 0) dX12_init_23 rfl rfl ?_
  refine r_iconst Ra dX12_init_24 ?_
  refine i_put Ra (v := 0) h0 (by show _ < (_ : Int); omega) ht rfl rfl (mI_val ht rfl (by decide) (by decide)) rfl f_X12_20 p_X12_3 rfl rfl dX12_init_25 ?_
  refine r_aload_n Ra (i := 0) dX12_init_28 rfl rfl ?_
  refine r_iconst Ra dX12_init_29 ?_
  refine i_put Ra (v := 0) h0 (by show _ < (_ : Int); omega) ht rfl rfl (mI_val ht rfl (by decide) (by decide)) rfl f_X12_23 p_X12_4 rfl rfl dX12_init_30 ?_
  refine r_aload_n Ra (i := 0) dX12_init_33 rfl rfl ?_
  refine r_iconst Ra dX12_init_34 ?_
  refine i_put Ra (v := 0) h0 (by show _ < (_ : Int); omega) ht rfl rfl (mI_val ht rfl (by decide) (by decide)) rfl f_X12_26 p_X12_5 rfl rfl dX12_init_35 ?_
  refine r_aload_n Ra (i := 0) dX12_init_38 rfl rfl ?_
  refine r_iconst Ra dX12_init_39 ?_
  refine i_put Ra (v := 0) h0 (by show _ < (_ : Int); omega) ht rfl rfl (mI_val ht rfl (by decide) (by decide)) rfl f_X12_29 p_X12_6 rfl rfl dX12_init_40 ?_
  refine r_aload_n Ra (i := 0) dX12_init_43 rfl rfl ?_
  refine r_lconst Ra (v := 0) dX12_init_44 rfl ?_
  refine i_put Ra (v := 0) h0 (by show _ < (_ : Int); omega) ht rfl rfl (mI_val ht rfl (by decide) (by decide)) rfl f_X12_32 p_X12_7 rfl rfl dX12_init_45 ?_
  refine r_aload_n Ra (i := 0) dX12_init_48 rfl rfl ?_
  refine r_iconst Ra dX12_init_49 ?_
  refine i_put Ra (v := 0) h0 (by show _ < (_ : Int); omega) ht rfl rfl (mI_val ht rfl (by decide) (by decide)) rfl f_X12_36 p_X12_8 rfl rfl dX12_init_50 ?_
  refine r_aload_n Ra (i := 0) dX12_init_53 rfl rfl ?_
  refine r_iconst Ra dX12_init_54 ?_
  refine i_put Ra (v := -1) h0 (by show _ < (_ : Int); omega) ht rfl rfl (mI_val ht rfl (by decide) (by decide)) rfl f_X12_39 p_X12_9 rfl rfl dX12_init_55 ?_
  refine r_aload_n Ra (i := 0) dX12_init_58 rfl rfl ?_
  refine r_iconst Ra dX12_init_59 ?_
  refine i_put Ra (v := 0) h0 (by show _ < (_ : Int); omega) ht rfl rfl (mI_val ht rfl (by decide) (by decide)) rfl f_X12_42 p_X12_10 rfl rfl dX12_init_60 ?_
  refine r_aload_n Ra (i := 0) dX12_init_63 rfl rfl ?_
  refine r_iconst Ra dX12_init_64 ?_
  refine i_put Ra (v := -1) h0 (by show _ < (_ : Int); omega) ht rfl rfl (mI_val ht rfl (by decide) (by decide)) rfl f_X12_45 p_X12_11 rfl rfl dX12_init_65 ?_
  refine r_aload_n Ra (i := 0) dX12_init_68 rfl rfl ?_
  refine r_iconst Ra dX12_init_69 ?_
  refine i_put Ra (v := -1) h0 (by show _ < (_ : Int); omega) ht rfl rfl (mI_val ht rfl (by decide) (by decide)) rfl f_X12_48 p_X12_12 rfl rfl dX12_init_70 ?_
  refine r_aload_n Ra (i := 0) dX12_init_73 rfl rfl ?_
  refine r_iconst Ra dX12_init_74 ?_
  refine i_put Ra (v := 0) h0 (by show _ < (_ : Int); omega) ht rfl rfl (mI_val ht rfl (by decide) (by decide)) rfl f_X12_51 p_X12_13 rfl rfl dX12_init_75 ?_
  refine r_aload_n Ra (i := 0) dX12_init_78 rfl rfl ?_
  refine r_iconst Ra dX12_init_79 ?_
  refine i_newa Ra (lo := 477) (hi := 478) (cnt1 := Int.toNat (478)) (c1 := 2) (s1 := 1802) (Or.inl ⟨rfl, rfl⟩) hF (by omega) t477 l477 (by omega) (by omega) (by omega) rfl wa_int (by omega) (by omega) (by show (_ : Nat) ≤ 47; omega) (by show (_ : Nat) ≤ 52164; omega) dX12_init_80 ?_
  refine i_putF Ra (v := 477) h0 (by show _ < (_ : Int); omega) ht rfl rfl (mI_ref ht rfl rfl) (toV_r (by omega)) f_X12_54 p_X12_14 rfl rfl rfl (fun C T N h => by have h1 : some (RX12, TX12, 77) = some (C, T, N) := h; cases h1; rfl) dX12_init_82 ?_
  refine r_aload_n Ra (i := 0) dX12_init_85 rfl rfl ?_
  refine r_iconst Ra dX12_init_86 ?_
  refine i_newa Ra (lo := 478) (hi := 479) (cnt1 := Int.toNat (479)) (c1 := 3) (s1 := 1804) (Or.inl ⟨rfl, rfl⟩) hF (by omega) t478 l478 (by omega) (by omega) (by omega) rfl wa_int (by omega) (by omega) (by show (_ : Nat) ≤ 47; omega) (by show (_ : Nat) ≤ 52164; omega) dX12_init_87 ?_
  refine i_putF Ra (v := 478) h0 (by show _ < (_ : Int); omega) ht rfl rfl (mI_ref ht rfl rfl) (toV_r (by omega)) f_X12_57 p_X12_15 rfl rfl rfl (fun C T N h => by have h1 : some (RX12, TX12, 77) = some (C, T, N) := h; cases h1; rfl) dX12_init_89 ?_
  refine r_aload_n Ra (i := 0) dX12_init_92 rfl rfl ?_
  refine r_sipush Ra dX12_init_93 rfl ?_
  refine i_newa Ra (lo := 479) (hi := 480) (cnt1 := Int.toNat (480)) (c1 := 4) (s1 := 1932) (Or.inl ⟨rfl, rfl⟩) hF (by omega) t479 l479 (by omega) (by omega) (by omega) rfl wa_int (by omega) (by omega) (by show (_ : Nat) ≤ 47; omega) (by show (_ : Nat) ≤ 52164; omega) dX12_init_96 ?_
  refine i_putF Ra (v := 479) h0 (by show _ < (_ : Int); omega) ht rfl rfl (mI_ref ht rfl rfl) (toV_r (by omega)) f_X12_60 p_X12_16 rfl rfl rfl (fun C T N h => by have h1 : some (RX12, TX12, 77) = some (C, T, N) := h; cases h1; rfl) dX12_init_98 ?_
  refine r_aload_n Ra (i := 0) dX12_init_101 rfl rfl ?_
  refine r_iconst Ra dX12_init_102 ?_
  refine i_newa Ra (lo := 480) (hi := 481) (cnt1 := Int.toNat (481)) (c1 := 5) (s1 := 1934) (Or.inl ⟨rfl, rfl⟩) hF (by omega) t480 l480 (by omega) (by omega) (by omega) rfl wa_int (by omega) (by omega) (by show (_ : Nat) ≤ 47; omega) (by show (_ : Nat) ≤ 52164; omega) dX12_init_103 ?_
  refine i_putF Ra (v := 480) h0 (by show _ < (_ : Int); omega) ht rfl rfl (mI_ref ht rfl rfl) (toV_r (by omega)) f_X12_63 p_X12_17 rfl rfl rfl (fun C T N h => by have h1 : some (RX12, TX12, 77) = some (C, T, N) := h; cases h1; rfl) dX12_init_105 ?_
  refine r_aload_n Ra (i := 0) dX12_init_108 rfl rfl ?_
  refine r_bipush Ra dX12_init_109 rfl ?_
  refine i_newa Ra (lo := 481) (hi := 482) (cnt1 := Int.toNat (482)) (c1 := 6) (s1 := 1946) (Or.inl ⟨rfl, rfl⟩) hF (by omega) t481 l481 (by omega) (by omega) (by omega) rfl wa_int (by omega) (by omega) (by show (_ : Nat) ≤ 47; omega) (by show (_ : Nat) ≤ 52164; omega) dX12_init_111 ?_
  refine i_putF Ra (v := 481) h0 (by show _ < (_ : Int); omega) ht rfl rfl (mI_ref ht rfl rfl) (toV_r (by omega)) f_X12_66 p_X12_18 rfl rfl rfl (fun C T N h => by have h1 : some (RX12, TX12, 77) = some (C, T, N) := h; cases h1; rfl) dX12_init_113 ?_
  refine r_aload_n Ra (i := 0) dX12_init_116 rfl rfl ?_
  refine r_bipush Ra dX12_init_117 rfl ?_
  refine i_newa Ra (lo := 482) (hi := 483) (cnt1 := Int.toNat (483)) (c1 := 7) (s1 := 1958) (Or.inl ⟨rfl, rfl⟩) hF (by omega) t482 l482 (by omega) (by omega) (by omega) rfl wa_int (by omega) (by omega) (by show (_ : Nat) ≤ 47; omega) (by show (_ : Nat) ≤ 52164; omega) dX12_init_119 ?_
  refine i_putF Ra (v := 482) h0 (by show _ < (_ : Int); omega) ht rfl rfl (mI_ref ht rfl rfl) (toV_r (by omega)) f_X12_69 p_X12_19 rfl rfl rfl (fun C T N h => by have h1 : some (RX12, TX12, 77) = some (C, T, N) := h; cases h1; rfl) dX12_init_121 ?_
  refine r_aload_n Ra (i := 0) dX12_init_124 rfl rfl ?_
  refine r_bipush Ra dX12_init_125 rfl ?_
  refine i_newa Ra (lo := 483) (hi := 484) (cnt1 := Int.toNat (484)) (c1 := 8) (s1 := 1970) (Or.inl ⟨rfl, rfl⟩) hF (by omega) t483 l483 (by omega) (by omega) (by omega) rfl wa_int (by omega) (by omega) (by show (_ : Nat) ≤ 47; omega) (by show (_ : Nat) ≤ 52164; omega) dX12_init_127 ?_
  refine i_putF Ra (v := 483) h0 (by show _ < (_ : Int); omega) ht rfl rfl (mI_ref ht rfl rfl) (toV_r (by omega)) f_X12_72 p_X12_20 rfl rfl rfl (fun C T N h => by have h1 : some (RX12, TX12, 77) = some (C, T, N) := h; cases h1; rfl) dX12_init_129 ?_
  refine r_aload_n Ra (i := 0) dX12_init_132 rfl rfl ?_
  refine r_bipush Ra dX12_init_133 rfl ?_
  refine i_newa Ra (lo := 484) (hi := 485) (cnt1 := Int.toNat (485)) (c1 := 9) (s1 := 1982) (Or.inl ⟨rfl, rfl⟩) hF (by omega) t484 l484 (by omega) (by omega) (by omega) rfl wa_int (by omega) (by omega) (by show (_ : Nat) ≤ 47; omega) (by show (_ : Nat) ≤ 52164; omega) dX12_init_135 ?_
  refine i_putF Ra (v := 484) h0 (by show _ < (_ : Int); omega) ht rfl rfl (mI_ref ht rfl rfl) (toV_r (by omega)) f_X12_75 p_X12_21 rfl rfl rfl (fun C T N h => by have h1 : some (RX12, TX12, 77) = some (C, T, N) := h; cases h1; rfl) dX12_init_137 ?_
  refine r_aload_n Ra (i := 0) dX12_init_140 rfl rfl ?_
  refine r_iconst Ra dX12_init_141 ?_
  refine i_newa Ra (lo := 485) (hi := 486) (cnt1 := Int.toNat (486)) (c1 := 10) (s1 := 1984) (Or.inl ⟨rfl, rfl⟩) hF (by omega) t485 l485 (by omega) (by omega) (by omega) rfl wa_int (by omega) (by omega) (by show (_ : Nat) ≤ 47; omega) (by show (_ : Nat) ≤ 52164; omega) dX12_init_142 ?_
  refine i_putF Ra (v := 485) h0 (by show _ < (_ : Int); omega) ht rfl rfl (mI_ref ht rfl rfl) (toV_r (by omega)) f_X12_78 p_X12_22 rfl rfl rfl (fun C T N h => by have h1 : some (RX12, TX12, 77) = some (C, T, N) := h; cases h1; rfl) dX12_init_144 ?_
  refine r_aload_n Ra (i := 0) dX12_init_147 rfl rfl ?_
  refine r_bipush Ra dX12_init_148 rfl ?_
  refine i_newx Ra (lo := 486) (hi := 487) (cnt1 := Int.toNat (487)) (c1 := 11) (s1 := 1990) hF (by omega) t486 l486 rfl (by omega) (by omega) rfl wa_int (by omega) (by omega) (by show (_ : Nat) ≤ 47; omega) (by show (_ : Nat) ≤ 52164; omega) dX12_init_150 ?_
  refine i_putF Ra (v := 486) h0 (by show _ < (_ : Int); omega) ht rfl rfl (mI_ref ht rfl rfl) (toV_r (by omega)) f_X12_81 p_X12_23 rfl rfl rfl (fun C T N h => by have h1 : some (RX12, TX12, 77) = some (C, T, N) := h; cases h1; rfl) dX12_init_152 ?_
  refine r_aload_n Ra (i := 0) dX12_init_155 rfl rfl ?_
  refine r_bipush Ra dX12_init_156 rfl ?_
  refine i_newa Ra (lo := 487) (hi := 488) (cnt1 := Int.toNat (488)) (c1 := 12) (s1 := 1996) (Or.inl ⟨rfl, rfl⟩) hF (by omega) t487 l487 (by omega) (by omega) (by omega) rfl wa_int (by omega) (by omega) (by show (_ : Nat) ≤ 47; omega) (by show (_ : Nat) ≤ 52164; omega) dX12_init_158 ?_
  refine i_putF Ra (v := 487) h0 (by show _ < (_ : Int); omega) ht rfl rfl (mI_ref ht rfl rfl) (toV_r (by omega)) f_X12_84 p_X12_24 rfl rfl rfl (fun C T N h => by have h1 : some (RX12, TX12, 77) = some (C, T, N) := h; cases h1; rfl) dX12_init_160 ?_
  refine r_aload_n Ra (i := 0) dX12_init_163 rfl rfl ?_
  refine r_sipush Ra dX12_init_164 rfl ?_
  refine i_newa Ra (lo := 488) (hi := 489) (cnt1 := Int.toNat (489)) (c1 := 13) (s1 := 5196) (Or.inl ⟨rfl, rfl⟩) hF (by omega) t488 l488 (by omega) (by omega) (by omega) rfl wa_int (by omega) (by omega) (by show (_ : Nat) ≤ 47; omega) (by show (_ : Nat) ≤ 52164; omega) dX12_init_167 ?_
  refine i_putF Ra (v := 488) h0 (by show _ < (_ : Int); omega) ht rfl rfl (mI_ref ht rfl rfl) (toV_r (by omega)) f_X12_87 p_X12_25 rfl rfl rfl (fun C T N h => by have h1 : some (RX12, TX12, 77) = some (C, T, N) := h; cases h1; rfl) dX12_init_169 ?_
  refine r_aload_n Ra (i := 0) dX12_init_172 rfl rfl ?_
  refine r_sipush Ra dX12_init_173 rfl ?_
  refine i_newa Ra (lo := 489) (hi := 490) (cnt1 := Int.toNat (490)) (c1 := 14) (s1 := 8396) (Or.inl ⟨rfl, rfl⟩) hF (by omega) t489 l489 (by omega) (by omega) (by omega) rfl wa_int (by omega) (by omega) (by show (_ : Nat) ≤ 47; omega) (by show (_ : Nat) ≤ 52164; omega) dX12_init_176 ?_
  refine i_putF Ra (v := 489) h0 (by show _ < (_ : Int); omega) ht rfl rfl (mI_ref ht rfl rfl) (toV_r (by omega)) f_X12_90 p_X12_26 rfl rfl rfl (fun C T N h => by have h1 : some (RX12, TX12, 77) = some (C, T, N) := h; cases h1; rfl) dX12_init_178 ?_
  refine r_aload_n Ra (i := 0) dX12_init_181 rfl rfl ?_
  refine r_bipush Ra dX12_init_182 rfl ?_
  refine i_newa Ra (lo := 490) (hi := 491) (cnt1 := Int.toNat (491)) (c1 := 15) (s1 := 8408) (Or.inr (Or.inr ⟨rfl, rfl⟩)) hF (by omega) t490 l490 (by omega) (by omega) (by omega) rfl wa_long (by omega) (by omega) (by show (_ : Nat) ≤ 47; omega) (by show (_ : Nat) ≤ 52164; omega) dX12_init_184 ?_
  refine i_putF Ra (v := 490) h0 (by show _ < (_ : Int); omega) ht rfl rfl (mI_ref ht rfl rfl) (toV_r (by omega)) f_X12_93 p_X12_27 rfl rfl rfl (fun C T N h => by have h1 : some (RX12, TX12, 77) = some (C, T, N) := h; cases h1; rfl) dX12_init_186 ?_
  refine r_aload_n Ra (i := 0) dX12_init_189 rfl rfl ?_
  refine r_iconst Ra dX12_init_190 ?_
  refine i_put Ra (v := 0) h0 (by show _ < (_ : Int); omega) ht rfl rfl (mI_val ht rfl (by decide) (by decide)) rfl f_X12_97 p_X12_28 rfl rfl dX12_init_191 ?_
  refine r_aload_n Ra (i := 0) dX12_init_194 rfl rfl ?_
  refine r_iconst Ra dX12_init_195 ?_
  refine i_put Ra (v := 1) h0 (by show _ < (_ : Int); omega) ht rfl rfl (mI_val ht rfl (by decide) (by decide)) rfl f_X12_100 p_X12_29 rfl rfl dX12_init_196 ?_
  refine r_aload_n Ra (i := 0) dX12_init_199 rfl rfl ?_
  refine r_iconst Ra dX12_init_200 ?_
  refine i_put Ra (v := 0) h0 (by show _ < (_ : Int); omega) ht rfl rfl (mI_val ht rfl (by decide) (by decide)) rfl f_X12_103 p_X12_30 rfl rfl dX12_init_201 ?_
  refine r_aload_n Ra (i := 0) dX12_init_204 rfl rfl ?_
  refine r_bipush Ra dX12_init_205 rfl ?_
  refine i_newa Ra (lo := 491) (hi := 492) (cnt1 := Int.toNat (492)) (c1 := 16) (s1 := 8428) (Or.inl ⟨rfl, rfl⟩) hF (by omega) t491 l491 (by omega) (by omega) (by omega) rfl wa_int (by omega) (by omega) (by show (_ : Nat) ≤ 47; omega) (by show (_ : Nat) ≤ 52164; omega) dX12_init_207 ?_
  refine i_putF Ra (v := 491) h0 (by show _ < (_ : Int); omega) ht rfl rfl (mI_ref ht rfl rfl) (toV_r (by omega)) f_X12_106 p_X12_31 rfl rfl rfl (fun C T N h => by have h1 : some (RX12, TX12, 77) = some (C, T, N) := h; cases h1; rfl) dX12_init_209 ?_
  refine r_aload_n Ra (i := 0) dX12_init_212 rfl rfl ?_
  refine r_bipush Ra dX12_init_213 rfl ?_
  refine i_newa Ra (lo := 492) (hi := 493) (cnt1 := Int.toNat (493)) (c1 := 17) (s1 := 8448) (Or.inl ⟨rfl, rfl⟩) hF (by omega) t492 l492 (by omega) (by omega) (by omega) rfl wa_int (by omega) (by omega) (by show (_ : Nat) ≤ 47; omega) (by show (_ : Nat) ≤ 52164; omega) dX12_init_215 ?_
  refine i_putF Ra (v := 492) h0 (by show _ < (_ : Int); omega) ht rfl rfl (mI_ref ht rfl rfl) (toV_r (by omega)) f_X12_109 p_X12_32 rfl rfl rfl (fun C T N h => by have h1 : some (RX12, TX12, 77) = some (C, T, N) := h; cases h1; rfl) dX12_init_217 ?_
  refine r_aload_n Ra (i := 0) dX12_init_220 rfl rfl ?_
  refine r_bipush Ra dX12_init_221 rfl ?_
  refine i_newa Ra (lo := 493) (hi := 494) (cnt1 := Int.toNat (494)) (c1 := 18) (s1 := 8468) (Or.inr (Or.inl ⟨rfl, rfl⟩)) hF (by omega) t493 l493 (by omega) (by omega) (by omega) rfl wa_boolean (by omega) (by omega) (by show (_ : Nat) ≤ 47; omega) (by show (_ : Nat) ≤ 52164; omega) dX12_init_223 ?_
  refine i_putF Ra (v := 493) h0 (by show _ < (_ : Int); omega) ht rfl rfl (mI_ref ht rfl rfl) (toV_r (by omega)) f_X12_112 p_X12_33 rfl rfl rfl (fun C T N h => by have h1 : some (RX12, TX12, 77) = some (C, T, N) := h; cases h1; rfl) dX12_init_225 ?_
  refine r_aload_n Ra (i := 0) dX12_init_228 rfl rfl ?_
  refine r_bipush Ra dX12_init_229 rfl ?_
  refine i_newa Ra (lo := 494) (hi := 495) (cnt1 := Int.toNat (495)) (c1 := 19) (s1 := 8488) (Or.inl ⟨rfl, rfl⟩) hF (by omega) t494 l494 (by omega) (by omega) (by omega) rfl wa_int (by omega) (by omega) (by show (_ : Nat) ≤ 47; omega) (by show (_ : Nat) ≤ 52164; omega) dX12_init_231 ?_
  refine i_putF Ra (v := 494) h0 (by show _ < (_ : Int); omega) ht rfl rfl (mI_ref ht rfl rfl) (toV_r (by omega)) f_X12_116 p_X12_34 rfl rfl rfl (fun C T N h => by have h1 : some (RX12, TX12, 77) = some (C, T, N) := h; cases h1; rfl) dX12_init_233 ?_
  refine r_aload_n Ra (i := 0) dX12_init_236 rfl rfl ?_
  refine r_bipush Ra dX12_init_237 rfl ?_
  refine i_newa Ra (lo := 495) (hi := 496) (cnt1 := Int.toNat (496)) (c1 := 20) (s1 := 8508) (Or.inl ⟨rfl, rfl⟩) hF (by omega) t495 l495 (by omega) (by omega) (by omega) rfl wa_int (by omega) (by omega) (by show (_ : Nat) ≤ 47; omega) (by show (_ : Nat) ≤ 52164; omega) dX12_init_239 ?_
  refine i_putF Ra (v := 495) h0 (by show _ < (_ : Int); omega) ht rfl rfl (mI_ref ht rfl rfl) (toV_r (by omega)) f_X12_119 p_X12_35 rfl rfl rfl (fun C T N h => by have h1 : some (RX12, TX12, 77) = some (C, T, N) := h; cases h1; rfl) dX12_init_241 ?_
  refine r_aload_n Ra (i := 0) dX12_init_244 rfl rfl ?_
  refine r_iconst Ra dX12_init_245 ?_
  refine i_put Ra (v := 0) h0 (by show _ < (_ : Int); omega) ht rfl rfl (mI_val ht rfl (by decide) (by decide)) rfl f_X12_122 p_X12_36 rfl rfl dX12_init_246 ?_
  refine r_aload_n Ra (i := 0) dX12_init_249 rfl rfl ?_
  refine r_iconst Ra dX12_init_250 ?_
  refine i_put Ra (v := 0) h0 (by show _ < (_ : Int); omega) ht rfl rfl (mI_val ht rfl (by decide) (by decide)) rfl f_X12_125 p_X12_37 rfl rfl dX12_init_251 ?_
  refine r_aload_n Ra (i := 0) dX12_init_254 rfl rfl ?_
  refine r_sipush Ra dX12_init_255 rfl ?_
  refine i_newa Ra (lo := 496) (hi := 497) (cnt1 := Int.toNat (497)) (c1 := 21) (s1 := 9008) (Or.inl ⟨rfl, rfl⟩) hF (by omega) t496 l496 (by omega) (by omega) (by omega) rfl wa_int (by omega) (by omega) (by show (_ : Nat) ≤ 47; omega) (by show (_ : Nat) ≤ 52164; omega) dX12_init_258 ?_
  refine i_putF Ra (v := 496) h0 (by show _ < (_ : Int); omega) ht rfl rfl (mI_ref ht rfl rfl) (toV_r (by omega)) f_X12_128 p_X12_38 rfl rfl rfl (fun C T N h => by have h1 : some (RX12, TX12, 77) = some (C, T, N) := h; cases h1; rfl) dX12_init_260 ?_
  refine r_aload_n Ra (i := 0) dX12_init_263 rfl rfl ?_
  refine r_iconst Ra dX12_init_264 ?_
  refine i_put Ra (v := 0) h0 (by show _ < (_ : Int); omega) ht rfl rfl (mI_val ht rfl (by decide) (by decide)) rfl f_X12_131 p_X12_39 rfl rfl dX12_init_265 ?_
  refine r_aload_n Ra (i := 0) dX12_init_268 rfl rfl ?_
  refine r_iconst Ra dX12_init_269 ?_
  refine i_put Ra (v := 0) h0 (by show _ < (_ : Int); omega) ht rfl rfl (mI_val ht rfl (by decide) (by decide)) rfl f_X12_134 p_X12_40 rfl rfl dX12_init_270 ?_
  refine r_aload_n Ra (i := 0) dX12_init_273 rfl rfl ?_
  refine r_iconst Ra dX12_init_274 ?_
  refine i_put Ra (v := 0) h0 (by show _ < (_ : Int); omega) ht rfl rfl (mI_val ht rfl (by decide) (by decide)) rfl f_X12_138 p_X12_41 rfl rfl dX12_init_275 ?_
  refine r_aload_n Ra (i := 0) dX12_init_278 rfl rfl ?_
  refine r_bipush Ra dX12_init_279 rfl ?_
  refine i_newa Ra (lo := 497) (hi := 498) (cnt1 := Int.toNat (498)) (c1 := 22) (s1 := 9014) (Or.inl ⟨rfl, rfl⟩) hF (by omega) t497 l497 (by omega) (by omega) (by omega) rfl wa_int (by omega) (by omega) (by show (_ : Nat) ≤ 47; omega) (by show (_ : Nat) ≤ 52164; omega) dX12_init_281 ?_
  refine i_putF Ra (v := 497) h0 (by show _ < (_ : Int); omega) ht rfl rfl (mI_ref ht rfl rfl) (toV_r (by omega)) f_X12_141 p_X12_42 rfl rfl rfl (fun C T N h => by have h1 : some (RX12, TX12, 77) = some (C, T, N) := h; cases h1; rfl) dX12_init_283 ?_
  refine r_aload_n Ra (i := 0) dX12_init_286 rfl rfl ?_
  refine r_bipush Ra dX12_init_287 rfl ?_
  refine i_newa Ra (lo := 498) (hi := 499) (cnt1 := Int.toNat (499)) (c1 := 23) (s1 := 9036) (Or.inl ⟨rfl, rfl⟩) hF (by omega) t498 l498 (by omega) (by omega) (by omega) rfl wa_int (by omega) (by omega) (by show (_ : Nat) ≤ 47; omega) (by show (_ : Nat) ≤ 52164; omega) dX12_init_289 ?_
  refine i_putF Ra (v := 498) h0 (by show _ < (_ : Int); omega) ht rfl rfl (mI_ref ht rfl rfl) (toV_r (by omega)) f_X12_144 p_X12_43 rfl rfl rfl (fun C T N h => by have h1 : some (RX12, TX12, 77) = some (C, T, N) := h; cases h1; rfl) dX12_init_291 ?_
  refine r_aload_n Ra (i := 0) dX12_init_294 rfl rfl ?_
  refine r_sipush Ra dX12_init_295 rfl ?_
  refine i_newa Ra (lo := 499) (hi := 500) (cnt1 := Int.toNat (500)) (c1 := 24) (s1 := 10444) (Or.inl ⟨rfl, rfl⟩) hF (by omega) t499 l499 (by omega) (by omega) (by omega) rfl wa_int (by omega) (by omega) (by show (_ : Nat) ≤ 47; omega) (by show (_ : Nat) ≤ 52164; omega) dX12_init_298 ?_
  refine i_putF Ra (v := 499) h0 (by show _ < (_ : Int); omega) ht rfl rfl (mI_ref ht rfl rfl) (toV_r (by omega)) f_X12_147 p_X12_44 rfl rfl rfl (fun C T N h => by have h1 : some (RX12, TX12, 77) = some (C, T, N) := h; cases h1; rfl) dX12_init_300 ?_
  refine r_aload_n Ra (i := 0) dX12_init_303 rfl rfl ?_
  refine r_sipush Ra dX12_init_304 rfl ?_
  refine i_newa Ra (lo := 500) (hi := 501) (cnt1 := Int.toNat (501)) (c1 := 25) (s1 := 10576) (Or.inl ⟨rfl, rfl⟩) hF (by omega) t500 l500 (by omega) (by omega) (by omega) rfl wa_int (by omega) (by omega) (by show (_ : Nat) ≤ 47; omega) (by show (_ : Nat) ≤ 52164; omega) dX12_init_307 ?_
  refine i_putF Ra (v := 500) h0 (by show _ < (_ : Int); omega) ht rfl rfl (mI_ref ht rfl rfl) (toV_r (by omega)) f_X12_150 p_X12_45 rfl rfl rfl (fun C T N h => by have h1 : some (RX12, TX12, 77) = some (C, T, N) := h; cases h1; rfl) dX12_init_309 ?_
  refine r_aload_n Ra (i := 0) dX12_init_312 rfl rfl ?_
  refine r_sipush Ra dX12_init_313 rfl ?_
  refine i_newa Ra (lo := 501) (hi := 502) (cnt1 := Int.toNat (502)) (c1 := 26) (s1 := 10708) (Or.inl ⟨rfl, rfl⟩) hF (by omega) t501 l501 (by omega) (by omega) (by omega) rfl wa_int (by omega) (by omega) (by show (_ : Nat) ≤ 47; omega) (by show (_ : Nat) ≤ 52164; omega) dX12_init_316 ?_
  refine i_putF Ra (v := 501) h0 (by show _ < (_ : Int); omega) ht rfl rfl (mI_ref ht rfl rfl) (toV_r (by omega)) f_X12_153 p_X12_46 rfl rfl rfl (fun C T N h => by have h1 : some (RX12, TX12, 77) = some (C, T, N) := h; cases h1; rfl) dX12_init_318 ?_
  refine r_aload_n Ra (i := 0) dX12_init_321 rfl rfl ?_
  refine r_sipush Ra dX12_init_322 rfl ?_
  refine i_newa Ra (lo := 502) (hi := 503) (cnt1 := Int.toNat (503)) (c1 := 27) (s1 := 10840) (Or.inl ⟨rfl, rfl⟩) hF (by omega) t502 l502 (by omega) (by omega) (by omega) rfl wa_int (by omega) (by omega) (by show (_ : Nat) ≤ 47; omega) (by show (_ : Nat) ≤ 52164; omega) dX12_init_325 ?_
  refine i_putF Ra (v := 502) h0 (by show _ < (_ : Int); omega) ht rfl rfl (mI_ref ht rfl rfl) (toV_r (by omega)) f_X12_156 p_X12_47 rfl rfl rfl (fun C T N h => by have h1 : some (RX12, TX12, 77) = some (C, T, N) := h; cases h1; rfl) dX12_init_327 ?_
  refine r_aload_n Ra (i := 0) dX12_init_330 rfl rfl ?_
  refine r_sipush Ra dX12_init_331 rfl ?_
  refine i_newa Ra (lo := 503) (hi := 504) (cnt1 := Int.toNat (504)) (c1 := 28) (s1 := 10972) (Or.inl ⟨rfl, rfl⟩) hF (by omega) t503 l503 (by omega) (by omega) (by omega) rfl wa_int (by omega) (by omega) (by show (_ : Nat) ≤ 47; omega) (by show (_ : Nat) ≤ 52164; omega) dX12_init_334 ?_
  refine i_putF Ra (v := 503) h0 (by show _ < (_ : Int); omega) ht rfl rfl (mI_ref ht rfl rfl) (toV_r (by omega)) f_X12_159 p_X12_48 rfl rfl rfl (fun C T N h => by have h1 : some (RX12, TX12, 77) = some (C, T, N) := h; cases h1; rfl) dX12_init_336 ?_
  refine r_aload_n Ra (i := 0) dX12_init_339 rfl rfl ?_
  refine r_bipush Ra dX12_init_340 rfl ?_
  refine i_newa Ra (lo := 504) (hi := 505) (cnt1 := Int.toNat (505)) (c1 := 29) (s1 := 10994) (Or.inl ⟨rfl, rfl⟩) hF (by omega) t504 l504 (by omega) (by omega) (by omega) rfl wa_int (by omega) (by omega) (by show (_ : Nat) ≤ 47; omega) (by show (_ : Nat) ≤ 52164; omega) dX12_init_342 ?_
  refine i_putF Ra (v := 504) h0 (by show _ < (_ : Int); omega) ht rfl rfl (mI_ref ht rfl rfl) (toV_r (by omega)) f_X12_162 p_X12_49 rfl rfl rfl (fun C T N h => by have h1 : some (RX12, TX12, 77) = some (C, T, N) := h; cases h1; rfl) dX12_init_344 ?_
  refine r_aload_n Ra (i := 0) dX12_init_347 rfl rfl ?_
  refine r_sipush Ra dX12_init_348 rfl ?_
  refine i_newa Ra (lo := 505) (hi := 506) (cnt1 := Int.toNat (506)) (c1 := 30) (s1 := 13634) (Or.inl ⟨rfl, rfl⟩) hF (by omega) t505 l505 (by omega) (by omega) (by omega) rfl wa_int (by omega) (by omega) (by show (_ : Nat) ≤ 47; omega) (by show (_ : Nat) ≤ 52164; omega) dX12_init_351 ?_
  refine i_putF Ra (v := 505) h0 (by show _ < (_ : Int); omega) ht rfl rfl (mI_ref ht rfl rfl) (toV_r (by omega)) f_X12_165 p_X12_50 rfl rfl rfl (fun C T N h => by have h1 : some (RX12, TX12, 77) = some (C, T, N) := h; cases h1; rfl) dX12_init_353 ?_
  refine r_aload_n Ra (i := 0) dX12_init_356 rfl rfl ?_
  refine r_iconst Ra dX12_init_357 ?_
  refine i_put Ra (v := 0) h0 (by show _ < (_ : Int); omega) ht rfl rfl (mI_val ht rfl (by decide) (by decide)) rfl f_X12_168 p_X12_51 rfl rfl dX12_init_358 ?_
  refine r_aload_n Ra (i := 0) dX12_init_361 rfl rfl ?_
  refine r_iconst Ra dX12_init_362 ?_
  refine i_put Ra (v := 0) h0 (by show _ < (_ : Int); omega) ht rfl rfl (mI_val ht rfl (by decide) (by decide)) rfl f_X12_171 p_X12_52 rfl rfl dX12_init_363 ?_
  refine r_aload_n Ra (i := 0) dX12_init_366 rfl rfl ?_
  refine r_lconst Ra (v := 1) dX12_init_367 rfl ?_
  refine i_put Ra (v := 1) h0 (by show _ < (_ : Int); omega) ht rfl rfl (mI_val ht rfl (by decide) (by decide)) rfl f_X12_174 p_X12_53 rfl rfl dX12_init_368 ?_
  refine r_aload_n Ra (i := 0) dX12_init_371 rfl rfl ?_
  refine r_sipush Ra dX12_init_372 rfl ?_
  refine i_newa Ra (lo := 506) (hi := 507) (cnt1 := Int.toNat (507)) (c1 := 31) (s1 := 14134) (Or.inr (Or.inr ⟨rfl, rfl⟩)) hF (by omega) t506 l506 (by omega) (by omega) (by omega) rfl wa_long (by omega) (by omega) (by show (_ : Nat) ≤ 47; omega) (by show (_ : Nat) ≤ 52164; omega) dX12_init_375 ?_
  refine i_putF Ra (v := 506) h0 (by show _ < (_ : Int); omega) ht rfl rfl (mI_ref ht rfl rfl) (toV_r (by omega)) f_X12_177 p_X12_54 rfl rfl rfl (fun C T N h => by have h1 : some (RX12, TX12, 77) = some (C, T, N) := h; cases h1; rfl) dX12_init_377 ?_
  refine r_aload_n Ra (i := 0) dX12_init_380 rfl rfl ?_
  refine r_bipush Ra dX12_init_381 rfl ?_
  refine i_newa Ra (lo := 507) (hi := 508) (cnt1 := Int.toNat (508)) (c1 := 32) (s1 := 14144) (Or.inl ⟨rfl, rfl⟩) hF (by omega) t507 l507 (by omega) (by omega) (by omega) rfl wa_int (by omega) (by omega) (by show (_ : Nat) ≤ 47; omega) (by show (_ : Nat) ≤ 52164; omega) dX12_init_383 ?_
  refine i_putF Ra (v := 507) h0 (by show _ < (_ : Int); omega) ht rfl rfl (mI_ref ht rfl rfl) (toV_r (by omega)) f_X12_180 p_X12_55 rfl rfl rfl (fun C T N h => by have h1 : some (RX12, TX12, 77) = some (C, T, N) := h; cases h1; rfl) dX12_init_385 ?_
  refine r_aload_n Ra (i := 0) dX12_init_388 rfl rfl ?_
  refine r_bipush Ra dX12_init_389 rfl ?_
  refine i_newa Ra (lo := 508) (hi := 509) (cnt1 := Int.toNat (509)) (c1 := 33) (s1 := 14208) (Or.inl ⟨rfl, rfl⟩) hF (by omega) t508 l508 (by omega) (by omega) (by omega) rfl wa_int (by omega) (by omega) (by show (_ : Nat) ≤ 47; omega) (by show (_ : Nat) ≤ 52164; omega) dX12_init_391 ?_
  refine i_putF Ra (v := 508) h0 (by show _ < (_ : Int); omega) ht rfl rfl (mI_ref ht rfl rfl) (toV_r (by omega)) f_X12_183 p_X12_56 rfl rfl rfl (fun C T N h => by have h1 : some (RX12, TX12, 77) = some (C, T, N) := h; cases h1; rfl) dX12_init_393 ?_
  refine r_aload_n Ra (i := 0) dX12_init_396 rfl rfl ?_
  refine r_bipush Ra dX12_init_397 rfl ?_
  refine i_newa Ra (lo := 509) (hi := 510) (cnt1 := Int.toNat (510)) (c1 := 34) (s1 := 14214) (Or.inl ⟨rfl, rfl⟩) hF (by omega) t509 l509 (by omega) (by omega) (by omega) rfl wa_int (by omega) (by omega) (by show (_ : Nat) ≤ 47; omega) (by show (_ : Nat) ≤ 52164; omega) dX12_init_399 ?_
  refine i_putF Ra (v := 509) h0 (by show _ < (_ : Int); omega) ht rfl rfl (mI_ref ht rfl rfl) (toV_r (by omega)) f_X12_186 p_X12_57 rfl rfl rfl (fun C T N h => by have h1 : some (RX12, TX12, 77) = some (C, T, N) := h; cases h1; rfl) dX12_init_401 ?_
  refine r_aload_n Ra (i := 0) dX12_init_404 rfl rfl ?_
  refine r_bipush Ra dX12_init_405 rfl ?_
  refine i_newa Ra (lo := 510) (hi := 511) (cnt1 := Int.toNat (511)) (c1 := 35) (s1 := 14220) (Or.inl ⟨rfl, rfl⟩) hF (by omega) t510 l510 (by omega) (by omega) (by omega) rfl wa_int (by omega) (by omega) (by show (_ : Nat) ≤ 47; omega) (by show (_ : Nat) ≤ 52164; omega) dX12_init_407 ?_
  refine i_putF Ra (v := 510) h0 (by show _ < (_ : Int); omega) ht rfl rfl (mI_ref ht rfl rfl) (toV_r (by omega)) f_X12_189 p_X12_58 rfl rfl rfl (fun C T N h => by have h1 : some (RX12, TX12, 77) = some (C, T, N) := h; cases h1; rfl) dX12_init_409 ?_
  refine r_aload_n Ra (i := 0) dX12_init_412 rfl rfl ?_
  refine r_sipush Ra dX12_init_413 rfl ?_
  refine i_newa Ra (lo := 511) (hi := 512) (cnt1 := Int.toNat (512)) (c1 := 36) (s1 := 14860) (Or.inl ⟨rfl, rfl⟩) hF (by omega) t511 l511 (by omega) (by omega) (by omega) rfl wa_int (by omega) (by omega) (by show (_ : Nat) ≤ 47; omega) (by show (_ : Nat) ≤ 52164; omega) dX12_init_416 ?_
  refine i_putF Ra (v := 511) h0 (by show _ < (_ : Int); omega) ht rfl rfl (mI_ref ht rfl rfl) (toV_r (by omega)) f_X12_192 p_X12_59 rfl rfl rfl (fun C T N h => by have h1 : some (RX12, TX12, 77) = some (C, T, N) := h; cases h1; rfl) dX12_init_418 ?_
  refine r_aload_n Ra (i := 0) dX12_init_421 rfl rfl ?_
  refine r_bipush Ra dX12_init_422 rfl ?_
  refine i_newa Ra (lo := 512) (hi := 513) (cnt1 := Int.toNat (513)) (c1 := 37) (s1 := 14914) (Or.inl ⟨rfl, rfl⟩) hF (by omega) t512 l512 (by omega) (by omega) (by omega) rfl wa_int (by omega) (by omega) (by show (_ : Nat) ≤ 47; omega) (by show (_ : Nat) ≤ 52164; omega) dX12_init_424 ?_
  refine i_putF Ra (v := 512) h0 (by show _ < (_ : Int); omega) ht rfl rfl (mI_ref ht rfl rfl) (toV_r (by omega)) f_X12_195 p_X12_60 rfl rfl rfl (fun C T N h => by have h1 : some (RX12, TX12, 77) = some (C, T, N) := h; cases h1; rfl) dX12_init_426 ?_
  refine r_aload_n Ra (i := 0) dX12_init_429 rfl rfl ?_
  refine r_bipush Ra dX12_init_430 rfl ?_
  refine i_newa Ra (lo := 513) (hi := 514) (cnt1 := Int.toNat (514)) (c1 := 38) (s1 := 14968) (Or.inl ⟨rfl, rfl⟩) hF (by omega) t513 l513 (by omega) (by omega) (by omega) rfl wa_int (by omega) (by omega) (by show (_ : Nat) ≤ 47; omega) (by show (_ : Nat) ≤ 52164; omega) dX12_init_432 ?_
  refine i_putF Ra (v := 513) h0 (by show _ < (_ : Int); omega) ht rfl rfl (mI_ref ht rfl rfl) (toV_r (by omega)) f_X12_198 p_X12_61 rfl rfl rfl (fun C T N h => by have h1 : some (RX12, TX12, 77) = some (C, T, N) := h; cases h1; rfl) dX12_init_434 ?_
  refine r_aload_n Ra (i := 0) dX12_init_437 rfl rfl ?_
  refine r_iconst Ra dX12_init_438 ?_
  refine i_put Ra (v := -1) h0 (by show _ < (_ : Int); omega) ht rfl rfl (mI_val ht rfl (by decide) (by decide)) rfl f_X12_201 p_X12_62 rfl rfl dX12_init_439 ?_
  refine r_aload_n Ra (i := 0) dX12_init_442 rfl rfl ?_
  refine r_iconst Ra dX12_init_443 ?_
  refine i_put Ra (v := 0) h0 (by show _ < (_ : Int); omega) ht rfl rfl (mI_val ht rfl (by decide) (by decide)) rfl f_X12_204 p_X12_63 rfl rfl dX12_init_444 ?_
  refine r_aload_n Ra (i := 0) dX12_init_447 rfl rfl ?_
  refine r_iconst Ra dX12_init_448 ?_
  refine i_put Ra (v := 0) h0 (by show _ < (_ : Int); omega) ht rfl rfl (mI_val ht rfl (by decide) (by decide)) rfl f_X12_207 p_X12_64 rfl rfl dX12_init_449 ?_
  refine r_aload_n Ra (i := 0) dX12_init_452 rfl rfl ?_
  refine r_iconst Ra dX12_init_453 ?_
  refine i_newa Ra (lo := 514) (hi := 515) (cnt1 := Int.toNat (515)) (c1 := 39) (s1 := 14973) (Or.inl ⟨rfl, rfl⟩) hF (by omega) t514 l514 (by omega) (by omega) (by omega) rfl wa_int (by omega) (by omega) (by show (_ : Nat) ≤ 47; omega) (by show (_ : Nat) ≤ 52164; omega) dX12_init_454 ?_
  refine i_putF Ra (v := 514) h0 (by show _ < (_ : Int); omega) ht rfl rfl (mI_ref ht rfl rfl) (toV_r (by omega)) f_X12_210 p_X12_65 rfl rfl rfl (fun C T N h => by have h1 : some (RX12, TX12, 77) = some (C, T, N) := h; cases h1; rfl) dX12_init_456 ?_
  refine r_aload_n Ra (i := 0) dX12_init_459 rfl rfl ?_
  refine r_iconst Ra dX12_init_460 ?_
  refine i_put Ra (v := 0) h0 (by show _ < (_ : Int); omega) ht rfl rfl (mI_val ht rfl (by decide) (by decide)) rfl f_X12_213 p_X12_66 rfl rfl dX12_init_461 ?_
  refine r_aload_n Ra (i := 0) dX12_init_464 rfl rfl ?_
  refine r_iconst Ra dX12_init_465 ?_
  refine i_newa Ra (lo := 515) (hi := 516) (cnt1 := Int.toNat (516)) (c1 := 40) (s1 := 14978) (Or.inl ⟨rfl, rfl⟩) hF (by omega) t515 l515 (by omega) (by omega) (by omega) rfl wa_int (by omega) (by omega) (by show (_ : Nat) ≤ 47; omega) (by show (_ : Nat) ≤ 52164; omega) dX12_init_466 ?_
  refine i_putF Ra (v := 515) h0 (by show _ < (_ : Int); omega) ht rfl rfl (mI_ref ht rfl rfl) (toV_r (by omega)) f_X12_216 p_X12_67 rfl rfl rfl (fun C T N h => by have h1 : some (RX12, TX12, 77) = some (C, T, N) := h; cases h1; rfl) dX12_init_468 ?_
  refine r_aload_n Ra (i := 0) dX12_init_471 rfl rfl ?_
  refine r_iconst Ra dX12_init_472 ?_
  refine i_put Ra (v := 0) h0 (by show _ < (_ : Int); omega) ht rfl rfl (mI_val ht rfl (by decide) (by decide)) rfl f_X12_219 p_X12_68 rfl rfl dX12_init_473 ?_
  refine r_aload_n Ra (i := 0) dX12_init_476 rfl rfl ?_
  refine r_bipush Ra dX12_init_477 rfl ?_
  refine i_newa Ra (lo := 516) (hi := 517) (cnt1 := Int.toNat (517)) (c1 := 41) (s1 := 14994) (Or.inl ⟨rfl, rfl⟩) hF (by omega) t516 l516 (by omega) (by omega) (by omega) rfl wa_int (by omega) (by omega) (by show (_ : Nat) ≤ 47; omega) (by show (_ : Nat) ≤ 52164; omega) dX12_init_479 ?_
  refine i_putF Ra (v := 516) h0 (by show _ < (_ : Int); omega) ht rfl rfl (mI_ref ht rfl rfl) (toV_r (by omega)) f_X12_222 p_X12_69 rfl rfl rfl (fun C T N h => by have h1 : some (RX12, TX12, 77) = some (C, T, N) := h; cases h1; rfl) dX12_init_481 ?_
  refine r_aload_n Ra (i := 0) dX12_init_484 rfl rfl ?_
  refine r_bipush Ra dX12_init_485 rfl ?_
  refine i_newa Ra (lo := 517) (hi := 518) (cnt1 := Int.toNat (518)) (c1 := 42) (s1 := 15010) (Or.inl ⟨rfl, rfl⟩) hF (by omega) t517 l517 (by omega) (by omega) (by omega) rfl wa_int (by omega) (by omega) (by show (_ : Nat) ≤ 47; omega) (by show (_ : Nat) ≤ 52164; omega) dX12_init_487 ?_
  refine i_putF Ra (v := 517) h0 (by show _ < (_ : Int); omega) ht rfl rfl (mI_ref ht rfl rfl) (toV_r (by omega)) f_X12_225 p_X12_70 rfl rfl rfl (fun C T N h => by have h1 : some (RX12, TX12, 77) = some (C, T, N) := h; cases h1; rfl) dX12_init_489 ?_
  refine r_aload_n Ra (i := 0) dX12_init_492 rfl rfl ?_
  refine r_bipush Ra dX12_init_493 rfl ?_
  refine i_newa Ra (lo := 518) (hi := 519) (cnt1 := Int.toNat (519)) (c1 := 43) (s1 := 15026) (Or.inl ⟨rfl, rfl⟩) hF (by omega) t518 l518 (by omega) (by omega) (by omega) rfl wa_int (by omega) (by omega) (by show (_ : Nat) ≤ 47; omega) (by show (_ : Nat) ≤ 52164; omega) dX12_init_495 ?_
  refine i_putF Ra (v := 518) h0 (by show _ < (_ : Int); omega) ht rfl rfl (mI_ref ht rfl rfl) (toV_r (by omega)) f_X12_228 p_X12_71 rfl rfl rfl (fun C T N h => by have h1 : some (RX12, TX12, 77) = some (C, T, N) := h; cases h1; rfl) dX12_init_497 ?_
  refine r_aload_n Ra (i := 0) dX12_init_500 rfl rfl ?_
  refine r_ldc Ra dX12_init_501 kc_X12_231 ?_
  refine i_newa Ra (lo := 519) (hi := 520) (cnt1 := Int.toNat (520)) (c1 := 44) (s1 := 51890) (Or.inl ⟨rfl, rfl⟩) hF (by omega) t519 l519 (by omega) (by omega) (by omega) rfl wa_int (by omega) (by omega) (by show (_ : Nat) ≤ 47; omega) (by show (_ : Nat) ≤ 52164; omega) dX12_init_503 ?_
  refine i_putF Ra (v := 519) h0 (by show _ < (_ : Int); omega) ht rfl rfl (mI_ref ht rfl rfl) (toV_r (by omega)) f_X12_232 p_X12_72 rfl rfl rfl (fun C T N h => by have h1 : some (RX12, TX12, 77) = some (C, T, N) := h; cases h1; rfl) dX12_init_505 ?_
  refine r_aload_n Ra (i := 0) dX12_init_508 rfl rfl ?_
  refine r_bipush Ra dX12_init_509 rfl ?_
  refine i_newa Ra (lo := 520) (hi := 521) (cnt1 := Int.toNat (521)) (c1 := 45) (s1 := 51954) (Or.inl ⟨rfl, rfl⟩) hF (by omega) t520 l520 (by omega) (by omega) (by omega) rfl wa_int (by omega) (by omega) (by show (_ : Nat) ≤ 47; omega) (by show (_ : Nat) ≤ 52164; omega) dX12_init_511 ?_
  refine i_putF Ra (v := 520) h0 (by show _ < (_ : Int); omega) ht rfl rfl (mI_ref ht rfl rfl) (toV_r (by omega)) f_X12_235 p_X12_73 rfl rfl rfl (fun C T N h => by have h1 : some (RX12, TX12, 77) = some (C, T, N) := h; cases h1; rfl) dX12_init_513 ?_
  refine r_aload_n Ra (i := 0) dX12_init_516 rfl rfl ?_
  refine r_bipush Ra dX12_init_517 rfl ?_
  refine i_newa Ra (lo := 521) (hi := 522) (cnt1 := Int.toNat (522)) (c1 := 46) (s1 := 52054) (Or.inl ⟨rfl, rfl⟩) hF (by omega) t521 l521 (by omega) (by omega) (by omega) rfl wa_int (by omega) (by omega) (by show (_ : Nat) ≤ 47; omega) (by show (_ : Nat) ≤ 52164; omega) dX12_init_519 ?_
  refine i_putF Ra (v := 521) h0 (by show _ < (_ : Int); omega) ht rfl rfl (mI_ref ht rfl rfl) (toV_r (by omega)) f_X12_238 p_X12_74 rfl rfl rfl (fun C T N h => by have h1 : some (RX12, TX12, 77) = some (C, T, N) := h; cases h1; rfl) dX12_init_521 ?_
  refine r_aload_n Ra (i := 0) dX12_init_524 rfl rfl ?_
  refine r_bipush Ra dX12_init_525 rfl ?_
  refine i_newa Ra (lo := 522) (hi := 523) (cnt1 := Int.toNat (523)) (c1 := 47) (s1 := 52164) (Or.inl ⟨rfl, rfl⟩) hF (by omega) t522 l522 (by omega) (by omega) (by omega) rfl wa_int (by omega) (by omega) (by show (_ : Nat) ≤ 47; omega) (by show (_ : Nat) ≤ 52164; omega) dX12_init_527 ?_
  refine i_putF Ra (v := 522) h0 (by show _ < (_ : Int); omega) ht rfl rfl (mI_ref ht rfl rfl) (toV_r (by omega)) f_X12_241 p_X12_75 rfl rfl rfl (fun C T N h => by have h1 : some (RX12, TX12, 77) = some (C, T, N) := h; cases h1; rfl) dX12_init_529 ?_
  refine r_aload_n Ra (i := 0) dX12_init_532 rfl rfl ?_
  refine r_iconst Ra dX12_init_533 ?_
  refine i_put Ra (v := 0) h0 (by show _ < (_ : Int); omega) ht rfl rfl (mI_val ht rfl (by decide) (by decide)) rfl f_X12_244 p_X12_76 rfl rfl dX12_init_534 ?_
  refine r_iconst Ra dX12_init_537 ?_
  refine r_istore_n Ra (i := 1) dX12_init_538 rfl (by decide) ?_
  have loop : ∀ (n : Nat) (i : Int) (L : Lo), L 0 = some (vA en 475) → L 1 = some (vI i) → 0 ≤ i → i + n = 6 → K (Int.toNat 523, 47, 52164) 539 L [] (pa μ 475 523 [76, 75, 74, 73, 72, 71, 70, 69, 68, 67, 66, 65, 64, 63, 62, 61, 60, 59, 58, 57, 56, 55, 54, 53, 52, 51, 50, 49, 48, 47, 46, 45, 44, 43, 42, 41, 40, 39, 38, 37, 36, 35, 34, 33, 32, 31, 30, 29, 28, 27, 26, 25, 24, 23, 22, 21, 20, 19, 18, 17, 16, 15, 14, 13, 12, 11, 10, 9, 8, 7, 6, 5, 4, 3, 2, 1, 0] 486 i) := by
    intro n
    induction n with
    | zero =>
      intro i L hL0 hLi h1 h2
      obtain rfl : i = 6 := by omega
      refine r_iload_n Ra (i := 1) dX12_init_539 rfl hLi ?_
      refine r_bipush Ra dX12_init_540 rfl ?_
      refine r_icmp_ge Ra 558 dX12_init_542 ⟨by omega, by omega⟩ ⟨by omega, by omega⟩ rfl (fun _ => ?_) (fun h => absurd h (by omega))
      exact i_ret Ra ht rfl rfl (by omega) (by decide +kernel) (fun _ _ => ⟨by rw [t486]; decide, by rw [l486]; decide⟩) dX12_init_558
    | succ n ih =>
      intro i L hL0 hLi h1 h2
      refine r_iload_n Ra (i := 1) dX12_init_539 rfl hLi ?_
      refine r_bipush Ra dX12_init_540 rfl ?_
      refine r_icmp_ge Ra 558 dX12_init_542 ⟨by omega, by omega⟩ ⟨by omega, by omega⟩ rfl (fun h => absurd h (by omega)) (fun _ => ?_)
      refine r_aload_n Ra (i := 0) (x := 475) dX12_init_545 rfl hL0 ?_
      refine i_getA Ra (b := 486) t475 rfl rfl rfl (by unfold pa; rw [if_pos rfl, if_pos (by decide)]; exact mI_ref t475 rfl rfl) (by decide) f_X12_81 (by decide) dX12_init_546 ?_
      refine r_iload_n Ra (i := 1) dX12_init_549 rfl hLi ?_
      refine r_iconst Ra dX12_init_550 ?_
      refine r_iast Ra (pa_ast (q1 := i + 1) (v := -1) ⟨by decide, by decide⟩ (by omega) rfl (mI_sum ⟨by omega, by omega⟩)) (Nat.lt_irrefl _) ⟨by decide, by decide⟩ t486 ⟨by omega, by rw [l486]; omega⟩ dX12_init_551 ?_
      refine r_iinc Ra dX12_init_552 hLi ?_
      refine r_goto Ra 539 dX12_init_555 rfl ?_
      rw [w32_id (x := i + 1) ⟨by omega, by omega⟩]
      exact ih (i + 1) _ hL0 rfl (by omega) (by omega)
  exact loop 6 0 _ rfl rfl (by decide) (by decide)
