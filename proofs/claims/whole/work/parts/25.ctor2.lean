theorem grid_486 {a n : Int} (h : ty a = 23) (hl : ln a = n) (h1 : a < 486) (h2 : a + n ≥ 486) : False := by
  have h3 := ty_mem (l := [202, 212, 222, 304, 346, 398]) (by decide +kernel) (by decide) h
  have h4 : ∀ m ∈ ([202, 212, 222, 304, 346, 398] : List Nat), ¬ ((m : Int) < 486 ∧ (m : Int) + ln (m : Int) ≥ 486) := by decide +kernel
  have h5 := h4 _ h3.1
  rw [Int.toNat_of_nonneg h3.2, hl] at h5
  exact h5 ⟨h1, h2⟩
theorem vr_outer (c : ClassId) (N h0 : Nat) : ∀ i : Nat, Jvm.Free.Multi.outerC c N h0 i = arrV c N (fun j => va_rf (if j < i then some (h0 + 1 + j) else none))
  | 0 => by
    show ({ cls := c, slots := Array.replicate N .null, vm := .none } : Cell) = _
    rw [arrV_new]
    refine congrArg (arrV c N) (funext fun j => ?_)
    simp [va_rf]
  | i + 1 => by
    show (Jvm.Free.Multi.outerC c N h0 i).setSlot i (.ref (h0 + 1 + i)) = _
    rw [vr_outer c N h0 i, arrV_store]
    refine congrArg (arrV c N) (funext fun j => ?_)
    by_cases e : j = i
    · subst e
      simp [updV, va_rf]
    · by_cases h : j < i
      · simp [updV, e, h, Nat.lt_succ_of_lt h]
      · simp [updV, e, h, show ¬ j < i + 1 by omega]
section CT2
variable {ini : Bool} {res : Option Rs} {l : Launch} {en : En} {cc : ByteArray} {own : String} {nL : Nat} {R : Room} {K : KT} {z : Zt} {pc cnt c s : Nat} {L : Lo} {st stk : List Value} {μ μ1 : Mem}
theorem r_mna (Ra : Ru ini res l en cc own nL R K) {n k a : Int} {i : Nat} (ha : 0 ≤ a ∧ a + n < nCells) (hcnt : cnt = a.toNat) (ht : ty a = 23) (hln : ln a = n) (hin : ∀ j, 0 ≤ j → j < n → ty (a + 1 + j) = 20 ∧ ln (a + 1 + j) = k) (hk0 : 0 ≤ k ∧ k < 65536) (hμ : Fresh μ a) (hw1 : Cond.classLink own i "[[I" ∈ GW) (hw2 : Cond.arrayClass .int ∈ GW) (hc : c + (1 + n.toNat) ≤ R.cells) (hs : s + (n.toNat + n.toNat * k.toNat) ≤ R.slots) (hμ1 : μ1 = fill μ a (a + 1 + n)) (hd : decode cc pc = .ok (.multianewarray i 2, 4)) (kk : K ((a + 1 + n).toNat, c + 1 + n.toNat, s + n.toNat + n.toNat * k.toNat) (pc + 4) L (vA en a :: st) μ1) : K (cnt, c, s) pc L (vI k :: vI n :: st) μ := by
  obtain ⟨p, e, s9, m, args, below, meth, c9, Q, hx, hb, hml, hown, hts, hTB, hA, hni, hres, rfl⟩ := Ra
  intro H locs ls hP hS hl
  subst hcnt
  have hb9 := ln_ok a
  rw [hln] at hb9
  have hsz := hP.2 (show a.toNat < nCells by omega)
  have hN := idx_eq hb9.1 hb9.2
  have hK := idx_eq hk0.1 hk0.2
  have neg : ∀ x : Int, 0 ≤ x → x < 65536 → ¬ Int32.ofInt x < 0 := fun x g1 g2 q => by
    have := (lt32 (x := x) (y := 0) ⟨by omega, by omega⟩ ⟨by decide, by decide⟩).mp q
    omega
  intro T hT Xs
  obtain ⟨vm₁, cA, comp, -, fA, fC, -, -, X', step⟩ := Xs.multianewarray2F hx (own := own) (index := i) (ty := .int) hown (hts _ hw1) (show (Cond.arrayOver (.array .int)).before args s9 = true from hTB.2.2.1.2.2) (hts _ hw2) (g := F0 m pc ls (vI k :: vI n :: st)) rfl (by rw [hb]; exact hd) rfl (neg n hb9.1 hb9.2) (neg k hk0.1 hk0.2) (by rw [hN]; omega) (by rw [hK]; show k.toNat * 4 ≤ _; omega) (by rw [hK]; omega) rfl rfl (by rw [hN]; exact hc) (by rw [hN, hK]; exact hs)
  have hcy : comp = en.2.1 0 := Option.some.inj (fC.symm.trans (hTB.1.2 0 _ rfl).2)
  have hcA : cA = en.2.1 3 := Option.some.inj (fA.symm.trans (hTB.1.2 3 _ rfl).2)
  subst hcy
  subst hcA
  rw [hN, hK] at X' step
  generalize hF : Jvm.Free.Multi.fill (T.setVm vm₁) (en.2.1 3) (en.2.1 0) n.toNat k.toNat (defaultValue .int) n.toNat = F at X' step
  have hTh : (T.setVm vm₁).heap = H := hT
  obtain ⟨f1, f2, -, -⟩ := Jvm.Free.Multi.fill_facts (T.setVm vm₁) (en.2.1 3) (en.2.1 0) n.toNat k.toNat (defaultValue .int) n.toNat
  rw [hF, hTh] at f1 f2
  have hold : ∀ x : Nat, x < H.size → F.heap[x]? = H[x]? := fun x hx9 => by
    have := Jvm.Free.Multi.fill_old (T.setVm vm₁) (en.2.1 3) (en.2.1 0) n.toNat k.toNat (defaultValue .int) (a := x) (by rw [hTh]; exact hx9) n.toNat
    rw [hF, hTh] at this
    exact this
  have hrow : ∀ j : Nat, j < n.toNat → F.heap[H.size + 1 + j]? = some (arrV (en.2.1 0) k.toNat (fun _ => defaultValue .int)) := fun j hj => by
    have := Jvm.Free.Multi.fill_inner (T.setVm vm₁) (en.2.1 3) (en.2.1 0) n.toNat k.toNat (defaultValue .int) n.toNat j hj
    rw [hF, hTh] at this
    rw [this]
    exact congrArg some (arrV_new _ _ _)
  rw [vr_outer] at f2
  have hW : Wd en (a + 1 + n).toNat μ1 F.heap := by
    refine ⟨fun q x hq => ?_, fun _ => by rw [f1, hsz]; omega⟩
    unfold pl at hq
    rw [List.getElem?_map] at hq
    by_cases h9 : q < (a + 1 + n).toNat
    · rw [List.getElem?_range h9] at hq
      cases hq
      show va_at en.1 vwCl (en.2.2.1 + q, cellOf en (ty (q : Int)) (ln (q : Int)) (μ1 (q : Int))) F.heap
      by_cases h1 : q < a.toNat
      · have h2 := hP.1 q _ (by unfold pl; rw [List.getElem?_map, List.getElem?_range h1]; rfl)
        have h3 : μ1 (q : Int) = μ (q : Int) := by
          funext j
          rw [hμ1]
          unfold fill
          rw [if_neg (by omega)]
        rw [h3]
        exact h2.kept (hold _ h2.lt)
      · by_cases h2 : q = a.toNat
        · have e1 : ((q : Nat) : Int) = a := by omega
          rw [e1, ht, hln]
          show F.heap[_]? = some _
          rw [show en.2.2.1 + q = H.size by omega, f2]
          refine congrArg some (arrV_congr (g := fun j : Nat => va_rf (toR en.2.2.1 (μ1 a j))) (fun j hj => ?_))
          rw [hμ1]
          unfold fill
          rw [if_pos hj, if_pos (show a ≤ a ∧ a < a + 1 + n by omega)]
          unfold mI
          rw [ht, if_pos (kd23 _)]
          show va_rf _ = va_rf (toR _ (a + 1 + (j : Int)))
          unfold toR
          rw [if_neg (by omega)]
          rw [show H.size + 1 + j = en.2.2.1 + (a + 1 + (j : Int)).toNat by omega]
        · have h3 := hin ((q : Int) - a - 1) (by omega) (by omega)
          have e1 : a + 1 + ((q : Int) - a - 1) = q := by omega
          rw [e1] at h3
          rw [h3.1, h3.2]
          show F.heap[_]? = some _
          have h4 := hrow (q - a.toNat - 1) (by omega)
          rw [show H.size + 1 + (q - a.toNat - 1) = en.2.2.1 + q by omega] at h4
          rw [h4]
          refine congrArg some (arrV_congr (g := fun j : Nat => Value.int (Int32.ofInt (μ1 q j))) (fun j hj => ?_))
          rw [hμ1]
          unfold fill
          rw [if_pos (by omega)]
          unfold mI
          rw [h3.1, if_neg (by rw [kd20]; decide)]
          have : i0 (q : Int) 20 (j : Int) = 0 := by
            unfold i0
            rw [if_neg (by omega), if_neg (by omega), if_neg (by omega), if_neg (by omega), if_neg (by omega), if_neg (by omega), if_neg (by omega), if_neg]
            intro h
            have h5 := h3.2
            rw [h.1] at h5
            have h6 : (q : Int) = 486 := h.1
            have h7 := hin 0 (by omega) (by omega)
            have h8 : ty 486 = 20 := t486
            have h10 : ty a = 23 := ht
            have h11 : a < 486 := by omega
            have h12 : a + n ≥ 486 := by omega
            exact absurd (grid_486 ht hln h11 h12) (fun h => h)
          rw [this]
          rfl
    · rw [List.getElem?_eq_none (by simp; omega)] at hq
      cases hq
  obtain ⟨t, a1, b1⟩ := kk F.heap locs ls hW (hS.grow (by rw [f1]; omega) hold) hl F rfl (by
    have e1 : c + (1 + n.toNat) = c + 1 + n.toNat := by omega
    have e2 : s + (n.toNat + n.toNat * k.toNat) = s + n.toNat + n.toNat * k.toNat := by omega
    first | exact X' | (rw [e1, e2] at X'; exact X'))
  refine ⟨t, step t ?_, b1⟩
  have e : T.heap.size = en.2.2.1 + a.toNat := by rw [hT]; exact hsz
  rw [e]
  exact a1
end CT2
