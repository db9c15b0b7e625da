theorem st_inst : ∀ (k : Nat) (q : vw_C), vwCl[k]? = some q → (∀ x ∈ u_ws q.1 q.2.1 q.2.2, x ∈ GW) ∧ ∃ n : Nat, Cond.instantiable q.1 n ∈ GW := fun k q hq => by
  match k, hq with
  | 0, hq => cases hq; exact ⟨u_X0, 3, gw 1 239 (by decide +kernel)⟩
  | 1, hq => cases hq; exact ⟨u_X1, 7, gw 2 168 (by decide +kernel)⟩
  | 2, hq => cases hq; exact ⟨u_X2, 2, gw 3 19 (by decide +kernel)⟩
  | 3, hq => cases hq; exact ⟨u_X3, 15, gw 1 30 (by decide +kernel)⟩
  | 4, hq => cases hq; exact ⟨u_X4, 11, gw 1 140 (by decide +kernel)⟩
  | 5, hq => cases hq; exact ⟨u_X5, 8, gw 1 185 (by decide +kernel)⟩
  | 6, hq => cases hq; exact ⟨u_X6, 3, gw 1 36 (by decide +kernel)⟩
  | 7, hq => cases hq; exact ⟨u_X7, 15, gw 2 68 (by decide +kernel)⟩
  | 8, hq => cases hq; exact ⟨u_X8, 10, gw 2 19 (by decide +kernel)⟩
  | 9, hq => cases hq; exact ⟨u_X9, 13, gw 2 204 (by decide +kernel)⟩
  | 10, hq => cases hq; exact ⟨u_X10, 7, gw 2 135 (by decide +kernel)⟩
  | 11, hq => cases hq; exact ⟨u_X11, 15, gw 1 22 (by decide +kernel)⟩
  | 12, hq => cases hq; exact ⟨u_X12, 77, gw 6 58 (by decide +kernel)⟩
  | k + 13, hq => exact absurd hq (by simp [vwCl])
theorem st_ao1 : Cond.arrayOver (.object "DewWages$State") ∈ lw_tbl := chk_in 2 _ (List.mem_of_getElem? (i := 5) (by decide +kernel))
theorem st_ao2 : Cond.arrayOver (.object "DewWages$Walk") ∈ lw_tbl := chk_in 2 _ (List.mem_of_getElem? (i := 141) (by decide +kernel))
theorem st_ao3 : Cond.arrayOver (.array .int) ∈ lw_tbl := chk_in 2 _ (List.mem_of_getElem? (i := 74) (by decide +kernel))
theorem st_arr {A : Array Value} {s : State} {ty : FieldType} (ht : ∀ C, ty ≠ .object C) (h : (Cond.arrayClass ty).before A s = true) : ∃ c : ClassId, ArrOfT s c ty ∧ va_RA s c ty := by
  obtain ⟨c, k, comp, h1, h2, h3⟩ := Cond.arrayClass_spec h
  refine ⟨c, fun n z => ⟨(fun q h => by cases h), k, h2, comp, h3⟩, ?_⟩
  cases ty with
  | object C => exact absurd rfl (ht C)
  | _ => exact h1
theorem st_arrI {A : Array Value} {s : State} (h : (Cond.arrayOver (.array .int)).before A s = true) : ∃ c : ClassId, ArrOfT s c (.array .int) ∧ va_RA s c (.array .int) := by
  obtain ⟨comp, c, k, h1, h2, h3, h4, h5⟩ := arrayOverA_spec h
  exact ⟨c, fun n z => ⟨(fun q h => by cases h), k, h3, comp, h4⟩, h5⟩
theorem st_arrO {A : Array Value} {s : State} {C : String} (h : (Cond.arrayOver (.object C)).before A s = true) : ∃ c : ClassId, ArrOfT s c (.object C) ∧ va_RA s c (.object C) := by
  obtain ⟨comp, c, k, h1, h2, h3, h4, h5⟩ := Cond.arrayOver_spec h
  exact ⟨c, fun n z => ⟨(fun q h => by cases h), k, h3, comp, h4⟩, k, comp, h3, h4, h1, h5⟩
def stT (i : Nat) : Term := .string "DewWages$Reader" (if i = 0 then 253 else 245)
theorem tx_bytes (i j : Nat) (hi : i < 2) (hj : j < txLen.getD i 0) : Cond.eq (.elem (.field (stT i) "java/lang/String" "value" "[B") (.int (Int32.ofNat j))) (.int ((txByt.getD i []).getD j 0)) ∈ flatC (Jvm.Cond.and given_1 narrow_1) := by
  have h0 : ∀ j, j < 109 → Cond.eq (.elem (.field (stT 0) "java/lang/String" "value" "[B") (.int (Int32.ofNat j))) (.int ((txByt.getD 0 []).getD j 0)) ∈ flatC (Jvm.Cond.and given_1 narrow_1) := by decide +kernel
  have h1 : ∀ j, j < 14 → Cond.eq (.elem (.field (stT 1) "java/lang/String" "value" "[B") (.int (Int32.ofNat j))) (.int ((txByt.getD 1 []).getD j 0)) ∈ flatC (Jvm.Cond.and given_1 narrow_1) := by decide +kernel
  rcases (show i = 0 ∨ i = 1 by omega) with rfl | rfl
  · exact h0 j hj
  · exact h1 j hj
theorem st_tb {s : State} {b : Nat} (hts : ∀ w ∈ lw_tbl, w.before #[Value.ref b] s = true) (hgv : (Jvm.Cond.and given_1 narrow_1).before #[Value.ref b] s = true) : ∃ en : En, en.2.2.1 = s.heap.size ∧ TB en s := by
  have hg := flat_of_before _ hgv
  have hG : ∀ w ∈ GW, w.before #[Value.ref b] s = true := fun w hw => hts w (List.mem_filter.mp hw).1
  have hcl : ∀ k : Nat, ∃ p : ClassId × (Nat → Nat), ∀ q, vwCl[k]? = some q → u_Kn s q.1 q.2.1 q.2.2 p.1 p.2 := by
    intro k
    cases hk : vwCl[k]? with
    | none => exact ⟨(0, fun _ => 0), fun q h => by cases h⟩
    | some q =>
      obtain ⟨h1, n, h2⟩ := st_inst k q hk
      obtain ⟨c, iS, h3⟩ := u_known (C := q.1) (T := q.2.1) (N := q.2.2) hG h1 (hG _ h2)
      exact ⟨(c, iS), fun q' h => by cases h; exact h3⟩
  obtain ⟨f, hf⟩ := Classical.axiomOfChoice hcl
  obtain ⟨a0, ha0⟩ := st_arr (ty := .int) (fun C h => by cases h) (hG _ wa_int)
  obtain ⟨a1, ha1⟩ := st_arr (ty := .boolean) (fun C h => by cases h) (hG _ wa_boolean)
  obtain ⟨a2, ha2⟩ := st_arr (ty := .long) (fun C h => by cases h) (hG _ wa_long)
  obtain ⟨a3, ha3⟩ := st_arrI (hts _ st_ao3)
  obtain ⟨a4, ha4⟩ := st_arrO (hts _ st_ao1)
  obtain ⟨a5, ha5⟩ := st_arrO (hts _ st_ao2)
  have hA : ∀ a : Nat, a < s.heap.size → ¬ (fun q => s.heap.size ≤ q) a := fun a h => Nat.not_le.mpr h
  obtain ⟨adK, adV, hS, hev⟩ := vk_Sof (args := #[Value.ref b]) (s := s) (N := 2) (tm := stT) (len := txLen) (byt := txByt) (A := fun q => s.heap.size ≤ q)
    (fun i _ => by have := tx_small (s := i); omega)
    (fun i hi => by rcases (show i = 0 ∨ i = 1 by omega) with rfl | rfl <;> exact hg _ (by decide +kernel))
    (fun i hi => by rcases (show i = 0 ∨ i = 1 by omega) with rfl | rfl <;> exact hg _ (by decide +kernel))
    (fun i hi => by rcases (show i = 0 ∨ i = 1 by omega) with rfl | rfl <;> exact hg _ (by decide +kernel))
    (fun i hi => by rcases (show i = 0 ∨ i = 1 by omega) with rfl | rfl <;> exact hg _ (by decide +kernel))
    (fun i hi j hj => hg _ (tx_bytes i j hi hj))
    (fun i j hi hj hij => by
      rcases (show (i = 0 ∧ j = 1) ∨ (i = 1 ∧ j = 0) by omega) with ⟨rfl, rfl⟩ | ⟨rfl, rfl⟩
      · exact Or.inl (hg _ (by decide +kernel))
      · exact Or.inr (hg _ (by decide +kernel))) hA
  refine ⟨((fun k => (f k).1, fun k => (f k).2), (fun k => match k with | 0 => a0 | 1 => a1 | 2 => a2 | 3 => a3 | 4 => a4 | _ => a5), s.heap.size, adK, adV), rfl, ⟨fun k q hq => hf k q hq, fun k q hq => ?_⟩, fun w hw hn => va_Nw.of (nest_onTables hn) (hts w hw), ⟨va_AO.of (hts _ st_ao1), va_AO.of (hts _ st_ao2), hts _ st_ao3⟩, ?_, ?_, hS, ?_, ?_⟩
  · match k, hq with
    | 0, hq => cases hq; exact ha0
    | 1, hq => cases hq; exact ha1
    | 2, hq => cases hq; exact ha2
    | 3, hq => cases hq; exact ha3
    | 4, hq => cases hq; exact ha4
    | 5, hq => cases hq; exact ha5
    | k + 6, hq => exact absurd hq (by simp [eT])
  · exact vk_R.of (hts _ (chk_in 3 _ (List.mem_of_getElem? (i := 143) (by decide +kernel)))) (hev 0 (by decide))
  · exact vk_R.of (hts _ (chk_in 3 _ (List.mem_of_getElem? (i := 192) (by decide +kernel)))) (hev 1 (by decide))
  · exact va_Zof (hts _ (chk_in 3 _ (List.mem_of_getElem? (i := 153) (by decide +kernel)))) (hts _ (chk_in 1 _ (List.mem_of_getElem? (i := 15) (by decide +kernel)))) (va_eqt (hg _ (by decide +kernel))) hA
  · exact va_Zqof (hts _ (chk_in 3 _ (List.mem_of_getElem? (i := 169) (by decide +kernel)))) (hts _ (chk_in 1 _ (List.mem_of_getElem? (i := 17) (by decide +kernel)))) (hg _ (by decide +kernel)) hA
