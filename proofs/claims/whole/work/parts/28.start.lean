theorem st_inst : ∀ (k : Nat) (q : vw_C), vwCl[k]? = some q → (∀ x ∈ u_ws q.1 q.2.1 q.2.2, x ∈ GW) ∧ ∃ n : Nat, Cond.instantiable q.1 n ∈ GW := fun k q hq => by
  match k, hq with
  | 0, hq => cases hq; exact ⟨u_X0, 3, gw 1 239 (by decide +kernel)⟩
  | 1, hq => cases hq; exact ⟨u_X1, 7, gw 2 168 (by decide +kernel)⟩
  | 2, hq => cases hq; exact ⟨u_X2, 2, gw 3 19 (by decide +kernel)⟩
  | 3, hq => cases hq; exact ⟨u_X3, 15, gw 1 30 (by decide +kernel)⟩
  | 4, hq => cases hq; exact ⟨u_X4, 11, gw 1 140 (by decide +kernel)⟩
  | 5, hq => cases hq; exact ⟨u_X5, 8, gw 1 185 (by decide +kernel)⟩
  | 6, hq => cases hq; exact ⟨u_X6, 3, gw 1 36 (by decide +kernel)⟩
  | 7, hq => cases hq; exact ⟨u_X7, 15, gw 2 68 (by decide +kernel)⟩
  | 8, hq => cases hq; exact ⟨u_X8, 10, gw 2 19 (by decide +kernel)⟩
  | 9, hq => cases hq; exact ⟨u_X9, 13, gw 2 204 (by decide +kernel)⟩
  | 10, hq => cases hq; exact ⟨u_X10, 7, gw 2 135 (by decide +kernel)⟩
  | 11, hq => cases hq; exact ⟨u_X11, 15, gw 1 22 (by decide +kernel)⟩
  | 12, hq => cases hq; exact ⟨u_X12, 77, gw 6 54 (by decide +kernel)⟩
  | k + 13, hq => exact absurd hq (by simp [vwCl])
theorem st_ao1 : Cond.arrayOver (.object "DewWages$State") ∈ lw_tbl := chk_in 2 _ (List.mem_of_getElem? (i := 5) (by decide +kernel))
theorem st_ao2 : Cond.arrayOver (.object "DewWages$Walk") ∈ lw_tbl := chk_in 2 _ (List.mem_of_getElem? (i := 141) (by decide +kernel))
theorem st_ao3 : Cond.arrayOver (.array .int) ∈ lw_tbl := chk_in 2 _ (List.mem_of_getElem? (i := 74) (by decide +kernel))
theorem st_arr {A : Array Value} {s : State} {ty : FieldType} (ht : ∀ C, ty ≠ .object C) (h : (Cond.arrayClass ty).before A s = true) : ∃ c : ClassId, ArrOfT s c ty ∧ va_RA s c ty := by
  obtain ⟨c, k, comp, h1, h2, h3⟩ := Cond.arrayClass_spec h
  refine ⟨c, fun n z => ⟨(fun q h => by cases h), k, h2, comp, h3⟩, ?_⟩
  cases ty with
  | object C => exact absurd rfl (ht C)
  | _ => exact h1
theorem st_arrI {A : Array Value} {s : State} (h : (Cond.arrayOver (.array .int)).before A s = true) : ∃ c : ClassId, ArrOfT s c (.array .int) ∧ va_RA s c (.array .int) := by
  obtain ⟨comp, c, k, h1, h2, h3, h4, h5⟩ := arrayOverA_spec h
  exact ⟨c, fun n z => ⟨(fun q h => by cases h), k, h3, comp, h4⟩, h5⟩
theorem st_arrO {A : Array Value} {s : State} {C : String} (h : (Cond.arrayOver (.object C)).before A s = true) : ∃ c : ClassId, ArrOfT s c (.object C) ∧ va_RA s c (.object C) := by
  obtain ⟨comp, c, k, h1, h2, h3, h4, h5⟩ := Cond.arrayOver_spec h
  exact ⟨c, fun n z => ⟨(fun q h => by cases h), k, h3, comp, h4⟩, k, comp, h3, h4, h1, h5⟩
def stT (i : Nat) : Term := .string "DewWages$Reader" (if i = 0 then 253 else 245)
