/-! THE CLAIM OUT OF ONE WALK OF THE LAW'S BODY. Your part is whole_start (and what it stands on); all else here is the same for every law, but numbers. -/
def R_law : String := "DewWagesLaw"
def lw_P (b : Addr) (xs : List Int32) (args : Array Value) (s : State) : Prop := args = #[.ref b] ∧ s.IntsAt b xs ∧ xs.length ≤ 3072 ∧ (Jvm.Cond.and given_1 narrow_1).before args s = true
def lw_Q (_ : Array Value) (s : State) (o : Outcome) (t : State) : Prop := o = .returned (some (.int 1)) ∧ Framed s o t [] 600000 7302250
def lw_Z (below : List Frame) (a : Array Value) (s : State) : State → Prop := fun t => ∃ o, t.status = .running ∧ Ended t below o ∧ lw_Q a s o t
/-- the law's own end, with 1 on the stack, nothing written that was there before, its room as the claim has it -/
theorem lw_ret {p : Program} {l : Launch} {e : Env} {s : State} {m : MethodId} {below : List Frame} {meth : Method} {c : Code} {b : Nat} (hx : p.tables.exec = Jvm.exec) (hb : c.code = code) (hr : meth.sig.returnType = ret) (hlocks : meth.locks = false) {pc : Nat} {H : Heap} {ls : Array Slot} (hdg : decode code pc = .ok (.ireturn, 1)) : W p l e room_1 s m #[Value.ref b] below meth c H [] 600000 7302250 (lw_Z below #[Value.ref b] s) (F0 m pc ls [.int 1]) := by
  intro T hT X
  obtain ⟨fs, hret, hrun, hended, hW, hframe⟩ := X.leave (v := some (.int 1)) (hlocks := hlocks) (fun h => by rw [hr] at h; cases h)
  have hmeth' : T.vm.method? m = some meth := X.method'
  refine ⟨T.setFrames fs, ?_, .returned (some (.int 1)), hrun, hended, rfl, ⟨_, rfl⟩, hW, hframe⟩
  jvm_step X.here [X.here.top, hx, hb, hdg, hmeth', hr, ret, narrow_b1]
  (try refine ⟨rfl, ?_⟩); (try refine ⟨rfl, ?_⟩)
  first | (intro acts; rw [hret _ acts rfl rfl rfl]) | rw [hret _ _ rfl rfl rfl]
  exact Steps.refl _
/-- what holds at the law's entry: the machine, the code, the tables' words (any of lw_tbl by 'hts w (by decide +kernel)'), the script of L ints xs at the cell b, what the Statement gives of the start (any of its parts by flat_of_before) -/
def lw_At (p : Program) (s : State) (m : MethodId) (meth : Method) (c : Code) (b L : Nat) (xs : Nat → Int32) : Prop :=
  p.tables.exec = Jvm.exec ∧ c.code = code ∧ meth.sig.returnType = ret ∧ c.maxLocals = 4 ∧ s.vm.findClass R_law = some m.cls ∧ (∀ w ∈ lw_tbl, w.before #[Value.ref b] s = true) ∧ va_X b L xs s s.heap ∧ b < s.heap.size ∧ meth.locks = false ∧ (Jvm.Cond.and given_1 narrow_1).before #[Value.ref b] s = true
theorem whole_start_of {Inv : Mem → Prop} {N : Nat} (hO : okAll Inv N) (hI : Inv mI) {p : Program} {e : Env} {s : State} {m : MethodId} {below : List Frame} {meth : Method} {c : Code} (l : Launch) {b L : Nat} {xs : Nat → Int32} (hL : L ≤ 3072) (C0 : lw_At p s m meth c b L xs) : W p l e room_1 s m #[Value.ref b] below meth c s.heap [] 0 0 (lw_Z below #[Value.ref b] s) (entryFrame m ([Value.ref b] : List Value).toArray 4) := by
  obtain ⟨hx, hb, hr, hml, hown, hts, hX, hbl, hlocks, hgv⟩ := id C0
  obtain ⟨en, hen, hTB⟩ := st_tb hts hgv
  have hA : ∀ q : Nat, s.heap.size ≤ q → eA en q := fun q h => by show en.2.2.1 ≤ q; omega
  have hbA : ¬ eA en b := by show ¬ en.2.2.1 ≤ b; omega
  have Ra : Ru false none l en code RL 4 room_1 (KW p l e room_1 s m #[Value.ref b] below meth c (lw_Z below #[Value.ref b] s) en 4) := ⟨p, e, s, m, #[Value.ref b], below, meth, c, _, hx, hb, hml, hown, fun w hw => hts w (List.mem_filter.mp hw).1, hTB, hA, (fun h => by cases h), (fun ρ h => by cases h), rfl⟩
  have hK : LawK b L xs (KW p l e room_1 s m #[Value.ref b] below meth c (lw_Z below #[Value.ref b] s) en 4) := by
    refine ⟨?_, ?_, ?_, ?_⟩
    · intro z pc L' st μ i d h0 h1 kk H locs ls hP hS hl
      refine va_sld hx hb hX hbl hbA hS (idx_in (n := (L : Int)) ⟨h0, h1⟩ (by omega)) d ?_
      rw [idx_eq h0 (by omega)]
      have h := kk H locs ls hP hS hl
      rw [show vI (xs i.toNat).toInt = Value.int (xs i.toNat) from congrArg Value.int (of32 _)] at h
      exact h
    · intro z pc L' st μ d kk H locs ls hP hS hl
      refine va_slen hx hb hX hbl hbA hS d ?_
      have h := kk H locs ls hP hS hl
      rw [show vI (L : Int) = Value.int (Int32.ofNat L) from congrArg Value.int Int32.ofInt_eq_ofNat] at h
      exact h
    · intro z pc L' st μ d h0 kk H locs ls hP hS hl
      exact lv_aload_n (i := 0) hx hb d rfl (hl.2.2 _ _ ⟨h0, (fun q => by cases q), (fun q => by simp [Value.category] at q)⟩) (kk H locs ls hP hS hl)
    · intro L' μ H locs ls hP hS hl
      refine va_forget (fun q hq => by have h : en.2.2.1 ≤ q.base := hS.2.2 q hq; omega) ?_
      refine W.widen (k := 600000) (n := 7302250) (by show (523 : Nat) ≤ _; omega) (by show (116114 : Nat) ≤ _; omega) ?_
      exact lw_ret hx hb hr hlocks dL_law_1099
  have h : KW p l e room_1 s m #[Value.ref b] below meth c (lw_Z below #[Value.ref b] s) en 4 (0, 0, 0) 0 (lo0 [Value.ref b]) [] m0 := by
    refine r_new Ra (i := 7) (t := 12) (a := 0) ⟨by decide, by decide⟩ rfl t0 rfl nw_L_7 (fun j => by show dfl (ty 0) j = _; rw [t0]) (Nat.le_of_ble_eq_true rfl) (Nat.le_of_ble_eq_true rfl) dL_law_0 ?_
    refine r_dupA Ra dL_law_3 ?_
    refine r_callI Ra (z := (1, 1, 15)) (ci_X11_init (μ := m0) (a := 0) (hi := 475) rfl (by decide) fresh0) mw_X11_init rfl mn_X11_init rfl rfl rfl k_L_9 ⟨rfl, rfl, Nat.le_of_ble_eq_true rfl, Nat.le_of_ble_eq_true rfl⟩ ⟨Nat.le_of_ble_eq_true rfl, Nat.le_of_ble_eq_true rfl⟩ (Nat.le_of_ble_eq_true rfl) dL_law_4 (fun _ => ?_)
    show KW p l e room_1 s m #[Value.ref b] below meth c (lw_Z below #[Value.ref b] s) en 4 (475, 475, 63873) 7 _ [vA en 0] (fill m0 0 475)
    refine r_astore_n Ra (i := 1) dL_law_7 rfl (by decide) ?_
    have hF : Fresh (fill m0 0 475) 475 := fresh_fill (fresh0.mono (by decide)) (by decide)
    have hj : ∀ j, fill m0 0 475 475 j = dfl 13 j := fun j => (hF 475 j (by decide)).trans (by rw [t475])
    refine r_new Ra (c := 475) (s := 63873) (i := 10) (t := 13) (a := 475) ⟨by decide, by decide⟩ rfl t475 rfl nw_L_10 hj (Nat.le_of_ble_eq_true rfl) (Nat.le_of_ble_eq_true rfl) dL_law_8 ?_
    refine r_dupA Ra dL_law_11 ?_
    refine r_callI Ra (z := (476, 476, 63950)) (ci_X12_init (a := 475) (hi := 523) rfl (by decide) hF) mw_X12_init rfl mn_X12_init rfl rfl rfl k_L_12 ⟨rfl, rfl, Nat.le_of_ble_eq_true rfl, Nat.le_of_ble_eq_true rfl⟩ ⟨Nat.le_of_ble_eq_true rfl, Nat.le_of_ble_eq_true rfl⟩ (Nat.le_of_ble_eq_true rfl) dL_law_12 (fun _ => ?_)
    show KW p l e room_1 s m #[Value.ref b] below meth c (lw_Z below #[Value.ref b] s) en 4 (523, 523, 116114) 15 _ [vA en 475] (fill (fill m0 0 475) 475 523)
    refine r_astore_n Ra (i := 2) dL_law_15 rfl (by decide) ?_
    refine r_same Ra (z := (523, 523, 116114)) (μ1 := mI) (fun a k h0 h1 _ _ _ => fill_all m0 a k ⟨h0, by have h1' : a < ((523 : Nat) : Int) := h1; omega⟩) ?_
    refine r_iconst Ra dL_law_16 ?_
    refine r_istore_n Ra (i := 3) dL_law_17 rfl (by decide) ?_
    exact law_loop Ra hK hO hL (L + 1) 0 _ mI (by omega) (by decide) (by decide) rfl rfl rfl rfl VT_mI hI
  have hl := lv_entry [Value.ref b] (n := 4) (Nat.le_of_ble_eq_true rfl)
  have h2 := h s.heap [] ((lg_sl [Value.ref b] ++ List.replicate (4 - (lg_sl [Value.ref b]).length) Slot.unset).toArray) ⟨fun k q h => by simp [pl] at h, fun _ => by show s.heap.size = en.2.2.1 + 0; omega⟩ va_S.rf ⟨hl.1, hl.2.1, fun i v hv => by
    obtain ⟨hv, hm, -⟩ := hv
    unfold lo0 at hv
    cases hf : (loL 0 [Value.ref b]).find? (fun q => q.1 == i) with
    | none => rw [hf] at hv; cases hv
    | some q =>
      rw [hf] at hv
      cases hv
      have h1 := List.find?_some hf
      have h2 := List.mem_of_find?_eq_some hf
      have h3 := hl.2.2 q (loL_mem [Value.ref b] 0 q.1 q.2 h2 hm)
      have h4 : q.1 = i := by simpa using h1
      rw [← h4]
      exact h3⟩
  rw [lg_entry_eq]
  exact h2
