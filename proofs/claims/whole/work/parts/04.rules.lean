/-! THE ENVIRONMENT of a run: class numbers and slots, array classes, the first cell's address, the two texts' addresses -/
abbrev En : Type := va_G × (Nat → ClassId) × Nat × (Nat → Nat) × (Nat → Nat)
def eB (en : En) : Nat := en.2.2.1
def eA (en : En) : Nat → Prop := fun q => en.2.2.1 ≤ q
def eT (en : En) : List (ClassId × FieldType) := [(en.2.1 0, .int), (en.2.1 1, .boolean), (en.2.1 2, .long), (en.2.1 3, .array .int), (en.2.1 4, .object "DewWages$State"), (en.2.1 5, .object "DewWages$Walk")]
abbrev vI (x : Int) : Value := .int (Int32.ofInt x)
abbrev vJ (x : Int) : Value := .long (Int64.ofInt x)
def vA (en : En) (a : Int) : Value := .ref (en.2.2.1 + a.toNat)
def toV (B kd : Nat) (v : Int) : Value := if kd = 1 then .long (Int64.ofInt v) else if kd = 2 ∨ kd = 3 then (if v < 0 then .null else .ref (B + v.toNat)) else .int (Int32.ofInt v)
def flds (B : Nat) (ks : List Nat) (row : Int → Int) : List Value := ks.zipIdx.map (fun q => toV B q.1 (row q.2))
def toR (B : Nat) (v : Int) : Option Nat := if v < 0 then none else some (B + v.toNat)
def cellOf (en : En) (t : Nat) (n : Int) (row : Int → Int) : va_E := match t with
  | 20 => .inl (en.2.1 0, n.toNat, .inl (fun j => Int32.ofInt (row j)))
  | 21 => .inl (en.2.1 1, n.toNat, .inl (fun j => Int32.ofInt (row j)))
  | 22 => .inl (en.2.1 2, n.toNat, .inr (.inl (fun j => Int64.ofInt (row j))))
  | 23 => .inl (en.2.1 3, n.toNat, .inr (.inr (.inr (.inr (fun j => toR en.2.2.1 (row j))))))
  | 24 => .inl (en.2.1 4, n.toNat, .inr (.inr (.inr (.inr (fun j => toR en.2.2.1 (row j))))))
  | 25 => .inl (en.2.1 5, n.toNat, .inr (.inr (.inr (.inr (fun j => toR en.2.2.1 (row j))))))
  | t => .inr (t - 1, flds en.2.2.1 (fk t) row)
def pl (en : En) (cnt : Nat) (μ : Mem) : va_W := (List.range cnt).map (fun i => (en.2.2.1 + i, cellOf en (ty i) (ln i) (μ i)))
def Wd (en : En) (cnt : Nat) (μ : Mem) (H : Heap) : Prop := va_P en.1 vwCl (pl en cnt μ) H ∧ (cnt < nCells → H.size = en.2.2.1 + cnt)
theorem pl_get {en : En} {cnt : Nat} {μ : Mem} {a : Int} {t : Nat} (h0 : 0 ≤ a ∧ a < cnt) (ht : ty a = t) : (pl en cnt μ)[a.toNat]? = some (en.2.2.1 + a.toNat, cellOf en t (ln a) (μ a)) := by
  unfold pl
  rw [List.getElem?_map, List.getElem?_range (by omega), Option.map_some, Int.toNat_of_nonneg h0.1, ht]
theorem pl_D (en : En) (cnt : Nat) (μ : Mem) : va_D (eA en) (pl en cnt μ) := by
  have key : ∀ (k : Nat) (q : Nat × va_E), (pl en cnt μ)[k]? = some q → q.1 = en.2.2.1 + k := by
    intro k q h
    unfold pl at h
    rw [List.getElem?_map] at h
    by_cases hk : k < cnt
    · rw [List.getElem?_range hk] at h
      cases h
      rfl
    · rw [List.getElem?_eq_none (by simp; omega)] at h
      cases h
  refine ⟨fun i j p q hi hj e => ?_, fun k q hk => ?_⟩
  · have h1 := key i p hi
    have h2 := key j q hj
    omega
  · show en.2.2.1 ≤ q.1
    rw [key k q hk]
    omega
theorem pl_set {en : En} {cnt : Nat} {μ μ1 : Mem} {a : Int} {e : va_E} (h0 : 0 ≤ a ∧ a < cnt) (he : e = cellOf en (ty a) (ln a) (μ1 a)) (hne : ∀ b : Int, b ≠ a → μ1 b = μ b) : (pl en cnt μ).set a.toNat (en.2.2.1 + a.toNat, e) = pl en cnt μ1 := by
  apply List.ext_getElem?
  intro k
  by_cases hk : k = a.toNat
  · subst hk
    rw [List.getElem?_set_self (by unfold pl; simp; omega), pl_get h0 rfl, he]
  · rw [List.getElem?_set_ne (Ne.symm hk)]
    unfold pl
    rw [List.getElem?_map, List.getElem?_map]
    by_cases hc : k < cnt
    · rw [List.getElem?_range hc, Option.map_some, Option.map_some, hne k (by omega)]
    · have hn : (List.range cnt)[k]? = none := List.getElem?_eq_none (by simp; omega)
      rw [hn]
      rfl
theorem flds_get {B : Nat} {ks : List Nat} {row : Int → Int} {k : Nat} {kd : Nat} (h : ks[k]? = some kd) : (flds B ks row)[k]? = some (toV B kd (row k)) := by
  unfold flds
  rw [List.getElem?_map, List.getElem?_zipIdx, h]
  simp
theorem flds_set {B : Nat} {ks : List Nat} {row : Int → Int} {k : Nat} {kd : Nat} {v : Int} (h : ks[k]? = some kd) : (flds B ks row).set k (toV B kd v) = flds B ks (fun j => if j = k then v else row j) := by
  apply List.ext_getElem?
  intro j
  have hl : k < (flds B ks row).length := by
    have := (List.getElem?_eq_some_iff.mp h).1
    simpa [flds] using this
  by_cases hj : j = k
  · subst hj
    rw [List.getElem?_set_self hl, flds_get h]
    simp
  · rw [List.getElem?_set_ne (Ne.symm hj)]
    cases hx : ks[j]? with
    | none => simp [flds, hx]
    | some kx =>
      rw [flds_get hx, flds_get hx]
      have : ¬ ((j : Int) = (k : Int)) := by omega
      simp [this]
theorem mset_at (μ : Mem) (a k v : Int) : mset μ a k v a = fun j => if j = k then v else μ a j := by
  funext j
  simp [mset]
theorem mset_off (μ : Mem) {a k v b : Int} (h : b ≠ a) : mset μ a k v b = μ b := by
  funext j
  simp [mset, h]
theorem mcpy_off (μ : Mem) {a sp b dp n c : Int} (h : c ≠ b) : mcpy μ a sp b dp n c = μ c := by
  funext j
  simp [mcpy, h]
/-! THE WORDS: all steady ones of the tables -/
def GW : List Cond := lw_tbl.filter goodWord
def chk (k : Nat) : List Cond := match k with
  | 1 => tables_1_1
  | 2 => tables_1_2
  | 3 => tables_1_3
  | 4 => tables_1_4
  | 5 => tables_1_5
  | 6 => tables_1_6
  | 7 => tables_1_7
  | 8 => tables_1_8
  | _ => []
theorem chk_in (k : Nat) (w : Cond) (h : w ∈ chk k) : w ∈ lw_tbl := by
  refine List.mem_append_right _ ?_
  show w ∈ tables_1_1 ++ (tables_1_2 ++ (tables_1_3 ++ (tables_1_4 ++ (tables_1_5 ++ (tables_1_6 ++ (tables_1_7 ++ tables_1_8))))))
  simp only [List.mem_append]
  unfold chk at h
  split at h
  · exact Or.inl h
  · exact Or.inr (Or.inl h)
  · exact Or.inr (Or.inr (Or.inl h))
  · exact Or.inr (Or.inr (Or.inr (Or.inl h)))
  · exact Or.inr (Or.inr (Or.inr (Or.inr (Or.inl h))))
  · exact Or.inr (Or.inr (Or.inr (Or.inr (Or.inr (Or.inl h)))))
  · exact Or.inr (Or.inr (Or.inr (Or.inr (Or.inr (Or.inr (Or.inl h))))))
  · exact Or.inr (Or.inr (Or.inr (Or.inr (Or.inr (Or.inr (Or.inr h))))))
  · cases h
theorem gw {w : Cond} (k i : Nat) (h : (chk k)[i]? = some w) (hg : goodWord w = true := by rfl) : w ∈ GW := List.mem_filter.mpr ⟨chk_in k w (List.mem_of_getElem? h), hg⟩
def psk (k : Nat) : List (MethodName × Nat) := match k with
  | 1 => lw_privs_1
  | 2 => lw_privs_2
  | 3 => lw_privs_3
  | 4 => lw_privs_4
  | 5 => lw_privs_5
  | 6 => lw_privs_6
  | 7 => lw_privs_7
  | _ => []
theorem psk_in (k : Nat) (w : MethodName × Nat) (h : w ∈ psk k) : w ∈ lw_privs := by
  show w ∈ lw_privs_1 ++ (lw_privs_2 ++ (lw_privs_3 ++ (lw_privs_4 ++ (lw_privs_5 ++ (lw_privs_6 ++ (lw_privs_7))))))
  simp only [List.mem_append]
  unfold psk at h
  split at h
  · exact Or.inl h
  · exact Or.inr (Or.inl h)
  · exact Or.inr (Or.inr (Or.inl h))
  · exact Or.inr (Or.inr (Or.inr (Or.inl h)))
  · exact Or.inr (Or.inr (Or.inr (Or.inr (Or.inl h))))
  · exact Or.inr (Or.inr (Or.inr (Or.inr (Or.inr (Or.inl h)))))
  · exact Or.inr (Or.inr (Or.inr (Or.inr (Or.inr (Or.inr h)))))
  · cases h
theorem gs (k i n : Nat) {y : MethodName} (h : (psk k)[i]? = some (y, n)) : Cond.selects y.cls y y ∈ GW :=
  List.mem_filter.mpr ⟨List.mem_append_left _ (List.mem_map.mpr ⟨(y, n), psk_in k _ (List.mem_of_getElem? h), rfl⟩), rfl⟩
theorem gw_good {w : Cond} (h : w ∈ GW) : (w.onTables && w.keeps) = true ∨ ∃ ty, w = .arrayClass ty := good_of_word (List.mem_filter.mp h).2
def nestQ : Cond → Bool
  | .methodLinkNest .. => true
  | _ => false
def bytOf (t : String) : List Int32 := t.toList.map (fun c => Int32.ofNat c.toNat)
def txW : String := "field by dew person at up sheet owes falls sun takes mist column row day hour have if or and not all min max "
def txS : String := "+-*/%()[],;<>="
def txLen : List Nat := [109, 14]
def txByt : List (List Int32) := [bytOf txW, bytOf txS]
/-- the class of int[][] stands -/
def aoI (U : State) : Prop := (Cond.arrayOver (.array .int)).before #[] U = true
theorem aoI.moved {u U : State} (hvm : u.vm.Alike U.vm) (h : aoI u) : aoI U := by
  obtain ⟨comp, c, k, h1, h2, h3, h4, h5⟩ := arrayOverA_spec h
  obtain ⟨k', hk', he⟩ := hvm.2.2 _ _ h3
  have hbare : U.vm.bare = u.vm.bare := by first | exact hvm.bare_eq | exact hvm.bare_eq.symm
  have hi0 := va_idx_bare U.vm comp
  rw [hbare, va_idx_bare u.vm comp] at hi0
  have hi := hi0.symm.trans h2
  have hkind : k'.kind = .array comp (.array .int) := by rw [he]; exact h4
  have f1 : U.vm.findClass (FieldType.array FieldType.int).toString = some comp := by rw [hvm.findClass]; exact h1
  have f2 : U.vm.findClass ("[" ++ (FieldType.array FieldType.int).toString) = some c := by rw [hvm.findClass]; exact h5
  unfold aoI Cond.before Cond.holds
  simp only [Cond.value]
  rw [f1, Option.bind_some]
  refine (congrArg (fun o : Option Nat => (o.bind (fun c => (U.vm.classes[c]?).map fun (k : Class) => match k.kind with | .array _ ty => decide (ty = FieldType.array FieldType.int) && decide (U.vm.findClass ("[" ++ (FieldType.array FieldType.int).toString) = some c) | _ => false) == some true)) hi).trans ?_
  simp [hk', hkind, f2]
/-- what the tables and the JDK's constants say, at a state -/
def TB (en : En) (U : State) : Prop := va_K en.1 vwCl (eT en) U ∧ (∀ w ∈ lw_tbl, nestQ w = true → va_Nw w U) ∧ (va_AO "DewWages$State" U ∧ va_AO "DewWages$Walk" U ∧ aoI U) ∧
  vk_R "DewWages$Reader" 253 txW (en.2.2.2.1 0) U ∧ vk_R "DewWages$Reader" 245 txS (en.2.2.2.1 1) U ∧ vk_S 2 txLen txByt en.2.2.2.1 en.2.2.2.2 (eA en) U U.heap ∧
  va_Z "java/lang/String" "COMPACT_STRINGS" "Z" (.int 1) (eA en) U U.heap ∧ va_Zq "jdk/internal/util/Preconditions" "SIOOBE_FORMATTER" "Ljava/util/function/BiFunction;" (eA en) U U.heap
theorem nest_onTables {w : Cond} (h : nestQ w = true) : w.onTables = true := by
  cases w <;> first | rfl | (simp [nestQ] at h)
theorem nest_warm {w : Cond} (h : nestQ w = true) {s U : State} (hW : s.WarmedH U.vm) (hz : va_Nw w s) : va_Nw w U := by
  cases w <;> first | exact va_Nw.warmM hW hz | (simp [nestQ] at h)
theorem TB.same {en : En} {u U : State} (hv : U.vm = u.vm) (hh : U.heap = u.heap) (h : TB en u) : TB en U := by
  obtain ⟨h1, h2, ⟨h3, h3', h3q⟩, h4, h5, h6, h7, h8⟩ := h
  have al : u.vm.Alike U.vm := by rw [hv]; exact Vm.Alike.refl _
  refine ⟨va_K.moved al h1, fun w hw hq => (h2 w hw hq).same (nest_onTables hq) hv.symm, ⟨h3.moved al, h3'.moved al, h3q.moved al⟩, h4.same hv, h5.same hv, ?_, ?_, ?_⟩
  · rw [hh]; exact h6.moved al
  · rw [hh]; exact h7.moved al
  · rw [hh]; exact h8.moved al
theorem TB.warm {en : En} {s U : State} {H : Heap} {locs : List Loc} (hW : s.WarmedH U.vm) (hS : va_S (eA en) s.heap H locs) (hh : U.heap = H) (h : TB en s) : TB en U := by
  obtain ⟨h1, h2, ⟨h3, h3', h3q⟩, h4, h5, h6, h7, h8⟩ := h
  have al : s.vm.Alike U.vm := hW.alike
  have ok : ∀ a : Nat, a < s.heap.size → ¬ eA en a → U.heap[a]? = s.heap[a]? := fun a h1 h2 => by rw [hh]; exact hS.2.1 a h1 h2
  exact ⟨va_K.moved al h1, fun w hw hq => nest_warm hq hW (h2 w hw hq), ⟨h3.moved al, h3'.moved al, h3q.moved al⟩, h4.warm hW, h5.warm hW, (h6.moved al).kept ok, (h7.moved al).kept ok, (h8.moved al).kept ok⟩
/-! LOCALS -/
abbrev Lo : Type := Nat → Option Value
/-- the second half of a long stands behind it: a place that is told by this says nothing of its own -/
def mark : Value := .retAddr 0
def up1 (L : Lo) (i : Nat) (v : Value) : Lo := fun j => if j = i then some v else L j
def up2 (L : Lo) (i : Nat) (v : Value) : Lo := fun j => if j = i then some v else if j = i + 1 then some mark else L j
def lok (L : Lo) (i : Nat) (v : Value) : Prop := L i = some v ∧ v ≠ mark ∧ (v.category = 2 → L (i + 1) = some mark)
def lh (ls : Array Slot) (nL : Nat) (L : Lo) : Prop := ls.size = nL ∧ lv_wf ls ∧ ∀ (i : Nat) (v : Value), lok L i v → ls[i]? = some (.val v)
noncomputable def lvl (L : Lo) (nL : Nat) : List (Nat × Value) := (List.range nL).filterMap (fun i => (L i).bind (fun v => @ite _ (lok L i v) (Classical.propDecidable _) (some (i, v)) none))
theorem lvl_mem {L : Lo} {nL i : Nat} {v : Value} : (i, v) ∈ lvl L nL ↔ i < nL ∧ lok L i v := by
  unfold lvl
  rw [List.mem_filterMap]
  constructor
  · rintro ⟨j, hj, h⟩
    rw [List.mem_range] at hj
    cases hL : L j with
    | none => rw [hL] at h; cases h
    | some x =>
      rw [hL] at h
      by_cases hk : lok L j x
      · rw [Option.bind_some, if_pos hk] at h; cases h; exact ⟨hj, hk⟩
      · rw [Option.bind_some, if_neg hk] at h; cases h
  · rintro ⟨h1, h2⟩
    exact ⟨i, List.mem_range.mpr h1, by rw [h2.1, Option.bind_some, if_pos h2]⟩
theorem lh.has {ls : Array Slot} {nL : Nat} {L : Lo} (h : lh ls nL L) : lv_has ls nL (lvl L nL) := ⟨h.1, h.2.1, fun q hq => h.2.2 q.1 q.2 (lvl_mem.mp hq).2⟩
theorem lh.lt {ls : Array Slot} {nL : Nat} {L : Lo} (h : lh ls nL L) {i : Nat} {v : Value} (hv : lok L i v) : i < nL := by
  have := (Array.getElem?_eq_some_iff.mp (h.2.2 i v hv)).1
  rw [h.1] at this
  exact this
theorem lok_I {L : Lo} {i : Nat} {x : Int} (h : L i = some (vI x)) : lok L i (vI x) := ⟨h, (fun q => by cases q), (fun q => by simp [Value.category] at q)⟩
theorem lok_A {en : En} {L : Lo} {i : Nat} {x : Int} (h : L i = some (vA en x)) : lok L i (vA en x) := ⟨h, (fun q => by cases q), (fun q => by simp [vA, Value.category] at q)⟩
theorem lok_J {L : Lo} {i : Nat} {x : Int} (h : L i = some (vJ x)) (h2 : L (i + 1) = some mark) : lok L i (vJ x) := ⟨h, (fun q => by cases q), fun _ => h2⟩
theorem lh_up1 {ls ls' : Array Slot} {nL i : Nat} {L : Lo} {v : Value} (hm : v ≠ mark) (hc1 : ¬ v.category = 2) (h : lh ls nL L) (h' : lv_has ls' nL ((i, v) :: (lvl L nL).filter (fun q => !(q.1 == i) && !(q.1 + 1 == i && q.2.category == 2)))) : lh ls' nL (up1 L i v) := by
  refine ⟨h'.1, h'.2.1, fun j x hx => ?_⟩
  obtain ⟨g1, g2, g3⟩ := hx
  unfold up1 at g1 g3
  by_cases h1 : j = i
  · rw [if_pos h1] at g1
    cases g1
    rw [h1]
    exact h'.2.2 (i, v) List.mem_cons_self
  · rw [if_neg h1] at g1
    refine h'.2.2 (j, x) (List.mem_cons_of_mem _ (List.mem_filter.mpr ?_))
    by_cases h2 : x.category = 2
    · have g4 := g3 h2
      by_cases h3 : j + 1 = i
      · rw [if_pos h3] at g4
        exact absurd (Option.some.inj g4) hm
      · rw [if_neg h3] at g4
        exact ⟨lvl_mem.mpr ⟨h.lt ⟨g1, g2, fun _ => g4⟩, ⟨g1, g2, fun _ => g4⟩⟩, by simp [h1, h3]⟩
    · have hk : lok L j x := ⟨g1, g2, fun q => absurd q h2⟩
      exact ⟨lvl_mem.mpr ⟨h.lt hk, hk⟩, by simp [h1, h2]⟩
theorem lh_up2 {ls ls' : Array Slot} {nL i : Nat} {L : Lo} {v : Value} (hm : v ≠ mark) (h : lh ls nL L) (h' : lv_has ls' nL ((i, v) :: (lvl L nL).filter (fun q => !(q.1 == i) && (!(q.1 == i + 1) && !(q.1 + 1 == i && q.2.category == 2))))) : lh ls' nL (up2 L i v) := by
  refine ⟨h'.1, h'.2.1, fun j x hx => ?_⟩
  obtain ⟨g1, g2, g3⟩ := hx
  unfold up2 at g1 g3
  by_cases h1 : j = i
  · rw [if_pos h1] at g1
    cases g1
    rw [h1]
    exact h'.2.2 (i, v) List.mem_cons_self
  · rw [if_neg h1] at g1
    by_cases h5 : j = i + 1
    · rw [if_pos h5] at g1
      exact absurd (Option.some.inj g1).symm g2
    rw [if_neg h5] at g1
    refine h'.2.2 (j, x) (List.mem_cons_of_mem _ (List.mem_filter.mpr ?_))
    by_cases h2 : x.category = 2
    · have g4 := g3 h2
      by_cases h3 : j + 1 = i
      · rw [if_pos h3] at g4
        exact absurd (Option.some.inj g4) hm
      · rw [if_neg h3, if_neg (by omega)] at g4
        exact ⟨lvl_mem.mpr ⟨h.lt ⟨g1, g2, fun _ => g4⟩, ⟨g1, g2, fun _ => g4⟩⟩, by simp [h1, h3, h5]⟩
    · have hk : lok L j x := ⟨g1, g2, fun q => absurd q h2⟩
      exact ⟨lvl_mem.mpr ⟨h.lt hk, hk⟩, by simp [h1, h2, h5]⟩
/-! THE JUDGEMENT -/
abbrev Zt : Type := Nat × Nat × Nat
abbrev KT : Type := Zt → Nat → Lo → List Value → Mem → Prop
def KW (p : Program) (l : Launch) (e : Env) (R : Room) (s : State) (m : MethodId) (args : Array Value) (below : List Frame) (meth : Method) (c : Code) (Q : State → Prop) (en : En) (nL : Nat) : KT :=
  fun z pc L st μ => ∀ (H : Heap) (locs : List Loc) (ls : Array Slot), Wd en z.1 μ H → va_S (eA en) s.heap H locs → lh ls nL L → W p l e R s m args below meth c H locs z.2.1 z.2.2 Q (F0 m pc ls st)
/-- a method's end: its type, its answer, the count of cells, the memory, the cells and slots made, what holds of them -/
abbrev Rs : Type := Option FieldType × Option Value × Nat × Mem × Nat × Nat × Prop
def QcM (en : En) (ρ : Rs) : Array Value → State → Outcome → State → Prop := fun _ st o t => ((o = .returned ρ.2.1 ∧ ρ.2.2.2.2.2.2) ∧ Wd en ρ.2.2.1 ρ.2.2.2.1 t.heap) ∧ va_F (eA en) st t
/-- what a method's walk knows: K is the judgement of some run of it -/
def Ru (ini : Bool) (res : Option Rs) (l : Launch) (en : En) (cc : ByteArray) (own : String) (nL : Nat) (R : Room) (K : KT) : Prop := ∃ (p : Program) (e : Env) (s : State) (m : MethodId) (args : Array Value) (below : List Frame) (meth : Method) (c : Code) (Q : State → Prop),
  p.tables.exec = Jvm.exec ∧ c.code = cc ∧ c.maxLocals = nL ∧ s.vm.findClass own = some m.cls ∧ (∀ w ∈ GW, w.before args s = true) ∧ TB en s ∧ (∀ q : Nat, s.heap.size ≤ q → eA en q) ∧ (ini = true → meth.name = "<init>") ∧ (∀ ρ, res = some ρ → meth.sig.returnType = ρ.1 ∧ meth.locks = false ∧ Q = MQ below (QcM en ρ) args s ρ.2.2.2.2.1 ρ.2.2.2.2.2.1 (eA en)) ∧ K = KW p l e R s m args below meth c Q en nL
section RULES
variable {ini : Bool} {res : Option Rs} {l : Launch} {en : En} {cc : ByteArray} {own : String} {nL : Nat} {R : Room} {K : KT} {z : Zt} {pc : Nat} {L : Lo} {st : List Value} {μ : Mem}

theorem r_iconst (Ra : Ru ini res l en cc own nL R K) {n : Int} (hd : decode cc pc = .ok (.iconst n, 1)) (k : K z (pc + 1) L (vI n :: st) μ) : K z pc L (st) μ := by
  obtain ⟨p, e, s, m, args, below, meth, c, Q, hx, hb, hml, hown, hts, hTB, hA, hni, hres, rfl⟩ := Ra
  intro H locs ls hP hS hl
  exact lv_iconst hx hb hd rfl (k H locs ls hP hS hl)
theorem r_bipush (Ra : Ru ini res l en cc own nL R K) {n : Int} (hd : decode cc pc = .ok (.bipush n, 2)) (hn : (Int8.ofInt n).toInt32 = Int32.ofInt n) (k : K z (pc + 2) L (vI n :: st) μ) : K z pc L (st) μ := by
  obtain ⟨p, e, s, m, args, below, meth, c, Q, hx, hb, hml, hown, hts, hTB, hA, hni, hres, rfl⟩ := Ra
  intro H locs ls hP hS hl
  exact lv_bipush hx hb hd hn (k H locs ls hP hS hl)
theorem r_sipush (Ra : Ru ini res l en cc own nL R K) {n : Int} (hd : decode cc pc = .ok (.sipush n, 3)) (hn : (Int16.ofInt n).toInt32 = Int32.ofInt n) (k : K z (pc + 3) L (vI n :: st) μ) : K z pc L (st) μ := by
  obtain ⟨p, e, s, m, args, below, meth, c, Q, hx, hb, hml, hown, hts, hTB, hA, hni, hres, rfl⟩ := Ra
  intro H locs ls hP hS hl
  exact lv_sipush hx hb hd hn (k H locs ls hP hS hl)
theorem r_lconst (Ra : Ru ini res l en cc own nL R K) {n : Fin 2} {v : Int} (hd : decode cc pc = .ok (.lconst n, 1)) (hn : Int64.ofNat (n : Nat) = Int64.ofInt v) (k : K z (pc + 1) L (vJ v :: st) μ) : K z pc L (st) μ := by
  obtain ⟨p, e, s, m, args, below, meth, c, Q, hx, hb, hml, hown, hts, hTB, hA, hni, hres, rfl⟩ := Ra
  intro H locs ls hP hS hl
  exact lv_lconst hx hb hd hn (k H locs ls hP hS hl)
theorem r_ldc (Ra : Ru ini res l en cc own nL R K) {i : Nat} {v : Int} (hd : decode cc pc = .ok (.ldc i, 2)) (hc : Jvm.Cond.constant own i (Int32.ofInt v) ∈ GW) (k : K z (pc + 2) L (vI v :: st) μ) : K z pc L (st) μ := by
  obtain ⟨p, e, s, m, args, below, meth, c, Q, hx, hb, hml, hown, hts, hTB, hA, hni, hres, rfl⟩ := Ra
  intro H locs ls hP hS hl
  exact lv_ldc hx hb hown (hts _ hc) hd (k H locs ls hP hS hl)
theorem r_ldc2 (Ra : Ru ini res l en cc own nL R K) {i : Nat} {v : Int} (hd : decode cc pc = .ok (.ldc2_w i, 3)) (hc : Jvm.Cond.constantLong own i (Int64.ofInt v) ∈ GW) (k : K z (pc + 3) L (vJ v :: st) μ) : K z pc L (st) μ := by
  obtain ⟨p, e, s, m, args, below, meth, c, Q, hx, hb, hml, hown, hts, hTB, hA, hni, hres, rfl⟩ := Ra
  intro H locs ls hP hS hl
  exact lv_ldc2 hx hb hown (hts _ hc) hd (k H locs ls hP hS hl)
theorem r_iload_n (Ra : Ru ini res l en cc own nL R K) {k : Fin 4} {i : Nat} {x : Int} (hd : decode cc pc = .ok (.iload_n k, 1)) (hi : (k : Nat) = i) (hv : L i = some (vI x)) (kk : K z (pc + 1) L (vI x :: st) μ) : K z pc L (st) μ := by
  obtain ⟨p, e, s, m, args, below, meth, c, Q, hx, hb, hml, hown, hts, hTB, hA, hni, hres, rfl⟩ := Ra
  intro H locs ls hP hS hl
  exact lv_iload_n hx hb hd hi (hl.2.2 _ _ (lok_I hv)) (kk H locs ls hP hS hl)
theorem r_iload (Ra : Ru ini res l en cc own nL R K) {i : Nat} {x : Int} (hd : decode cc pc = .ok (.iload i, 2)) (hv : L i = some (vI x)) (kk : K z (pc + 2) L (vI x :: st) μ) : K z pc L (st) μ := by
  obtain ⟨p, e, s, m, args, below, meth, c, Q, hx, hb, hml, hown, hts, hTB, hA, hni, hres, rfl⟩ := Ra
  intro H locs ls hP hS hl
  exact lv_iload hx hb hd (hl.2.2 _ _ (lok_I hv)) (kk H locs ls hP hS hl)
theorem r_lload_n (Ra : Ru ini res l en cc own nL R K) {k : Fin 4} {i : Nat} {x : Int} (hd : decode cc pc = .ok (.lload_n k, 1)) (hi : (k : Nat) = i) (hv : L i = some (vJ x)) (hv2 : L (i + 1) = some mark) (kk : K z (pc + 1) L (vJ x :: st) μ) : K z pc L (st) μ := by
  obtain ⟨p, e, s, m, args, below, meth, c, Q, hx, hb, hml, hown, hts, hTB, hA, hni, hres, rfl⟩ := Ra
  intro H locs ls hP hS hl
  exact lv_lload_n hx hb hd hi (hl.2.2 _ _ (lok_J hv hv2)) (kk H locs ls hP hS hl)
theorem r_lload (Ra : Ru ini res l en cc own nL R K) {i : Nat} {x : Int} (hd : decode cc pc = .ok (.lload i, 2)) (hv : L i = some (vJ x)) (hv2 : L (i + 1) = some mark) (kk : K z (pc + 2) L (vJ x :: st) μ) : K z pc L (st) μ := by
  obtain ⟨p, e, s, m, args, below, meth, c, Q, hx, hb, hml, hown, hts, hTB, hA, hni, hres, rfl⟩ := Ra
  intro H locs ls hP hS hl
  exact lv_lload hx hb hd (hl.2.2 _ _ (lok_J hv hv2)) (kk H locs ls hP hS hl)
theorem r_aload_n (Ra : Ru ini res l en cc own nL R K) {k : Fin 4} {i : Nat} {x : Int} (hd : decode cc pc = .ok (.aload_n k, 1)) (hi : (k : Nat) = i) (hv : L i = some (vA en x)) (kk : K z (pc + 1) L (vA en x :: st) μ) : K z pc L (st) μ := by
  obtain ⟨p, e, s, m, args, below, meth, c, Q, hx, hb, hml, hown, hts, hTB, hA, hni, hres, rfl⟩ := Ra
  intro H locs ls hP hS hl
  exact lv_aload_n hx hb hd hi (hl.2.2 _ _ (lok_A hv)) (kk H locs ls hP hS hl)
theorem r_aload (Ra : Ru ini res l en cc own nL R K) {i : Nat} {x : Int} (hd : decode cc pc = .ok (.aload i, 2)) (hv : L i = some (vA en x)) (kk : K z (pc + 2) L (vA en x :: st) μ) : K z pc L (st) μ := by
  obtain ⟨p, e, s, m, args, below, meth, c, Q, hx, hb, hml, hown, hts, hTB, hA, hni, hres, rfl⟩ := Ra
  intro H locs ls hP hS hl
  exact lv_aload hx hb hd (hl.2.2 _ _ (lok_A hv)) (kk H locs ls hP hS hl)
theorem r_istore_n (Ra : Ru ini res l en cc own nL R K) {k : Fin 4} {i : Nat} {x : Int} (hd : decode cc pc = .ok (.istore_n k, 1)) (hi : (k : Nat) = i) (hn : i < nL) (kk : K z (pc + 1) (up1 L i (vI x)) (st) μ) : K z pc L (vI x :: st) μ := by
  obtain ⟨p, e, s, m, args, below, meth, c, Q, hx, hb, hml, hown, hts, hTB, hA, hni, hres, rfl⟩ := Ra
  intro H locs ls hP hS hl
  exact lv_istore_n hx hb hd hi hl.has hn rfl (fun ls1 h1 => kk H locs ls1 hP hS (lh_up1 (fun q => by cases q) (by simp [vA, Value.category]) hl h1))
theorem r_istore (Ra : Ru ini res l en cc own nL R K) {i : Nat} {x : Int} (hd : decode cc pc = .ok (.istore i, 2)) (hn : i < nL) (kk : K z (pc + 2) (up1 L i (vI x)) (st) μ) : K z pc L (vI x :: st) μ := by
  obtain ⟨p, e, s, m, args, below, meth, c, Q, hx, hb, hml, hown, hts, hTB, hA, hni, hres, rfl⟩ := Ra
  intro H locs ls hP hS hl
  exact lv_istore hx hb hd hl.has hn rfl (fun ls1 h1 => kk H locs ls1 hP hS (lh_up1 (fun q => by cases q) (by simp [vA, Value.category]) hl h1))
theorem r_lstore_n (Ra : Ru ini res l en cc own nL R K) {k : Fin 4} {i : Nat} {x : Int} (hd : decode cc pc = .ok (.lstore_n k, 1)) (hi : (k : Nat) = i) (hn : i + 1 < nL) (kk : K z (pc + 1) (up2 L i (vJ x)) (st) μ) : K z pc L (vJ x :: st) μ := by
  obtain ⟨p, e, s, m, args, below, meth, c, Q, hx, hb, hml, hown, hts, hTB, hA, hni, hres, rfl⟩ := Ra
  intro H locs ls hP hS hl
  exact lv_lstore_n hx hb hd hi hl.has hn rfl (fun ls1 h1 => kk H locs ls1 hP hS (lh_up2 (fun q => by cases q) hl h1))
theorem r_lstore (Ra : Ru ini res l en cc own nL R K) {i : Nat} {x : Int} (hd : decode cc pc = .ok (.lstore i, 2)) (hn : i + 1 < nL) (kk : K z (pc + 2) (up2 L i (vJ x)) (st) μ) : K z pc L (vJ x :: st) μ := by
  obtain ⟨p, e, s, m, args, below, meth, c, Q, hx, hb, hml, hown, hts, hTB, hA, hni, hres, rfl⟩ := Ra
  intro H locs ls hP hS hl
  exact lv_lstore hx hb hd hl.has hn rfl (fun ls1 h1 => kk H locs ls1 hP hS (lh_up2 (fun q => by cases q) hl h1))
theorem r_astore_n (Ra : Ru ini res l en cc own nL R K) {k : Fin 4} {i : Nat} {x : Int} (hd : decode cc pc = .ok (.astore_n k, 1)) (hi : (k : Nat) = i) (hn : i < nL) (kk : K z (pc + 1) (up1 L i (vA en x)) (st) μ) : K z pc L (vA en x :: st) μ := by
  obtain ⟨p, e, s, m, args, below, meth, c, Q, hx, hb, hml, hown, hts, hTB, hA, hni, hres, rfl⟩ := Ra
  intro H locs ls hP hS hl
  exact lv_astore_n hx hb hd hi hl.has hn rfl (fun ls1 h1 => kk H locs ls1 hP hS (lh_up1 (fun q => by cases q) (by simp [vA, Value.category]) hl h1))
theorem r_astore (Ra : Ru ini res l en cc own nL R K) {i : Nat} {x : Int} (hd : decode cc pc = .ok (.astore i, 2)) (hn : i < nL) (kk : K z (pc + 2) (up1 L i (vA en x)) (st) μ) : K z pc L (vA en x :: st) μ := by
  obtain ⟨p, e, s, m, args, below, meth, c, Q, hx, hb, hml, hown, hts, hTB, hA, hni, hres, rfl⟩ := Ra
  intro H locs ls hP hS hl
  exact lv_astore hx hb hd hl.has hn rfl (fun ls1 h1 => kk H locs ls1 hP hS (lh_up1 (fun q => by cases q) (by simp [vA, Value.category]) hl h1))
theorem add32 (x y : Int) : Int32.ofInt x + Int32.ofInt y = Int32.ofInt (w32 (x + y)) := by rw [w32, of32, Int32.ofInt_add]
theorem sub32 (x y : Int) : Int32.ofInt x - Int32.ofInt y = Int32.ofInt (w32 (x - y)) := by rw [w32, of32, Int32.ofInt_sub]
theorem mul32 (x y : Int) : Int32.ofInt x * Int32.ofInt y = Int32.ofInt (w32 (x * y)) := by rw [w32, of32, Int32.ofInt_mul]
theorem add64 (x y : Int) : Int64.ofInt x + Int64.ofInt y = Int64.ofInt (w64 (x + y)) := by rw [w64, of64, Int64.ofInt_add]
theorem sub64 (x y : Int) : Int64.ofInt x - Int64.ofInt y = Int64.ofInt (w64 (x - y)) := by rw [w64, of64, Int64.ofInt_sub]
theorem mul64 (x y : Int) : Int64.ofInt x * Int64.ofInt y = Int64.ofInt (w64 (x * y)) := by rw [w64, of64, Int64.ofInt_mul]
theorem eq_of32 {z : Int32} {x : Int} (h : x = z.toInt) : z = Int32.ofInt x := by rw [h, of32]
theorem eq_of64 {z : Int64} {x : Int} (h : x = z.toInt) : z = Int64.ofInt x := by rw [h, of64]
theorem ne32 {x : Int} (hx : inR x) (h : x ≠ 0) : ¬ Int32.ofInt x = 0 := fun q => h (by have := (eq32 hx (y := 0) ⟨by decide, by decide⟩).mp q; exact this)
theorem ne64 {x : Int} (hx : inL x) (h : x ≠ 0) : ¬ Int64.ofInt x = 0 := fun q => h (by have := (eq64 hx (y := 0) ⟨by decide, by decide⟩).mp q; exact this)
theorem i2l_eq {x : Int} (hx : inR x) : (Int32.ofInt x).toInt64 = Int64.ofInt x := by
  apply Int64.toInt_inj.mp
  rw [Int32.toInt_toInt64, to32 hx, to64 (inL_of hx)]
theorem l2i_eq (x : Int) : (Int64.ofInt x).toInt32 = Int32.ofInt (w32 x) := by
  rw [w32, of32]
  simp
theorem r_iadd (Ra : Ru ini res l en cc own nL R K) {x y : Int} (hd : decode cc pc = .ok (.iadd, 1)) (k : K z (pc + 1) L (vI (w32 (x + y)) :: st) μ) : K z pc L (vI y :: vI x :: st) μ := by
  obtain ⟨p, e, s, m, args, below, meth, c, Q, hx, hb, hml, hown, hts, hTB, hA, hni, hres, rfl⟩ := Ra
  intro H locs ls hP hS hl
  have k := k H locs ls hP hS hl
  refine lv_iadd hx hb hd ?_
  rw [add32]
  exact k
theorem r_ladd (Ra : Ru ini res l en cc own nL R K) {x y : Int} (hd : decode cc pc = .ok (.ladd, 1)) (k : K z (pc + 1) L (vJ (w64 (x + y)) :: st) μ) : K z pc L (vJ y :: vJ x :: st) μ := by
  obtain ⟨p, e, s, m, args, below, meth, c, Q, hx, hb, hml, hown, hts, hTB, hA, hni, hres, rfl⟩ := Ra
  intro H locs ls hP hS hl
  have k := k H locs ls hP hS hl
  refine lv_ladd hx hb hd ?_
  rw [add64]
  exact k
theorem r_isub (Ra : Ru ini res l en cc own nL R K) {x y : Int} (hd : decode cc pc = .ok (.isub, 1)) (k : K z (pc + 1) L (vI (w32 (x - y)) :: st) μ) : K z pc L (vI y :: vI x :: st) μ := by
  obtain ⟨p, e, s, m, args, below, meth, c, Q, hx, hb, hml, hown, hts, hTB, hA, hni, hres, rfl⟩ := Ra
  intro H locs ls hP hS hl
  have k := k H locs ls hP hS hl
  refine lv_isub hx hb hd ?_
  rw [sub32]
  exact k
theorem r_lsub (Ra : Ru ini res l en cc own nL R K) {x y : Int} (hd : decode cc pc = .ok (.lsub, 1)) (k : K z (pc + 1) L (vJ (w64 (x - y)) :: st) μ) : K z pc L (vJ y :: vJ x :: st) μ := by
  obtain ⟨p, e, s, m, args, below, meth, c, Q, hx, hb, hml, hown, hts, hTB, hA, hni, hres, rfl⟩ := Ra
  intro H locs ls hP hS hl
  have k := k H locs ls hP hS hl
  refine lv_lsub hx hb hd ?_
  rw [sub64]
  exact k
theorem r_imul (Ra : Ru ini res l en cc own nL R K) {x y : Int} (hd : decode cc pc = .ok (.imul, 1)) (k : K z (pc + 1) L (vI (w32 (x * y)) :: st) μ) : K z pc L (vI y :: vI x :: st) μ := by
  obtain ⟨p, e, s, m, args, below, meth, c, Q, hx, hb, hml, hown, hts, hTB, hA, hni, hres, rfl⟩ := Ra
  intro H locs ls hP hS hl
  have k := k H locs ls hP hS hl
  refine lv_imul hx hb hd ?_
  rw [mul32]
  exact k
theorem r_lmul (Ra : Ru ini res l en cc own nL R K) {x y : Int} (hd : decode cc pc = .ok (.lmul, 1)) (k : K z (pc + 1) L (vJ (w64 (x * y)) :: st) μ) : K z pc L (vJ y :: vJ x :: st) μ := by
  obtain ⟨p, e, s, m, args, below, meth, c, Q, hx, hb, hml, hown, hts, hTB, hA, hni, hres, rfl⟩ := Ra
  intro H locs ls hP hS hl
  have k := k H locs ls hP hS hl
  refine lv_lmul hx hb hd ?_
  rw [mul64]
  exact k
theorem r_iand (Ra : Ru ini res l en cc own nL R K) {x y : Int} (hd : decode cc pc = .ok (.iand, 1)) (k : K z (pc + 1) L (vI (a32 x y) :: st) μ) : K z pc L (vI y :: vI x :: st) μ := by
  obtain ⟨p, e, s, m, args, below, meth, c, Q, hx, hb, hml, hown, hts, hTB, hA, hni, hres, rfl⟩ := Ra
  intro H locs ls hP hS hl
  have k := k H locs ls hP hS hl
  refine lv_iand hx hb hd ?_
  rw [eq_of32 (x := a32 x y) rfl]
  exact k
theorem r_land (Ra : Ru ini res l en cc own nL R K) {x y : Int} (hd : decode cc pc = .ok (.land, 1)) (k : K z (pc + 1) L (vJ (a64 x y) :: st) μ) : K z pc L (vJ y :: vJ x :: st) μ := by
  obtain ⟨p, e, s, m, args, below, meth, c, Q, hx, hb, hml, hown, hts, hTB, hA, hni, hres, rfl⟩ := Ra
  intro H locs ls hP hS hl
  have k := k H locs ls hP hS hl
  refine lv_land hx hb hd ?_
  rw [eq_of64 (x := a64 x y) rfl]
  exact k
theorem r_ior (Ra : Ru ini res l en cc own nL R K) {x y : Int} (hd : decode cc pc = .ok (.ior, 1)) (k : K z (pc + 1) L (vI (o32 x y) :: st) μ) : K z pc L (vI y :: vI x :: st) μ := by
  obtain ⟨p, e, s, m, args, below, meth, c, Q, hx, hb, hml, hown, hts, hTB, hA, hni, hres, rfl⟩ := Ra
  intro H locs ls hP hS hl
  have k := k H locs ls hP hS hl
  refine lv_ior hx hb hd ?_
  rw [eq_of32 (x := o32 x y) rfl]
  exact k
theorem r_lor (Ra : Ru ini res l en cc own nL R K) {x y : Int} (hd : decode cc pc = .ok (.lor, 1)) (k : K z (pc + 1) L (vJ (o64 x y) :: st) μ) : K z pc L (vJ y :: vJ x :: st) μ := by
  obtain ⟨p, e, s, m, args, below, meth, c, Q, hx, hb, hml, hown, hts, hTB, hA, hni, hres, rfl⟩ := Ra
  intro H locs ls hP hS hl
  have k := k H locs ls hP hS hl
  refine lv_lor hx hb hd ?_
  rw [eq_of64 (x := o64 x y) rfl]
  exact k
theorem r_lxor (Ra : Ru ini res l en cc own nL R K) {x y : Int} (hd : decode cc pc = .ok (.lxor, 1)) (k : K z (pc + 1) L (vJ (x64 x y) :: st) μ) : K z pc L (vJ y :: vJ x :: st) μ := by
  obtain ⟨p, e, s, m, args, below, meth, c, Q, hx, hb, hml, hown, hts, hTB, hA, hni, hres, rfl⟩ := Ra
  intro H locs ls hP hS hl
  have k := k H locs ls hP hS hl
  refine lv_lxor hx hb hd ?_
  rw [eq_of64 (x := x64 x y) rfl]
  exact k
theorem r_ishl (Ra : Ru ini res l en cc own nL R K) {x y : Int} (hd : decode cc pc = .ok (.ishl, 1)) (k : K z (pc + 1) L (vI (shl32 x y) :: st) μ) : K z pc L (vI y :: vI x :: st) μ := by
  obtain ⟨p, e, s, m, args, below, meth, c, Q, hx, hb, hml, hown, hts, hTB, hA, hni, hres, rfl⟩ := Ra
  intro H locs ls hP hS hl
  have k := k H locs ls hP hS hl
  refine lv_ishl hx hb hd ?_
  rw [eq_of32 (x := shl32 x y) rfl]
  exact k
theorem r_ishr (Ra : Ru ini res l en cc own nL R K) {x y : Int} (hd : decode cc pc = .ok (.ishr, 1)) (k : K z (pc + 1) L (vI (shr32 x y) :: st) μ) : K z pc L (vI y :: vI x :: st) μ := by
  obtain ⟨p, e, s, m, args, below, meth, c, Q, hx, hb, hml, hown, hts, hTB, hA, hni, hres, rfl⟩ := Ra
  intro H locs ls hP hS hl
  have k := k H locs ls hP hS hl
  refine lv_ishr hx hb hd ?_
  rw [eq_of32 (x := shr32 x y) rfl]
  exact k
theorem r_lshl (Ra : Ru ini res l en cc own nL R K) {x y : Int} (hd : decode cc pc = .ok (.lshl, 1)) (k : K z (pc + 1) L (vJ (shl64 x y) :: st) μ) : K z pc L (vI y :: vJ x :: st) μ := by
  obtain ⟨p, e, s, m, args, below, meth, c, Q, hx, hb, hml, hown, hts, hTB, hA, hni, hres, rfl⟩ := Ra
  intro H locs ls hP hS hl
  have k := k H locs ls hP hS hl
  refine lv_lshl hx hb hd rfl ?_
  rw [eq_of64 (x := shl64 x y) rfl]
  exact k
theorem r_lshr (Ra : Ru ini res l en cc own nL R K) {x y : Int} (hd : decode cc pc = .ok (.lshr, 1)) (k : K z (pc + 1) L (vJ (shr64 x y) :: st) μ) : K z pc L (vI y :: vJ x :: st) μ := by
  obtain ⟨p, e, s, m, args, below, meth, c, Q, hx, hb, hml, hown, hts, hTB, hA, hni, hres, rfl⟩ := Ra
  intro H locs ls hP hS hl
  have k := k H locs ls hP hS hl
  refine lv_lshr hx hb hd rfl ?_
  rw [eq_of64 (x := shr64 x y) rfl]
  exact k
theorem r_idiv (Ra : Ru ini res l en cc own nL R K) {x y : Int} (hd : decode cc pc = .ok (.idiv, 1)) (hy : inR y) (hne : y ≠ 0) (k : K z (pc + 1) L (vI (d32 x y) :: st) μ) : K z pc L (vI y :: vI x :: st) μ := by
  obtain ⟨p, e, s, m, args, below, meth, c, Q, hx, hb, hml, hown, hts, hTB, hA, hni, hres, rfl⟩ := Ra
  intro H locs ls hP hS hl
  have k := k H locs ls hP hS hl
  refine lv_idiv hx hb hd (ne32 hy hne) ?_
  rw [eq_of32 (x := d32 x y) rfl]
  exact k
theorem r_ldiv (Ra : Ru ini res l en cc own nL R K) {x y : Int} (hd : decode cc pc = .ok (.ldiv, 1)) (hy : inL y) (hne : y ≠ 0) (k : K z (pc + 1) L (vJ (d64 x y) :: st) μ) : K z pc L (vJ y :: vJ x :: st) μ := by
  obtain ⟨p, e, s, m, args, below, meth, c, Q, hx, hb, hml, hown, hts, hTB, hA, hni, hres, rfl⟩ := Ra
  intro H locs ls hP hS hl
  have k := k H locs ls hP hS hl
  refine lv_ldiv hx hb hd (ne64 hy hne) ?_
  rw [eq_of64 (x := d64 x y) rfl]
  exact k
theorem r_irem (Ra : Ru ini res l en cc own nL R K) {x y : Int} (hd : decode cc pc = .ok (.irem, 1)) (hy : inR y) (hne : y ≠ 0) (k : K z (pc + 1) L (vI (r32 x y) :: st) μ) : K z pc L (vI y :: vI x :: st) μ := by
  obtain ⟨p, e, s, m, args, below, meth, c, Q, hx, hb, hml, hown, hts, hTB, hA, hni, hres, rfl⟩ := Ra
  intro H locs ls hP hS hl
  have k := k H locs ls hP hS hl
  refine lv_irem hx hb hd (ne32 hy hne) ?_
  rw [eq_of32 (x := r32 x y) rfl]
  exact k
theorem r_lrem (Ra : Ru ini res l en cc own nL R K) {x y : Int} (hd : decode cc pc = .ok (.lrem, 1)) (hy : inL y) (hne : y ≠ 0) (k : K z (pc + 1) L (vJ (r64 x y) :: st) μ) : K z pc L (vJ y :: vJ x :: st) μ := by
  obtain ⟨p, e, s, m, args, below, meth, c, Q, hx, hb, hml, hown, hts, hTB, hA, hni, hres, rfl⟩ := Ra
  intro H locs ls hP hS hl
  have k := k H locs ls hP hS hl
  refine lv_lrem hx hb hd (ne64 hy hne) ?_
  rw [eq_of64 (x := r64 x y) rfl]
  exact k
theorem r_i2l (Ra : Ru ini res l en cc own nL R K) {x : Int} (hd : decode cc pc = .ok (.i2l, 1)) (hi : inR x) (k : K z (pc + 1) L (vJ x :: st) μ) : K z pc L (vI x :: st) μ := by
  obtain ⟨p, e, s, m, args, below, meth, c, Q, hx, hb, hml, hown, hts, hTB, hA, hni, hres, rfl⟩ := Ra
  intro H locs ls hP hS hl
  exact lv_i2l hx hb hd (i2l_eq hi) (k H locs ls hP hS hl)
theorem r_l2i (Ra : Ru ini res l en cc own nL R K) {x : Int} (hd : decode cc pc = .ok (.l2i, 1)) (k : K z (pc + 1) L (vI (w32 x) :: st) μ) : K z pc L (vJ x :: st) μ := by
  obtain ⟨p, e, s, m, args, below, meth, c, Q, hx, hb, hml, hown, hts, hTB, hA, hni, hres, rfl⟩ := Ra
  intro H locs ls hP hS hl
  exact lv_l2i hx hb hd (l2i_eq x) (k H locs ls hP hS hl)
theorem r_i2c (Ra : Ru ini res l en cc own nL R K) {x : Int} (hd : decode cc pc = .ok (.i2c, 1)) (k : K z (pc + 1) L (vI (c16 x) :: st) μ) : K z pc L (vI x :: st) μ := by
  obtain ⟨p, e, s, m, args, below, meth, c, Q, hx, hb, hml, hown, hts, hTB, hA, hni, hres, rfl⟩ := Ra
  intro H locs ls hP hS hl
  exact lv_i2c hx hb hd (eq_of32 (x := c16 x) rfl) (k H locs ls hP hS hl)
theorem r_iinc (Ra : Ru ini res l en cc own nL R K) {i : Nat} {n x : Int} (hd : decode cc pc = .ok (.iinc i n, 3)) (hv : L i = some (vI x)) (kk : K z (pc + 3) (up1 L i (vI (w32 (x + n)))) (st) μ) : K z pc L (st) μ := by
  obtain ⟨p, e, s, m, args, below, meth, c, Q, hx, hb, hml, hown, hts, hTB, hA, hni, hres, rfl⟩ := Ra
  intro H locs ls hP hS hl
  obtain ⟨j, hj⟩ := List.getElem?_of_mem (lvl_mem.mpr ⟨hl.lt (lok_I hv), lok_I hv⟩)
  exact lv_iinc hx hb hd hl.has hj (add32 x n) (hl.lt (lok_I hv)) rfl (fun ls1 h1 => kk H locs ls1 hP hS (lh_up1 (fun q => by cases q) (by simp [Value.category]) hl h1))
theorem r_dupI (Ra : Ru ini res l en cc own nL R K) {x : Int} (hd : decode cc pc = .ok (.dup, 1)) (k : K z (pc + 1) L (vI x :: vI x :: st) μ) : K z pc L (vI x :: st) μ := by
  obtain ⟨p, e, s, m, args, below, meth, c, Q, hx, hb, hml, hown, hts, hTB, hA, hni, hres, rfl⟩ := Ra
  intro H locs ls hP hS hl
  exact lv_dup hx hb hd rfl (k H locs ls hP hS hl)
theorem r_popI (Ra : Ru ini res l en cc own nL R K) {x : Int} (hd : decode cc pc = .ok (.pop, 1)) (k : K z (pc + 1) L (st) μ) : K z pc L (vI x :: st) μ := by
  obtain ⟨p, e, s, m, args, below, meth, c, Q, hx, hb, hml, hown, hts, hTB, hA, hni, hres, rfl⟩ := Ra
  intro H locs ls hP hS hl
  exact lv_pop hx hb hd rfl (k H locs ls hP hS hl)
theorem r_dupA (Ra : Ru ini res l en cc own nL R K) {x : Int} (hd : decode cc pc = .ok (.dup, 1)) (k : K z (pc + 1) L (vA en x :: vA en x :: st) μ) : K z pc L (vA en x :: st) μ := by
  obtain ⟨p, e, s, m, args, below, meth, c, Q, hx, hb, hml, hown, hts, hTB, hA, hni, hres, rfl⟩ := Ra
  intro H locs ls hP hS hl
  exact lv_dup hx hb hd rfl (k H locs ls hP hS hl)
theorem r_popA (Ra : Ru ini res l en cc own nL R K) {x : Int} (hd : decode cc pc = .ok (.pop, 1)) (k : K z (pc + 1) L (st) μ) : K z pc L (vA en x :: st) μ := by
  obtain ⟨p, e, s, m, args, below, meth, c, Q, hx, hb, hml, hown, hts, hTB, hA, hni, hres, rfl⟩ := Ra
  intro H locs ls hP hS hl
  exact lv_pop hx hb hd rfl (k H locs ls hP hS hl)
theorem r_dup2 (Ra : Ru ini res l en cc own nL R K) {x a : Int} (hd : decode cc pc = .ok (.dup2, 1)) (k : K z (pc + 1) L (vI x :: vA en a :: vI x :: vA en a :: st) μ) : K z pc L (vI x :: vA en a :: st) μ := by
  obtain ⟨p, e, s, m, args, below, meth, c, Q, hx, hb, hml, hown, hts, hTB, hA, hni, hres, rfl⟩ := Ra
  intro H locs ls hP hS hl
  exact lv_dup2_11 hx hb hd rfl rfl (k H locs ls hP hS hl)
theorem r_dup2J (Ra : Ru ini res l en cc own nL R K) {x : Int} (hd : decode cc pc = .ok (.dup2, 1)) (k : K z (pc + 1) L (vJ x :: vJ x :: st) μ) : K z pc L (vJ x :: st) μ := by
  obtain ⟨p, e, s, m, args, below, meth, c, Q, hx, hb, hml, hown, hts, hTB, hA, hni, hres, rfl⟩ := Ra
  intro H locs ls hP hS hl
  exact lv_dup2_2 hx hb hd rfl (k H locs ls hP hS hl)
theorem r_goto (Ra : Ru ini res l en cc own nL R K) {off : Int} (tgt : Nat) (hd : decode cc pc = .ok (.goto off, 3)) (ht : (pc : Int) + off = (tgt : Int)) (k : K z tgt L (st) μ) : K z pc L (st) μ := by
  obtain ⟨p, e, s, m, args, below, meth, c, Q, hx, hb, hml, hown, hts, hTB, hA, hni, hres, rfl⟩ := Ra
  intro H locs ls hP hS hl
  exact lv_goto hx hb hd ht (k H locs ls hP hS hl)
theorem r_icmp_eq (Ra : Ru ini res l en cc own nL R K) {x y off : Int} (tgt : Nat) (hd : decode cc pc = .ok (.if_icmp .eq off, 3)) (hx : inR x) (hy : inR y) (ht : (pc : Int) + off = (tgt : Int)) (kt : x = y → K z tgt L (st) μ) (kf : ¬ x = y → K z (pc + 3) L (st) μ) : K z pc L (vI y :: vI x :: st) μ := by
  obtain ⟨p, e, s, m, args, below, meth, c, Q, hxx, hb, hml, hown, hts, hTB, hA, hni, hres, rfl⟩ := Ra
  intro H locs ls hP hS hl
  exact lv_icmp_eq hxx hb hd ht (fun q => kt ((eq32 hx hy).mp q) H locs ls hP hS hl) (fun q => kf (fun r => q ((eq32 hx hy).mpr r)) H locs ls hP hS hl)
theorem r_if_eq (Ra : Ru ini res l en cc own nL R K) {x off : Int} (tgt : Nat) (hd : decode cc pc = .ok (.ifCond .eq off, 3)) (hx : inR x) (ht : (pc : Int) + off = (tgt : Int)) (kt : x = 0 → K z tgt L (st) μ) (kf : ¬ x = 0 → K z (pc + 3) L (st) μ) : K z pc L (vI x :: st) μ := by
  obtain ⟨p, e, s, m, args, below, meth, c, Q, hxx, hb, hml, hown, hts, hTB, hA, hni, hres, rfl⟩ := Ra
  intro H locs ls hP hS hl
  have z0 : inR 0 := ⟨by decide, by decide⟩
  exact lv_if_eq hxx hb hd ht (fun q => kt ((eq32 hx z0).mp q) H locs ls hP hS hl) (fun q => kf (fun r => q ((eq32 hx z0).mpr r)) H locs ls hP hS hl)
theorem r_icmp_ne (Ra : Ru ini res l en cc own nL R K) {x y off : Int} (tgt : Nat) (hd : decode cc pc = .ok (.if_icmp .ne off, 3)) (hx : inR x) (hy : inR y) (ht : (pc : Int) + off = (tgt : Int)) (kt : ¬ x = y → K z tgt L (st) μ) (kf : x = y → K z (pc + 3) L (st) μ) : K z pc L (vI y :: vI x :: st) μ := by
  obtain ⟨p, e, s, m, args, below, meth, c, Q, hxx, hb, hml, hown, hts, hTB, hA, hni, hres, rfl⟩ := Ra
  intro H locs ls hP hS hl
  exact lv_icmp_ne hxx hb hd ht (fun q => kt (fun r => q ((eq32 hx hy).mpr r)) H locs ls hP hS hl) (fun q => kf ((eq32 hx hy).mp q) H locs ls hP hS hl)
theorem r_if_ne (Ra : Ru ini res l en cc own nL R K) {x off : Int} (tgt : Nat) (hd : decode cc pc = .ok (.ifCond .ne off, 3)) (hx : inR x) (ht : (pc : Int) + off = (tgt : Int)) (kt : ¬ x = 0 → K z tgt L (st) μ) (kf : x = 0 → K z (pc + 3) L (st) μ) : K z pc L (vI x :: st) μ := by
  obtain ⟨p, e, s, m, args, below, meth, c, Q, hxx, hb, hml, hown, hts, hTB, hA, hni, hres, rfl⟩ := Ra
  intro H locs ls hP hS hl
  have z0 : inR 0 := ⟨by decide, by decide⟩
  exact lv_if_ne hxx hb hd ht (fun q => kt (fun r => q ((eq32 hx z0).mpr r)) H locs ls hP hS hl) (fun q => kf ((eq32 hx z0).mp q) H locs ls hP hS hl)
theorem r_icmp_lt (Ra : Ru ini res l en cc own nL R K) {x y off : Int} (tgt : Nat) (hd : decode cc pc = .ok (.if_icmp .lt off, 3)) (hx : inR x) (hy : inR y) (ht : (pc : Int) + off = (tgt : Int)) (kt : x < y → K z tgt L (st) μ) (kf : ¬ x < y → K z (pc + 3) L (st) μ) : K z pc L (vI y :: vI x :: st) μ := by
  obtain ⟨p, e, s, m, args, below, meth, c, Q, hxx, hb, hml, hown, hts, hTB, hA, hni, hres, rfl⟩ := Ra
  intro H locs ls hP hS hl
  exact lv_icmp_lt hxx hb hd ht (fun q => kt ((lt32 hx hy).mp q) H locs ls hP hS hl) (fun q => kf (fun r => q ((lt32 hx hy).mpr r)) H locs ls hP hS hl)
theorem r_if_lt (Ra : Ru ini res l en cc own nL R K) {x off : Int} (tgt : Nat) (hd : decode cc pc = .ok (.ifCond .lt off, 3)) (hx : inR x) (ht : (pc : Int) + off = (tgt : Int)) (kt : x < 0 → K z tgt L (st) μ) (kf : ¬ x < 0 → K z (pc + 3) L (st) μ) : K z pc L (vI x :: st) μ := by
  obtain ⟨p, e, s, m, args, below, meth, c, Q, hxx, hb, hml, hown, hts, hTB, hA, hni, hres, rfl⟩ := Ra
  intro H locs ls hP hS hl
  have z0 : inR 0 := ⟨by decide, by decide⟩
  exact lv_if_lt hxx hb hd ht (fun q => kt ((lt32 hx z0).mp q) H locs ls hP hS hl) (fun q => kf (fun r => q ((lt32 hx z0).mpr r)) H locs ls hP hS hl)
theorem r_icmp_ge (Ra : Ru ini res l en cc own nL R K) {x y off : Int} (tgt : Nat) (hd : decode cc pc = .ok (.if_icmp .ge off, 3)) (hx : inR x) (hy : inR y) (ht : (pc : Int) + off = (tgt : Int)) (kt : ¬ x < y → K z tgt L (st) μ) (kf : x < y → K z (pc + 3) L (st) μ) : K z pc L (vI y :: vI x :: st) μ := by
  obtain ⟨p, e, s, m, args, below, meth, c, Q, hxx, hb, hml, hown, hts, hTB, hA, hni, hres, rfl⟩ := Ra
  intro H locs ls hP hS hl
  exact lv_icmp_ge hxx hb hd ht (fun q => kt (fun r => Int32.not_le.mpr ((lt32 hx hy).mpr r) q) H locs ls hP hS hl) (fun q => kf ((lt32 hx hy).mp (Int32.not_le.mp q)) H locs ls hP hS hl)
theorem r_if_ge (Ra : Ru ini res l en cc own nL R K) {x off : Int} (tgt : Nat) (hd : decode cc pc = .ok (.ifCond .ge off, 3)) (hx : inR x) (ht : (pc : Int) + off = (tgt : Int)) (kt : ¬ x < 0 → K z tgt L (st) μ) (kf : x < 0 → K z (pc + 3) L (st) μ) : K z pc L (vI x :: st) μ := by
  obtain ⟨p, e, s, m, args, below, meth, c, Q, hxx, hb, hml, hown, hts, hTB, hA, hni, hres, rfl⟩ := Ra
  intro H locs ls hP hS hl
  have z0 : inR 0 := ⟨by decide, by decide⟩
  exact lv_if_ge hxx hb hd ht (fun q => kt (fun r => Int32.not_le.mpr ((lt32 hx z0).mpr r) q) H locs ls hP hS hl) (fun q => kf ((lt32 hx z0).mp (Int32.not_le.mp q)) H locs ls hP hS hl)
theorem r_icmp_gt (Ra : Ru ini res l en cc own nL R K) {x y off : Int} (tgt : Nat) (hd : decode cc pc = .ok (.if_icmp .gt off, 3)) (hx : inR x) (hy : inR y) (ht : (pc : Int) + off = (tgt : Int)) (kt : y < x → K z tgt L (st) μ) (kf : ¬ y < x → K z (pc + 3) L (st) μ) : K z pc L (vI y :: vI x :: st) μ := by
  obtain ⟨p, e, s, m, args, below, meth, c, Q, hxx, hb, hml, hown, hts, hTB, hA, hni, hres, rfl⟩ := Ra
  intro H locs ls hP hS hl
  exact lv_icmp_gt hxx hb hd ht (fun q => kt ((lt32 hy hx).mp q) H locs ls hP hS hl) (fun q => kf (fun r => q ((lt32 hy hx).mpr r)) H locs ls hP hS hl)
theorem r_if_gt (Ra : Ru ini res l en cc own nL R K) {x off : Int} (tgt : Nat) (hd : decode cc pc = .ok (.ifCond .gt off, 3)) (hx : inR x) (ht : (pc : Int) + off = (tgt : Int)) (kt : 0 < x → K z tgt L (st) μ) (kf : ¬ 0 < x → K z (pc + 3) L (st) μ) : K z pc L (vI x :: st) μ := by
  obtain ⟨p, e, s, m, args, below, meth, c, Q, hxx, hb, hml, hown, hts, hTB, hA, hni, hres, rfl⟩ := Ra
  intro H locs ls hP hS hl
  have z0 : inR 0 := ⟨by decide, by decide⟩
  exact lv_if_gt hxx hb hd ht (fun q => kt ((lt32 z0 hx).mp q) H locs ls hP hS hl) (fun q => kf (fun r => q ((lt32 z0 hx).mpr r)) H locs ls hP hS hl)
theorem r_icmp_le (Ra : Ru ini res l en cc own nL R K) {x y off : Int} (tgt : Nat) (hd : decode cc pc = .ok (.if_icmp .le off, 3)) (hx : inR x) (hy : inR y) (ht : (pc : Int) + off = (tgt : Int)) (kt : ¬ y < x → K z tgt L (st) μ) (kf : y < x → K z (pc + 3) L (st) μ) : K z pc L (vI y :: vI x :: st) μ := by
  obtain ⟨p, e, s, m, args, below, meth, c, Q, hxx, hb, hml, hown, hts, hTB, hA, hni, hres, rfl⟩ := Ra
  intro H locs ls hP hS hl
  exact lv_icmp_le hxx hb hd ht (fun q => kt (fun r => Int32.not_le.mpr ((lt32 hy hx).mpr r) q) H locs ls hP hS hl) (fun q => kf ((lt32 hy hx).mp (Int32.not_le.mp q)) H locs ls hP hS hl)
theorem r_if_le (Ra : Ru ini res l en cc own nL R K) {x off : Int} (tgt : Nat) (hd : decode cc pc = .ok (.ifCond .le off, 3)) (hx : inR x) (ht : (pc : Int) + off = (tgt : Int)) (kt : ¬ 0 < x → K z tgt L (st) μ) (kf : 0 < x → K z (pc + 3) L (st) μ) : K z pc L (vI x :: st) μ := by
  obtain ⟨p, e, s, m, args, below, meth, c, Q, hxx, hb, hml, hown, hts, hTB, hA, hni, hres, rfl⟩ := Ra
  intro H locs ls hP hS hl
  have z0 : inR 0 := ⟨by decide, by decide⟩
  exact lv_if_le hxx hb hd ht (fun q => kt (fun r => Int32.not_le.mpr ((lt32 z0 hx).mpr r) q) H locs ls hP hS hl) (fun q => kf ((lt32 z0 hx).mp (Int32.not_le.mp q)) H locs ls hP hS hl)
/-- what lcmp says -/
def lc (x y : Int) : Int := (lg_cmp (Int64.ofInt x) (Int64.ofInt y)).toInt
theorem lc_is {x y : Int} (hx : inL x) (hy : inL y) : lc x y = if y < x then 1 else if x = y then 0 else -1 := by
  unfold lc lg_cmp
  by_cases h1 : y < x
  · rw [if_pos ((lt64 hy hx).mpr h1), if_pos h1]; rfl
  · rw [if_neg (fun q => h1 ((lt64 hy hx).mp q)), if_neg h1]
    by_cases h2 : x = y
    · rw [if_pos ((eq64 hx hy).mpr h2), if_pos h2]; rfl
    · rw [if_neg (fun q => h2 ((eq64 hx hy).mp q)), if_neg h2]; rfl
theorem lc_R (x y : Int) : inR (lc x y) := inR_32 _
theorem lc_lt {x y : Int} (hx : inL x) (hy : inL y) : lc x y < 0 ↔ x < y := by
  rw [lc_is hx hy]
  split
  · omega
  · split <;> omega
theorem lc_gt {x y : Int} (hx : inL x) (hy : inL y) : 0 < lc x y ↔ y < x := by
  rw [lc_is hx hy]
  split
  · omega
  · split <;> omega
theorem lc_eq {x y : Int} (hx : inL x) (hy : inL y) : lc x y = 0 ↔ x = y := by
  rw [lc_is hx hy]
  split
  · omega
  · split <;> omega
theorem r_lcmp (Ra : Ru ini res l en cc own nL R K) {x y : Int} (hd : decode cc pc = .ok (.lcmp, 1)) (k : K z (pc + 1) L (vI (lc x y) :: st) μ) : K z pc L (vJ y :: vJ x :: st) μ := by
  obtain ⟨p, e, s, m, args, below, meth, c, Q, hx, hb, hml, hown, hts, hTB, hA, hni, hres, rfl⟩ := Ra
  intro H locs ls hP hS hl
  have k := k H locs ls hP hS hl
  refine W.lcmp hx hb hd ?_
  rw [eq_of32 (x := lc x y) rfl]
  exact k
theorem r_tableIn (Ra : Ru ini res l en cc own nL R K) {x dflt lo up off : Int} {offs : Array Int} {len : Nat} (tgt : Nat) (hd : decode cc pc = .ok (.tableswitch dflt lo up offs, len)) (hi : inR x) (h1 : lo ≤ x) (h2 : x ≤ up) (ho : offs[(x - lo).toNat]? = some off) (ht : (pc : Int) + off = (tgt : Int)) (k : K z tgt L (st) μ) : K z pc L (vI x :: st) μ := by
  obtain ⟨p, e, s, m, args, below, meth, c, Q, hx, hb, hml, hown, hts, hTB, hA, hni, hres, rfl⟩ := Ra
  intro H locs ls hP hS hl
  exact lv_tableIn hx hb hd (by rw [to32 hi]; omega) (by rw [to32 hi]; omega) (by rw [to32 hi]; exact ho) ht (k H locs ls hP hS hl)
theorem r_tableOut (Ra : Ru ini res l en cc own nL R K) {x dflt lo up : Int} {offs : Array Int} {len : Nat} (tgt : Nat) (hd : decode cc pc = .ok (.tableswitch dflt lo up offs, len)) (hi : inR x) (h1 : x < lo ∨ up < x) (ht : (pc : Int) + dflt = (tgt : Int)) (k : K z tgt L (st) μ) : K z pc L (vI x :: st) μ := by
  obtain ⟨p, e, s, m, args, below, meth, c, Q, hx, hb, hml, hown, hts, hTB, hA, hni, hres, rfl⟩ := Ra
  intro H locs ls hP hS hl
  exact lv_tableOut hx hb hd (by rw [to32 hi]; exact h1) ht (k H locs ls hP hS hl)
theorem r_lookup (Ra : Ru ini res l en cc own nL R K) {x dflt off : Int} {ps : Array (Int × Int)} {len : Nat} (tgt : Nat) (hd : decode cc pc = .ok (.lookupswitch dflt ps, len)) (hi : inR x) (hp : (ps.toList.zip (ps.toList.drop 1)).all (fun (a, next) => a.1 < next.1) = true) (ho : Op.lookupswitch.offset ps.toList dflt x = off) (ht : (pc : Int) + off = (tgt : Int)) (k : K z tgt L (st) μ) : K z pc L (vI x :: st) μ := by
  obtain ⟨p, e, s, m, args, below, meth, c, Q, hx, hb, hml, hown, hts, hTB, hA, hni, hres, rfl⟩ := Ra
  intro H locs ls hP hS hl
  exact lv_lookup hx hb hd hp (by rw [to32 hi]; exact ho) ht (k H locs ls hP hS hl)
/-! FIELDS. t: the type of the object; k: the place of the field -/
def FL (own : String) (index t k : Nat) : Prop := ∃ (C : String) (T : u_T) (N : Nat), vwCl[t - 1]? = some (C, T, N) ∧ k < N ∧ (∀ w ∈ u_ws C T N, w ∈ GW) ∧ Cond.fieldLink own index (T k).1 (T k).2.1 (T k).2.2.1 ∈ GW
def FP (t k : Nat) (fin : Bool) (fty : FieldType) : Prop := ∃ (C : String) (T : u_T) (N : Nat) (ty0 : Nat → FieldType), vwCl[t - 1]? = some (C, T, N) ∧ k < N ∧ (∀ k, k < N → parseFieldDescriptor (T k).2.2.1 = some (ty0 k)) ∧ (∀ a, a < N → ∀ b, b < N → a ≠ b → (T a).2.1 ≠ (T b).2.1) ∧ (T k).2.2.2 = fin ∧ parseFieldDescriptor (T k).2.2.1 = some fty
theorem cell_obj (en : En) {t : Nat} (n : Int) (row : Int → Int) (h : t < 20) : cellOf en t n row = .inr (t - 1, flds en.2.2.1 (fk t) row) := by
  unfold cellOf
  split <;> first | omega | rfl
variable {v : Value}
theorem r_getf (Ra : Ru ini res l en cc own nL R K) {i t k kd : Nat} {a : Int} (hin : 0 ≤ a ∧ a < z.1) (ha : ty a = t) (h20 : t < 20) (hk : (fk t)[k]? = some kd) (hV : toV en.2.2.1 kd (μ a k) = v) (hf : FL own i t k) (hd : decode cc pc = .ok (.getfield i, 3)) (kk : K z (pc + 3) L (v :: st) μ) : K z pc L (vA en a :: st) μ := by
  obtain ⟨p, e, s, m, args, below, meth, c, Q, hx, hb, hml, hown, hts, hTB, hA, hni, hres, rfl⟩ := Ra
  intro H locs ls hP hS hl
  obtain ⟨C, T, N, h1, h2, h3, h4⟩ := hf
  refine va_get hx hb hts h3 hown hTB.1 hP.1 a.toNat (pl_get hin ha |>.trans (by rw [cell_obj en _ _ h20])) h1 k h2 (hts _ h4) (fun _ q => q) (flds_get hk) hd ?_
  rw [hV]
  exact kk H locs ls hP hS hl
theorem r_putf (Ra : Ru ini res l en cc own nL R K) {i t k kd : Nat} {a x : Int} {fty : FieldType} {μ1 : Mem} (hμ : μ1 = mset μ a k x) (hin : 0 ≤ a ∧ a < z.1) (ha : ty a = t) (h20 : t < 20) (hk : (fk t)[k]? = some kd) (hV : toV en.2.2.1 kd x = v) (hf : FL own i t k) (hp : FP t k false fty) (hn : narrow fty v = v) (hfit : fits fty v = true) (hd : decode cc pc = .ok (.putfield i, 3)) (kk : K z (pc + 3) L (st) μ1) : K z pc L (v :: vA en a :: st) μ := by
  obtain ⟨p, e, s, m, args, below, meth, c, Q, hx, hb, hml, hown, hts, hTB, hA, hni, hres, rfl⟩ := Ra
  intro H locs ls hP hS hl
  obtain ⟨C, T, N, h1, h2, h3, h4⟩ := hf
  obtain ⟨C9, T9, N9, ty0, g1, g2, g3, g4, g5, g6⟩ := hp
  rw [h1] at g1
  cases g1
  have hpl := (pl_get (en := en) (μ := μ) hin ha).trans (by rw [cell_obj en _ _ h20])
  have hap := va_apart (own := own) hts h3 ty0 g3 g4 hTB.1 h1
  obtain ⟨r, q0, cell, q1, q2, q3, q4⟩ := hP.1 a.toNat _ hpl
  rw [h1] at q0
  cases q0
  obtain ⟨hS9, hfc, kC, hkC, hkind⟩ := hTB.1.1 (t - 1) _ h1
  obtain ⟨cf, kf, fi, f, hi, hsl⟩ := hS9 k h2
  have hlay := hts _ (h3 _ (u_in_lay h2))
  unfold u_lay at hlay
  rw [if_neg (by rw [g5]; decide)] at hlay
  have hst := (u_facts hfc hkC (u_lays hts h3 h2) hi).1
  have hlen : k < (flds en.2.2.1 (fk t) (μ a)).length := by rw [show (flds en.2.2.1 (fk t) (μ a)).length = (fk t).length by simp [flds]]; exact (List.getElem?_eq_some_iff.mp hk).1
  have h6 := u_store hfc hkC hkind hlay hi g6 hn hfit
  refine W.putK hx hb (f := f) ⟨hown, hts _ h4, ⟨_, _, _, hi⟩, hst⟩ (by rw [q2]; exact h6) q1 q3 (by rw [hsl]; exact k2_hasslot (q4 k h2)) rfl rfl hd fun H1 e1 e2 e3 => ?_
  rw [hsl] at e1 ⊢
  refine kk H1 _ ls ⟨?_, fun hc => by rw [e2]; exact hP.2 hc⟩ (hS.put e2 e3 (by show en.2.2.1 ≤ _; omega)) hl
  have hP1 := hP.1.set (pl_D en z.1 μ) hpl (e := .inr (t - 1, (flds en.2.2.1 (fk t) (μ a)).set k v)) ⟨_, h1, t_OB.to (V := updV (vp_V _) k v) ⟨_, e1, q2, q3, t_set q4 hap h2 v⟩ (fun j _ => vp_updV_set hlen v j)⟩ e3
  rw [← hV, flds_set hk] at hP1
  rw [hμ, ← pl_set (μ := μ) hin (e := .inr (t - 1, flds en.2.2.1 (fk t) (fun j => if j = (k : Int) then x else μ a j))) (by rw [ha, cell_obj en _ _ h20, mset_at]) (fun b hb => mset_off μ hb)]
  exact hP1
theorem r_putF (Ra : Ru ini res l en cc own nL R K) {i t k kd : Nat} {a x : Int} {fty : FieldType} {μ1 : Mem} (hμ : μ1 = mset μ a k x) (hin : 0 ≤ a ∧ a < z.1) (ha : ty a = t) (h20 : t < 20) (hk : (fk t)[k]? = some kd) (hV : toV en.2.2.1 kd x = v) (hf : FL own i t k) (hp : FP t k true fty) (hn : narrow fty v = v) (hfit : fits fty v = true) (hini : ini = true) (hdecl : ∀ C T N, vwCl[t - 1]? = some (C, T, N) → (T k).1 = own) (hd : decode cc pc = .ok (.putfield i, 3)) (kk : K z (pc + 3) L (st) μ1) : K z pc L (v :: vA en a :: st) μ := by
  obtain ⟨p, e, s, m, args, below, meth, c, Q, hx, hb, hml, hown, hts, hTB, hA, hni, hres, rfl⟩ := Ra
  intro H locs ls hP hS hl
  obtain ⟨C, T, N, h1, h2, h3, h4⟩ := hf
  obtain ⟨C9, T9, N9, ty0, g1, g2, g3, g4, g5, g6⟩ := hp
  rw [h1] at g1
  cases g1
  have hpl := (pl_get (en := en) (μ := μ) hin ha).trans (by rw [cell_obj en _ _ h20])
  have hap := va_apart (own := own) hts h3 ty0 g3 g4 hTB.1 h1
  obtain ⟨r, q0, cell, q1, q2, q3, q4⟩ := hP.1 a.toNat _ hpl
  rw [h1] at q0
  cases q0
  obtain ⟨hS9, hfc, kC, hkC, hkind⟩ := hTB.1.1 (t - 1) _ h1
  obtain ⟨cf, kf, fi, f, hi, hsl⟩ := hS9 k h2
  have hlay := hts _ (h3 _ (u_in_lay h2))
  unfold u_lay at hlay
  rw [if_pos g5] at hlay
  have hst := (u_facts hfc hkC (u_lays hts h3 h2) hi).1
  have hlen : k < (flds en.2.2.1 (fk t) (μ a)).length := by rw [show (flds en.2.2.1 (fk t) (μ a)).length = (fk t).length by simp [flds]]; exact (List.getElem?_eq_some_iff.mp hk).1
  have hin2 := hni hini
  have hcf : m.cls = cf := by
    obtain ⟨_, _, c9, _, _, _, -, -, hf9, -, -, -, hown2, -⟩ := Cond.laysFinal_spec hlay
    have e1 : c9 = cf := by have := hi.symm.trans hf9; simp at this; exact this.1.symm
    rw [hdecl _ _ _ h1] at hown2
    rw [← e1]; exact Option.some.inj (hown.symm.trans hown2)
  have h6 := u_fits hfc hkC hkind (Or.inr hlay) hi g6 hn hfit
  refine W.putFinK hx hb hown (hts _ h4) hi hst hcf hin2 (by rw [q2]; exact h6) q1 q3 (by rw [hsl]; exact k2_hasslot (q4 k h2)) rfl rfl hd fun H1 e1 e2 e3 => ?_
  rw [hsl] at e1 ⊢
  refine kk H1 _ ls ⟨?_, fun hc => by rw [e2]; exact hP.2 hc⟩ (hS.put e2 e3 (by show en.2.2.1 ≤ _; omega)) hl
  have hP1 := hP.1.set (pl_D en z.1 μ) hpl (e := .inr (t - 1, (flds en.2.2.1 (fk t) (μ a)).set k v)) ⟨_, h1, t_OB.to (V := updV (vp_V _) k v) ⟨_, e1, q2, q3, t_set q4 hap h2 v⟩ (fun j _ => vp_updV_set hlen v j)⟩ e3
  rw [← hV, flds_set hk] at hP1
  rw [hμ, ← pl_set (μ := μ) hin (e := .inr (t - 1, flds en.2.2.1 (fk t) (fun j => if j = (k : Int) then x else μ a j))) (by rw [ha, cell_obj en _ _ h20, mset_at]) (fun b hb => mset_off μ hb)]
  exact hP1
theorem idx_eq {i : Int} (h0 : 0 ≤ i) (h1 : i < 65536) : (Int32.ofInt i).toNatClampNeg = i.toNat := by
  show (Int32.ofInt i).toInt.toNat = i.toNat
  rw [to32 ⟨by omega, by omega⟩]
theorem idx_in {i n : Int} (h0 : 0 ≤ i ∧ i < n) (h1 : n < 65536) : vp_in (Int32.ofInt i) n.toNat := by
  intro q
  rcases q with q | q
  · have := (lt32 (x := i) (y := 0) ⟨by omega, by omega⟩ ⟨by decide, by decide⟩).mp q
    omega
  · rw [idx_eq h0.1 (by omega)] at q
    omega
theorem cell20 (en : En) (n : Int) (row : Int → Int) : cellOf en 20 n row = .inl (en.2.1 0, n.toNat, .inl (fun j => Int32.ofInt (row j))) := rfl
theorem cell21 (en : En) (n : Int) (row : Int → Int) : cellOf en 21 n row = .inl (en.2.1 1, n.toNat, .inl (fun j => Int32.ofInt (row j))) := rfl
theorem cell22 (en : En) (n : Int) (row : Int → Int) : cellOf en 22 n row = .inl (en.2.1 2, n.toNat, .inr (.inl (fun j => Int64.ofInt (row j)))) := rfl
theorem upd_row {i : Int} (h0 : 0 ≤ i) (h1 : i < 65536) (row : Int → Int) (x : Int) : upd (fun j : Nat => Int32.ofInt (row j)) (Int32.ofInt i).toNatClampNeg (Int32.ofInt x) = fun j : Nat => Int32.ofInt (if (j : Int) = i then x else row j) := by
  rw [idx_eq h0 h1]
  funext j
  unfold upd
  by_cases h : j = i.toNat
  · rw [if_pos h, if_pos (by omega)]
  · rw [if_neg h, if_neg (by omega)]
theorem updL_row {i : Int} (h0 : 0 ≤ i) (h1 : i < 65536) (row : Int → Int) (x : Int) : vp_updL (fun j : Nat => Int64.ofInt (row j)) (Int32.ofInt i).toNatClampNeg (Int64.ofInt x) = fun j : Nat => Int64.ofInt (if (j : Int) = i then x else row j) := by
  rw [idx_eq h0 h1]
  funext j
  unfold vp_updL
  by_cases h : j = i.toNat
  · rw [if_pos h, if_pos (by omega)]
  · rw [if_neg h, if_neg (by omega)]
theorem narZ {x : Int} (h : x = 0 ∨ x = 1) : vp_nar .boolean (Int32.ofInt x) = Int32.ofInt x := by rcases h with rfl | rfl <;> decide
theorem r_iald (Ra : Ru ini res l en cc own nL R K) {a i : Int} (hin : 0 ≤ a ∧ a < z.1) (ha : ty a = 20) (hi : 0 ≤ i ∧ i < ln a) (hd : decode cc pc = .ok (.iaload, 1)) (kk : K z (pc + 1) L (vI (μ a i) :: st) μ) : K z pc L (vI i :: vA en a :: st) μ := by
  obtain ⟨p, e, s, m, args, below, meth, c, Q, hx, hb, hml, hown, hts, hTB, hA, hni, hres, rfl⟩ := Ra
  intro H locs ls hP hS hl
  have hb9 := (ln_ok a).2
  refine va_iald hx hb hTB.1 hP.1 a.toNat 0 ((pl_get hin ha).trans (by rw [cell20])) rfl (idx_in hi hb9) hd ?_
  rw [idx_eq hi.1 (by omega), show ((i.toNat : Nat) : Int) = i from Int.toNat_of_nonneg hi.1]
  exact kk H locs ls hP hS hl
theorem r_zald (Ra : Ru ini res l en cc own nL R K) {a i : Int} (hin : 0 ≤ a ∧ a < z.1) (ha : ty a = 21) (hi : 0 ≤ i ∧ i < ln a) (hd : decode cc pc = .ok (.baload, 1)) (kk : K z (pc + 1) L (vI (μ a i) :: st) μ) : K z pc L (vI i :: vA en a :: st) μ := by
  obtain ⟨p, e, s, m, args, below, meth, c, Q, hx, hb, hml, hown, hts, hTB, hA, hni, hres, rfl⟩ := Ra
  intro H locs ls hP hS hl
  have hb9 := (ln_ok a).2
  refine va_zald hx hb hTB.1 hP.1 a.toNat 1 ((pl_get hin ha).trans (by rw [cell21])) rfl (idx_in hi hb9) hd ?_
  rw [idx_eq hi.1 (by omega), show ((i.toNat : Nat) : Int) = i from Int.toNat_of_nonneg hi.1]
  exact kk H locs ls hP hS hl
theorem r_lald (Ra : Ru ini res l en cc own nL R K) {a i : Int} (hin : 0 ≤ a ∧ a < z.1) (ha : ty a = 22) (hi : 0 ≤ i ∧ i < ln a) (hd : decode cc pc = .ok (.laload, 1)) (kk : K z (pc + 1) L (vJ (μ a i) :: st) μ) : K z pc L (vI i :: vA en a :: st) μ := by
  obtain ⟨p, e, s, m, args, below, meth, c, Q, hx, hb, hml, hown, hts, hTB, hA, hni, hres, rfl⟩ := Ra
  intro H locs ls hP hS hl
  have hb9 := (ln_ok a).2
  refine va_lald hx hb hTB.1 hP.1 a.toNat 2 ((pl_get hin ha).trans (by rw [cell22])) rfl (idx_in hi hb9) hd ?_
  rw [idx_eq hi.1 (by omega), show ((i.toNat : Nat) : Int) = i from Int.toNat_of_nonneg hi.1]
  exact kk H locs ls hP hS hl
theorem r_iast (Ra : Ru ini res l en cc own nL R K) {a i x : Int} {μ1 : Mem} (hμ : μ1 = mset μ a i x) (hz : ¬ z.1 < nCells) (hin : 0 ≤ a ∧ a < z.1) (ha : ty a = 20) (hi : 0 ≤ i ∧ i < ln a) (hd : decode cc pc = .ok (.iastore, 1)) (kk : K z (pc + 1) L (st) μ1) : K z pc L (vI x :: vI i :: vA en a :: st) μ := by
  obtain ⟨p, e, s, m, args, below, meth, c, Q, hx, hb, hml, hown, hts, hTB, hA, hni, hres, rfl⟩ := Ra
  intro H locs ls hP hS hl
  have hb9 := (ln_ok a).2
  refine va_iast hx hb hTB.1 hP.1 (pl_D en z.1 μ) hS a.toNat 0 ((pl_get hin ha).trans (by rw [cell20])) rfl (idx_in hi hb9) hd (fun H1 locs1 hP1 hD1 hS1 => ?_)
  refine kk H1 locs1 ls ⟨?_, fun q => absurd q hz⟩ hS1 hl
  rw [upd_row hi.1 (by omega)] at hP1
  rw [hμ, ← pl_set (μ := μ) hin (e := cellOf en 20 (ln a) (fun j => if j = i then x else μ a j)) (by rw [ha, mset_at]) (fun b hb => mset_off μ hb), cell20]
  exact hP1
theorem r_zast (Ra : Ru ini res l en cc own nL R K) {a i x : Int} {μ1 : Mem} (hμ : μ1 = mset μ a i x) (hz : ¬ z.1 < nCells) (hin : 0 ≤ a ∧ a < z.1) (ha : ty a = 21) (hi : 0 ≤ i ∧ i < ln a) (hx01 : x = 0 ∨ x = 1) (hd : decode cc pc = .ok (.bastore, 1)) (kk : K z (pc + 1) L (st) μ1) : K z pc L (vI x :: vI i :: vA en a :: st) μ := by
  obtain ⟨p, e, s, m, args, below, meth, c, Q, hx, hb, hml, hown, hts, hTB, hA, hni, hres, rfl⟩ := Ra
  intro H locs ls hP hS hl
  have hb9 := (ln_ok a).2
  refine va_zast hx hb hTB.1 hP.1 (pl_D en z.1 μ) hS a.toNat 1 ((pl_get hin ha).trans (by rw [cell21])) rfl (idx_in hi hb9) hd (fun H1 locs1 hP1 hD1 hS1 => ?_)
  refine kk H1 locs1 ls ⟨?_, fun q => absurd q hz⟩ hS1 hl
  rw [narZ hx01] at hP1
  rw [upd_row hi.1 (by omega)] at hP1
  rw [hμ, ← pl_set (μ := μ) hin (e := cellOf en 21 (ln a) (fun j => if j = i then x else μ a j)) (by rw [ha, mset_at]) (fun b hb => mset_off μ hb), cell21]
  exact hP1
theorem r_last (Ra : Ru ini res l en cc own nL R K) {a i x : Int} {μ1 : Mem} (hμ : μ1 = mset μ a i x) (hz : ¬ z.1 < nCells) (hin : 0 ≤ a ∧ a < z.1) (ha : ty a = 22) (hi : 0 ≤ i ∧ i < ln a) (hd : decode cc pc = .ok (.lastore, 1)) (kk : K z (pc + 1) L (st) μ1) : K z pc L (vJ x :: vI i :: vA en a :: st) μ := by
  obtain ⟨p, e, s, m, args, below, meth, c, Q, hx, hb, hml, hown, hts, hTB, hA, hni, hres, rfl⟩ := Ra
  intro H locs ls hP hS hl
  have hb9 := (ln_ok a).2
  refine va_last hx hb hTB.1 hP.1 (pl_D en z.1 μ) hS a.toNat 2 ((pl_get hin ha).trans (by rw [cell22])) rfl (idx_in hi hb9) hd (fun H1 locs1 hP1 hD1 hS1 => ?_)
  refine kk H1 locs1 ls ⟨?_, fun q => absurd q hz⟩ hS1 hl
  rw [updL_row hi.1 (by omega)] at hP1
  rw [hμ, ← pl_set (μ := μ) hin (e := cellOf en 22 (ln a) (fun j => if j = i then x else μ a j)) (by rw [ha, mset_at]) (fun b hb => mset_off μ hb), cell22]
  exact hP1
theorem r_alen (Ra : Ru ini res l en cc own nL R K) {a : Int} (hin : 0 ≤ a ∧ a < z.1) (ha : ty a = 20) (hd : decode cc pc = .ok (.arraylength, 1)) (kk : K z (pc + 1) L (vI (ln a) :: st) μ) : K z pc L (vA en a :: st) μ := by
  obtain ⟨p, e, s, m, args, below, meth, c, Q, hx, hb, hml, hown, hts, hTB, hA, hni, hres, rfl⟩ := Ra
  intro H locs ls hP hS hl
  refine va_alen hx hb hTB.1 hP.1 a.toNat 0 ((pl_get hin ha).trans (by rw [cell20])) rfl (v := Int32.ofInt (ln a)) ?_ hd (kk H locs ls hP hS hl)
  show Int32.ofNat (ln a).toNat = _
  have := (ln_ok a).1
  rw [← Int32.ofInt_eq_ofNat, Int.toNat_of_nonneg this]
theorem cellR (en : En) {t : Nat} (n : Int) (row : Int → Int) (h : t = 23 ∨ t = 24 ∨ t = 25) : cellOf en t n row = .inl (en.2.1 (t - 20), n.toNat, .inr (.inr (.inr (.inr (fun j => toR en.2.2.1 (row j)))))) := by
  rcases h with rfl | rfl | rfl <;> rfl
theorem r_aald (Ra : Ru ini res l en cc own nL R K) {a i b : Int} {t : Nat} (hin : 0 ≤ a ∧ a < z.1) (ha : ty a = t) (ht : t = 23 ∨ t = 24 ∨ t = 25) (hi : 0 ≤ i ∧ i < ln a) (hb0 : μ a i = b) (hb1 : 0 ≤ b) (hd : decode cc pc = .ok (.aaload, 1)) (kk : K z (pc + 1) L (vA en b :: st) μ) : K z pc L (vI i :: vA en a :: st) μ := by
  obtain ⟨p, e, s, m, args, below, meth, c, Q, hx, hb, hml, hown, hts, hTB, hA, hni, hres, rfl⟩ := Ra
  intro H locs ls hP hS hl
  have hb9 := (ln_ok a).2
  have hc := hP.1 a.toNat _ ((pl_get hin ha).trans (by rw [cellR en _ _ ht]))
  have hT : ∃ fty, (eT en)[t - 20]? = some (en.2.1 (t - 20), fty) ∧ fty.isReference = true := by
    rcases ht with rfl | rfl | rfl <;> exact ⟨_, rfl, rfl⟩
  obtain ⟨fty, hT1, hT2⟩ := hT
  have hlt : (Int32.ofInt i).toNatClampNeg < (ln a).toNat := by rw [idx_eq hi.1 (by omega)]; omega
  refine W.aald (v := vA en b) hx hb hc ((hTB.1.2 _ _ hT1).1 (ln a).toNat (fun j => va_rf (toR en.2.2.1 (μ a j)))) hT2 (fun q => by cases q) (by show ¬ (_ ∨ (arrV _ _ _).slots.size ≤ _); rw [arrV_size]; exact idx_in hi hb9) ?_ rfl rfl hd (kk H locs ls hP hS hl)
  show (arrV _ _ _).slots[_]? = _
  rw [arrV_read _ _ hlt, idx_eq hi.1 (by omega)]
  show some (va_rf (toR en.2.2.1 (μ a ((i.toNat : Nat) : Int)))) = _
  rw [show ((i.toNat : Nat) : Int) = i from Int.toNat_of_nonneg hi.1, hb0]
  unfold toR
  rw [if_neg (by omega)]
  rfl
theorem r_mmax (Ra : Ru ini res l en cc own nL R K) {x y : Int} {i : Nat} (hx0 : inR x) (hy0 : inR y) (hl1 : Cond.methodLink own i Lib.Math.max.name ∈ GW) (hl2 : Cond.static Lib.Math.max.name ∈ GW) (hl3 : Cond.initialized "java/lang/Math" ∈ GW) (hl4 : Cond.code Lib.Math.max.name Lib.Math.max.code 2 (some .int) ∈ GW) (hr1 : 1 ≤ R.frames) (hr2 : (st.map fun v => v.category).sum + 13 ≤ R.locals) (hr3 : z.2.1 ≤ R.cells ∧ z.2.2 ≤ R.slots) (hd : decode cc pc = .ok (.invokestatic i, 3)) (kk : K z (pc + 3) L (vI (max x y) :: st) μ) : K z pc L (vI y :: vI x :: st) μ := by
  obtain ⟨p, e, s, m, args, below, meth, c, Q, hx, hb, hml, hown, hts, hTB, hA, hni, hres, rfl⟩ := Ra
  intro H locs ls hP hS hl
  refine va_mmax hx hb (hml.trans hl.1.symm) hown (hts _ hl1) (hts _ hl2) (hts _ hl3) (hts _ hl4) hr1 hr2 hr3.1 hr3.2 hd ?_
  have e : (if Int32.ofInt x < Int32.ofInt y then Int32.ofInt y else Int32.ofInt x) = Int32.ofInt (max x y) := by
    by_cases h : x < y
    · rw [if_pos ((lt32 hx0 hy0).mpr h)]; congr 1; omega
    · rw [if_neg (fun q => h ((lt32 hx0 hy0).mp q))]; congr 1; omega
  rw [e]
  exact kk H locs ls hP hS hl
theorem r_mmaxJ (Ra : Ru ini res l en cc own nL R K) {x y : Int} {i : Nat} (hx0 : inL x) (hy0 : inL y) (hl1 : Cond.methodLink own i Lib.MathLoose.max_long.x ∈ GW) (hl2 : Cond.static Lib.MathLoose.max_long.x ∈ GW) (hl3 : Cond.initialized "java/lang/Math" ∈ GW) (hl4 : Cond.code Lib.MathLoose.max_long.x Lib.MathLoose.max_long.code 4 (some .long) ∈ GW) (hr1 : 1 ≤ R.frames) (hr2 : (st.map fun v => v.category).sum + 15 ≤ R.locals) (hr3 : z.2.1 ≤ R.cells ∧ z.2.2 ≤ R.slots) (hd : decode cc pc = .ok (.invokestatic i, 3)) (kk : K z (pc + 3) L (vJ (max x y) :: st) μ) : K z pc L (vJ y :: vJ x :: st) μ := by
  obtain ⟨p, e, s, m, args, below, meth, c, Q, hx, hb, hml, hown, hts, hTB, hA, hni, hres, rfl⟩ := Ra
  intro H locs ls hP hS hl
  refine va_mmax_long hx hb (hml.trans hl.1.symm) hown (hts _ hl1) (hts _ hl2) (hts _ hl3) (hts _ hl4) hr1 hr2 hr3.1 hr3.2 hd ?_
  have e : (if Int64.ofInt y < Int64.ofInt x then Int64.ofInt x else Int64.ofInt y) = Int64.ofInt (max x y) := by
    by_cases h : y < x
    · rw [if_pos ((lt64 hy0 hx0).mpr h)]; congr 1; omega
    · rw [if_neg (fun q => h ((lt64 hy0 hx0).mp q))]; congr 1; omega
  rw [e]
  exact kk H locs ls hP hS hl
theorem r_mmin (Ra : Ru ini res l en cc own nL R K) {x y : Int} {i : Nat} (hx0 : inR x) (hy0 : inR y) (hl1 : Cond.methodLink own i Lib.Math.min.name ∈ GW) (hl2 : Cond.static Lib.Math.min.name ∈ GW) (hl3 : Cond.initialized "java/lang/Math" ∈ GW) (hl4 : Cond.code Lib.Math.min.name Lib.Math.min.code 2 (some .int) ∈ GW) (hr1 : 1 ≤ R.frames) (hr2 : (st.map fun v => v.category).sum + 13 ≤ R.locals) (hr3 : z.2.1 ≤ R.cells ∧ z.2.2 ≤ R.slots) (hd : decode cc pc = .ok (.invokestatic i, 3)) (kk : K z (pc + 3) L (vI (min x y) :: st) μ) : K z pc L (vI y :: vI x :: st) μ := by
  obtain ⟨p, e, s, m, args, below, meth, c, Q, hx, hb, hml, hown, hts, hTB, hA, hni, hres, rfl⟩ := Ra
  intro H locs ls hP hS hl
  refine va_mmin hx hb (hml.trans hl.1.symm) hown (hts _ hl1) (hts _ hl2) (hts _ hl3) (hts _ hl4) hr1 hr2 hr3.1 hr3.2 hd ?_
  have e : (if Int32.ofInt y < Int32.ofInt x then Int32.ofInt y else Int32.ofInt x) = Int32.ofInt (min x y) := by
    by_cases h : y < x
    · rw [if_pos ((lt32 hy0 hx0).mpr h)]; congr 1; omega
    · rw [if_neg (fun q => h ((lt32 hy0 hx0).mp q))]; congr 1; omega
  rw [e]
  exact kk H locs ls hP hS hl
theorem r_mminJ (Ra : Ru ini res l en cc own nL R K) {x y : Int} {i : Nat} (hx0 : inL x) (hy0 : inL y) (hl1 : Cond.methodLink own i Lib.MathLoose.min_long.x ∈ GW) (hl2 : Cond.static Lib.MathLoose.min_long.x ∈ GW) (hl3 : Cond.initialized "java/lang/Math" ∈ GW) (hl4 : Cond.code Lib.MathLoose.min_long.x Lib.MathLoose.min_long.code 4 (some .long) ∈ GW) (hr1 : 1 ≤ R.frames) (hr2 : (st.map fun v => v.category).sum + 15 ≤ R.locals) (hr3 : z.2.1 ≤ R.cells ∧ z.2.2 ≤ R.slots) (hd : decode cc pc = .ok (.invokestatic i, 3)) (kk : K z (pc + 3) L (vJ (min x y) :: st) μ) : K z pc L (vJ y :: vJ x :: st) μ := by
  obtain ⟨p, e, s, m, args, below, meth, c, Q, hx, hb, hml, hown, hts, hTB, hA, hni, hres, rfl⟩ := Ra
  intro H locs ls hP hS hl
  refine va_mmin_long hx hb (hml.trans hl.1.symm) hown (hts _ hl1) (hts _ hl2) (hts _ hl3) (hts _ hl4) hr1 hr2 hr3.1 hr3.2 hd ?_
  have e : (if Int64.ofInt y < Int64.ofInt x then Int64.ofInt y else Int64.ofInt x) = Int64.ofInt (min x y) := by
    by_cases h : y < x
    · rw [if_pos ((lt64 hy0 hx0).mpr h)]; congr 1; omega
    · rw [if_neg (fun q => h ((lt64 hy0 hx0).mp q))]; congr 1; omega
  rw [e]
  exact kk H locs ls hP hS hl
theorem r_copy (Ra : Ru ini res l en cc own nL R K) {a b sp dp n : Int} {i : Nat} {μ1 : Mem} (hμ : μ1 = mcpy μ a sp b dp n) (hz : ¬ z.1 < nCells) (hia : 0 ≤ a ∧ a < z.1) (hib : 0 ≤ b ∧ b < z.1) (ha : ty a = 20) (hb0 : ty b = 20) (h1 : 0 ≤ sp ∧ 0 ≤ dp ∧ 0 ≤ n) (h2 : sp + n ≤ ln a) (h3 : dp + n ≤ ln b) (hl1 : Cond.methodLink own i arraycopyName ∈ GW) (hl2 : Cond.native arraycopyName ∈ GW) (hl3 : Cond.static arraycopyName ∈ GW) (hl4 : Cond.initialized "java/lang/System" ∈ GW) (hr1 : 1 ≤ R.frames) (hr2 : (st.map fun v => v.category).sum + (nativeFrameWords "java/lang/System" "arraycopy" 5 + 11) ≤ R.locals) (hd : decode cc pc = .ok (.invokestatic i, 3)) (kk : K z (pc + 3) L (st) μ1) : K z pc L (vI n :: vI dp :: vA en b :: vI sp :: vA en a :: st) μ := by
  obtain ⟨p, e, s, m, args, below, meth, c, Q, hx, hb, hml, hown, hts, hTB, hA, hni, hres, rfl⟩ := Ra
  intro H locs ls hP hS hl
  have hba := (ln_ok a).2
  have hbb := (ln_ok b).2
  have nn : ∀ x : Int, 0 ≤ x → x < 65536 → ¬ Int32.ofInt x < 0 := fun x g1 g2 q => by
    have := (lt32 (x := x) (y := 0) ⟨by omega, by omega⟩ ⟨by decide, by decide⟩).mp q
    omega
  refine va_copyi hx hb (hml.trans hl.1.symm) hown (hts _ hl1) (hts _ hl2) (hts _ hl3) (hts _ hl4) hTB.1 hP.1 (pl_D en z.1 μ) hS a.toNat b.toNat 0 0 (ty := .int) ((pl_get hia ha).trans (by rw [cell20])) ((pl_get hib hb0).trans (by rw [cell20])) rfl rfl rfl (nn sp (by omega) (by omega)) (nn dp (by omega) (by omega)) (nn n (by omega) (by omega)) (by rw [idx_eq (by omega) (by omega), idx_eq (by omega) (by omega)]; omega) (by rw [idx_eq (by omega) (by omega), idx_eq (by omega) (by omega)]; omega) (fun _ _ => rfl) hr1 hr2 hd (fun H1 locs1 hP1 hD1 hS1 => ?_)
  refine kk H1 locs1 ls ⟨?_, fun q => absurd q hz⟩ hS1 hl
  rw [idx_eq (i := sp) (by omega) (by omega), idx_eq (i := dp) (by omega) (by omega), idx_eq (i := n) (by omega) (by omega)] at hP1
  rw [hμ, ← pl_set (μ := μ) hib (e := cellOf en 20 (ln b) (mcpy μ a sp b dp n b)) (by rw [hb0]) (fun c hc => mcpy_off μ hc), cell20]
  have e : (va_cpy (fun j : Nat => Int32.ofInt (μ a j)) (fun j : Nat => Int32.ofInt (μ b j)) sp.toNat dp.toNat n.toNat) = fun j : Nat => Int32.ofInt (mcpy μ a sp b dp n b j) := by
    funext j
    unfold va_cpy mcpy
    by_cases h : dp.toNat ≤ j ∧ j < dp.toNat + n.toNat
    · rw [if_pos h, if_pos ⟨rfl, by omega, by omega⟩]
      have e2 : ((sp.toNat + (j - dp.toNat) : Nat) : Int) = sp + ((j : Int) - dp) := by omega
      show Int32.ofInt (μ a ((sp.toNat + (j - dp.toNat) : Nat) : Int)) = _
      rw [e2]
    · rw [if_neg h, if_neg (fun q => h ⟨by omega, by omega⟩)]
  rw [e] at hP1
  exact hP1
end RULES
theorem Wd.le {en : En} {cnt : Nat} {μ : Mem} {H : Heap} (h : Wd en cnt μ H) : en.2.2.1 ≤ H.size := by
  by_cases h0 : cnt = 0
  · have := h.2 (by rw [h0]; decide)
    omega
  · have h1 := (h.1 0 _ (by unfold pl; rw [List.getElem?_map, List.getElem?_range (by omega)]; rfl)).lt
    have h2 : en.2.2.1 + 0 < H.size := h1
    omega
def Pw (en : En) (cnt : Nat) (μ : Mem) (U : State) : Prop := Wd en cnt μ U.heap ∧ TB en U
def wsM (y : MethodName) (cc : ByteArray) (nL : Nat) (ret : Option FieldType) : List Cond := Cond.code y cc nL ret :: GW
/-- THE CONTRACT: y, called with As in the memory μ of cnt cells, comes to the end ρ -/
def Tr (l : Launch) (en : En) (y : MethodName) (cc : ByteArray) (nL : Nat) (rm : Room) (As : List Value) (cnt : Nat) (μ : Mem) (ρ : Rs) : Prop :=
  Met l y (wsM y cc nL ρ.1) rm (va_Pc As (Pw en cnt μ)) (QcM en ρ) ρ.2.2.2.2.1 ρ.2.2.2.2.2.1 (eA en)
def loL : Nat → List Value → List (Nat × Value)
  | _, [] => []
  | i, v :: vs => if v.category = 2 then (i, v) :: (i + 1, mark) :: loL (i + 2) vs else (i, v) :: loL (i + 1) vs
theorem loL_mem : ∀ (vs : List Value) (i j : Nat) (v : Value), (j, v) ∈ loL i vs → v ≠ mark → (j, v) ∈ lv_args i vs
  | [], _, _, _, h, _ => by cases h
  | w :: vs, i, j, v, h, hm => by
    unfold loL at h
    unfold lv_args
    by_cases hc : w.category = 2
    · rw [if_pos hc] at h
      rw [if_pos hc]
      rcases List.mem_cons.mp h with h | h
      · rw [h]; exact List.mem_cons_self
      · rcases List.mem_cons.mp h with h | h
        · cases h; exact absurd rfl hm
        · exact List.mem_cons_of_mem _ (loL_mem vs _ j v h hm)
    · rw [if_neg hc] at h
      rw [if_neg hc]
      rcases List.mem_cons.mp h with h | h
      · rw [h]; exact List.mem_cons_self
      · exact List.mem_cons_of_mem _ (loL_mem vs _ j v h hm)
def lo0 (As : List Value) : Lo := fun i => ((loL 0 As).find? (fun q => q.1 == i)).map (·.2)
theorem Tr.of {l : Launch} {en : En} {y : MethodName} {cc : ByteArray} {nL : Nat} {rm : Room} {As : List Value} {cnt : Nat} {μ : Mem} {ρ : Rs} (ini : Bool) (hini : ini = true → y.name = "<init>") (hy : plainName y.cls = true) (hAs : (lg_sl As).length ≤ nL)
    (k : ∀ K : KT, Ru ini (some ρ) l en cc y.cls nL rm K → K (cnt, 0, 0) 0 (lo0 As) [] μ) : Tr l en y cc nL rm As cnt μ ρ := by
  refine Met.ofW (cc := cc) (maxL := nL) (ret := ρ.1) hy rfl ?_
  intro p e s m args below meth c s₁ B hml hv
  obtain ⟨rfl, hP, hTB⟩ := hv
  have hts := atoms_spec (ws := wsM y cc nL ρ.1) B.pre
  have h := k _ ⟨p, e, s, m, As.toArray, below, meth, c, _, B.exec, B.bytes, hml, findClass_of_methodNamed B.named, fun w hw => hts w (List.mem_cons_of_mem _ hw), hTB, fun q hq => Nat.le_trans hP.le hq, fun hi => (name_of_methodNamed B.named B.method).1.trans (hini hi), fun ρ' h' => by cases h'; exact ⟨B.returns, B.notSynchronized, rfl⟩, rfl⟩ s.heap [] _ hP va_S.rf (?_ : lh ((lg_sl As ++ List.replicate (nL - (lg_sl As).length) Slot.unset).toArray) nL _)
  · rw [lg_entry_eq]
    exact h
  · have hl := lv_entry As (n := nL) hAs
    refine ⟨hl.1, hl.2.1, fun i v hv => ?_⟩
    obtain ⟨hv, hm, -⟩ := hv
    unfold lo0 at hv
    cases hf : (loL 0 As).find? (fun q => q.1 == i) with
    | none => rw [hf] at hv; cases hv
    | some q =>
      rw [hf] at hv
      cases hv
      have h1 := List.find?_some hf
      have h2 := List.mem_of_find?_eq_some hf
      have h3 := hl.2.2 q (loL_mem As 0 q.1 q.2 h2 hm)
      have h4 : q.1 = i := by simpa using h1
      rw [← h4]
      exact h3
theorem Pw.blind {en : En} {cnt : Nat} {μ : Mem} {As : List Value} : FrameBlind (va_Pc As (Pw en cnt μ)) := fun a U g mk q => ⟨q.1, q.2.1, TB.same (u := U) rfl rfl q.2.2⟩
/-- what the tables say of a method: its code, its class, its parameters' number -/
def Mw (y : MethodName) (cc : ByteArray) (nL : Nat) (ret : Option FieldType) (n : Nat) : Prop := Cond.code y cc nL ret ∈ GW ∧ Cond.initialized y.cls ∈ GW ∧ y.cls ≠ "java/lang/invoke/MethodHandle" ∧ y.cls ≠ "java/lang/invoke/VarHandle" ∧ (parseMethodDescriptor y.desc).map (fun d => d.parameters.length) = some n
def Mi (y : MethodName) : Prop := Cond.instanceMethod y ∈ GW ∧ Cond.selects y.cls y y ∈ GW
theorem gwIn {w : Cond} (h : w ∈ GW) {ws : List Cond} (hw : ∀ x ∈ ws, x ∈ GW) : GoodIn GW (w :: ws) := fun x hx => by
  rcases List.mem_cons.mp hx with rfl | hx
  · exact ⟨h, gw_good h⟩
  · exact ⟨hw x hx, gw_good (hw x hx)⟩
section CALLS
variable {ini : Bool} {res : Option Rs} {l : Launch} {en : En} {cc : ByteArray} {own : String} {nL : Nat} {R : Room} {K : KT} {z : Zt} {pc : Nat} {L : Lo} {st stk : List Value} {μ : Mem}
variable {y : MethodName} {ccY : ByteArray} {nLY n i : Nat} {rmY : Room} {As : List Value} {a : Int} {t : Nat} {ρ : Rs}
theorem r_callV (Ra : Ru ini res l en cc own nL R K) (hM : Tr l en y ccY nLY rmY (vA en a :: As) z.1 μ ρ) (hw : Mw y ccY nLY ρ.1 n) (hi : Mi y) (hin : 0 ≤ a ∧ a < z.1) (ha : ty a = t) (h20 : t < 20) (hC : (vwCl[t - 1]?).map (fun q => q.1) = some y.cls) (hn : As.length = n) (hstk : stk = As.reverse ++ vA en a :: st) (hlk : Cond.methodLink own i y ∈ GW) (hrm : rmY.cells = ρ.2.2.2.2.1 ∧ rmY.slots = ρ.2.2.2.2.2.1 ∧ rmY.frames + 1 ≤ R.frames ∧ 8 + (nLY + 11) + rmY.locals ≤ R.locals) (hf : z.2.1 + ρ.2.2.2.2.1 ≤ R.cells ∧ z.2.2 + ρ.2.2.2.2.2.1 ≤ R.slots) (hst : (st.map fun v => v.category).sum ≤ 8) (hd : decode cc pc = .ok (.invokevirtual i, 3)) (kk : ρ.2.2.2.2.2.2 → K (ρ.2.2.1, z.2.1 + ρ.2.2.2.2.1, z.2.2 + ρ.2.2.2.2.2.1) (pc + 3) L (ρ.2.1.toList ++ st) ρ.2.2.2.1) : K z pc L stk μ := by
  obtain ⟨p, e, s, m, args, below, meth, c, Q, hx, hb, hml, hown, hts, hTB, hA, hni, hres, rfl⟩ := Ra
  intro H locs ls hP hS hl
  have hG : GoodIn GW (wsM y ccY nLY ρ.1) := gwIn hw.1 (fun x hx => hx)
  have cb := callB_of (own := own) (index := i) (args := args) (R := R) n hts hG rfl hrm.1 hrm.2.1 (hts _ hw.2.1) (hts _ hlk) ⟨hw.2.2.1, hw.2.2.2.1, hw.2.2.2.2⟩ ⟨hrm.2.2.1, hrm.2.2.2⟩
  have hPc : ∀ U : State, U.heap = H → s.WarmedH U.vm → va_Pc (vA en a :: As) (Pw en z.1 μ) (vA en a :: As).toArray U := fun U hU hW => ⟨rfl, by rw [hU]; exact hP, hTB.warm hW hS hU⟩
  have hrecv : ∃ cell : Cell, H[en.2.2.1 + a.toNat]? = some cell ∧ cell.vm.isStatics = false ∧ s.vm.findClass y.cls = some cell.cls := by
    cases hv : vwCl[t - 1]? with
    | none => rw [hv] at hC; cases hC
    | some q =>
      rw [hv] at hC
      have hC1 : q.1 = y.cls := Option.some.inj hC
      have h9 := va_recv hTB.1 hP.1 hv ((pl_get hin ha).trans (by rw [cell_obj en _ _ h20]))
      rw [hC1] at h9
      exact h9
  have hrun := va_runV (As := As) (rest := st) (H := H) (locs := locs) (cells := z.2.1) (slots := z.2.2) (e := e) (below := below) (meth := meth) (g := F0 m pc ls stk) ⟨hx, hb, hml, hown, hts⟩ hM ⟨cb, hts _ hi.1, hts _ hi.2⟩ ⟨Pw.blind, hrecv, hPc⟩ rfl hn hl.1 hstk (lv_room hst) hd hf
  intro T hT X
  obtain ⟨v, st₀, t9, T', L9, h0, X', hL, e1, e2, ⟨⟨⟨hv, hok⟩, hWd⟩, hz, hk⟩, sp⟩ := hrun T hT X
  cases hv
  rw [h0] at hz hk
  have hS1 : va_S (eA en) s.heap T'.heap (locs ++ L9) := ⟨Nat.le_trans hS.1 (by rw [e1]; exact hz), fun q h1 h2 => by rw [e1, hk q (Nat.lt_of_lt_of_le h1 hS.1) h2]; exact hS.2.1 q h1 h2, fun q hq => by
      rcases List.mem_append.mp hq with h | h
      · exact hS.2.2 q h
      · exact hL q h⟩
  obtain ⟨t2, a1, b1⟩ := kk hok T'.heap (locs ++ L9) ls (by rw [e1]; exact hWd) hS1 hl T' rfl X'
  exact ⟨t2, sp t2 a1, b1⟩
theorem r_callS (Ra : Ru ini res l en cc own nL R K) (hM : Tr l en y ccY nLY rmY As z.1 μ ρ) (hw : Mw y ccY nLY ρ.1 n) (hi : Cond.static y ∈ GW) (hn : As.length = n) (hstk : stk = As.reverse ++ st) (hlk : Cond.methodLink own i y ∈ GW) (hrm : rmY.cells = ρ.2.2.2.2.1 ∧ rmY.slots = ρ.2.2.2.2.2.1 ∧ rmY.frames + 1 ≤ R.frames ∧ 8 + (nLY + 11) + rmY.locals ≤ R.locals) (hf : z.2.1 + ρ.2.2.2.2.1 ≤ R.cells ∧ z.2.2 + ρ.2.2.2.2.2.1 ≤ R.slots) (hst : (st.map fun v => v.category).sum ≤ 8) (hd : decode cc pc = .ok (.invokestatic i, 3)) (kk : ρ.2.2.2.2.2.2 → K (ρ.2.2.1, z.2.1 + ρ.2.2.2.2.1, z.2.2 + ρ.2.2.2.2.2.1) (pc + 3) L (ρ.2.1.toList ++ st) ρ.2.2.2.1) : K z pc L stk μ := by
  obtain ⟨p, e, s, m, args, below, meth, c, Q, hx, hb, hml, hown, hts, hTB, hA, hni, hres, rfl⟩ := Ra
  intro H locs ls hP hS hl
  have hG : GoodIn GW (wsM y ccY nLY ρ.1) := gwIn hw.1 (fun x hx => hx)
  have cb := callB_of (own := own) (index := i) (args := args) (R := R) n hts hG rfl hrm.1 hrm.2.1 (hts _ hw.2.1) (hts _ hlk) ⟨hw.2.2.1, hw.2.2.2.1, hw.2.2.2.2⟩ ⟨hrm.2.2.1, hrm.2.2.2⟩
  have hPc : ∀ U : State, U.heap = H → s.WarmedH U.vm → va_Pc As (Pw en z.1 μ) As.toArray U := fun U hU hW => ⟨rfl, by rw [hU]; exact hP, hTB.warm hW hS hU⟩
  have hrun := va_runS (As := As) (rest := st) (H := H) (locs := locs) (cells := z.2.1) (slots := z.2.2) (e := e) (below := below) (meth := meth) (g := F0 m pc ls stk) ⟨hx, hb, hml, hown, hts⟩ hM ⟨cb, hts _ hi⟩ ⟨Pw.blind, hPc⟩ rfl hn hl.1 hstk (lv_room hst) hd hf
  intro T hT X
  obtain ⟨v, st₀, t9, T', L9, h0, X', hL, e1, e2, ⟨⟨⟨hv, hok⟩, hWd⟩, hz, hk⟩, sp⟩ := hrun T hT X
  cases hv
  rw [h0] at hz hk
  have hS1 : va_S (eA en) s.heap T'.heap (locs ++ L9) := ⟨Nat.le_trans hS.1 (by rw [e1]; exact hz), fun q h1 h2 => by rw [e1, hk q (Nat.lt_of_lt_of_le h1 hS.1) h2]; exact hS.2.1 q h1 h2, fun q hq => by
      rcases List.mem_append.mp hq with h | h
      · exact hS.2.2 q h
      · exact hL q h⟩
  obtain ⟨t2, a1, b1⟩ := kk hok T'.heap (locs ++ L9) ls (by rw [e1]; exact hWd) hS1 hl T' rfl X'
  exact ⟨t2, sp t2 a1, b1⟩
theorem r_callI (Ra : Ru ini res l en cc own nL R K) (hM : Tr l en y ccY nLY rmY (vA en a :: As) z.1 μ ρ) (hw : Mw y ccY nLY ρ.1 n) (hr0 : ρ.1 = none) (hi : Cond.instanceMethod y ∈ GW) (hy1 : y.name = "<init>") (hn : As.length = n) (hstk : stk = As.reverse ++ vA en a :: st) (hlk : Cond.methodLink own i y ∈ GW) (hrm : rmY.cells = ρ.2.2.2.2.1 ∧ rmY.slots = ρ.2.2.2.2.2.1 ∧ rmY.frames + 1 ≤ R.frames ∧ 8 + (nLY + 11) + rmY.locals ≤ R.locals) (hf : z.2.1 + ρ.2.2.2.2.1 ≤ R.cells ∧ z.2.2 + ρ.2.2.2.2.2.1 ≤ R.slots) (hst : (st.map fun v => v.category).sum ≤ 8) (hd : decode cc pc = .ok (.invokespecial i, 3)) (kk : ρ.2.2.2.2.2.2 → K (ρ.2.2.1, z.2.1 + ρ.2.2.2.2.1, z.2.2 + ρ.2.2.2.2.2.1) (pc + 3) L (ρ.2.1.toList ++ st) ρ.2.2.2.1) : K z pc L stk μ := by
  obtain ⟨p, e, s, m, args, below, meth, c, Q, hx, hb, hml, hown, hts, hTB, hA, hni, hres, rfl⟩ := Ra
  obtain ⟨ret0, ρ⟩ := ρ
  simp only at hr0
  subst hr0
  intro H locs ls hP hS hl
  have hG : GoodIn GW (wsM y ccY nLY none) := gwIn hw.1 (fun x hx => hx)
  have cb := callB_of (own := own) (index := i) (args := args) (R := R) n hts hG rfl hrm.1 hrm.2.1 (hts _ hw.2.1) (hts _ hlk) ⟨hw.2.2.1, hw.2.2.2.1, hw.2.2.2.2⟩ ⟨hrm.2.2.1, hrm.2.2.2⟩
  have hPc : ∀ U : State, U.heap = H → s.WarmedH U.vm → va_Pc (vA en a :: As) (Pw en z.1 μ) (vA en a :: As).toArray U := fun U hU hW => ⟨rfl, by rw [hU]; exact hP, hTB.warm hW hS hU⟩
  have hrun := va_runI (As := As) (rest := st) (H := H) (locs := locs) (cells := z.2.1) (slots := z.2.2) (e := e) (below := below) (meth := meth) (g := F0 m pc ls stk) ⟨hx, hb, hml, hown, hts⟩ hM ⟨cb, hy1, hts _ hi⟩ ⟨Pw.blind, hPc⟩ rfl hn hl.1 hstk (lv_room hst) hd hf
  intro T hT X
  obtain ⟨v, st₀, t9, T', L9, h0, X', hL, e1, e2, ⟨⟨⟨hv, hok⟩, hWd⟩, hz, hk⟩, sp⟩ := hrun T hT X
  cases hv
  rw [h0] at hz hk
  have hS1 : va_S (eA en) s.heap T'.heap (locs ++ L9) := ⟨Nat.le_trans hS.1 (by rw [e1]; exact hz), fun q h1 h2 => by rw [e1, hk q (Nat.lt_of_lt_of_le h1 hS.1) h2]; exact hS.2.1 q h1 h2, fun q hq => by
      rcases List.mem_append.mp hq with h | h
      · exact hS.2.2 q h
      · exact hL q h⟩
  obtain ⟨t2, a1, b1⟩ := kk hok T'.heap (locs ++ L9) ls (by rw [e1]; exact hWd) hS1 hl T' rfl X'
  exact ⟨t2, sp t2 a1, b1⟩
theorem r_iret {x : Int} {cnt mc ms : Nat} {ok : Prop} (Ra : Ru ini (some (some .int, some (vI x), cnt, μ, mc, ms, ok)) l en cc own nL R K) (hok : ok) (hd : decode cc pc = .ok (.ireturn, 1)) : K (cnt, mc, ms) pc L [vI x] μ := by
  obtain ⟨p, e, s, m, args, below, meth, c, Q, hx, hb, hml, hown, hts, hTB, hA, hni, hres, rfl⟩ := Ra
  obtain ⟨hr, hlocks, rfl⟩ := hres _ rfl
  intro H locs ls hP hS hl
  exact W.iret hx hb hr (fun t ht hW => ⟨⟨⟨rfl, hok⟩, by rw [ht]; exact hP⟩, hS.F ht⟩) hS.2.2 hd
theorem r_zret {x : Int} {cnt mc ms : Nat} {ok : Prop} (Ra : Ru ini (some (some .boolean, some (vI x), cnt, μ, mc, ms, ok)) l en cc own nL R K) (h01 : x = 0 ∨ x = 1) (hok : ok) (hd : decode cc pc = .ok (.ireturn, 1)) : K (cnt, mc, ms) pc L [vI x] μ := by
  obtain ⟨p, e, s, m, args, below, meth, c, Q, hx, hb, hml, hown, hts, hTB, hA, hni, hres, rfl⟩ := Ra
  obtain ⟨hr, hlocks, rfl⟩ := hres _ rfl
  intro H locs ls hP hS hl
  exact W.zret hx hb hr (by rcases h01 with rfl | rfl <;> rfl) (fun t ht hW => ⟨⟨⟨rfl, hok⟩, by rw [ht]; exact hP⟩, hS.F ht⟩) hS.2.2 hd
theorem r_lret {x : Int} {cnt mc ms : Nat} {ok : Prop} (Ra : Ru ini (some (some .long, some (vJ x), cnt, μ, mc, ms, ok)) l en cc own nL R K) (hok : ok) (hd : decode cc pc = .ok (.lreturn, 1)) : K (cnt, mc, ms) pc L [vJ x] μ := by
  obtain ⟨p, e, s, m, args, below, meth, c, Q, hx, hb, hml, hown, hts, hTB, hA, hni, hres, rfl⟩ := Ra
  obtain ⟨hr, hlocks, rfl⟩ := hres _ rfl
  intro H locs ls hP hS hl
  exact W.lret hx hb hr (fun t ht hW => ⟨⟨⟨rfl, hok⟩, by rw [ht]; exact hP⟩, hS.F ht⟩) hS.2.2 hd
theorem r_vret {cnt mc ms : Nat} {ok : Prop} (Ra : Ru ini (some (none, none, cnt, μ, mc, ms, ok)) l en cc own nL R K) (hok : ok) (hd : decode cc pc = .ok (.return_, 1)) : K (cnt, mc, ms) pc L [] μ := by
  obtain ⟨p, e, s, m, args, below, meth, c, Q, hx, hb, hml, hown, hts, hTB, hA, hni, hres, rfl⟩ := Ra
  obtain ⟨hr, hlocks, rfl⟩ := hres _ rfl
  intro H locs ls hP hS hl
  exact W.vret hx hb hr (fun t ht hW => ⟨⟨⟨rfl, hok⟩, by rw [ht]; exact hP⟩, hS.F ht⟩) hS.2.2 hd
end CALLS
