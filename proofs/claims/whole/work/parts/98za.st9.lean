/-! VALLEY: statements side by side: LAWS, pieces -/
theorem LX.fr {N : Nat} {t t' : Mem} {RT : Int → Mem → Prop} (h : LX N t RT) (he : TEq t t') : LX N t' RT := by
  obtain ⟨h1, h2, h3⟩ := h
  refine ⟨fun k m hr => ?_, h2, fun k m hr k0 k1 => ?_⟩
  · have := h1 k m hr
    unfold RTk at this ⊢
    rw [he 35 k (by omega), he 36 k (by omega), he 37 k (by omega)]
    exact this
  · rw [he 18 6 (by omega)] at k1
    exact h3 k m hr k0 k1
theorem plcT_eq {t t' : Mem} {k : Int} (he : TEq t t') : plcT t' k = plcT t k := by
  unfold plcT
  rw [he 35 k (by omega), he 36 k (by omega), he 37 k (by omega)]
def NVt (t : Mem) : Prop := ∀ k, 0 ≤ k → k < t 18 6 → t 35 k = 25 → 0 ≤ t 37 k ∧ t 37 k ≤ 9999
theorem NXt.WT {t t' : Mem} (hz : NXt t) (hv : NVt t) (he : TEq t t') (h9 : (t' 18 9 = 8 ∧ t' 18 10 = 26) ∨ (t' 18 9 = 9 ∧ t' 18 10 = 29) ∨ (t' 18 9 = 10 ∧ t' 18 10 = 32)) : WT t' := by
  have e6 := he 18 6 (by omega)
  refine ⟨by rw [e6]; exact hz.1, fun k k0 k1 a b => ?_, fun k k0 k1 a => ?_, by omega, by omega⟩
  · rw [e6] at k1 ⊢
    rw [he 35 k (by omega)] at a b
    exact hz.2 k k0 k1 a b
  · rw [e6] at k1
    rw [he 35 k (by omega)] at a
    rw [he 37 k (by omega)]
    exact hv k k0 k1 a
/-- one statement's end, where the reference may have seen the next sign's fault already -/
def STL (t : Mem) (RT : Int → Mem → Prop) (ib k : Int) (mc : Mem) (rf : Mem → Option Mem) (r : Int × Mem) : Prop := Fr FCv mc r.2 ∧ ((r.1 = 1 ∧ ∃ k', k ≤ k' ∧ CKt t r.2 k' ∧ ∀ mr, RDY RT ib k mc mr → Rn (rf mr) (fun mr' => (RDY RT ib k' r.2 mr' ∨ (mr' 475 8 = 1 ∧ mr' 475 9 = plcT t k' ∧ t 35 k' = 27)) ∧ Fr (FV ib) mr mr')) ∨ (r.1 = 0 ∧ 1 ≤ r.2 18 1 ∧ ∀ mr, RDY RT ib k mc mr → Rn (rf mr) (fun mr' => mr' 475 8 = r.2 18 1 ∧ mr' 475 9 = r.2 18 2 ∧ Fr (FV ib) mr mr')))
theorem STM.l {t : Mem} {RT : Int → Mem → Prop} {ib k : Int} {mc : Mem} {rf : Mem → Option Mem} {r : Int × Mem} (h : STM t RT ib k mc rf r) : STL t RT ib k mc rf r := by
  obtain ⟨f, h⟩ := h
  refine ⟨f, ?_⟩
  rcases h with ⟨a, k', b, c, d⟩ | h
  · exact Or.inl ⟨a, k', b, c, fun mr hr => rn_q (d mr hr) (fun mr' hm => ⟨Or.inl hm.1, hm.2⟩)⟩
  · exact Or.inr h
theorem GV_ne {D b : Int} {E : List (Int × Int)} (h : GV D b E) (hD : D ≤ 64) : E ≠ [] := by
  intro c
  obtain ⟨v, -, -, h4⟩ := h (fun _ => 0) (fun v _ _ => ⟨by decide, by decide⟩) [] (by show ((0 : Nat) : Int) + D ≤ 64; omega)
  rw [c] at h4
  exact absurd h4 (by show ¬ (some ([] : List Int) = some [v]); simp)
/-- the law's code, as the end wants it -/
theorem GV_good {t : Mem} {E : List (Int × Int)} {w : Int} (h : GV 38 0 E) (hf : FBx t E) (hw : t 18 9 - 8 = w) : goodL w E := by
  refine ⟨fun c hc h1 => by have := hf c hc h1; rw [hw] at this; exact this, fun fc hfc => ?_⟩
  obtain ⟨v, h1, -, h3⟩ := h fc hfc [] (by show ((0 : Nat) : Int) + 38 ≤ 64; decide)
  exact ⟨v, h1, h3⟩
theorem codeOf_NP {ib w : Int} {mc mr : Mem} (hw : 0 ≤ w ∧ w < 3) : codeOf (NP ib mc mr) w = COs mc (27 + 3 * w) (mc (26 + 3 * w) 2).toNat := by
  unfold codeOf COs
  rw [NP_pl (b := 9 + 3 * w) (by omega), show 9 + 3 * w + 17 = 26 + 3 * w by omega]
  refine List.map_congr_left (fun j _ => ?_)
  rw [NP_pl (b := 10 + 3 * w) (by omega), show 10 + 3 * w + 17 = 27 + 3 * w by omega]
