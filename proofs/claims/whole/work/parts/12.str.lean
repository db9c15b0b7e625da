theorem inR_txi (s : Nat) (c : Int) : inR (txi s c) := inR_txi' s c
section STR
variable {ini : Bool} {res : Option Rs} {l : Launch} {en : En} {cc : ByteArray} {own : String} {nL : Nat} {f0 q0 : Nat} {K : KT} {pc : Nat} {L : Lo} {st stk : List Value} {μ : Mem}
theorem q_ldcT (Ra : Ru ini res l en cc own nL (rmN f0 q0) K) (s : Nat) {i : Nat} (hd : decode cc pc = .ok (.ldc i, 2)) (hs : (own = "DewWages$Reader" ∧ (i = 253 ∧ s = 0)) ∨ (own = "DewWages$Reader" ∧ (i = 245 ∧ s = 1))) (kk : K ZN (pc + 2) L (vT en s :: st) μ) : K ZN pc L st μ := by
  obtain ⟨p, e, s9, m, args, below, meth, c, Q, hx, hb, hml, hown, hts, hTB, hA, hni, hres, rfl⟩ := Ra
  intro H locs ls hP hS hl
  rcases hs with ⟨rfl, rfl, rfl⟩ | ⟨rfl, rfl, rfl⟩
  · exact va_ldcS hx hb hown hTB.2.2.2.1 hd (kk H locs ls hP hS hl)
  · exact va_ldcS hx hb hown hTB.2.2.2.2.1 hd (kk H locs ls hP hS hl)
theorem q_strlen (Ra : Ru ini res l en cc own nL (rmN f0 q0) K) {s i : Nat} (hs : s < 2) (hlk : Cond.methodLink own i yJ0_length_8abf5 ∈ GW) (hst : Nat.ble ((st.map fun v => v.category).sum) 8 = true) (hr1 : Nat.ble 3 f0 = true) (hr2 : Nat.ble 100 q0 = true) (hd : decode cc pc = .ok (.invokevirtual i, 3)) (kk : K ZN (pc + 3) L (vI ((txLen.getD s 0 : Nat) : Int) :: st) μ) : K ZN pc L (vT en s :: st) μ := by
  exact q_strlen' Ra hs hlk hst hr1 hr2 hd kk
theorem q_charAt (Ra : Ru ini res l en cc own nL (rmN f0 q0) K) {s i : Nat} {k : Int} (hs : s < 2) (hk : 0 ≤ k ∧ k < ((txLen.getD s 0 : Nat) : Int)) (hlk : Cond.methodLink own i yJ0_charAt_5068e ∈ GW) (hst : Nat.ble ((st.map fun v => v.category).sum) 8 = true) (hr1 : Nat.ble 6 f0 = true) (hr2 : Nat.ble 300 q0 = true) (hd : decode cc pc = .ok (.invokevirtual i, 3)) (kk : K ZN (pc + 3) L (vI (txc s k) :: st) μ) : K ZN pc L (vI k :: vT en s :: st) μ := by
  exact q_charAt' Ra hs hk hlk hst hr1 hr2 hd kk
theorem q_indexOf (Ra : Ru ini res l en cc own nL (rmN f0 q0) K) {s i : Nat} {k : Int} (hs : s < 2) (hk : inR k) (hlk : Cond.methodLink own i yJ0_indexOf_0f7a4 ∈ GW) (hst : Nat.ble ((st.map fun v => v.category).sum) 8 = true) (hr1 : Nat.ble 6 f0 = true) (hr2 : Nat.ble 300 q0 = true) (hd : decode cc pc = .ok (.invokevirtual i, 3)) (kk : K ZN (pc + 3) L (vI (txi s k) :: st) μ) : K ZN pc L (vI k :: vT en s :: st) μ := by
  exact q_indexOf' Ra hs hk hlk hst hr1 hr2 hd kk
end STR
