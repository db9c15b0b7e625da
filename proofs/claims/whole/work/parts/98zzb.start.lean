/-! THE START: what holds of the memory that the constructors leave -/
theorem mI_20 {a k : Int} (ht : ty a = 20) (ha : a ≠ 486) : mI a k = 0 := by
  unfold mI
  rw [ht, if_neg (show ¬ kd 20 k = 2 by show ¬ (0 : Nat) = 2; decide)]
  unfold i0
  rw [if_neg (by omega), if_neg (by omega), if_neg (by omega), if_neg (by omega), if_neg (by omega), if_neg (by omega), if_neg (by omega), if_neg (by omega)]
theorem mI_at {a k v : Int} {t : Nat} (ht : ty a = t) (e : (if kd t k = 2 then sl t a k else i0 a t k) = v) : mI a k = v := by
  unfold mI
  rw [ht]
  exact e
theorem mI_vP {b j : Int} (h : (b = 2 ∨ b = 4 ∨ (8 ≤ b ∧ b ≤ 10) ∨ b = 12 ∨ b = 13 ∨ b = 15 ∨ b = 16) ∨ ((b = 475 ∧ (j = 13 ∨ j = 41)) ∨ b = 477 ∨ b = 478 ∨ b = 480 ∨ (484 ≤ b ∧ b ≤ 490))) {v : Int} (e : mI b j = v) : vP mI b j = v := (vP_in h).trans e
theorem i_20 : vP mI 2 0 = 0 := mI_vP (by omega) (mI_at t2 rfl)
theorem i_21 : vP mI 2 1 = 0 := mI_vP (by omega) (mI_at t2 rfl)
theorem i_22 : vP mI 2 2 = 0 := mI_vP (by omega) (mI_at t2 rfl)
theorem i_23 : vP mI 2 3 = 0 := mI_vP (by omega) (mI_at t2 rfl)
theorem i_24 : vP mI 2 4 = 0 := mI_vP (by omega) (mI_at t2 rfl)
theorem i_13 : vP mI 475 13 = 0 := mI_vP (by omega) (mI_at t475 rfl)
theorem i_41 : vP mI 475 41 = 0 := mI_vP (by omega) (mI_at t475 rfl)
theorem i_w {w : Int} (h0 : 0 ≤ w) (h1 : w < 3) : vP mI (9 + 3 * w) 2 = 0 ∧ vP mI 486 (3 * 0 + w) = -1 := by
  rcases (show w = 0 ∨ w = 1 ∨ w = 2 by omega) with rfl | rfl | rfl
  · exact ⟨mI_vP (by omega) (mI_at t9 rfl), mI_vP (by omega) (mI_at t486 rfl)⟩
  · exact ⟨mI_vP (by omega) (mI_at t12 rfl), mI_vP (by omega) (mI_at t486 rfl)⟩
  · exact ⟨mI_vP (by omega) (mI_at t15 rfl), mI_vP (by omega) (mI_at t486 rfl)⟩
theorem i_S0 : vS mI 38 0 0 = 0 ∧ vS mI 38 0 7 = 0 := by
  have a : mI 38 0 = 0 := mI_at t38 rfl
  have b : mI 38 7 = 0 := mI_at t38 rfl
  refine ⟨?_, ?_⟩
  · unfold vS
    rw [if_neg (by omega), if_pos (by omega)]
    exact a
  · unfold vS
    rw [if_neg (by omega), if_pos (by omega)]
    exact b
theorem Core_mI : Core mI := by
  have a01 : mI 0 1 = 0 := mI_at t0 rfl
  have a14 : mI 0 14 = 1 := mI_at t0 rfl
  have b1 : mI 475 1 = 0 := mI_at t475 rfl
  have b53 : mI 475 53 = 1 := mI_at t475 rfl
  have b10 : mI 475 10 = 0 := mI_at t475 rfl
  have b11 : mI 475 11 = -1 := mI_at t475 rfl
  have b51 : mI 475 51 = 0 := mI_at t475 rfl
  have b52 : mI 475 52 = 0 := mI_at t475 rfl
  have b68 : mI 475 68 = 0 := mI_at t475 rfl
  have b76 : mI 475 76 = 0 := mI_at t475 rfl
  have b62 : mI 475 62 = -1 := mI_at t475 rfl
  have c1 : mI 18 1 = 0 := mI_at t18 rfl
  have c2 : mI 18 2 = -1 := mI_at t18 rfl
  have d1 : mI 52 1 = 0 := mI_at t52 rfl
  have d2 : mI 52 2 = 0 := mI_at t52 rfl
  have e3 : mI 396 3 = 0 := mI_at t396 rfl
  have g1 : mI 472 1 = 0 := mI_at t472 rfl
  refine ⟨⟨b1.trans a01.symm, by rw [a01]; decide, fun i i0 i1 => absurd i1 (by rw [a01]; omega)⟩, fun k k0 k1 => ?_, ⟨b53.trans a14.symm, by rw [a14]; decide⟩, ⟨b10.trans c1.symm, b11.trans c2.symm⟩, ⟨⟨Or.inl ⟨i_20, i_21, i_23⟩, by rw [i_20, i_21, i_22]; rfl, by rw [i_23]; decide, by rw [i_24]; decide, fun w w0 w1 => ?_⟩, ⟨by rw [i_13]; decide, ?_, ?_, ?_, ?_, Or.inl ⟨i_41, i_20⟩, fun i i0 i1 => ?_, fun w w0 w1 => ?_⟩, fun i i0 i1 => ?_⟩, ⟨⟨fun p p0 p1 => ?_, fun i i0 i1 => ?_, ?_, ?_⟩, ⟨?_, fun p p0 p1 => ?_, fun c c0 c1 hc => ?_, fun i i0 i1 => ?_, ?_, fun j j0 j1 => ?_⟩⟩, ⟨b51.trans d1.symm, b52.trans d2.symm, by rw [d1]; decide, by rw [d2]; decide, fun k k0 k1 => absurd k1 (by rw [d2]; omega)⟩, ⟨b68.trans e3.symm, by rw [e3]; decide, fun k k0 k1 => absurd k1 (by rw [e3]; omega)⟩, ⟨b76.trans g1.symm, by rw [g1]; decide, fun k k0 k1 => absurd k1 (by rw [g1]; omega)⟩, b62⟩
  · rw [mI_20 (a := 497) t497 (by decide), mI_20 (a := 474) t474 (by decide)]
  · rw [(i_w w0 w1).1]
    exact ⟨by decide, fun h => absurd h (by decide)⟩
  · rw [i_13, i_20]; exact mI_vP (by omega) (mI_20 t477 (by decide))
  · rw [i_13, i_21]; exact mI_vP (by omega) (mI_20 t478 (by decide))
  · rw [i_13, i_23]; exact mI_vP (by omega) (mI_20 t480 (by decide))
  · rw [i_13, i_24]; exact mI_vP (by omega) (mI_20 t485 (by decide))
  · rw [i_23] at i1; omega
  · refine Or.inl ⟨(i_w w0 w1).1, ?_⟩
    rw [i_13]
    exact (i_w w0 w1).2
  · rw [i_23] at i1; omega
  · rw [i_22] at p1; omega
  · rw [i_23] at i1; omega
  · rw [i_S0.1]; decide
  · rw [i_S0.2]; decide
  · rw [i_S0.1]; exact mI_20 t498 (by decide)
  · rw [i_22] at p1; omega
  · exact mI_20 t499 (by decide)
  · rw [i_23] at i1; omega
  · rw [i_S0.2]; exact mI_20 t504 (by decide)
  · rw [i_S0.2] at j1; omega
theorem Inv_mI : Inv mI := Inv.no Core_mI ⟨⟨mI_at t201 rfl, mI_at t201 rfl⟩, mI_at t250 rfl, mI_at t296 rfl, mI_at t396 rfl, mI_at t396 rfl⟩
