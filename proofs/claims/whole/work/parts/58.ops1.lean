/-! SMALL CALLS -/
theorem shr64_k {x : Int} (hx : inL x) (y : Int) (k : Nat) (hs : (((Int32.ofInt y).toInt64 &&& 63).toBitVec.smod 64).toNat = k) : shr64 x y = x / 2 ^ k := by
  unfold shr64
  show ((Int64.ofInt x).toBitVec.sshiftRight ((((Int32.ofInt y).toInt64 &&& 63).toBitVec.smod 64).toNat)).toInt = _
  rw [hs, BitVec.toInt_sshiftRight]
  show (Int64.ofInt x).toInt >>> k = _
  rw [to64 hx, Int.shiftRight_eq_div_pow]
  rfl
theorem a64_255 {x : Int} (h0 : 0 ≤ x) (h1 : x < 9223372036854775808) : a64 x 255 = x % 256 := by
  obtain ⟨n, rfl⟩ := Int.eq_ofNat_of_zero_le h0
  unfold a64
  have e : Int64.ofInt (n : Int) &&& Int64.ofInt 255 = lN (n % 256) := by
    apply Int64.toBitVec_inj.mp
    apply BitVec.eq_of_toNat_eq
    rw [Int64.toBitVec_and, BitVec.toNat_and, show (Int64.ofInt 255).toBitVec.toNat = 2 ^ 8 - 1 from rfl, Nat.and_two_pow_sub_one_eq_mod, Int64.ofInt_eq_ofNat]
    show (BitVec.ofNat 64 n).toNat % 2 ^ 8 = (BitVec.ofNat 64 (n % 256)).toNat
    rw [BitVec.toNat_ofNat, BitVec.toNat_ofNat]
    omega
  rw [e, pk_lT (by omega)]
  omega
theorem e_refD {m : Mem} {k : Int} (h : 0 ≤ k ∧ k < 6) : pD_refuse m k = some (-1, mset m 474 k (w32 (m 474 k + 1))) := by
  unfold pD_refuse
  rw [if_neg (by omega), if_pos (by omega), if_pos h, if_pos h]
  rfl
theorem e_refM {m : Mem} {k : Int} (h : 0 ≤ k ∧ k < 6) : pM_refuses m k = some (-1, mset m 497 k (w32 (m 497 k + 1))) := by
  unfold pM_refuses
  rw [if_pos h, if_pos h]
  rfl
theorem IRef.two {m m2 : Mem} {k : Int} (h : IRef m) (hk : 0 ≤ k ∧ k < 6) (h1 : ∀ j, m2 474 j = if j = k then w32 (m 474 k + 1) else m 474 j) (h2 : ∀ j, m2 497 j = if j = k then w32 (m 497 k + 1) else m 497 j) : IRef m2 := by
  intro j h0 h6
  rw [h1, h2, h k hk.1 hk.2]
  by_cases q : j = k
  · rw [if_pos q, if_pos q]
  · rw [if_neg q, if_neg q]; exact h j h0 h6
theorem e_status {m : Mem} (h : Core m) (x : Int) : ∃ r, pD_status m x = some r ∧ pM_status m x = some r := by
  obtain ⟨-, h2, -⟩ := h
  unfold pD_status pM_status
  rw [e_is]
  by_cases q1 : x < 0
  · rw [if_pos q1]
    exact ⟨_, rfl, by simp only [Option.bind_some]; rw [if_neg (show ¬ (0 ≤ x ∧ x ≤ 5) by omega), if_pos rfl]⟩
  · rw [if_neg q1]
    by_cases q2 : x < 6
    · rw [if_pos q2, if_pos (by omega)]
      refine ⟨_, rfl, ?_⟩
      simp only [Option.bind_some]
      rw [if_pos (show 0 ≤ x ∧ x ≤ 5 by omega), if_neg (by omega), if_pos (by omega), h2 x (by omega) q2]
    · rw [if_neg q2]
      exact ⟨_, rfl, by simp only [Option.bind_some]; rw [if_neg (show ¬ (0 ≤ x ∧ x ≤ 5) by omega), if_pos rfl]⟩
theorem e_fault {m : Mem} (h : Core m) (x : Int) : ∃ r, pD_fault m x = some r ∧ pM_fault m x = some r := by
  obtain ⟨-, -, -, h4, -⟩ := h
  unfold pD_fault pM_fault
  rw [h4.1, h4.2]
  by_cases q0 : x = 0
  · exact ⟨_, by rw [if_pos q0], by rw [if_pos q0]⟩
  · by_cases q1 : x = 1
    · exact ⟨_, by rw [if_neg q0, if_pos q1], by rw [if_neg q0, if_pos q1]⟩
    · exact ⟨_, by rw [if_neg q0, if_neg q1], by rw [if_neg q0, if_neg q1]⟩
/-- a CELL asked, a PERSON asked -/
theorem e_cellAt {pl m : Mem} (hg : PG pl) (he : PE pl m) (c r : Int) : pP_cellAt m 2 c r = some (if (0 ≤ c ∧ c < pl 2 0) ∧ (0 ≤ r ∧ r < pl 2 1) then r * pl 2 0 + c else -1) := by
  have hn := hg.num
  unfold pP_cellAt
  rw [he.d 0, he.d 1]
  by_cases q1 : c < 0
  · rw [if_pos q1, if_neg (by omega)]
  · rw [if_neg q1]
    by_cases q2 : c < pl 2 0
    · rw [if_pos q2]
      by_cases q3 : r < 0
      · rw [if_pos q3, if_neg (by omega)]
      · rw [if_neg q3]
        by_cases q4 : r < pl 2 1
        · have hm : 0 ≤ r * pl 2 0 ∧ r * pl 2 0 ≤ 64 := by
            have h1 := Int.mul_nonneg (show 0 ≤ r by omega) (show 0 ≤ pl 2 0 by omega)
            have h2 := Int.mul_le_mul (show r ≤ 8 by omega) (show pl 2 0 ≤ 8 by omega) (by omega) (by omega)
            omega
          rw [if_pos q4, if_pos (by omega), w32_eq (x := r * pl 2 0) (by omega) (by omega), w32_eq (by omega) (by omega)]
        · rw [if_neg q4, if_neg (by omega)]
    · rw [if_neg q2, if_neg (by omega)]
/-- the place of a column and a row -/
theorem at_ph {pl : Mem} (hg : PG pl) {c r : Int} (h : (0 ≤ c ∧ c < pl 2 0) ∧ (0 ≤ r ∧ r < pl 2 1)) : (0 ≤ r * pl 2 0 + c ∧ r * pl 2 0 + c < pl 2 2) ∧ ph pl (r * pl 2 0 + c) = 8 * r + c := by
  have hn := hg.num
  have hc : cellC pl (8 * r + c) := by unfold cellC; omega
  obtain ⟨p, hp, h1, h2⟩ := ph_sur hg hc
  have e1 : (8 * r + c) / 8 = r := by omega
  have e2 : (8 * r + c) % 8 = c := by omega
  rw [e1, e2] at h2
  rw [← h2]
  exact ⟨hp, h1⟩
theorem e_cell {m : Mem} (h : Core m) (c r : Int) : ∃ x, pD_cell m c r = some x ∧ pM_cell m c r = some x := by
  obtain ⟨-, -, -, -, ⟨hg, hr, -⟩, hst, -⟩ := h
  have hn := hg.num
  unfold pD_cell pM_cell
  rw [e_cellAt hg (vP_PE m), e_isCell hg hr (vP_PQ m)]
  simp only [Option.bind_some]
  by_cases q : (0 ≤ c ∧ c < vP m 2 0) ∧ (0 ≤ r ∧ r < vP m 2 1)
  · have hp := at_ph hg q
    rw [if_pos q, if_pos q]
    refine ⟨m 39 (r * vP m 2 0 + c), ?_, ?_⟩
    · rw [if_neg (by omega), if_pos (by omega)]
    · have h2 := hst.2.2.1 _ hp.1.1 hp.1.2
      rw [hp.2, vS_in (by omega)] at h2
      rw [if_neg (by omega), w32_eq (x := 8 * r) (by omega) (by omega), w32_eq (x := 8 * r + c) (by omega) (by omega), if_pos (by omega), show 8 * r + c = 64 * 0 + (8 * r + c) by omega, h2]
      rfl
  · rw [if_neg q, if_neg q]
    exact ⟨_, rfl, rfl⟩
theorem e_hasP {pl m : Mem} (he : PE pl m) (i : Int) : pP_hasPerson m 2 i = some (if 0 ≤ i ∧ i < pl 2 3 then 1 else 0) := by
  unfold pP_hasPerson
  rw [he.d 3]
  by_cases q1 : i < 0
  · rw [if_pos q1, if_neg (by omega)]
  · rw [if_neg q1]
    by_cases q2 : i < pl 2 3
    · rw [if_pos q2, if_pos (by omega)]
    · rw [if_neg q2, if_neg (by omega)]
theorem e_isP {pl m : Mem} (hr : PR pl) (hq : PQ pl m) (i : Int) : pM_isPerson m i = some (if 0 ≤ i ∧ i < pl 2 3 then 1 else 0) := by
  unfold pM_isPerson
  rw [hq.bk, hq 480 _ (by unfold prc; omega), hr.2.2.2.1]
  by_cases q1 : i < 0
  · rw [if_pos q1, if_neg (by omega)]
  · rw [if_neg q1, if_pos hr.1]
    by_cases q2 : i < pl 2 3
    · rw [if_pos q2, if_pos (by omega)]
    · rw [if_neg q2, if_neg (by omega)]
theorem e_person {m : Mem} (h : Core m) (i x : Int) : ∃ r, pD_person m i x = some r ∧ pM_person m i x = some r := by
  obtain ⟨-, -, -, -, ⟨hg, hr, hnm⟩, hst, -⟩ := h
  have hn := hg.num
  unfold pD_person pM_person
  rw [e_hasP (vP_PE m), e_isP hr (vP_PQ m)]
  simp only [Option.bind_some]
  by_cases q : 0 ≤ i ∧ i < vP m 2 3
  · have hs := hst.2.2.2.2.1 i q.1 q.2
    have hb := hst.1.2.1 i q.1 q.2
    have hph := ph_eq hg hb.1
    have hc := hg.pos hb.1
    rw [show 6 * 0 + i = i by omega] at hs
    have v2 : vS m 38 2 i = m 40 i := vS_in (by omega)
    have v3 : vS m 38 3 i = m 41 i := vS_in (by omega)
    have v4 : vS m 38 4 i = m 42 i := vS_in (by omega)
    have v5 : vS m 38 5 i = m 43 i := vS_in (by omega)
    rw [v2] at hph hb
    rw [v2, v3, v4, v5] at hs
    rw [if_pos q, if_neg (show ¬ ((1 : Int) = 0) by omega), if_neg (show ¬ ((1 : Int) = 0) by omega)]
    have w6 : w32 (w32 (6 * m 475 13) + i) = 6 * m 475 13 + i := by
      have := hr.1
      rw [(vP_PQ m).bk, w32_eq (x := 6 * vP m 475 13) (by omega) (by omega), w32_eq (by omega) (by omega)]
    have b13 : 0 ≤ m 475 13 ∧ m 475 13 < 2 := by rw [(vP_PQ m).bk]; exact hr.1
    rw [w6]
    by_cases q0 : x = 0
    · simp (disch := omega) only [if_pos, if_neg]
      rw [e_col (by rw [(vP_PE m).d]; omega) (by omega), (vP_PE m).d]
      refine ⟨_, rfl, ?_⟩
      rw [hs.1, r32_eq (by omega) (by omega) (by omega) (by omega), hph.2.2.2.1]
    by_cases q1 : x = 1
    · simp (disch := omega) only [if_pos, if_neg]
      rw [e_row (by rw [(vP_PE m).d]; omega) (by omega), (vP_PE m).d]
      refine ⟨_, rfl, ?_⟩
      rw [hs.1, d32_eq (by omega) (by omega) (by omega) (by omega), hph.2.2.2.2]
    by_cases q2 : x = 2
    · simp (disch := omega) only [if_pos, if_neg]
      exact ⟨_, rfl, by rw [hs.2.1]⟩
    by_cases q3 : x = 3
    · simp (disch := omega) only [if_pos, if_neg]
      exact ⟨_, rfl, by rw [hs.2.2.1]⟩
    by_cases q4 : x = 4
    · simp (disch := omega) only [if_pos, if_neg]
      have h8 := hr.2.2.2.2.2.2.1 i q.1 q.2
      rw [vP_in (by omega), vP_in (m := m) (b := 8) (by omega), ← (vP_PQ m).bk] at h8
      exact ⟨_, rfl, by rw [h8]⟩
    by_cases q5 : x = 5
    · simp (disch := omega) only [if_pos, if_neg]
      exact ⟨_, rfl, by rw [hs.2.2.2]⟩
    · simp (disch := omega) only [if_neg]
      exact ⟨_, rfl, rfl⟩
  · rw [if_neg q, if_pos rfl]
    exact ⟨_, rfl, rfl⟩
theorem e_kept {m : Mem} (h : Core m) (k x : Int) : ∃ r, pD_kept m k x = some r ∧ pM_kept m k x = some r := by
  obtain ⟨-, -, -, -, ⟨hg, hr, hnm⟩, hst, -⟩ := h
  have h7 := hst.1.2.2.2
  have e7 : m 504 0 = m 38 7 := hst.2.2.2.2.2.1
  have e6 := hst.2.2.2.2.2.2
  rw [vS_7] at h7
  have hM : pM_kept m k x = if (0 ≤ k ∧ k < m 38 7) ∧ (0 ≤ x ∧ x ≤ 2) then some (m 505 (3 * k + x)) else some (-1) := by
    unfold pM_kept
    rw [e_is, e7, w32_eq (x := m 38 7 - 1) (by omega) (by omega), e_is]
    simp only [Option.bind_some]
    by_cases q1 : 0 ≤ k ∧ k < m 38 7
    · rw [if_pos (show 0 ≤ k ∧ k ≤ m 38 7 - 1 by omega), if_neg (show ¬ ((1 : Int) = 0) by omega)]
      by_cases q2 : 0 ≤ x ∧ x ≤ 2
      · rw [if_pos q2, if_neg (show ¬ ((1 : Int) = 0) by omega), w32_eq (x := 3 * k) (by omega) (by omega), w32_eq (x := 3 * k + x) (by omega) (by omega), if_pos (by omega), if_pos ⟨q1, q2⟩]
      · rw [if_neg q2, if_pos rfl, if_neg (fun c => q2 c.2)]
    · rw [if_neg (show ¬ (0 ≤ k ∧ k ≤ m 38 7 - 1) by omega), if_pos rfl, if_neg (fun c => q1 c.1)]
  have hD : pD_kept m k x = if (0 ≤ k ∧ k < m 38 7) ∧ (0 ≤ x ∧ x ≤ 2) then some (m 44 (k * 3 + x)) else some (-1) := by
    unfold pD_kept
    by_cases q1 : k < 0
    · rw [if_pos q1, if_neg (by omega)]
    rw [if_neg q1]
    by_cases q2 : k < m 38 7
    · rw [if_pos q2]
      by_cases q3 : x < 0
      · rw [if_pos q3, if_neg (by omega)]
      rw [if_neg q3]
      by_cases q4 : x < 3
      · rw [if_pos q4, w32_eq (x := k * 3) (by omega) (by omega), w32_eq (x := k * 3 + x) (by omega) (by omega), if_pos (by omega), if_pos (by omega)]
      · rw [if_neg q4, if_neg (by omega)]
    · rw [if_neg q2, if_neg (by omega)]
  rw [hM, hD]
  by_cases q : (0 ≤ k ∧ k < m 38 7) ∧ (0 ≤ x ∧ x ≤ 2)
  · rw [if_pos q, if_pos q]
    have h := e6 (3 * k + x) (by omega) (by rw [vS_7]; omega)
    rw [vS_in (by omega), show 120 * 0 + (3 * k + x) = 3 * k + x by omega] at h
    exact ⟨_, rfl, by rw [h, show 3 * k + x = k * 3 + x by omega]; rfl⟩
  · rw [if_neg q, if_neg q]
    exact ⟨_, rfl, rfl⟩
theorem e_octet {m : Mem} (h : Core m) (k : Int) : ∃ r, pD_octet m k = some r ∧ pM_octet m k = some r := by
  obtain ⟨-, -, -, -, -, -, -, -, h9, -⟩ := h
  obtain ⟨h1, h2, h3⟩ := h9
  have hM : pM_octet m k = if 0 ≤ k ∧ k < m 472 1 then some (m 522 k) else some (-1) := by
    unfold pM_octet
    rw [e_is, h1, w32_eq (x := m 472 1 - 1) (by omega) (by omega)]
    simp only [Option.bind_some]
    by_cases q : 0 ≤ k ∧ k < m 472 1
    · rw [if_pos (show 0 ≤ k ∧ k ≤ m 472 1 - 1 by omega), if_neg (show ¬ ((1 : Int) = 0) by omega), if_pos (by omega), if_pos q]
    · rw [if_neg (show ¬ (0 ≤ k ∧ k ≤ m 472 1 - 1) by omega), if_pos rfl, if_neg q]
  have hD : pD_octet m k = if 0 ≤ k ∧ k < m 472 1 then some (m 473 k) else some (-1) := by
    unfold pD_octet
    by_cases q1 : k < 0
    · rw [if_pos q1, if_neg (by omega)]
    rw [if_neg q1]
    by_cases q2 : k < m 472 1
    · rw [if_pos q2, if_pos (by omega), if_pos (by omega)]
    · rw [if_neg q2, if_neg (by omega)]
  rw [hM, hD]
  by_cases q : 0 ≤ k ∧ k < m 472 1
  · rw [if_pos q, if_pos q]
    exact ⟨_, rfl, by rw [h3 k q.1 q.2]⟩
  · rw [if_neg q, if_neg q]
    exact ⟨_, rfl, rfl⟩
