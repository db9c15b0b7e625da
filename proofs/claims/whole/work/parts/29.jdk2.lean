theorem gD {α : Type} {l : List α} {n : Nat} {d : α} (h : n < l.length) : l.getD n d = l[n] := by rw [List.getD_eq_getElem?_getD, List.getElem?_eq_getElem h]; rfl
theorem gDn {α : Type} {l : List α} {n : Nat} {d : α} (h : l.length ≤ n) : l.getD n d = d := by rw [List.getD_eq_getElem?_getD, List.getElem?_eq_none h]; rfl
theorem tx_len (s : Nat) : (txByt.getD s []).length = txLen.getD s 0 := by
  match s with
  | 0 => decide +kernel
  | 1 => decide +kernel
  | s + 2 => rfl
theorem tx_asc0 : ∀ b ∈ txByt.getD 0 [], 0 ≤ b.toInt ∧ b.toInt < 128 := by decide +kernel
theorem tx_asc1 : ∀ b ∈ txByt.getD 1 [], 0 ≤ b.toInt ∧ b.toInt < 128 := by decide +kernel
theorem tx_asc {s : Nat} (hs : s < 2) : ∀ b ∈ txByt.getD s [], 0 ≤ b.toInt ∧ b.toInt < 128 := by
  rcases (show s = 0 ∨ s = 1 by omega) with rfl | rfl
  · exact tx_asc0
  · exact tx_asc1
theorem txc_asc {s : Nat} (hs : s < 2) (k : Int) : 0 ≤ txc s k ∧ txc s k < 128 := by
  unfold txc
  by_cases hk : k.toNat < (txByt.getD s []).length
  · rw [gD hk]
    exact tx_asc hs _ (List.getElem_mem hk)
  · rw [gDn (by omega)]
    exact ⟨by decide, by decide⟩
theorem txi_hit {s : Nat} {c j : Int} (h0 : 0 ≤ j ∧ j < ((txLen.getD s 0 : Nat) : Int)) (hc : txc s j = c) (hb : ∀ i : Int, 0 ≤ i → i < j → txc s i ≠ c) : txi s c = j := by
  have hl := tx_len s
  unfold txi
  have h1 : (txByt.getD s []).findIdx? (fun b => b.toInt == c) = some j.toNat := by
    rw [List.findIdx?_eq_some_iff_getElem]
    refine ⟨by omega, ?_, fun i hi => ?_⟩
    · have h2 := hc
      unfold txc at h2
      rw [gD (by omega)] at h2
      simpa using h2
    · have h2 := hb (i : Int) (by omega) (by omega)
      unfold txc at h2
      rw [Int.toNat_natCast, gD (by omega)] at h2
      simpa using h2
  rw [h1]
  show ((j.toNat : Nat) : Int) = j
  omega
theorem txi_miss {s : Nat} {c : Int} (hb : ∀ i : Int, 0 ≤ i → i < ((txLen.getD s 0 : Nat) : Int) → txc s i ≠ c) : txi s c = -1 := by
  have hl := tx_len s
  unfold txi
  have h1 : (txByt.getD s []).findIdx? (fun b => b.toInt == c) = none := by
    rw [List.findIdx?_eq_none_iff]
    intro x hx
    obtain ⟨i, hi, rfl⟩ := List.getElem_of_mem hx
    have h2 := hb (i : Int) (by omega) (by omega)
    unfold txc at h2
    rw [Int.toNat_natCast, gD hi] at h2
    simpa using h2
  rw [h1]
theorem inR_txi' (s : Nat) (c : Int) : inR (txi s c) := by
  have hl := tx_len s
  have h9 := tx_small (s := s)
  unfold txi
  cases h : (txByt.getD s []).findIdx? (fun b => b.toInt == c) with
  | none => exact ⟨by decide, by decide⟩
  | some k =>
    rw [List.findIdx?_eq_some_iff_getElem] at h
    obtain ⟨h1, -⟩ := h
    exact ⟨by show (-2147483648 : Int) ≤ (k : Int); omega, by show (k : Int) < 2147483648; omega⟩
def b8 (x : Int) : Int := (Int32.ofInt x).toInt8.toInt32.toInt
theorem b8_lo : ∀ n : Nat, n < 128 → b8 (n : Int) = (n : Int) := by decide +kernel
theorem b8_hi : ∀ n : Nat, n < 128 → b8 ((n + 128 : Nat) : Int) = (n : Int) - 128 := by decide +kernel
theorem ch_lo : ∀ n : Nat, n < 128 → c16 (a32 (n : Int) 255) = (n : Int) := by decide +kernel
theorem ch_id {x : Int} (h : 0 ≤ x ∧ x < 128) : c16 (a32 x 255) = x := by
  have := ch_lo x.toNat (by omega)
  rw [Int.toNat_of_nonneg h.1] at this
  exact this
theorem nar_lo : ∀ n : Nat, n < 128 → narrow .char (vI (n : Int)) = vI (n : Int) := by decide +kernel
theorem nar_id {x : Int} (h : 0 ≤ x ∧ x < 128) : narrow .char (vI x) = vI x := by
  have := nar_lo x.toNat (by omega)
  rw [Int.toNat_of_nonneg h.1] at this
  exact this
section JDK2
variable {ini : Bool} {res : Option Rs} {l : Launch} {en : En} {cc : ByteArray} {own : String} {nL : Nat} {R : Room} {K : KT} {z : Zt} {pc i s : Nat} {L : Lo} {st stk : List Value} {μ : Mem}
theorem r_i2b (Ra : Ru ini res l en cc own nL R K) {x : Int} (hd : decode cc pc = .ok (.i2b, 1)) (k : K z (pc + 1) L (vI (b8 x) :: st) μ) : K z pc L (vI x :: st) μ := by
  obtain ⟨p, e, s, m, args, below, meth, c, Q, hx, hb, hml, hown, hts, hTB, hA, hni, hres, rfl⟩ := Ra
  intro H locs ls hP hS hl
  exact lv_i2b hx hb hd (eq_of32 (x := b8 x) rfl) (k H locs ls hP hS hl)
theorem j_popV (Ra : Ru ini res l en cc own nL R K) {x : Int} (hd : decode cc pc = .ok (.pop, 1)) (k : K z (pc + 1) L st μ) : K z pc L (vI x :: st) μ := r_popI Ra hd k
end JDK2
theorem cj_ck {l : Launch} {en : En} {μ : Mem} {k n : Int} (hk : 0 ≤ k ∧ k < n) (hn : inR n) : CtV l en yJ0_checkIndex_df160 cJ0_checkIndex_df160 2 1 22 [vI k, vI n] μ μ True := by
  refine Tr.ofF false (fun h => by cases h) (by decide) (Nat.le_of_ble_eq_true rfl) (fun K Ra => ?_)
  refine r_iload_n Ra (i := 0) dJ0_checkIndex_df160_0 rfl rfl ?_
  refine r_iload_n Ra (i := 1) dJ0_checkIndex_df160_1 rfl rfl ?_
  refine j_fmt Ra dJ0_checkIndex_df160_2 (fun v hv => ?_)
  refine r_callS (z := ZN) (As := [vI k, vI n, v]) Ra (cj_ckI hv hk hn) mw_J3_checkIndex_8e157 ms_J3_checkIndex_8e157 rfl rfl k_J0_1059 ⟨rfl, rfl, Nat.le_of_ble_eq_true rfl, Nat.le_of_ble_eq_true rfl⟩ ⟨Nat.le_refl 0, Nat.le_refl 0⟩ (Nat.le_of_ble_eq_true rfl) dJ0_checkIndex_df160_5 (fun _ => ?_)
  refine j_popV Ra dJ0_checkIndex_df160_8 ?_
  exact r_vret Ra trivial dJ0_checkIndex_df160_9
theorem cj_ch1 {l : Launch} {en : En} {μ : Mem} {s : Nat} {k : Int} (hs : s < 2) (hk : 0 ≤ k ∧ k < ((txLen.getD s 0 : Nat) : Int)) : CtX l en yJ1_charAt_3b067 cJ1_charAt_3b067 2 2 43 [vB en s, vI k] μ .char (txc s k) := by
  refine Tr.ofF false (fun h => by cases h) (by decide) (Nat.le_of_ble_eq_true rfl) (fun K Ra => ?_)
  have h9 := tx_small (s := s)
  refine r_iload_n Ra (i := 1) dJ1_charAt_3b067_0 rfl rfl ?_
  refine j_aload Ra (i := 0) dJ1_charAt_3b067_1 rfl rfl ?_
  refine j_blen Ra hs dJ1_charAt_3b067_2 ?_
  refine r_callS (z := ZN) (As := [vI k, vI ((txLen.getD s 0 : Nat) : Int)]) Ra (cj_ck hk ⟨by omega, by omega⟩) mw_J0_checkIndex_df160 ms_J0_checkIndex_df160 rfl rfl k_J1_9 ⟨rfl, rfl, Nat.le_of_ble_eq_true rfl, Nat.le_of_ble_eq_true rfl⟩ ⟨Nat.le_refl 0, Nat.le_refl 0⟩ (Nat.le_of_ble_eq_true rfl) dJ1_charAt_3b067_3 (fun _ => ?_)
  refine j_aload Ra (i := 0) dJ1_charAt_3b067_6 rfl rfl ?_
  refine r_iload_n Ra (i := 1) dJ1_charAt_3b067_7 rfl rfl ?_
  refine j_bald Ra hs hk dJ1_charAt_3b067_8 ?_
  refine r_sipush Ra dJ1_charAt_3b067_9 rfl ?_
  refine r_iand Ra dJ1_charAt_3b067_12 ?_
  refine r_i2c Ra dJ1_charAt_3b067_13 ?_
  rw [ch_id (txc_asc hs k)]
  exact j_ret Ra (nar_id (txc_asc hs k)) dJ1_charAt_3b067_14
theorem cj_ch0 {l : Launch} {en : En} {μ : Mem} {s : Nat} {k : Int} (hs : s < 2) (hk : 0 ≤ k ∧ k < ((txLen.getD s 0 : Nat) : Int)) : CtX l en yJ0_charAt_5068e cJ0_charAt_5068e 2 3 64 [vTx en s, vI k] μ .char (txc s k) := by
  refine Tr.ofF false (fun h => by cases h) (by decide) (Nat.le_of_ble_eq_true rfl) (fun K Ra => ?_)
  refine j_aload Ra (i := 0) dJ0_charAt_5068e_0 rfl rfl ?_
  refine j_callV (z := ZN) (As := []) Ra hs (cj_isLatin1 hs) mw_J0_isLatin1_aae02 mi_J0_isLatin1_aae02 rfl rfl rfl k_J0_492 ⟨rfl, rfl, Nat.le_of_ble_eq_true rfl, Nat.le_of_ble_eq_true rfl⟩ ⟨Nat.le_refl 0, Nat.le_refl 0⟩ (Nat.le_of_ble_eq_true rfl) dJ0_charAt_5068e_1 (fun _ => ?_)
  refine r_if_eq Ra 16 dJ0_charAt_5068e_4 ⟨by decide, by decide⟩ rfl (fun h => absurd h (by decide)) (fun _ => ?_)
  refine j_aload Ra (i := 0) dJ0_charAt_5068e_7 rfl rfl ?_
  refine j_value Ra hs dJ0_charAt_5068e_8 ?_
  refine r_iload_n Ra (i := 1) dJ0_charAt_5068e_11 rfl rfl ?_
  refine r_callS (z := ZN) (As := [vB en s, vI k]) Ra (cj_ch1 hs hk) mw_J1_charAt_3b067 ms_J1_charAt_3b067 rfl rfl k_J0_495 ⟨rfl, rfl, Nat.le_of_ble_eq_true rfl, Nat.le_of_ble_eq_true rfl⟩ ⟨Nat.le_refl 0, Nat.le_refl 0⟩ (Nat.le_of_ble_eq_true rfl) dJ0_charAt_5068e_12 (fun _ => ?_)
  exact j_ret Ra (nar_id (txc_asc hs k)) dJ0_charAt_5068e_15
theorem cj_can {l : Launch} {en : En} {μ : Mem} {k : Int} (hk : inR k) : CtX l en yJ1_canEncode_9a6ad cJ1_canEncode_9a6ad 1 0 0 [vI k] μ .boolean (if 0 ≤ k ∧ k ≤ 255 then 1 else 0) := by
  refine Tr.ofF false (fun h => by cases h) (by decide) (Nat.le_of_ble_eq_true rfl) (fun K Ra => ?_)
  have hno : ¬ (0 ≤ k ∧ k ≤ 255) → K ZN 15 (lo0 [vI k]) [] μ := fun h => by
    rw [if_neg h] at Ra
    refine r_iconst Ra dJ1_canEncode_9a6ad_15 ?_
    exact j_ret Ra rfl dJ1_canEncode_9a6ad_16
  refine r_iload_n Ra (i := 0) dJ1_canEncode_9a6ad_0 rfl rfl ?_
  refine r_if_lt Ra 15 dJ1_canEncode_9a6ad_1 hk rfl (fun h => hno (by omega)) (fun h1 => ?_)
  refine r_iload_n Ra (i := 0) dJ1_canEncode_9a6ad_4 rfl rfl ?_
  refine r_sipush Ra dJ1_canEncode_9a6ad_5 rfl ?_
  refine r_icmp_gt Ra 15 dJ1_canEncode_9a6ad_8 hk ⟨by decide, by decide⟩ rfl (fun h => hno (by omega)) (fun h2 => ?_)
  rw [if_pos (show 0 ≤ k ∧ k ≤ 255 by omega)] at Ra
  refine r_iconst Ra dJ1_canEncode_9a6ad_11 ?_
  refine r_goto Ra 16 dJ1_canEncode_9a6ad_12 rfl ?_
  exact j_ret Ra rfl dJ1_canEncode_9a6ad_16
theorem txi_b8 {s : Nat} {k : Int} (hs : s < 2) (hk : 0 ≤ k ∧ k ≤ 255) (i : Int) : txc s i = b8 k ↔ txc s i = k := by
  have h1 := txc_asc hs i
  by_cases h : k < 128
  · have := b8_lo k.toNat (by omega)
    rw [Int.toNat_of_nonneg hk.1] at this
    rw [this]
  · have := b8_hi (k.toNat - 128) (by omega)
    rw [show (((k.toNat - 128 + 128 : Nat)) : Int) = k by omega] at this
    rw [this]
    omega
theorem cj_ixc {l : Launch} {en : En} {μ : Mem} {s : Nat} {k : Int} (hs : s < 2) (hk : 0 ≤ k ∧ k ≤ 255) : CtX l en yJ1_indexOfChar_4cfef cJ1_indexOfChar_4cfef 6 0 0 [vB en s, vI k, vI 0, vI ((txLen.getD s 0 : Nat) : Int)] μ .int (txi s k) := by
  have hm := tx_small (s := s)
  have hr := inR_txi' s k
  refine Tr.ofF false (fun h => by cases h) (by decide) (Nat.le_of_ble_eq_true rfl) (fun K Ra => ?_)
  have loop : ∀ (n : Nat) (j : Int) (L : Lo), L 0 = some (vB en s) → L 3 = some (vI ((txLen.getD s 0 : Nat) : Int)) → L 4 = some (vI (b8 k)) → L 5 = some (vI j) → 0 ≤ j → j + n = ((txLen.getD s 0 : Nat) : Int) → (∀ i : Int, 0 ≤ i → i < j → txc s i ≠ k) → K ZN 7 L [] μ := by
    intro n
    induction n with
    | zero =>
      intro j L h0 h3 h4 h5 hj hn hb
      refine r_iload Ra dJ1_indexOfChar_4cfef_7 h5 ?_
      refine r_iload_n Ra (i := 3) dJ1_indexOfChar_4cfef_9 rfl h3 ?_
      refine r_icmp_ge Ra 31 dJ1_indexOfChar_4cfef_10 ⟨by omega, by omega⟩ ⟨by omega, by omega⟩ rfl (fun _ => ?_) (fun h => absurd h (by omega))
      rw [txi_miss (fun i h1 h2 => hb i h1 (by omega))] at Ra
      refine r_iconst Ra dJ1_indexOfChar_4cfef_31 ?_
      exact j_ret Ra rfl dJ1_indexOfChar_4cfef_32
    | succ n ih =>
      intro j L h0 h3 h4 h5 hj hn hb
      have ha := txc_asc hs j
      have hbR : inR (b8 k) := inR_32 _
      refine r_iload Ra dJ1_indexOfChar_4cfef_7 h5 ?_
      refine r_iload_n Ra (i := 3) dJ1_indexOfChar_4cfef_9 rfl h3 ?_
      refine r_icmp_ge Ra 31 dJ1_indexOfChar_4cfef_10 ⟨by omega, by omega⟩ ⟨by omega, by omega⟩ rfl (fun h => absurd h (by omega)) (fun _ => ?_)
      refine j_aload Ra (i := 0) dJ1_indexOfChar_4cfef_13 rfl h0 ?_
      refine r_iload Ra dJ1_indexOfChar_4cfef_14 h5 ?_
      refine j_bald Ra hs ⟨hj, by omega⟩ dJ1_indexOfChar_4cfef_16 ?_
      refine r_iload Ra dJ1_indexOfChar_4cfef_17 h4 ?_
      refine r_icmp_ne Ra 25 dJ1_indexOfChar_4cfef_19 ⟨by omega, by omega⟩ hbR rfl (fun h => ?_) (fun h => ?_)
      · refine r_iinc Ra dJ1_indexOfChar_4cfef_25 h5 ?_
        refine r_goto Ra 7 dJ1_indexOfChar_4cfef_28 rfl ?_
        rw [w32_id (x := j + 1) ⟨by omega, by omega⟩]
        refine ih (j + 1) _ h0 h3 h4 rfl (by omega) (by omega) (fun i h1 h2 => ?_)
        by_cases hij : i = j
        · rw [hij]; exact fun q => h ((txi_b8 hs hk j).mpr q)
        · exact hb i h1 (by omega)
      · refine r_iload Ra dJ1_indexOfChar_4cfef_22 h5 ?_
        rw [txi_hit ⟨hj, by omega⟩ ((txi_b8 hs hk j).mp h) hb] at Ra
        exact j_ret Ra rfl dJ1_indexOfChar_4cfef_24
  refine r_iload_n Ra (i := 1) dJ1_indexOfChar_4cfef_0 rfl rfl ?_
  refine r_i2b Ra dJ1_indexOfChar_4cfef_1 ?_
  refine r_istore Ra dJ1_indexOfChar_4cfef_2 (by decide) ?_
  refine r_iload_n Ra (i := 2) dJ1_indexOfChar_4cfef_4 rfl rfl ?_
  refine r_istore Ra dJ1_indexOfChar_4cfef_5 (by decide) ?_
  exact loop (txLen.getD s 0) 0 _ rfl rfl rfl rfl (by decide) (by omega) (fun i h1 h2 => absurd h2 (by omega))
theorem tx_pos {s : Nat} (hs : s < 2) : 0 < txLen.getD s 0 := by
  match s, hs with
  | 0, _ => decide
  | 1, _ => decide
theorem cj_ix1 {l : Launch} {en : En} {μ : Mem} {s : Nat} {k : Int} (hs : s < 2) (hk : inR k) : CtX l en yJ1_indexOf_4cfef cJ1_indexOf_4cfef 4 1 30 [vB en s, vI k, vI 0, vI ((txLen.getD s 0 : Nat) : Int)] μ .int (txi s k) := by
  have hm := tx_small (s := s)
  have hp := tx_pos hs
  have hr := inR_txi' s k
  refine Tr.ofF false (fun h => by cases h) (by decide) (Nat.le_of_ble_eq_true rfl) (fun K Ra => ?_)
  refine r_iload_n Ra (i := 1) dJ1_indexOf_4cfef_0 rfl rfl ?_
  refine r_callS (z := ZN) (As := [vI k]) Ra (cj_can hk) mw_J1_canEncode_9a6ad ms_J1_canEncode_9a6ad rfl rfl k_J1_88 ⟨rfl, rfl, Nat.le_of_ble_eq_true rfl, Nat.le_of_ble_eq_true rfl⟩ ⟨Nat.le_refl 0, Nat.le_refl 0⟩ (Nat.le_of_ble_eq_true rfl) dJ1_indexOf_4cfef_1 (fun _ => ?_)
  show K ZN 4 _ [vI (if 0 ≤ k ∧ k ≤ 255 then 1 else 0)] μ
  by_cases h255 : 0 ≤ k ∧ k ≤ 255
  · rw [if_pos h255]
    refine r_if_ne Ra 9 dJ1_indexOf_4cfef_4 ⟨by decide, by decide⟩ rfl (fun _ => ?_) (fun h => absurd h (by decide))
    refine r_iload_n Ra (i := 2) dJ1_indexOf_4cfef_9 rfl rfl ?_
    refine r_iconst Ra dJ1_indexOf_4cfef_10 ?_
    refine q_mmax Ra (x := 0) (y := 0) ⟨by decide, by decide⟩ ⟨by decide, by decide⟩ k_J1_92 rfl rfl dJ1_indexOf_4cfef_11 ?_
    refine r_istore_n Ra (i := 2) dJ1_indexOf_4cfef_14 rfl (by decide) ?_
    refine r_iload_n Ra (i := 3) dJ1_indexOf_4cfef_15 rfl rfl ?_
    refine j_aload Ra (i := 0) dJ1_indexOf_4cfef_16 rfl rfl ?_
    refine j_blen Ra hs dJ1_indexOf_4cfef_17 ?_
    refine q_mmin Ra ⟨by omega, by omega⟩ ⟨by omega, by omega⟩ k_J1_38 rfl rfl dJ1_indexOf_4cfef_18 ?_
    rw [show min ((txLen.getD s 0 : Nat) : Int) ((txLen.getD s 0 : Nat) : Int) = ((txLen.getD s 0 : Nat) : Int) by omega]
    refine r_istore_n Ra (i := 3) dJ1_indexOf_4cfef_21 rfl (by decide) ?_
    refine r_iload_n Ra (i := 2) (x := 0) dJ1_indexOf_4cfef_22 rfl rfl ?_
    refine r_iload_n Ra (i := 3) dJ1_indexOf_4cfef_23 rfl rfl ?_
    refine r_icmp_lt Ra 29 dJ1_indexOf_4cfef_24 ⟨by omega, by omega⟩ ⟨by omega, by omega⟩ rfl (fun _ => ?_) (fun h => absurd h (by omega))
    refine j_aload Ra (i := 0) dJ1_indexOf_4cfef_29 rfl rfl ?_
    refine r_iload_n Ra (i := 1) dJ1_indexOf_4cfef_30 rfl rfl ?_
    refine r_iload_n Ra (i := 2) (x := 0) dJ1_indexOf_4cfef_31 rfl rfl ?_
    refine r_iload_n Ra (i := 3) dJ1_indexOf_4cfef_32 rfl rfl ?_
    refine r_callS (z := ZN) (As := [vB en s, vI k, vI 0, vI ((txLen.getD s 0 : Nat) : Int)]) Ra (cj_ixc hs h255) mw_J1_indexOfChar_4cfef ms_J1_indexOfChar_4cfef rfl rfl k_J1_95 ⟨rfl, rfl, Nat.le_of_ble_eq_true rfl, Nat.le_of_ble_eq_true rfl⟩ ⟨Nat.le_refl 0, Nat.le_refl 0⟩ (Nat.le_of_ble_eq_true rfl) dJ1_indexOf_4cfef_33 (fun _ => ?_)
    exact j_ret Ra rfl dJ1_indexOf_4cfef_36
  · rw [if_neg h255]
    rw [txi_miss (fun i h1 h2 q => by have := txc_asc hs i; omega)] at Ra
    refine r_if_ne Ra 9 dJ1_indexOf_4cfef_4 ⟨by decide, by decide⟩ rfl (fun h => absurd rfl h) (fun _ => ?_)
    refine r_iconst Ra dJ1_indexOf_4cfef_7 ?_
    exact j_ret Ra rfl dJ1_indexOf_4cfef_8
theorem cj_ix2 {l : Launch} {en : En} {μ : Mem} {s : Nat} {k : Int} (hs : s < 2) (hk : inR k) : CtX l en yJ0_indexOf_7cf53 cJ0_indexOf_7cf53 3 2 60 [vTx en s, vI k, vI 0] μ .int (txi s k) := by
  have hr := inR_txi' s k
  refine Tr.ofF false (fun h => by cases h) (by decide) (Nat.le_of_ble_eq_true rfl) (fun K Ra => ?_)
  refine j_aload Ra (i := 0) dJ0_indexOf_7cf53_0 rfl rfl ?_
  refine j_callV (z := ZN) (As := []) Ra hs (cj_isLatin1 hs) mw_J0_isLatin1_aae02 mi_J0_isLatin1_aae02 rfl rfl rfl k_J0_492 ⟨rfl, rfl, Nat.le_of_ble_eq_true rfl, Nat.le_of_ble_eq_true rfl⟩ ⟨Nat.le_refl 0, Nat.le_refl 0⟩ (Nat.le_of_ble_eq_true rfl) dJ0_indexOf_7cf53_1 (fun _ => ?_)
  refine r_if_eq Ra 23 dJ0_indexOf_7cf53_4 ⟨by decide, by decide⟩ rfl (fun h => absurd h (by decide)) (fun _ => ?_)
  refine j_aload Ra (i := 0) dJ0_indexOf_7cf53_7 rfl rfl ?_
  refine j_value Ra hs dJ0_indexOf_7cf53_8 ?_
  refine r_iload_n Ra (i := 1) dJ0_indexOf_7cf53_11 rfl rfl ?_
  refine r_iload_n Ra (i := 2) dJ0_indexOf_7cf53_12 rfl rfl ?_
  refine j_aload Ra (i := 0) dJ0_indexOf_7cf53_13 rfl rfl ?_
  refine j_callV (z := ZN) (As := []) Ra hs (cj_length hs) mw_J0_length_8abf5 mi_J0_length_8abf5 rfl rfl rfl k_J0_505 ⟨rfl, rfl, Nat.le_of_ble_eq_true rfl, Nat.le_of_ble_eq_true rfl⟩ ⟨Nat.le_refl 0, Nat.le_refl 0⟩ (Nat.le_of_ble_eq_true rfl) dJ0_indexOf_7cf53_14 (fun _ => ?_)
  refine r_callS (z := ZN) (As := [vB en s, vI k, vI 0, vI ((txLen.getD s 0 : Nat) : Int)]) Ra (cj_ix1 hs hk) mw_J1_indexOf_4cfef ms_J1_indexOf_4cfef rfl rfl k_J0_637 ⟨rfl, rfl, Nat.le_of_ble_eq_true rfl, Nat.le_of_ble_eq_true rfl⟩ ⟨Nat.le_refl 0, Nat.le_refl 0⟩ (Nat.le_of_ble_eq_true rfl) dJ0_indexOf_7cf53_17 (fun _ => ?_)
  refine r_goto Ra 36 dJ0_indexOf_7cf53_20 rfl ?_
  exact j_ret Ra rfl dJ0_indexOf_7cf53_36
theorem cj_ix0 {l : Launch} {en : En} {μ : Mem} {s : Nat} {k : Int} (hs : s < 2) (hk : inR k) : CtX l en yJ0_indexOf_0f7a4 cJ0_indexOf_0f7a4 2 3 90 [vTx en s, vI k] μ .int (txi s k) := by
  refine Tr.ofF false (fun h => by cases h) (by decide) (Nat.le_of_ble_eq_true rfl) (fun K Ra => ?_)
  refine j_aload Ra (i := 0) dJ0_indexOf_0f7a4_0 rfl rfl ?_
  refine r_iload_n Ra (i := 1) dJ0_indexOf_0f7a4_1 rfl rfl ?_
  refine r_iconst Ra dJ0_indexOf_0f7a4_2 ?_
  refine j_callV (z := ZN) (As := [vI k, vI 0]) Ra hs (cj_ix2 hs hk) mw_J0_indexOf_7cf53 mi_J0_indexOf_7cf53 rfl rfl rfl k_J0_633 ⟨rfl, rfl, Nat.le_of_ble_eq_true rfl, Nat.le_of_ble_eq_true rfl⟩ ⟨Nat.le_refl 0, Nat.le_refl 0⟩ (Nat.le_of_ble_eq_true rfl) dJ0_indexOf_0f7a4_3 (fun _ => ?_)
  exact j_ret Ra rfl dJ0_indexOf_0f7a4_6
section JQ
variable {ini : Bool} {res : Option Rs} {l : Launch} {en : En} {cc : ByteArray} {own : String} {nL : Nat} {f0 q0 : Nat} {K : KT} {pc : Nat} {L : Lo} {st stk : List Value} {μ : Mem}
theorem q_strlen' (Ra : Ru ini res l en cc own nL (rmN f0 q0) K) {s i : Nat} (hs : s < 2) (hlk : Cond.methodLink own i yJ0_length_8abf5 ∈ GW) (hst : Nat.ble ((st.map fun v => v.category).sum) 8 = true) (hr1 : Nat.ble 3 f0 = true) (hr2 : Nat.ble 100 q0 = true) (hd : decode cc pc = .ok (.invokevirtual i, 3)) (kk : K ZN (pc + 3) L (vI ((txLen.getD s 0 : Nat) : Int) :: st) μ) : K ZN pc L (vT en s :: st) μ :=
  j_callV (z := ZN) (As := []) Ra hs (cj_length hs) mw_J0_length_8abf5 mi_J0_length_8abf5 rfl rfl rfl hlk ⟨rfl, rfl, Nat.le_trans (by decide) (Nat.le_of_ble_eq_true hr1), Nat.le_trans (by decide) (Nat.le_of_ble_eq_true hr2)⟩ ⟨Nat.le_refl 0, Nat.le_refl 0⟩ (Nat.le_of_ble_eq_true hst) hd (fun _ => kk)
theorem q_charAt' (Ra : Ru ini res l en cc own nL (rmN f0 q0) K) {s i : Nat} {k : Int} (hs : s < 2) (hk : 0 ≤ k ∧ k < ((txLen.getD s 0 : Nat) : Int)) (hlk : Cond.methodLink own i yJ0_charAt_5068e ∈ GW) (hst : Nat.ble ((st.map fun v => v.category).sum) 8 = true) (hr1 : Nat.ble 6 f0 = true) (hr2 : Nat.ble 300 q0 = true) (hd : decode cc pc = .ok (.invokevirtual i, 3)) (kk : K ZN (pc + 3) L (vI (txc s k) :: st) μ) : K ZN pc L (vI k :: vT en s :: st) μ :=
  j_callV (z := ZN) (As := [vI k]) Ra hs (cj_ch0 hs hk) mw_J0_charAt_5068e mi_J0_charAt_5068e rfl rfl rfl hlk ⟨rfl, rfl, Nat.le_trans (by decide) (Nat.le_of_ble_eq_true hr1), Nat.le_trans (by decide) (Nat.le_of_ble_eq_true hr2)⟩ ⟨Nat.le_refl 0, Nat.le_refl 0⟩ (Nat.le_of_ble_eq_true hst) hd (fun _ => kk)
theorem q_indexOf' (Ra : Ru ini res l en cc own nL (rmN f0 q0) K) {s i : Nat} {k : Int} (hs : s < 2) (hk : inR k) (hlk : Cond.methodLink own i yJ0_indexOf_0f7a4 ∈ GW) (hst : Nat.ble ((st.map fun v => v.category).sum) 8 = true) (hr1 : Nat.ble 6 f0 = true) (hr2 : Nat.ble 300 q0 = true) (hd : decode cc pc = .ok (.invokevirtual i, 3)) (kk : K ZN (pc + 3) L (vI (txi s k) :: st) μ) : K ZN pc L (vI k :: vT en s :: st) μ :=
  j_callV (z := ZN) (As := [vI k]) Ra hs (cj_ix0 hs hk) mw_J0_indexOf_0f7a4 mi_J0_indexOf_0f7a4 rfl rfl rfl hlk ⟨rfl, rfl, Nat.le_trans (by decide) (Nat.le_of_ble_eq_true hr1), Nat.le_trans (by decide) (Nat.le_of_ble_eq_true hr2)⟩ ⟨Nat.le_refl 0, Nat.le_refl 0⟩ (Nat.le_of_ble_eq_true hst) hd (fun _ => kk)
end JQ
