/-! THE LAW: its loop over the script, for an invariant that all calls keep -/
def ok_feed (Inv : Mem → Prop) (N : Nat) : Prop := ∀ (m : Mem) (x1 x2 x3 x4 x5 : Int), VT m → Inv m → inR x1 → inR x2 → inR x3 → inR x4 → inR x5 → ∃ (r : Int) (m1 m2 : Mem), pD_feed N m x1 x2 x3 x4 x5 = some (r, m1) ∧ pM_feed N m1 x1 x2 x3 x4 x5 = some (r, m2) ∧ Inv m2
def ok_end (Inv : Mem → Prop) (N : Nat) : Prop := ∀ (m : Mem) (x1 : Int), VT m → Inv m → inR x1 → ∃ (r : Int) (m1 m2 : Mem), pD_end m x1 = some (r, m1) ∧ pM_end m1 x1 = some (r, m2) ∧ Inv m2
def ok_valley (Inv : Mem → Prop) (N : Nat) : Prop := ∀ (m : Mem), VT m → Inv m → ∃ (r : Int) (m1 m2 : Mem), pD_valley N m = some (r, m1) ∧ pM_valley N m1 = some (r, m2) ∧ Inv m2
def ok_fault (Inv : Mem → Prop) (N : Nat) : Prop := ∀ (m : Mem) (x1 : Int), VT m → Inv m → inR x1 → ∃ (r : Int) (m1 m2 : Mem), pD_fault m x1 = some r ∧ m1 = m ∧ pM_fault m1 x1 = some r ∧ m2 = m1 ∧ Inv m2
def ok_has (Inv : Mem → Prop) (N : Nat) : Prop := ∀ (m : Mem) (x1 : Int), VT m → Inv m → inR x1 → ∃ (r : Int) (m1 m2 : Mem), pD_has N m x1 = some r ∧ m1 = m ∧ pM_has N m1 x1 = some r ∧ m2 = m1 ∧ Inv m2
def ok_letter (Inv : Mem → Prop) (N : Nat) : Prop := ∀ (m : Mem) (x1 x2 : Int), VT m → Inv m → inR x1 → inR x2 → ∃ (r : Int) (m1 m2 : Mem), pD_letter m x1 x2 = some r ∧ m1 = m ∧ pM_letter N m1 x1 x2 = some r ∧ m2 = m1 ∧ Inv m2
def ok_cell (Inv : Mem → Prop) (N : Nat) : Prop := ∀ (m : Mem) (x1 x2 : Int), VT m → Inv m → inR x1 → inR x2 → ∃ (r : Int) (m1 m2 : Mem), pD_cell m x1 x2 = some r ∧ m1 = m ∧ pM_cell m1 x1 x2 = some r ∧ m2 = m1 ∧ Inv m2
def ok_person (Inv : Mem → Prop) (N : Nat) : Prop := ∀ (m : Mem) (x1 x2 : Int), VT m → Inv m → inR x1 → inR x2 → ∃ (r : Int) (m1 m2 : Mem), pD_person m x1 x2 = some r ∧ m1 = m ∧ pM_person m1 x1 x2 = some r ∧ m2 = m1 ∧ Inv m2
def ok_today (Inv : Mem → Prop) (N : Nat) : Prop := ∀ (m : Mem) (x1 x2 x3 : Int), VT m → Inv m → inR x1 → inR x2 → inR x3 → ∃ (r : Int) (m1 m2 : Mem), pD_today N m x1 x2 x3 = some (r, m1) ∧ pM_today N m1 x1 x2 x3 = some (r, m2) ∧ Inv m2
def ok_dew (Inv : Mem → Prop) (N : Nat) : Prop := ∀ (m : Mem) (x1 x2 x3 : Int), VT m → Inv m → inR x1 → inR x2 → inR x3 → ∃ (r : Int) (m1 m2 : Mem), pD_dew N m x1 x2 x3 = some (r, m1) ∧ pM_dew N m1 x1 x2 x3 = some (r, m2) ∧ Inv m2
def ok_up (Inv : Mem → Prop) (N : Nat) : Prop := ∀ (m : Mem) (x1 x2 : Int), VT m → Inv m → inR x1 → inR x2 → ∃ (r : Int) (m1 m2 : Mem), pD_up N m x1 x2 = some (r, m1) ∧ pM_up N m1 x1 x2 = some (r, m2) ∧ Inv m2
def ok_home (Inv : Mem → Prop) (N : Nat) : Prop := ∀ (m : Mem) (x1 x2 : Int), VT m → Inv m → inR x1 → inR x2 → ∃ (r : Int) (m1 m2 : Mem), pD_home N m x1 x2 = some (r, m1) ∧ pM_home N m1 x1 x2 = some (r, m2) ∧ Inv m2
def ok_way (Inv : Mem → Prop) (N : Nat) : Prop := ∀ (m : Mem) (x1 x2 x3 : Int), VT m → Inv m → inR x1 → inR x2 → inR x3 → ∃ (r : Int) (m1 m2 : Mem), pD_way N m x1 x2 x3 = some (r, m1) ∧ pM_way N m1 x1 x2 x3 = some (r, m2) ∧ Inv m2
def ok_changed (Inv : Mem → Prop) (N : Nat) : Prop := ∀ (m : Mem) (x1 : Int), VT m → Inv m → inR x1 → ∃ (r : Int) (m1 m2 : Mem), pD_changed N m x1 = some (r, m1) ∧ pM_changed N m1 x1 = some (r, m2) ∧ Inv m2
def ok_later (Inv : Mem → Prop) (N : Nat) : Prop := ∀ (m : Mem) (x1 x2 x3 : Int), VT m → Inv m → inR x1 → inR x2 → inR x3 → ∃ (r : Int) (m1 m2 : Mem), pD_later N m x1 x2 x3 = some (r, m1) ∧ pM_later N m1 x1 x2 x3 = some (r, m2) ∧ Inv m2
def ok_purse (Inv : Mem → Prop) (N : Nat) : Prop := ∀ (m : Mem) (x1 x2 : Int), VT m → Inv m → inR x1 → inR x2 → ∃ (r : Int) (m1 m2 : Mem), pD_purse N m x1 x2 = some (r, m1) ∧ pM_purse N m1 x1 x2 = some (r, m2) ∧ Inv m2
def ok_dry (Inv : Mem → Prop) (N : Nat) : Prop := ∀ (m : Mem) (x1 : Int), VT m → Inv m → inR x1 → ∃ (r : Int) (m1 m2 : Mem), pD_dry N m x1 = some (r, m1) ∧ pM_dry N m1 x1 = some (r, m2) ∧ Inv m2
def ok_see (Inv : Mem → Prop) (N : Nat) : Prop := ∀ (m : Mem), VT m → Inv m → ∃ (r : Int) (m1 m2 : Mem), pD_see N m = some (r, m1) ∧ pM_see N m1 = some (r, m2) ∧ Inv m2
def ok_walkers (Inv : Mem → Prop) (N : Nat) : Prop := ∀ (m : Mem) (x1 : Int), VT m → Inv m → inR x1 → ∃ (r : Int) (m1 m2 : Mem), pD_walkers N m x1 = some (r, m1) ∧ pM_walkers N m1 x1 = some (r, m2) ∧ Inv m2
def ok_tells (Inv : Mem → Prop) (N : Nat) : Prop := ∀ (m : Mem) (x1 : Int), VT m → Inv m → inR x1 → ∃ (r : Int) (m1 m2 : Mem), pD_tells N m x1 = some (r, m1) ∧ pM_tells N m1 x1 = some (r, m2) ∧ Inv m2
def ok_days (Inv : Mem → Prop) (N : Nat) : Prop := ∀ (m : Mem) (x1 : Int), VT m → Inv m → inR x1 → ∃ (r : Int) (m1 m2 : Mem), pD_days N m x1 = some (r, m1) ∧ pM_days N m1 x1 = some (r, m2) ∧ Inv m2
def ok_chance (Inv : Mem → Prop) (N : Nat) : Prop := ∀ (m : Mem) (x1 : Int), VT m → Inv m → inR x1 → ∃ (r : Int) (m1 m2 : Mem), pD_chance N m x1 = some (r, m1) ∧ pM_chance N m1 x1 = some (r, m2) ∧ Inv m2
def ok_rise (Inv : Mem → Prop) (N : Nat) : Prop := ∀ (m : Mem) (x1 x2 : Int), VT m → Inv m → inR x1 → inR x2 → ∃ (r : Int) (m1 m2 : Mem), pD_rise m x1 x2 = some (r, m1) ∧ pM_rise N m1 x1 x2 = some (r, m2) ∧ Inv m2
def ok_move (Inv : Mem → Prop) (N : Nat) : Prop := ∀ (m : Mem) (x1 x2 x3 : Int), VT m → Inv m → inR x1 → inR x2 → inR x3 → ∃ (r : Int) (m1 m2 : Mem), pD_move m x1 x2 x3 = some (r, m1) ∧ pM_move N m1 x1 x2 x3 = some (r, m2) ∧ Inv m2
def ok_weave (Inv : Mem → Prop) (N : Nat) : Prop := ∀ (m : Mem) (x1 x2 : Int), VT m → Inv m → inR x1 → inR x2 → ∃ (r : Int) (m1 m2 : Mem), pD_weave m x1 x2 = some (r, m1) ∧ pM_weave N m1 x1 x2 = some (r, m2) ∧ Inv m2
def ok_undo (Inv : Mem → Prop) (N : Nat) : Prop := ∀ (m : Mem), VT m → Inv m → ∃ (r : Int) (m1 m2 : Mem), pD_undo m = some (r, m1) ∧ pM_undo N m1 = some (r, m2) ∧ Inv m2
def ok_seed (Inv : Mem → Prop) (N : Nat) : Prop := ∀ (m : Mem) (x1 : Int), VT m → Inv m → inR x1 → ∃ (r : Int) (m1 m2 : Mem), pD_seed m x1 = some (r, m1) ∧ pM_seed m1 x1 = some (r, m2) ∧ Inv m2
def ok_kept (Inv : Mem → Prop) (N : Nat) : Prop := ∀ (m : Mem) (x1 x2 : Int), VT m → Inv m → inR x1 → inR x2 → ∃ (r : Int) (m1 m2 : Mem), pD_kept m x1 x2 = some r ∧ m1 = m ∧ pM_kept m1 x1 x2 = some r ∧ m2 = m1 ∧ Inv m2
def ok_image (Inv : Mem → Prop) (N : Nat) : Prop := ∀ (m : Mem), VT m → Inv m → ∃ (r : Int) (m1 m2 : Mem), pD_image N m = some (r, m1) ∧ pM_image N m1 = some (r, m2) ∧ Inv m2
def ok_octet (Inv : Mem → Prop) (N : Nat) : Prop := ∀ (m : Mem) (x1 : Int), VT m → Inv m → inR x1 → ∃ (r : Int) (m1 m2 : Mem), pD_octet m x1 = some r ∧ m1 = m ∧ pM_octet m1 x1 = some r ∧ m2 = m1 ∧ Inv m2
def ok_on (Inv : Mem → Prop) (N : Nat) : Prop := ∀ (m : Mem), VT m → Inv m → ∃ (r : Int) (m1 m2 : Mem), pD_on N m = some (r, m1) ∧ pM_on N m1 = some (r, m2) ∧ Inv m2
def ok_status (Inv : Mem → Prop) (N : Nat) : Prop := ∀ (m : Mem) (x1 : Int), VT m → Inv m → inR x1 → ∃ (r : Int) (m1 m2 : Mem), pD_status m x1 = some r ∧ m1 = m ∧ pM_status m1 x1 = some r ∧ m2 = m1 ∧ Inv m2
def okAll (Inv : Mem → Prop) (N : Nat) : Prop := ok_feed Inv N ∧ ok_end Inv N ∧ ok_valley Inv N ∧ ok_fault Inv N ∧ ok_has Inv N ∧ ok_letter Inv N ∧ ok_cell Inv N ∧ ok_person Inv N ∧ ok_today Inv N ∧ ok_dew Inv N ∧ ok_up Inv N ∧ ok_home Inv N ∧ ok_way Inv N ∧ ok_changed Inv N ∧ ok_later Inv N ∧ ok_purse Inv N ∧ ok_dry Inv N ∧ ok_see Inv N ∧ ok_walkers Inv N ∧ ok_tells Inv N ∧ ok_days Inv N ∧ ok_chance Inv N ∧ ok_rise Inv N ∧ ok_move Inv N ∧ ok_weave Inv N ∧ ok_undo Inv N ∧ ok_seed Inv N ∧ ok_kept Inv N ∧ ok_image Inv N ∧ ok_octet Inv N ∧ ok_on Inv N ∧ ok_status Inv N
abbrev ZL : Zt := (523, 523, 116114)
def LawK (b Ls : Nat) (xs : Nat → Int32) (K : KT) : Prop :=
  (∀ (z : Zt) (pc : Nat) (L : Lo) (st : List Value) (μ : Mem) (i : Int), decode code pc = .ok (.iaload, 1) → 0 ≤ i → i < (Ls : Int) → K z (pc + 1) L (vI (xs i.toNat).toInt :: st) μ → K z pc L (vI i :: .ref b :: st) μ) ∧
  (∀ (z : Zt) (pc : Nat) (L : Lo) (st : List Value) (μ : Mem), decode code pc = .ok (.arraylength, 1) → K z (pc + 1) L (vI (Ls : Int) :: st) μ → K z pc L (.ref b :: st) μ) ∧
  (∀ (z : Zt) (pc : Nat) (L : Lo) (st : List Value) (μ : Mem), decode code pc = .ok (.aload_n 0, 1) → L 0 = some (.ref b) → K z (pc + 1) L (.ref b :: st) μ → K z pc L st μ) ∧
  (∀ (L : Lo) (μ : Mem), K ZL 1099 L [vI 1] μ)
section LAW
variable {l : Launch} {en : En} {K : KT} {b Ls : Nat} {xs : Nat → Int32} {L : Lo} {μ : Mem} {i : Int} {Inv : Mem → Prop} {N : Nat}
theorem law_arg (Ra : Ru false none l en code RL 4 room_1 K) (hK : LawK b Ls xs K) {z : Zt} {pc : Nat} {st : List Value} (j : Int) (d0 : decode code pc = .ok (.aload_n 0, 1)) (d1 : decode code (pc + 1) = .ok (.iload_n 3, 1)) (d2 : decode code (pc + 2) = .ok (.iconst j, 1)) (d3 : decode code (pc + 3) = .ok (.iadd, 1)) (d4 : decode code (pc + 4) = .ok (.iaload, 1)) (h0 : L 0 = some (.ref b)) (h3 : L 3 = some (vI i)) (hi : 0 ≤ i) (hj : 0 ≤ j) (hij : i + j < (Ls : Int)) (hLs : Ls ≤ 3072) (kk : K z (pc + 5) L (vI (xs (i + j).toNat).toInt :: st) μ) : K z pc L st μ := by
  refine hK.2.2.1 z pc L st μ d0 h0 ?_
  refine r_iload_n Ra (i := 3) d1 rfl h3 ?_
  refine r_iconst Ra d2 ?_
  refine r_iadd Ra d3 ?_
  rw [w32_id (x := i + j) ⟨by omega, by omega⟩]
  exact hK.1 z (pc + 4) L st μ (i + j) d4 (by omega) hij kk
theorem law_feed (Ra : Ru false none l en code RL 4 room_1 K) (hK : LawK b Ls xs K) (hO : ok_feed Inv N) (h0 : L 0 = some (.ref b)) (h1 : L 1 = some (vA en 0)) (h2 : L 2 = some (vA en 475)) (h3 : L 3 = some (vI i)) (hi : 0 ≤ i) (hi6 : i + 6 ≤ (Ls : Int)) (hLs : Ls ≤ 3072) (hV0 : VT μ) (hI : Inv μ) (kk : ∀ μ2, VT μ2 → Inv μ2 → K ZL 1092 L [] μ2) : K ZL 176 L [] μ := by
  obtain ⟨r, m1, m2, e1, e2, hI2⟩ := hO μ (xs (i + 1).toNat).toInt (xs (i + 2).toNat).toInt (xs (i + 3).toNat).toInt (xs (i + 4).toNat).toInt (xs (i + 5).toNat).toInt hV0 hI (inR_32 _) (inR_32 _) (inR_32 _) (inR_32 _) (inR_32 _)
  refine r_aload_n Ra (i := 1) dL_law_176 rfl h1 ?_
  refine law_arg Ra hK 1 dL_law_177 dL_law_178 dL_law_179 dL_law_180 dL_law_181 h0 h3 hi (by decide) (by omega) hLs ?_
  refine law_arg Ra hK 2 dL_law_182 dL_law_183 dL_law_184 dL_law_185 dL_law_186 h0 h3 hi (by decide) (by omega) hLs ?_
  refine law_arg Ra hK 3 dL_law_187 dL_law_188 dL_law_189 dL_law_190 dL_law_191 h0 h3 hi (by decide) (by omega) hLs ?_
  refine law_arg Ra hK 4 dL_law_192 dL_law_193 dL_law_194 dL_law_195 dL_law_196 h0 h3 hi (by decide) (by omega) hLs ?_
  refine law_arg Ra hK 5 dL_law_197 dL_law_198 dL_law_199 dL_law_200 dL_law_201 h0 h3 hi (by decide) (by omega) hLs ?_
  refine r_callV Ra (z := ZL) (c_pD_feed hV0 (inR_32 _) (inR_32 _) (inR_32 _) (inR_32 _) (inR_32 _) e1) mw_X11_feed mi_X11_feed (by decide) t0 (by decide) rfl rfl rfl k_L_13 ⟨rfl, rfl, Nat.le_of_ble_eq_true rfl, Nat.le_of_ble_eq_true rfl⟩ ⟨Nat.le_of_ble_eq_true rfl, Nat.le_of_ble_eq_true rfl⟩ (Nat.le_of_ble_eq_true rfl) dL_law_202 (fun okD => ?_)
  have hV1 := okD.1
  have hr1 : inR r := okD.2
  refine r_aload_n Ra (i := 2) dL_law_205 rfl h2 ?_
  refine law_arg Ra hK 1 dL_law_206 dL_law_207 dL_law_208 dL_law_209 dL_law_210 h0 h3 hi (by decide) (by omega) hLs ?_
  refine law_arg Ra hK 2 dL_law_211 dL_law_212 dL_law_213 dL_law_214 dL_law_215 h0 h3 hi (by decide) (by omega) hLs ?_
  refine law_arg Ra hK 3 dL_law_216 dL_law_217 dL_law_218 dL_law_219 dL_law_220 h0 h3 hi (by decide) (by omega) hLs ?_
  refine law_arg Ra hK 4 dL_law_221 dL_law_222 dL_law_223 dL_law_224 dL_law_225 h0 h3 hi (by decide) (by omega) hLs ?_
  refine law_arg Ra hK 5 dL_law_226 dL_law_227 dL_law_228 dL_law_229 dL_law_230 h0 h3 hi (by decide) (by omega) hLs ?_
  refine r_callV Ra (z := ZL) (c_pM_feed hV1 (inR_32 _) (inR_32 _) (inR_32 _) (inR_32 _) (inR_32 _) e2) mw_X12_feed mi_X12_feed (by decide) t475 (by decide) rfl rfl rfl k_L_17 ⟨rfl, rfl, Nat.le_of_ble_eq_true rfl, Nat.le_of_ble_eq_true rfl⟩ ⟨Nat.le_of_ble_eq_true rfl, Nat.le_of_ble_eq_true rfl⟩ (Nat.le_of_ble_eq_true rfl) dL_law_231 (fun okM => ?_)
  refine r_icmp_eq Ra 1092 dL_law_234 hr1 hr1 (by decide) (fun _ => kk _ okM.1 hI2) (fun q => absurd rfl q)
theorem law_end (Ra : Ru false none l en code RL 4 room_1 K) (hK : LawK b Ls xs K) (hO : ok_end Inv N) (h0 : L 0 = some (.ref b)) (h1 : L 1 = some (vA en 0)) (h2 : L 2 = some (vA en 475)) (h3 : L 3 = some (vI i)) (hi : 0 ≤ i) (hi6 : i + 6 ≤ (Ls : Int)) (hLs : Ls ≤ 3072) (hV0 : VT μ) (hI : Inv μ) (kk : ∀ μ2, VT μ2 → Inv μ2 → K ZL 1092 L [] μ2) : K ZL 239 L [] μ := by
  obtain ⟨r, m1, m2, e1, e2, hI2⟩ := hO μ (xs (i + 1).toNat).toInt hV0 hI (inR_32 _)
  refine r_aload_n Ra (i := 1) dL_law_239 rfl h1 ?_
  refine law_arg Ra hK 1 dL_law_240 dL_law_241 dL_law_242 dL_law_243 dL_law_244 h0 h3 hi (by decide) (by omega) hLs ?_
  refine r_callV Ra (z := ZL) (c_pD_end hV0 (inR_32 _) e1) mw_X11_end mi_X11_end (by decide) t0 (by decide) rfl rfl rfl k_L_18 ⟨rfl, rfl, Nat.le_of_ble_eq_true rfl, Nat.le_of_ble_eq_true rfl⟩ ⟨Nat.le_of_ble_eq_true rfl, Nat.le_of_ble_eq_true rfl⟩ (Nat.le_of_ble_eq_true rfl) dL_law_245 (fun okD => ?_)
  have hV1 := okD.1
  have hr1 : inR r := inR_01 okD.2
  refine r_aload_n Ra (i := 2) dL_law_248 rfl h2 ?_
  refine law_arg Ra hK 1 dL_law_249 dL_law_250 dL_law_251 dL_law_252 dL_law_253 h0 h3 hi (by decide) (by omega) hLs ?_
  refine r_callV Ra (z := ZL) (c_pM_end hV1 (inR_32 _) e2) mw_X12_end mi_X12_end (by decide) t475 (by decide) rfl rfl rfl k_L_22 ⟨rfl, rfl, Nat.le_of_ble_eq_true rfl, Nat.le_of_ble_eq_true rfl⟩ ⟨Nat.le_of_ble_eq_true rfl, Nat.le_of_ble_eq_true rfl⟩ (Nat.le_of_ble_eq_true rfl) dL_law_254 (fun okM => ?_)
  refine r_icmp_eq Ra 1092 dL_law_257 hr1 hr1 (by decide) (fun _ => kk _ okM.1 hI2) (fun q => absurd rfl q)
theorem law_valley (Ra : Ru false none l en code RL 4 room_1 K) (hK : LawK b Ls xs K) (hO : ok_valley Inv N) (h0 : L 0 = some (.ref b)) (h1 : L 1 = some (vA en 0)) (h2 : L 2 = some (vA en 475)) (h3 : L 3 = some (vI i)) (hi : 0 ≤ i) (hi6 : i + 6 ≤ (Ls : Int)) (hLs : Ls ≤ 3072) (hV0 : VT μ) (hI : Inv μ) (kk : ∀ μ2, VT μ2 → Inv μ2 → K ZL 1092 L [] μ2) : K ZL 262 L [] μ := by
  obtain ⟨r, m1, m2, e1, e2, hI2⟩ := hO μ  hV0 hI 
  refine r_aload_n Ra (i := 1) dL_law_262 rfl h1 ?_
  refine r_callV Ra (z := ZL) (c_pD_valley hV0  e1) mw_X11_valley mi_X11_valley (by decide) t0 (by decide) rfl rfl rfl k_L_23 ⟨rfl, rfl, Nat.le_of_ble_eq_true rfl, Nat.le_of_ble_eq_true rfl⟩ ⟨Nat.le_of_ble_eq_true rfl, Nat.le_of_ble_eq_true rfl⟩ (Nat.le_of_ble_eq_true rfl) dL_law_263 (fun okD => ?_)
  have hV1 := okD.1
  have hr1 : inR r := okD.2
  refine r_aload_n Ra (i := 2) dL_law_266 rfl h2 ?_
  refine r_callV Ra (z := ZL) (c_pM_valley hV1  e2) mw_X12_valley mi_X12_valley (by decide) t475 (by decide) rfl rfl rfl k_L_27 ⟨rfl, rfl, Nat.le_of_ble_eq_true rfl, Nat.le_of_ble_eq_true rfl⟩ ⟨Nat.le_of_ble_eq_true rfl, Nat.le_of_ble_eq_true rfl⟩ (Nat.le_of_ble_eq_true rfl) dL_law_267 (fun okM => ?_)
  refine r_icmp_eq Ra 1092 dL_law_270 hr1 hr1 (by decide) (fun _ => kk _ okM.1 hI2) (fun q => absurd rfl q)
theorem law_fault (Ra : Ru false none l en code RL 4 room_1 K) (hK : LawK b Ls xs K) (hO : ok_fault Inv N) (h0 : L 0 = some (.ref b)) (h1 : L 1 = some (vA en 0)) (h2 : L 2 = some (vA en 475)) (h3 : L 3 = some (vI i)) (hi : 0 ≤ i) (hi6 : i + 6 ≤ (Ls : Int)) (hLs : Ls ≤ 3072) (hV0 : VT μ) (hI : Inv μ) (kk : ∀ μ2, VT μ2 → Inv μ2 → K ZL 1092 L [] μ2) : K ZL 275 L [] μ := by
  obtain ⟨r, m1, m2, e1, rfl, e2, rfl, hI2⟩ := hO μ (xs (i + 1).toNat).toInt hV0 hI (inR_32 _)
  refine r_aload_n Ra (i := 1) dL_law_275 rfl h1 ?_
  refine law_arg Ra hK 1 dL_law_276 dL_law_277 dL_law_278 dL_law_279 dL_law_280 h0 h3 hi (by decide) (by omega) hLs ?_
  refine r_callV Ra (z := ZL) (c_pD_fault hV0 (inR_32 _) e1) mw_X11_fault mi_X11_fault (by decide) t0 (by decide) rfl rfl rfl k_L_28 ⟨rfl, rfl, Nat.le_of_ble_eq_true rfl, Nat.le_of_ble_eq_true rfl⟩ ⟨Nat.le_of_ble_eq_true rfl, Nat.le_of_ble_eq_true rfl⟩ (Nat.le_of_ble_eq_true rfl) dL_law_281 (fun okD => ?_)
  have hV1 := hV0
  have hr1 : inR r := okD
  refine r_aload_n Ra (i := 2) dL_law_284 rfl h2 ?_
  refine law_arg Ra hK 1 dL_law_285 dL_law_286 dL_law_287 dL_law_288 dL_law_289 h0 h3 hi (by decide) (by omega) hLs ?_
  refine r_callV Ra (z := ZL) (c_pM_fault hV1 (inR_32 _) e2) mw_X12_fault mi_X12_fault (by decide) t475 (by decide) rfl rfl rfl k_L_32 ⟨rfl, rfl, Nat.le_of_ble_eq_true rfl, Nat.le_of_ble_eq_true rfl⟩ ⟨Nat.le_of_ble_eq_true rfl, Nat.le_of_ble_eq_true rfl⟩ (Nat.le_of_ble_eq_true rfl) dL_law_290 (fun okM => ?_)
  refine r_icmp_eq Ra 1092 dL_law_293 hr1 hr1 (by decide) (fun _ => kk _ hV1 hI2) (fun q => absurd rfl q)
theorem law_has (Ra : Ru false none l en code RL 4 room_1 K) (hK : LawK b Ls xs K) (hO : ok_has Inv N) (h0 : L 0 = some (.ref b)) (h1 : L 1 = some (vA en 0)) (h2 : L 2 = some (vA en 475)) (h3 : L 3 = some (vI i)) (hi : 0 ≤ i) (hi6 : i + 6 ≤ (Ls : Int)) (hLs : Ls ≤ 3072) (hV0 : VT μ) (hI : Inv μ) (kk : ∀ μ2, VT μ2 → Inv μ2 → K ZL 1092 L [] μ2) : K ZL 298 L [] μ := by
  obtain ⟨r, m1, m2, e1, rfl, e2, rfl, hI2⟩ := hO μ (xs (i + 1).toNat).toInt hV0 hI (inR_32 _)
  refine r_aload_n Ra (i := 1) dL_law_298 rfl h1 ?_
  refine law_arg Ra hK 1 dL_law_299 dL_law_300 dL_law_301 dL_law_302 dL_law_303 h0 h3 hi (by decide) (by omega) hLs ?_
  refine r_callV Ra (z := ZL) (c_pD_has hV0 (inR_32 _) e1) mw_X11_has mi_X11_has (by decide) t0 (by decide) rfl rfl rfl k_L_33 ⟨rfl, rfl, Nat.le_of_ble_eq_true rfl, Nat.le_of_ble_eq_true rfl⟩ ⟨Nat.le_of_ble_eq_true rfl, Nat.le_of_ble_eq_true rfl⟩ (Nat.le_of_ble_eq_true rfl) dL_law_304 (fun okD => ?_)
  have hV1 := hV0
  have hr1 : inR r := okD
  refine r_aload_n Ra (i := 2) dL_law_307 rfl h2 ?_
  refine law_arg Ra hK 1 dL_law_308 dL_law_309 dL_law_310 dL_law_311 dL_law_312 h0 h3 hi (by decide) (by omega) hLs ?_
  refine r_callV Ra (z := ZL) (c_pM_has hV1 (inR_32 _) e2) mw_X12_has mi_X12_has (by decide) t475 (by decide) rfl rfl rfl k_L_36 ⟨rfl, rfl, Nat.le_of_ble_eq_true rfl, Nat.le_of_ble_eq_true rfl⟩ ⟨Nat.le_of_ble_eq_true rfl, Nat.le_of_ble_eq_true rfl⟩ (Nat.le_of_ble_eq_true rfl) dL_law_313 (fun okM => ?_)
  refine r_icmp_eq Ra 1092 dL_law_316 hr1 hr1 (by decide) (fun _ => kk _ hV1 hI2) (fun q => absurd rfl q)
theorem law_letter (Ra : Ru false none l en code RL 4 room_1 K) (hK : LawK b Ls xs K) (hO : ok_letter Inv N) (h0 : L 0 = some (.ref b)) (h1 : L 1 = some (vA en 0)) (h2 : L 2 = some (vA en 475)) (h3 : L 3 = some (vI i)) (hi : 0 ≤ i) (hi6 : i + 6 ≤ (Ls : Int)) (hLs : Ls ≤ 3072) (hV0 : VT μ) (hI : Inv μ) (kk : ∀ μ2, VT μ2 → Inv μ2 → K ZL 1092 L [] μ2) : K ZL 321 L [] μ := by
  obtain ⟨r, m1, m2, e1, rfl, e2, rfl, hI2⟩ := hO μ (xs (i + 1).toNat).toInt (xs (i + 2).toNat).toInt hV0 hI (inR_32 _) (inR_32 _)
  refine r_aload_n Ra (i := 1) dL_law_321 rfl h1 ?_
  refine law_arg Ra hK 1 dL_law_322 dL_law_323 dL_law_324 dL_law_325 dL_law_326 h0 h3 hi (by decide) (by omega) hLs ?_
  refine law_arg Ra hK 2 dL_law_327 dL_law_328 dL_law_329 dL_law_330 dL_law_331 h0 h3 hi (by decide) (by omega) hLs ?_
  refine r_callV Ra (z := ZL) (c_pD_letter hV0 (inR_32 _) (inR_32 _) e1) mw_X11_letter mi_X11_letter (by decide) t0 (by decide) rfl rfl rfl k_L_37 ⟨rfl, rfl, Nat.le_of_ble_eq_true rfl, Nat.le_of_ble_eq_true rfl⟩ ⟨Nat.le_of_ble_eq_true rfl, Nat.le_of_ble_eq_true rfl⟩ (Nat.le_of_ble_eq_true rfl) dL_law_332 (fun okD => ?_)
  have hV1 := hV0
  have hr1 : inR r := okD
  refine r_aload_n Ra (i := 2) dL_law_335 rfl h2 ?_
  refine law_arg Ra hK 1 dL_law_336 dL_law_337 dL_law_338 dL_law_339 dL_law_340 h0 h3 hi (by decide) (by omega) hLs ?_
  refine law_arg Ra hK 2 dL_law_341 dL_law_342 dL_law_343 dL_law_344 dL_law_345 h0 h3 hi (by decide) (by omega) hLs ?_
  refine r_callV Ra (z := ZL) (c_pM_letter hV1 (inR_32 _) (inR_32 _) e2) mw_X12_letter mi_X12_letter (by decide) t475 (by decide) rfl rfl rfl k_L_41 ⟨rfl, rfl, Nat.le_of_ble_eq_true rfl, Nat.le_of_ble_eq_true rfl⟩ ⟨Nat.le_of_ble_eq_true rfl, Nat.le_of_ble_eq_true rfl⟩ (Nat.le_of_ble_eq_true rfl) dL_law_346 (fun okM => ?_)
  refine r_icmp_eq Ra 1092 dL_law_349 hr1 hr1 (by decide) (fun _ => kk _ hV1 hI2) (fun q => absurd rfl q)
theorem law_cell (Ra : Ru false none l en code RL 4 room_1 K) (hK : LawK b Ls xs K) (hO : ok_cell Inv N) (h0 : L 0 = some (.ref b)) (h1 : L 1 = some (vA en 0)) (h2 : L 2 = some (vA en 475)) (h3 : L 3 = some (vI i)) (hi : 0 ≤ i) (hi6 : i + 6 ≤ (Ls : Int)) (hLs : Ls ≤ 3072) (hV0 : VT μ) (hI : Inv μ) (kk : ∀ μ2, VT μ2 → Inv μ2 → K ZL 1092 L [] μ2) : K ZL 354 L [] μ := by
  obtain ⟨r, m1, m2, e1, rfl, e2, rfl, hI2⟩ := hO μ (xs (i + 1).toNat).toInt (xs (i + 2).toNat).toInt hV0 hI (inR_32 _) (inR_32 _)
  refine r_aload_n Ra (i := 1) dL_law_354 rfl h1 ?_
  refine law_arg Ra hK 1 dL_law_355 dL_law_356 dL_law_357 dL_law_358 dL_law_359 h0 h3 hi (by decide) (by omega) hLs ?_
  refine law_arg Ra hK 2 dL_law_360 dL_law_361 dL_law_362 dL_law_363 dL_law_364 h0 h3 hi (by decide) (by omega) hLs ?_
  refine r_callV Ra (z := ZL) (c_pD_cell hV0 (inR_32 _) (inR_32 _) e1) mw_X11_cell mi_X11_cell (by decide) t0 (by decide) rfl rfl rfl k_L_42 ⟨rfl, rfl, Nat.le_of_ble_eq_true rfl, Nat.le_of_ble_eq_true rfl⟩ ⟨Nat.le_of_ble_eq_true rfl, Nat.le_of_ble_eq_true rfl⟩ (Nat.le_of_ble_eq_true rfl) dL_law_365 (fun okD => ?_)
  have hV1 := hV0
  have hr1 : inR r := okD
  refine r_aload_n Ra (i := 2) dL_law_368 rfl h2 ?_
  refine law_arg Ra hK 1 dL_law_369 dL_law_370 dL_law_371 dL_law_372 dL_law_373 h0 h3 hi (by decide) (by omega) hLs ?_
  refine law_arg Ra hK 2 dL_law_374 dL_law_375 dL_law_376 dL_law_377 dL_law_378 h0 h3 hi (by decide) (by omega) hLs ?_
  refine r_callV Ra (z := ZL) (c_pM_cell hV1 (inR_32 _) (inR_32 _) e2) mw_X12_cell mi_X12_cell (by decide) t475 (by decide) rfl rfl rfl k_L_45 ⟨rfl, rfl, Nat.le_of_ble_eq_true rfl, Nat.le_of_ble_eq_true rfl⟩ ⟨Nat.le_of_ble_eq_true rfl, Nat.le_of_ble_eq_true rfl⟩ (Nat.le_of_ble_eq_true rfl) dL_law_379 (fun okM => ?_)
  refine r_icmp_eq Ra 1092 dL_law_382 hr1 hr1 (by decide) (fun _ => kk _ hV1 hI2) (fun q => absurd rfl q)
theorem law_person (Ra : Ru false none l en code RL 4 room_1 K) (hK : LawK b Ls xs K) (hO : ok_person Inv N) (h0 : L 0 = some (.ref b)) (h1 : L 1 = some (vA en 0)) (h2 : L 2 = some (vA en 475)) (h3 : L 3 = some (vI i)) (hi : 0 ≤ i) (hi6 : i + 6 ≤ (Ls : Int)) (hLs : Ls ≤ 3072) (hV0 : VT μ) (hI : Inv μ) (kk : ∀ μ2, VT μ2 → Inv μ2 → K ZL 1092 L [] μ2) : K ZL 387 L [] μ := by
  obtain ⟨r, m1, m2, e1, rfl, e2, rfl, hI2⟩ := hO μ (xs (i + 1).toNat).toInt (xs (i + 2).toNat).toInt hV0 hI (inR_32 _) (inR_32 _)
  refine r_aload_n Ra (i := 1) dL_law_387 rfl h1 ?_
  refine law_arg Ra hK 1 dL_law_388 dL_law_389 dL_law_390 dL_law_391 dL_law_392 h0 h3 hi (by decide) (by omega) hLs ?_
  refine law_arg Ra hK 2 dL_law_393 dL_law_394 dL_law_395 dL_law_396 dL_law_397 h0 h3 hi (by decide) (by omega) hLs ?_
  refine r_callV Ra (z := ZL) (c_pD_person hV0 (inR_32 _) (inR_32 _) e1) mw_X11_person mi_X11_person (by decide) t0 (by decide) rfl rfl rfl k_L_46 ⟨rfl, rfl, Nat.le_of_ble_eq_true rfl, Nat.le_of_ble_eq_true rfl⟩ ⟨Nat.le_of_ble_eq_true rfl, Nat.le_of_ble_eq_true rfl⟩ (Nat.le_of_ble_eq_true rfl) dL_law_398 (fun okD => ?_)
  have hV1 := hV0
  have hr1 : inR r := okD
  refine r_aload_n Ra (i := 2) dL_law_401 rfl h2 ?_
  refine law_arg Ra hK 1 dL_law_402 dL_law_403 dL_law_404 dL_law_405 dL_law_406 h0 h3 hi (by decide) (by omega) hLs ?_
  refine law_arg Ra hK 2 dL_law_407 dL_law_408 dL_law_409 dL_law_410 dL_law_411 h0 h3 hi (by decide) (by omega) hLs ?_
  refine r_callV Ra (z := ZL) (c_pM_person hV1 (inR_32 _) (inR_32 _) e2) mw_X12_person mi_X12_person (by decide) t475 (by decide) rfl rfl rfl k_L_49 ⟨rfl, rfl, Nat.le_of_ble_eq_true rfl, Nat.le_of_ble_eq_true rfl⟩ ⟨Nat.le_of_ble_eq_true rfl, Nat.le_of_ble_eq_true rfl⟩ (Nat.le_of_ble_eq_true rfl) dL_law_412 (fun okM => ?_)
  refine r_icmp_eq Ra 1092 dL_law_415 hr1 hr1 (by decide) (fun _ => kk _ hV1 hI2) (fun q => absurd rfl q)
theorem law_today (Ra : Ru false none l en code RL 4 room_1 K) (hK : LawK b Ls xs K) (hO : ok_today Inv N) (h0 : L 0 = some (.ref b)) (h1 : L 1 = some (vA en 0)) (h2 : L 2 = some (vA en 475)) (h3 : L 3 = some (vI i)) (hi : 0 ≤ i) (hi6 : i + 6 ≤ (Ls : Int)) (hLs : Ls ≤ 3072) (hV0 : VT μ) (hI : Inv μ) (kk : ∀ μ2, VT μ2 → Inv μ2 → K ZL 1092 L [] μ2) : K ZL 420 L [] μ := by
  obtain ⟨r, m1, m2, e1, e2, hI2⟩ := hO μ (xs (i + 1).toNat).toInt (xs (i + 2).toNat).toInt (xs (i + 3).toNat).toInt hV0 hI (inR_32 _) (inR_32 _) (inR_32 _)
  refine r_aload_n Ra (i := 1) dL_law_420 rfl h1 ?_
  refine law_arg Ra hK 1 dL_law_421 dL_law_422 dL_law_423 dL_law_424 dL_law_425 h0 h3 hi (by decide) (by omega) hLs ?_
  refine law_arg Ra hK 2 dL_law_426 dL_law_427 dL_law_428 dL_law_429 dL_law_430 h0 h3 hi (by decide) (by omega) hLs ?_
  refine law_arg Ra hK 3 dL_law_431 dL_law_432 dL_law_433 dL_law_434 dL_law_435 h0 h3 hi (by decide) (by omega) hLs ?_
  refine r_callV Ra (z := ZL) (c_pD_today hV0 (inR_32 _) (inR_32 _) (inR_32 _) e1) mw_X11_today mi_X11_today (by decide) t0 (by decide) rfl rfl rfl k_L_50 ⟨rfl, rfl, Nat.le_of_ble_eq_true rfl, Nat.le_of_ble_eq_true rfl⟩ ⟨Nat.le_of_ble_eq_true rfl, Nat.le_of_ble_eq_true rfl⟩ (Nat.le_of_ble_eq_true rfl) dL_law_436 (fun okD => ?_)
  have hV1 := okD.1
  have hr1 : inR r := okD.2
  refine r_aload_n Ra (i := 2) dL_law_439 rfl h2 ?_
  refine law_arg Ra hK 1 dL_law_440 dL_law_441 dL_law_442 dL_law_443 dL_law_444 h0 h3 hi (by decide) (by omega) hLs ?_
  refine law_arg Ra hK 2 dL_law_445 dL_law_446 dL_law_447 dL_law_448 dL_law_449 h0 h3 hi (by decide) (by omega) hLs ?_
  refine law_arg Ra hK 3 dL_law_450 dL_law_451 dL_law_452 dL_law_453 dL_law_454 h0 h3 hi (by decide) (by omega) hLs ?_
  refine r_callV Ra (z := ZL) (c_pM_today hV1 (inR_32 _) (inR_32 _) (inR_32 _) e2) mw_X12_today mi_X12_today (by decide) t475 (by decide) rfl rfl rfl k_L_54 ⟨rfl, rfl, Nat.le_of_ble_eq_true rfl, Nat.le_of_ble_eq_true rfl⟩ ⟨Nat.le_of_ble_eq_true rfl, Nat.le_of_ble_eq_true rfl⟩ (Nat.le_of_ble_eq_true rfl) dL_law_455 (fun okM => ?_)
  refine r_icmp_eq Ra 1092 dL_law_458 hr1 hr1 (by decide) (fun _ => kk _ okM.1 hI2) (fun q => absurd rfl q)
theorem law_dew (Ra : Ru false none l en code RL 4 room_1 K) (hK : LawK b Ls xs K) (hO : ok_dew Inv N) (h0 : L 0 = some (.ref b)) (h1 : L 1 = some (vA en 0)) (h2 : L 2 = some (vA en 475)) (h3 : L 3 = some (vI i)) (hi : 0 ≤ i) (hi6 : i + 6 ≤ (Ls : Int)) (hLs : Ls ≤ 3072) (hV0 : VT μ) (hI : Inv μ) (kk : ∀ μ2, VT μ2 → Inv μ2 → K ZL 1092 L [] μ2) : K ZL 463 L [] μ := by
  obtain ⟨r, m1, m2, e1, e2, hI2⟩ := hO μ (xs (i + 1).toNat).toInt (xs (i + 2).toNat).toInt (xs (i + 3).toNat).toInt hV0 hI (inR_32 _) (inR_32 _) (inR_32 _)
  refine r_aload_n Ra (i := 1) dL_law_463 rfl h1 ?_
  refine law_arg Ra hK 1 dL_law_464 dL_law_465 dL_law_466 dL_law_467 dL_law_468 h0 h3 hi (by decide) (by omega) hLs ?_
  refine law_arg Ra hK 2 dL_law_469 dL_law_470 dL_law_471 dL_law_472 dL_law_473 h0 h3 hi (by decide) (by omega) hLs ?_
  refine law_arg Ra hK 3 dL_law_474 dL_law_475 dL_law_476 dL_law_477 dL_law_478 h0 h3 hi (by decide) (by omega) hLs ?_
  refine r_callV Ra (z := ZL) (c_pD_dew hV0 (inR_32 _) (inR_32 _) (inR_32 _) e1) mw_X11_dew mi_X11_dew (by decide) t0 (by decide) rfl rfl rfl k_L_55 ⟨rfl, rfl, Nat.le_of_ble_eq_true rfl, Nat.le_of_ble_eq_true rfl⟩ ⟨Nat.le_of_ble_eq_true rfl, Nat.le_of_ble_eq_true rfl⟩ (Nat.le_of_ble_eq_true rfl) dL_law_479 (fun okD => ?_)
  have hV1 := okD.1
  have hr1 : inR r := okD.2
  refine r_aload_n Ra (i := 2) dL_law_482 rfl h2 ?_
  refine law_arg Ra hK 1 dL_law_483 dL_law_484 dL_law_485 dL_law_486 dL_law_487 h0 h3 hi (by decide) (by omega) hLs ?_
  refine law_arg Ra hK 2 dL_law_488 dL_law_489 dL_law_490 dL_law_491 dL_law_492 h0 h3 hi (by decide) (by omega) hLs ?_
  refine law_arg Ra hK 3 dL_law_493 dL_law_494 dL_law_495 dL_law_496 dL_law_497 h0 h3 hi (by decide) (by omega) hLs ?_
  refine r_callV Ra (z := ZL) (c_pM_dew hV1 (inR_32 _) (inR_32 _) (inR_32 _) e2) mw_X12_dew mi_X12_dew (by decide) t475 (by decide) rfl rfl rfl k_L_58 ⟨rfl, rfl, Nat.le_of_ble_eq_true rfl, Nat.le_of_ble_eq_true rfl⟩ ⟨Nat.le_of_ble_eq_true rfl, Nat.le_of_ble_eq_true rfl⟩ (Nat.le_of_ble_eq_true rfl) dL_law_498 (fun okM => ?_)
  refine r_icmp_eq Ra 1092 dL_law_501 hr1 hr1 (by decide) (fun _ => kk _ okM.1 hI2) (fun q => absurd rfl q)
theorem law_up (Ra : Ru false none l en code RL 4 room_1 K) (hK : LawK b Ls xs K) (hO : ok_up Inv N) (h0 : L 0 = some (.ref b)) (h1 : L 1 = some (vA en 0)) (h2 : L 2 = some (vA en 475)) (h3 : L 3 = some (vI i)) (hi : 0 ≤ i) (hi6 : i + 6 ≤ (Ls : Int)) (hLs : Ls ≤ 3072) (hV0 : VT μ) (hI : Inv μ) (kk : ∀ μ2, VT μ2 → Inv μ2 → K ZL 1092 L [] μ2) : K ZL 506 L [] μ := by
  obtain ⟨r, m1, m2, e1, e2, hI2⟩ := hO μ (xs (i + 1).toNat).toInt (xs (i + 2).toNat).toInt hV0 hI (inR_32 _) (inR_32 _)
  refine r_aload_n Ra (i := 1) dL_law_506 rfl h1 ?_
  refine law_arg Ra hK 1 dL_law_507 dL_law_508 dL_law_509 dL_law_510 dL_law_511 h0 h3 hi (by decide) (by omega) hLs ?_
  refine law_arg Ra hK 2 dL_law_512 dL_law_513 dL_law_514 dL_law_515 dL_law_516 h0 h3 hi (by decide) (by omega) hLs ?_
  refine r_callV Ra (z := ZL) (c_pD_up hV0 (inR_32 _) (inR_32 _) e1) mw_X11_up mi_X11_up (by decide) t0 (by decide) rfl rfl rfl k_L_59 ⟨rfl, rfl, Nat.le_of_ble_eq_true rfl, Nat.le_of_ble_eq_true rfl⟩ ⟨Nat.le_of_ble_eq_true rfl, Nat.le_of_ble_eq_true rfl⟩ (Nat.le_of_ble_eq_true rfl) dL_law_517 (fun okD => ?_)
  have hV1 := okD.1
  have hr1 : inR r := okD.2
  refine r_aload_n Ra (i := 2) dL_law_520 rfl h2 ?_
  refine law_arg Ra hK 1 dL_law_521 dL_law_522 dL_law_523 dL_law_524 dL_law_525 h0 h3 hi (by decide) (by omega) hLs ?_
  refine law_arg Ra hK 2 dL_law_526 dL_law_527 dL_law_528 dL_law_529 dL_law_530 h0 h3 hi (by decide) (by omega) hLs ?_
  refine r_callV Ra (z := ZL) (c_pM_up hV1 (inR_32 _) (inR_32 _) e2) mw_X12_up mi_X12_up (by decide) t475 (by decide) rfl rfl rfl k_L_62 ⟨rfl, rfl, Nat.le_of_ble_eq_true rfl, Nat.le_of_ble_eq_true rfl⟩ ⟨Nat.le_of_ble_eq_true rfl, Nat.le_of_ble_eq_true rfl⟩ (Nat.le_of_ble_eq_true rfl) dL_law_531 (fun okM => ?_)
  refine r_icmp_eq Ra 1092 dL_law_534 hr1 hr1 (by decide) (fun _ => kk _ okM.1 hI2) (fun q => absurd rfl q)
theorem law_home (Ra : Ru false none l en code RL 4 room_1 K) (hK : LawK b Ls xs K) (hO : ok_home Inv N) (h0 : L 0 = some (.ref b)) (h1 : L 1 = some (vA en 0)) (h2 : L 2 = some (vA en 475)) (h3 : L 3 = some (vI i)) (hi : 0 ≤ i) (hi6 : i + 6 ≤ (Ls : Int)) (hLs : Ls ≤ 3072) (hV0 : VT μ) (hI : Inv μ) (kk : ∀ μ2, VT μ2 → Inv μ2 → K ZL 1092 L [] μ2) : K ZL 539 L [] μ := by
  obtain ⟨r, m1, m2, e1, e2, hI2⟩ := hO μ (xs (i + 1).toNat).toInt (xs (i + 2).toNat).toInt hV0 hI (inR_32 _) (inR_32 _)
  refine r_aload_n Ra (i := 1) dL_law_539 rfl h1 ?_
  refine law_arg Ra hK 1 dL_law_540 dL_law_541 dL_law_542 dL_law_543 dL_law_544 h0 h3 hi (by decide) (by omega) hLs ?_
  refine law_arg Ra hK 2 dL_law_545 dL_law_546 dL_law_547 dL_law_548 dL_law_549 h0 h3 hi (by decide) (by omega) hLs ?_
  refine r_callV Ra (z := ZL) (c_pD_home hV0 (inR_32 _) (inR_32 _) e1) mw_X11_home mi_X11_home (by decide) t0 (by decide) rfl rfl rfl k_L_63 ⟨rfl, rfl, Nat.le_of_ble_eq_true rfl, Nat.le_of_ble_eq_true rfl⟩ ⟨Nat.le_of_ble_eq_true rfl, Nat.le_of_ble_eq_true rfl⟩ (Nat.le_of_ble_eq_true rfl) dL_law_550 (fun okD => ?_)
  have hV1 := okD.1
  have hr1 : inR r := okD.2
  refine r_aload_n Ra (i := 2) dL_law_553 rfl h2 ?_
  refine law_arg Ra hK 1 dL_law_554 dL_law_555 dL_law_556 dL_law_557 dL_law_558 h0 h3 hi (by decide) (by omega) hLs ?_
  refine law_arg Ra hK 2 dL_law_559 dL_law_560 dL_law_561 dL_law_562 dL_law_563 h0 h3 hi (by decide) (by omega) hLs ?_
  refine r_callV Ra (z := ZL) (c_pM_home hV1 (inR_32 _) (inR_32 _) e2) mw_X12_home mi_X12_home (by decide) t475 (by decide) rfl rfl rfl k_L_66 ⟨rfl, rfl, Nat.le_of_ble_eq_true rfl, Nat.le_of_ble_eq_true rfl⟩ ⟨Nat.le_of_ble_eq_true rfl, Nat.le_of_ble_eq_true rfl⟩ (Nat.le_of_ble_eq_true rfl) dL_law_564 (fun okM => ?_)
  refine r_icmp_eq Ra 1092 dL_law_567 hr1 hr1 (by decide) (fun _ => kk _ okM.1 hI2) (fun q => absurd rfl q)
theorem law_way (Ra : Ru false none l en code RL 4 room_1 K) (hK : LawK b Ls xs K) (hO : ok_way Inv N) (h0 : L 0 = some (.ref b)) (h1 : L 1 = some (vA en 0)) (h2 : L 2 = some (vA en 475)) (h3 : L 3 = some (vI i)) (hi : 0 ≤ i) (hi6 : i + 6 ≤ (Ls : Int)) (hLs : Ls ≤ 3072) (hV0 : VT μ) (hI : Inv μ) (kk : ∀ μ2, VT μ2 → Inv μ2 → K ZL 1092 L [] μ2) : K ZL 572 L [] μ := by
  obtain ⟨r, m1, m2, e1, e2, hI2⟩ := hO μ (xs (i + 1).toNat).toInt (xs (i + 2).toNat).toInt (xs (i + 3).toNat).toInt hV0 hI (inR_32 _) (inR_32 _) (inR_32 _)
  refine r_aload_n Ra (i := 1) dL_law_572 rfl h1 ?_
  refine law_arg Ra hK 1 dL_law_573 dL_law_574 dL_law_575 dL_law_576 dL_law_577 h0 h3 hi (by decide) (by omega) hLs ?_
  refine law_arg Ra hK 2 dL_law_578 dL_law_579 dL_law_580 dL_law_581 dL_law_582 h0 h3 hi (by decide) (by omega) hLs ?_
  refine law_arg Ra hK 3 dL_law_583 dL_law_584 dL_law_585 dL_law_586 dL_law_587 h0 h3 hi (by decide) (by omega) hLs ?_
  refine r_callV Ra (z := ZL) (c_pD_way hV0 (inR_32 _) (inR_32 _) (inR_32 _) e1) mw_X11_way mi_X11_way (by decide) t0 (by decide) rfl rfl rfl k_L_67 ⟨rfl, rfl, Nat.le_of_ble_eq_true rfl, Nat.le_of_ble_eq_true rfl⟩ ⟨Nat.le_of_ble_eq_true rfl, Nat.le_of_ble_eq_true rfl⟩ (Nat.le_of_ble_eq_true rfl) dL_law_588 (fun okD => ?_)
  have hV1 := okD.1
  have hr1 : inR r := okD.2
  refine r_aload_n Ra (i := 2) dL_law_591 rfl h2 ?_
  refine law_arg Ra hK 1 dL_law_592 dL_law_593 dL_law_594 dL_law_595 dL_law_596 h0 h3 hi (by decide) (by omega) hLs ?_
  refine law_arg Ra hK 2 dL_law_597 dL_law_598 dL_law_599 dL_law_600 dL_law_601 h0 h3 hi (by decide) (by omega) hLs ?_
  refine law_arg Ra hK 3 dL_law_602 dL_law_603 dL_law_604 dL_law_605 dL_law_606 h0 h3 hi (by decide) (by omega) hLs ?_
  refine r_callV Ra (z := ZL) (c_pM_way hV1 (inR_32 _) (inR_32 _) (inR_32 _) e2) mw_X12_way mi_X12_way (by decide) t475 (by decide) rfl rfl rfl k_L_70 ⟨rfl, rfl, Nat.le_of_ble_eq_true rfl, Nat.le_of_ble_eq_true rfl⟩ ⟨Nat.le_of_ble_eq_true rfl, Nat.le_of_ble_eq_true rfl⟩ (Nat.le_of_ble_eq_true rfl) dL_law_607 (fun okM => ?_)
  refine r_icmp_eq Ra 1092 dL_law_610 hr1 hr1 (by decide) (fun _ => kk _ okM.1 hI2) (fun q => absurd rfl q)
theorem law_changed (Ra : Ru false none l en code RL 4 room_1 K) (hK : LawK b Ls xs K) (hO : ok_changed Inv N) (h0 : L 0 = some (.ref b)) (h1 : L 1 = some (vA en 0)) (h2 : L 2 = some (vA en 475)) (h3 : L 3 = some (vI i)) (hi : 0 ≤ i) (hi6 : i + 6 ≤ (Ls : Int)) (hLs : Ls ≤ 3072) (hV0 : VT μ) (hI : Inv μ) (kk : ∀ μ2, VT μ2 → Inv μ2 → K ZL 1092 L [] μ2) : K ZL 615 L [] μ := by
  obtain ⟨r, m1, m2, e1, e2, hI2⟩ := hO μ (xs (i + 1).toNat).toInt hV0 hI (inR_32 _)
  refine r_aload_n Ra (i := 1) dL_law_615 rfl h1 ?_
  refine law_arg Ra hK 1 dL_law_616 dL_law_617 dL_law_618 dL_law_619 dL_law_620 h0 h3 hi (by decide) (by omega) hLs ?_
  refine r_callV Ra (z := ZL) (c_pD_changed hV0 (inR_32 _) e1) mw_X11_changed mi_X11_changed (by decide) t0 (by decide) rfl rfl rfl k_L_71 ⟨rfl, rfl, Nat.le_of_ble_eq_true rfl, Nat.le_of_ble_eq_true rfl⟩ ⟨Nat.le_of_ble_eq_true rfl, Nat.le_of_ble_eq_true rfl⟩ (Nat.le_of_ble_eq_true rfl) dL_law_621 (fun okD => ?_)
  have hV1 := okD.1
  have hr1 : inR r := okD.2
  refine r_aload_n Ra (i := 2) dL_law_624 rfl h2 ?_
  refine law_arg Ra hK 1 dL_law_625 dL_law_626 dL_law_627 dL_law_628 dL_law_629 h0 h3 hi (by decide) (by omega) hLs ?_
  refine r_callV Ra (z := ZL) (c_pM_changed hV1 (inR_32 _) e2) mw_X12_changed mi_X12_changed (by decide) t475 (by decide) rfl rfl rfl k_L_74 ⟨rfl, rfl, Nat.le_of_ble_eq_true rfl, Nat.le_of_ble_eq_true rfl⟩ ⟨Nat.le_of_ble_eq_true rfl, Nat.le_of_ble_eq_true rfl⟩ (Nat.le_of_ble_eq_true rfl) dL_law_630 (fun okM => ?_)
  refine r_icmp_eq Ra 1092 dL_law_633 hr1 hr1 (by decide) (fun _ => kk _ okM.1 hI2) (fun q => absurd rfl q)
theorem law_later (Ra : Ru false none l en code RL 4 room_1 K) (hK : LawK b Ls xs K) (hO : ok_later Inv N) (h0 : L 0 = some (.ref b)) (h1 : L 1 = some (vA en 0)) (h2 : L 2 = some (vA en 475)) (h3 : L 3 = some (vI i)) (hi : 0 ≤ i) (hi6 : i + 6 ≤ (Ls : Int)) (hLs : Ls ≤ 3072) (hV0 : VT μ) (hI : Inv μ) (kk : ∀ μ2, VT μ2 → Inv μ2 → K ZL 1092 L [] μ2) : K ZL 638 L [] μ := by
  obtain ⟨r, m1, m2, e1, e2, hI2⟩ := hO μ (xs (i + 1).toNat).toInt (xs (i + 2).toNat).toInt (xs (i + 3).toNat).toInt hV0 hI (inR_32 _) (inR_32 _) (inR_32 _)
  refine r_aload_n Ra (i := 1) dL_law_638 rfl h1 ?_
  refine law_arg Ra hK 1 dL_law_639 dL_law_640 dL_law_641 dL_law_642 dL_law_643 h0 h3 hi (by decide) (by omega) hLs ?_
  refine law_arg Ra hK 2 dL_law_644 dL_law_645 dL_law_646 dL_law_647 dL_law_648 h0 h3 hi (by decide) (by omega) hLs ?_
  refine law_arg Ra hK 3 dL_law_649 dL_law_650 dL_law_651 dL_law_652 dL_law_653 h0 h3 hi (by decide) (by omega) hLs ?_
  refine r_callV Ra (z := ZL) (c_pD_later hV0 (inR_32 _) (inR_32 _) (inR_32 _) e1) mw_X11_later mi_X11_later (by decide) t0 (by decide) rfl rfl rfl k_L_75 ⟨rfl, rfl, Nat.le_of_ble_eq_true rfl, Nat.le_of_ble_eq_true rfl⟩ ⟨Nat.le_of_ble_eq_true rfl, Nat.le_of_ble_eq_true rfl⟩ (Nat.le_of_ble_eq_true rfl) dL_law_654 (fun okD => ?_)
  have hV1 := okD.1
  have hr1 : inR r := okD.2
  refine r_aload_n Ra (i := 2) dL_law_657 rfl h2 ?_
  refine law_arg Ra hK 1 dL_law_658 dL_law_659 dL_law_660 dL_law_661 dL_law_662 h0 h3 hi (by decide) (by omega) hLs ?_
  refine law_arg Ra hK 2 dL_law_663 dL_law_664 dL_law_665 dL_law_666 dL_law_667 h0 h3 hi (by decide) (by omega) hLs ?_
  refine law_arg Ra hK 3 dL_law_668 dL_law_669 dL_law_670 dL_law_671 dL_law_672 h0 h3 hi (by decide) (by omega) hLs ?_
  refine r_callV Ra (z := ZL) (c_pM_later hV1 (inR_32 _) (inR_32 _) (inR_32 _) e2) mw_X12_later mi_X12_later (by decide) t475 (by decide) rfl rfl rfl k_L_78 ⟨rfl, rfl, Nat.le_of_ble_eq_true rfl, Nat.le_of_ble_eq_true rfl⟩ ⟨Nat.le_of_ble_eq_true rfl, Nat.le_of_ble_eq_true rfl⟩ (Nat.le_of_ble_eq_true rfl) dL_law_673 (fun okM => ?_)
  refine r_icmp_eq Ra 1092 dL_law_676 hr1 hr1 (by decide) (fun _ => kk _ okM.1 hI2) (fun q => absurd rfl q)
theorem law_purse (Ra : Ru false none l en code RL 4 room_1 K) (hK : LawK b Ls xs K) (hO : ok_purse Inv N) (h0 : L 0 = some (.ref b)) (h1 : L 1 = some (vA en 0)) (h2 : L 2 = some (vA en 475)) (h3 : L 3 = some (vI i)) (hi : 0 ≤ i) (hi6 : i + 6 ≤ (Ls : Int)) (hLs : Ls ≤ 3072) (hV0 : VT μ) (hI : Inv μ) (kk : ∀ μ2, VT μ2 → Inv μ2 → K ZL 1092 L [] μ2) : K ZL 681 L [] μ := by
  obtain ⟨r, m1, m2, e1, e2, hI2⟩ := hO μ (xs (i + 1).toNat).toInt (xs (i + 2).toNat).toInt hV0 hI (inR_32 _) (inR_32 _)
  refine r_aload_n Ra (i := 1) dL_law_681 rfl h1 ?_
  refine law_arg Ra hK 1 dL_law_682 dL_law_683 dL_law_684 dL_law_685 dL_law_686 h0 h3 hi (by decide) (by omega) hLs ?_
  refine law_arg Ra hK 2 dL_law_687 dL_law_688 dL_law_689 dL_law_690 dL_law_691 h0 h3 hi (by decide) (by omega) hLs ?_
  refine r_callV Ra (z := ZL) (c_pD_purse hV0 (inR_32 _) (inR_32 _) e1) mw_X11_purse mi_X11_purse (by decide) t0 (by decide) rfl rfl rfl k_L_79 ⟨rfl, rfl, Nat.le_of_ble_eq_true rfl, Nat.le_of_ble_eq_true rfl⟩ ⟨Nat.le_of_ble_eq_true rfl, Nat.le_of_ble_eq_true rfl⟩ (Nat.le_of_ble_eq_true rfl) dL_law_692 (fun okD => ?_)
  have hV1 := okD.1
  have hr1 : inR r := okD.2
  refine r_aload_n Ra (i := 2) dL_law_695 rfl h2 ?_
  refine law_arg Ra hK 1 dL_law_696 dL_law_697 dL_law_698 dL_law_699 dL_law_700 h0 h3 hi (by decide) (by omega) hLs ?_
  refine law_arg Ra hK 2 dL_law_701 dL_law_702 dL_law_703 dL_law_704 dL_law_705 h0 h3 hi (by decide) (by omega) hLs ?_
  refine r_callV Ra (z := ZL) (c_pM_purse hV1 (inR_32 _) (inR_32 _) e2) mw_X12_purse mi_X12_purse (by decide) t475 (by decide) rfl rfl rfl k_L_82 ⟨rfl, rfl, Nat.le_of_ble_eq_true rfl, Nat.le_of_ble_eq_true rfl⟩ ⟨Nat.le_of_ble_eq_true rfl, Nat.le_of_ble_eq_true rfl⟩ (Nat.le_of_ble_eq_true rfl) dL_law_706 (fun okM => ?_)
  refine r_icmp_eq Ra 1092 dL_law_709 hr1 hr1 (by decide) (fun _ => kk _ okM.1 hI2) (fun q => absurd rfl q)
theorem law_dry (Ra : Ru false none l en code RL 4 room_1 K) (hK : LawK b Ls xs K) (hO : ok_dry Inv N) (h0 : L 0 = some (.ref b)) (h1 : L 1 = some (vA en 0)) (h2 : L 2 = some (vA en 475)) (h3 : L 3 = some (vI i)) (hi : 0 ≤ i) (hi6 : i + 6 ≤ (Ls : Int)) (hLs : Ls ≤ 3072) (hV0 : VT μ) (hI : Inv μ) (kk : ∀ μ2, VT μ2 → Inv μ2 → K ZL 1092 L [] μ2) : K ZL 714 L [] μ := by
  obtain ⟨r, m1, m2, e1, e2, hI2⟩ := hO μ (xs (i + 1).toNat).toInt hV0 hI (inR_32 _)
  refine r_aload_n Ra (i := 1) dL_law_714 rfl h1 ?_
  refine law_arg Ra hK 1 dL_law_715 dL_law_716 dL_law_717 dL_law_718 dL_law_719 h0 h3 hi (by decide) (by omega) hLs ?_
  refine r_callV Ra (z := ZL) (c_pD_dry hV0 (inR_32 _) e1) mw_X11_dry mi_X11_dry (by decide) t0 (by decide) rfl rfl rfl k_L_83 ⟨rfl, rfl, Nat.le_of_ble_eq_true rfl, Nat.le_of_ble_eq_true rfl⟩ ⟨Nat.le_of_ble_eq_true rfl, Nat.le_of_ble_eq_true rfl⟩ (Nat.le_of_ble_eq_true rfl) dL_law_720 (fun okD => ?_)
  have hV1 := okD.1
  have hr1 : inR r := okD.2
  refine r_aload_n Ra (i := 2) dL_law_723 rfl h2 ?_
  refine law_arg Ra hK 1 dL_law_724 dL_law_725 dL_law_726 dL_law_727 dL_law_728 h0 h3 hi (by decide) (by omega) hLs ?_
  refine r_callV Ra (z := ZL) (c_pM_dry hV1 (inR_32 _) e2) mw_X12_dry mi_X12_dry (by decide) t475 (by decide) rfl rfl rfl k_L_86 ⟨rfl, rfl, Nat.le_of_ble_eq_true rfl, Nat.le_of_ble_eq_true rfl⟩ ⟨Nat.le_of_ble_eq_true rfl, Nat.le_of_ble_eq_true rfl⟩ (Nat.le_of_ble_eq_true rfl) dL_law_729 (fun okM => ?_)
  refine r_icmp_eq Ra 1092 dL_law_732 hr1 hr1 (by decide) (fun _ => kk _ okM.1 hI2) (fun q => absurd rfl q)
theorem law_see (Ra : Ru false none l en code RL 4 room_1 K) (hK : LawK b Ls xs K) (hO : ok_see Inv N) (h0 : L 0 = some (.ref b)) (h1 : L 1 = some (vA en 0)) (h2 : L 2 = some (vA en 475)) (h3 : L 3 = some (vI i)) (hi : 0 ≤ i) (hi6 : i + 6 ≤ (Ls : Int)) (hLs : Ls ≤ 3072) (hV0 : VT μ) (hI : Inv μ) (kk : ∀ μ2, VT μ2 → Inv μ2 → K ZL 1092 L [] μ2) : K ZL 737 L [] μ := by
  obtain ⟨r, m1, m2, e1, e2, hI2⟩ := hO μ  hV0 hI 
  refine r_aload_n Ra (i := 1) dL_law_737 rfl h1 ?_
  refine r_callV Ra (z := ZL) (c_pD_see hV0  e1) mw_X11_see mi_X11_see (by decide) t0 (by decide) rfl rfl rfl k_L_87 ⟨rfl, rfl, Nat.le_of_ble_eq_true rfl, Nat.le_of_ble_eq_true rfl⟩ ⟨Nat.le_of_ble_eq_true rfl, Nat.le_of_ble_eq_true rfl⟩ (Nat.le_of_ble_eq_true rfl) dL_law_738 (fun okD => ?_)
  have hV1 := okD.1
  have hr1 : inR r := okD.2
  refine r_aload_n Ra (i := 2) dL_law_741 rfl h2 ?_
  refine r_callV Ra (z := ZL) (c_pM_see hV1  e2) mw_X12_see mi_X12_see (by decide) t475 (by decide) rfl rfl rfl k_L_90 ⟨rfl, rfl, Nat.le_of_ble_eq_true rfl, Nat.le_of_ble_eq_true rfl⟩ ⟨Nat.le_of_ble_eq_true rfl, Nat.le_of_ble_eq_true rfl⟩ (Nat.le_of_ble_eq_true rfl) dL_law_742 (fun okM => ?_)
  refine r_icmp_eq Ra 1092 dL_law_745 hr1 hr1 (by decide) (fun _ => kk _ okM.1 hI2) (fun q => absurd rfl q)
theorem law_walkers (Ra : Ru false none l en code RL 4 room_1 K) (hK : LawK b Ls xs K) (hO : ok_walkers Inv N) (h0 : L 0 = some (.ref b)) (h1 : L 1 = some (vA en 0)) (h2 : L 2 = some (vA en 475)) (h3 : L 3 = some (vI i)) (hi : 0 ≤ i) (hi6 : i + 6 ≤ (Ls : Int)) (hLs : Ls ≤ 3072) (hV0 : VT μ) (hI : Inv μ) (kk : ∀ μ2, VT μ2 → Inv μ2 → K ZL 1092 L [] μ2) : K ZL 750 L [] μ := by
  obtain ⟨r, m1, m2, e1, e2, hI2⟩ := hO μ (xs (i + 1).toNat).toInt hV0 hI (inR_32 _)
  refine r_aload_n Ra (i := 1) dL_law_750 rfl h1 ?_
  refine law_arg Ra hK 1 dL_law_751 dL_law_752 dL_law_753 dL_law_754 dL_law_755 h0 h3 hi (by decide) (by omega) hLs ?_
  refine r_callV Ra (z := ZL) (c_pD_walkers hV0 (inR_32 _) e1) mw_X11_walkers mi_X11_walkers (by decide) t0 (by decide) rfl rfl rfl k_L_91 ⟨rfl, rfl, Nat.le_of_ble_eq_true rfl, Nat.le_of_ble_eq_true rfl⟩ ⟨Nat.le_of_ble_eq_true rfl, Nat.le_of_ble_eq_true rfl⟩ (Nat.le_of_ble_eq_true rfl) dL_law_756 (fun okD => ?_)
  have hV1 := okD.1
  have hr1 : inR r := okD.2
  refine r_aload_n Ra (i := 2) dL_law_759 rfl h2 ?_
  refine law_arg Ra hK 1 dL_law_760 dL_law_761 dL_law_762 dL_law_763 dL_law_764 h0 h3 hi (by decide) (by omega) hLs ?_
  refine r_callV Ra (z := ZL) (c_pM_walkers hV1 (inR_32 _) e2) mw_X12_walkers mi_X12_walkers (by decide) t475 (by decide) rfl rfl rfl k_L_94 ⟨rfl, rfl, Nat.le_of_ble_eq_true rfl, Nat.le_of_ble_eq_true rfl⟩ ⟨Nat.le_of_ble_eq_true rfl, Nat.le_of_ble_eq_true rfl⟩ (Nat.le_of_ble_eq_true rfl) dL_law_765 (fun okM => ?_)
  refine r_icmp_eq Ra 1092 dL_law_768 hr1 hr1 (by decide) (fun _ => kk _ okM.1 hI2) (fun q => absurd rfl q)
theorem law_tells (Ra : Ru false none l en code RL 4 room_1 K) (hK : LawK b Ls xs K) (hO : ok_tells Inv N) (h0 : L 0 = some (.ref b)) (h1 : L 1 = some (vA en 0)) (h2 : L 2 = some (vA en 475)) (h3 : L 3 = some (vI i)) (hi : 0 ≤ i) (hi6 : i + 6 ≤ (Ls : Int)) (hLs : Ls ≤ 3072) (hV0 : VT μ) (hI : Inv μ) (kk : ∀ μ2, VT μ2 → Inv μ2 → K ZL 1092 L [] μ2) : K ZL 773 L [] μ := by
  obtain ⟨r, m1, m2, e1, e2, hI2⟩ := hO μ (xs (i + 1).toNat).toInt hV0 hI (inR_32 _)
  refine r_aload_n Ra (i := 1) dL_law_773 rfl h1 ?_
  refine law_arg Ra hK 1 dL_law_774 dL_law_775 dL_law_776 dL_law_777 dL_law_778 h0 h3 hi (by decide) (by omega) hLs ?_
  refine r_callV Ra (z := ZL) (c_pD_tells hV0 (inR_32 _) e1) mw_X11_tells mi_X11_tells (by decide) t0 (by decide) rfl rfl rfl k_L_95 ⟨rfl, rfl, Nat.le_of_ble_eq_true rfl, Nat.le_of_ble_eq_true rfl⟩ ⟨Nat.le_of_ble_eq_true rfl, Nat.le_of_ble_eq_true rfl⟩ (Nat.le_of_ble_eq_true rfl) dL_law_779 (fun okD => ?_)
  have hV1 := okD.1
  have hr1 : inR r := okD.2
  refine r_aload_n Ra (i := 2) dL_law_782 rfl h2 ?_
  refine law_arg Ra hK 1 dL_law_783 dL_law_784 dL_law_785 dL_law_786 dL_law_787 h0 h3 hi (by decide) (by omega) hLs ?_
  refine r_callV Ra (z := ZL) (c_pM_tells hV1 (inR_32 _) e2) mw_X12_tells mi_X12_tells (by decide) t475 (by decide) rfl rfl rfl k_L_98 ⟨rfl, rfl, Nat.le_of_ble_eq_true rfl, Nat.le_of_ble_eq_true rfl⟩ ⟨Nat.le_of_ble_eq_true rfl, Nat.le_of_ble_eq_true rfl⟩ (Nat.le_of_ble_eq_true rfl) dL_law_788 (fun okM => ?_)
  refine r_icmp_eq Ra 1092 dL_law_791 hr1 hr1 (by decide) (fun _ => kk _ okM.1 hI2) (fun q => absurd rfl q)
theorem law_days (Ra : Ru false none l en code RL 4 room_1 K) (hK : LawK b Ls xs K) (hO : ok_days Inv N) (h0 : L 0 = some (.ref b)) (h1 : L 1 = some (vA en 0)) (h2 : L 2 = some (vA en 475)) (h3 : L 3 = some (vI i)) (hi : 0 ≤ i) (hi6 : i + 6 ≤ (Ls : Int)) (hLs : Ls ≤ 3072) (hV0 : VT μ) (hI : Inv μ) (kk : ∀ μ2, VT μ2 → Inv μ2 → K ZL 1092 L [] μ2) : K ZL 796 L [] μ := by
  obtain ⟨r, m1, m2, e1, e2, hI2⟩ := hO μ (xs (i + 1).toNat).toInt hV0 hI (inR_32 _)
  refine r_aload_n Ra (i := 1) dL_law_796 rfl h1 ?_
  refine law_arg Ra hK 1 dL_law_797 dL_law_798 dL_law_799 dL_law_800 dL_law_801 h0 h3 hi (by decide) (by omega) hLs ?_
  refine r_callV Ra (z := ZL) (c_pD_days hV0 (inR_32 _) e1) mw_X11_days mi_X11_days (by decide) t0 (by decide) rfl rfl rfl k_L_99 ⟨rfl, rfl, Nat.le_of_ble_eq_true rfl, Nat.le_of_ble_eq_true rfl⟩ ⟨Nat.le_of_ble_eq_true rfl, Nat.le_of_ble_eq_true rfl⟩ (Nat.le_of_ble_eq_true rfl) dL_law_802 (fun okD => ?_)
  have hV1 := okD.1
  have hr1 : inR r := okD.2
  refine r_aload_n Ra (i := 2) dL_law_805 rfl h2 ?_
  refine law_arg Ra hK 1 dL_law_806 dL_law_807 dL_law_808 dL_law_809 dL_law_810 h0 h3 hi (by decide) (by omega) hLs ?_
  refine r_callV Ra (z := ZL) (c_pM_days hV1 (inR_32 _) e2) mw_X12_days mi_X12_days (by decide) t475 (by decide) rfl rfl rfl k_L_102 ⟨rfl, rfl, Nat.le_of_ble_eq_true rfl, Nat.le_of_ble_eq_true rfl⟩ ⟨Nat.le_of_ble_eq_true rfl, Nat.le_of_ble_eq_true rfl⟩ (Nat.le_of_ble_eq_true rfl) dL_law_811 (fun okM => ?_)
  refine r_icmp_eq Ra 1092 dL_law_814 hr1 hr1 (by decide) (fun _ => kk _ okM.1 hI2) (fun q => absurd rfl q)
theorem law_chance (Ra : Ru false none l en code RL 4 room_1 K) (hK : LawK b Ls xs K) (hO : ok_chance Inv N) (h0 : L 0 = some (.ref b)) (h1 : L 1 = some (vA en 0)) (h2 : L 2 = some (vA en 475)) (h3 : L 3 = some (vI i)) (hi : 0 ≤ i) (hi6 : i + 6 ≤ (Ls : Int)) (hLs : Ls ≤ 3072) (hV0 : VT μ) (hI : Inv μ) (kk : ∀ μ2, VT μ2 → Inv μ2 → K ZL 1092 L [] μ2) : K ZL 819 L [] μ := by
  obtain ⟨r, m1, m2, e1, e2, hI2⟩ := hO μ (xs (i + 1).toNat).toInt hV0 hI (inR_32 _)
  refine r_aload_n Ra (i := 1) dL_law_819 rfl h1 ?_
  refine law_arg Ra hK 1 dL_law_820 dL_law_821 dL_law_822 dL_law_823 dL_law_824 h0 h3 hi (by decide) (by omega) hLs ?_
  refine r_callV Ra (z := ZL) (c_pD_chance hV0 (inR_32 _) e1) mw_X11_chance mi_X11_chance (by decide) t0 (by decide) rfl rfl rfl k_L_103 ⟨rfl, rfl, Nat.le_of_ble_eq_true rfl, Nat.le_of_ble_eq_true rfl⟩ ⟨Nat.le_of_ble_eq_true rfl, Nat.le_of_ble_eq_true rfl⟩ (Nat.le_of_ble_eq_true rfl) dL_law_825 (fun okD => ?_)
  have hV1 := okD.1
  have hr1 : inR r := okD.2
  refine r_aload_n Ra (i := 2) dL_law_828 rfl h2 ?_
  refine law_arg Ra hK 1 dL_law_829 dL_law_830 dL_law_831 dL_law_832 dL_law_833 h0 h3 hi (by decide) (by omega) hLs ?_
  refine r_callV Ra (z := ZL) (c_pM_chance hV1 (inR_32 _) e2) mw_X12_chance mi_X12_chance (by decide) t475 (by decide) rfl rfl rfl k_L_106 ⟨rfl, rfl, Nat.le_of_ble_eq_true rfl, Nat.le_of_ble_eq_true rfl⟩ ⟨Nat.le_of_ble_eq_true rfl, Nat.le_of_ble_eq_true rfl⟩ (Nat.le_of_ble_eq_true rfl) dL_law_834 (fun okM => ?_)
  refine r_icmp_eq Ra 1092 dL_law_837 hr1 hr1 (by decide) (fun _ => kk _ okM.1 hI2) (fun q => absurd rfl q)
theorem law_rise (Ra : Ru false none l en code RL 4 room_1 K) (hK : LawK b Ls xs K) (hO : ok_rise Inv N) (h0 : L 0 = some (.ref b)) (h1 : L 1 = some (vA en 0)) (h2 : L 2 = some (vA en 475)) (h3 : L 3 = some (vI i)) (hi : 0 ≤ i) (hi6 : i + 6 ≤ (Ls : Int)) (hLs : Ls ≤ 3072) (hV0 : VT μ) (hI : Inv μ) (kk : ∀ μ2, VT μ2 → Inv μ2 → K ZL 1092 L [] μ2) : K ZL 842 L [] μ := by
  obtain ⟨r, m1, m2, e1, e2, hI2⟩ := hO μ (xs (i + 1).toNat).toInt (xs (i + 2).toNat).toInt hV0 hI (inR_32 _) (inR_32 _)
  refine r_aload_n Ra (i := 1) dL_law_842 rfl h1 ?_
  refine law_arg Ra hK 1 dL_law_843 dL_law_844 dL_law_845 dL_law_846 dL_law_847 h0 h3 hi (by decide) (by omega) hLs ?_
  refine law_arg Ra hK 2 dL_law_848 dL_law_849 dL_law_850 dL_law_851 dL_law_852 h0 h3 hi (by decide) (by omega) hLs ?_
  refine r_callV Ra (z := ZL) (c_pD_rise hV0 (inR_32 _) (inR_32 _) e1) mw_X11_rise mi_X11_rise (by decide) t0 (by decide) rfl rfl rfl k_L_107 ⟨rfl, rfl, Nat.le_of_ble_eq_true rfl, Nat.le_of_ble_eq_true rfl⟩ ⟨Nat.le_of_ble_eq_true rfl, Nat.le_of_ble_eq_true rfl⟩ (Nat.le_of_ble_eq_true rfl) dL_law_853 (fun okD => ?_)
  have hV1 := okD.1
  have hr1 : inR r := inR_01 okD.2
  refine r_aload_n Ra (i := 2) dL_law_856 rfl h2 ?_
  refine law_arg Ra hK 1 dL_law_857 dL_law_858 dL_law_859 dL_law_860 dL_law_861 h0 h3 hi (by decide) (by omega) hLs ?_
  refine law_arg Ra hK 2 dL_law_862 dL_law_863 dL_law_864 dL_law_865 dL_law_866 h0 h3 hi (by decide) (by omega) hLs ?_
  refine r_callV Ra (z := ZL) (c_pM_rise hV1 (inR_32 _) (inR_32 _) e2) mw_X12_rise mi_X12_rise (by decide) t475 (by decide) rfl rfl rfl k_L_111 ⟨rfl, rfl, Nat.le_of_ble_eq_true rfl, Nat.le_of_ble_eq_true rfl⟩ ⟨Nat.le_of_ble_eq_true rfl, Nat.le_of_ble_eq_true rfl⟩ (Nat.le_of_ble_eq_true rfl) dL_law_867 (fun okM => ?_)
  refine r_icmp_eq Ra 1092 dL_law_870 hr1 hr1 (by decide) (fun _ => kk _ okM.1 hI2) (fun q => absurd rfl q)
theorem law_move (Ra : Ru false none l en code RL 4 room_1 K) (hK : LawK b Ls xs K) (hO : ok_move Inv N) (h0 : L 0 = some (.ref b)) (h1 : L 1 = some (vA en 0)) (h2 : L 2 = some (vA en 475)) (h3 : L 3 = some (vI i)) (hi : 0 ≤ i) (hi6 : i + 6 ≤ (Ls : Int)) (hLs : Ls ≤ 3072) (hV0 : VT μ) (hI : Inv μ) (kk : ∀ μ2, VT μ2 → Inv μ2 → K ZL 1092 L [] μ2) : K ZL 875 L [] μ := by
  obtain ⟨r, m1, m2, e1, e2, hI2⟩ := hO μ (xs (i + 1).toNat).toInt (xs (i + 2).toNat).toInt (xs (i + 3).toNat).toInt hV0 hI (inR_32 _) (inR_32 _) (inR_32 _)
  refine r_aload_n Ra (i := 1) dL_law_875 rfl h1 ?_
  refine law_arg Ra hK 1 dL_law_876 dL_law_877 dL_law_878 dL_law_879 dL_law_880 h0 h3 hi (by decide) (by omega) hLs ?_
  refine law_arg Ra hK 2 dL_law_881 dL_law_882 dL_law_883 dL_law_884 dL_law_885 h0 h3 hi (by decide) (by omega) hLs ?_
  refine law_arg Ra hK 3 dL_law_886 dL_law_887 dL_law_888 dL_law_889 dL_law_890 h0 h3 hi (by decide) (by omega) hLs ?_
  refine r_callV Ra (z := ZL) (c_pD_move hV0 (inR_32 _) (inR_32 _) (inR_32 _) e1) mw_X11_move mi_X11_move (by decide) t0 (by decide) rfl rfl rfl k_L_112 ⟨rfl, rfl, Nat.le_of_ble_eq_true rfl, Nat.le_of_ble_eq_true rfl⟩ ⟨Nat.le_of_ble_eq_true rfl, Nat.le_of_ble_eq_true rfl⟩ (Nat.le_of_ble_eq_true rfl) dL_law_891 (fun okD => ?_)
  have hV1 := okD.1
  have hr1 : inR r := inR_01 okD.2
  refine r_aload_n Ra (i := 2) dL_law_894 rfl h2 ?_
  refine law_arg Ra hK 1 dL_law_895 dL_law_896 dL_law_897 dL_law_898 dL_law_899 h0 h3 hi (by decide) (by omega) hLs ?_
  refine law_arg Ra hK 2 dL_law_900 dL_law_901 dL_law_902 dL_law_903 dL_law_904 h0 h3 hi (by decide) (by omega) hLs ?_
  refine law_arg Ra hK 3 dL_law_905 dL_law_906 dL_law_907 dL_law_908 dL_law_909 h0 h3 hi (by decide) (by omega) hLs ?_
  refine r_callV Ra (z := ZL) (c_pM_move hV1 (inR_32 _) (inR_32 _) (inR_32 _) e2) mw_X12_move mi_X12_move (by decide) t475 (by decide) rfl rfl rfl k_L_116 ⟨rfl, rfl, Nat.le_of_ble_eq_true rfl, Nat.le_of_ble_eq_true rfl⟩ ⟨Nat.le_of_ble_eq_true rfl, Nat.le_of_ble_eq_true rfl⟩ (Nat.le_of_ble_eq_true rfl) dL_law_910 (fun okM => ?_)
  refine r_icmp_eq Ra 1092 dL_law_913 hr1 hr1 (by decide) (fun _ => kk _ okM.1 hI2) (fun q => absurd rfl q)
theorem law_weave (Ra : Ru false none l en code RL 4 room_1 K) (hK : LawK b Ls xs K) (hO : ok_weave Inv N) (h0 : L 0 = some (.ref b)) (h1 : L 1 = some (vA en 0)) (h2 : L 2 = some (vA en 475)) (h3 : L 3 = some (vI i)) (hi : 0 ≤ i) (hi6 : i + 6 ≤ (Ls : Int)) (hLs : Ls ≤ 3072) (hV0 : VT μ) (hI : Inv μ) (kk : ∀ μ2, VT μ2 → Inv μ2 → K ZL 1092 L [] μ2) : K ZL 918 L [] μ := by
  obtain ⟨r, m1, m2, e1, e2, hI2⟩ := hO μ (xs (i + 1).toNat).toInt (xs (i + 2).toNat).toInt hV0 hI (inR_32 _) (inR_32 _)
  refine r_aload_n Ra (i := 1) dL_law_918 rfl h1 ?_
  refine law_arg Ra hK 1 dL_law_919 dL_law_920 dL_law_921 dL_law_922 dL_law_923 h0 h3 hi (by decide) (by omega) hLs ?_
  refine law_arg Ra hK 2 dL_law_924 dL_law_925 dL_law_926 dL_law_927 dL_law_928 h0 h3 hi (by decide) (by omega) hLs ?_
  refine r_callV Ra (z := ZL) (c_pD_weave hV0 (inR_32 _) (inR_32 _) e1) mw_X11_weave mi_X11_weave (by decide) t0 (by decide) rfl rfl rfl k_L_117 ⟨rfl, rfl, Nat.le_of_ble_eq_true rfl, Nat.le_of_ble_eq_true rfl⟩ ⟨Nat.le_of_ble_eq_true rfl, Nat.le_of_ble_eq_true rfl⟩ (Nat.le_of_ble_eq_true rfl) dL_law_929 (fun okD => ?_)
  have hV1 := okD.1
  have hr1 : inR r := inR_01 okD.2
  refine r_aload_n Ra (i := 2) dL_law_932 rfl h2 ?_
  refine law_arg Ra hK 1 dL_law_933 dL_law_934 dL_law_935 dL_law_936 dL_law_937 h0 h3 hi (by decide) (by omega) hLs ?_
  refine law_arg Ra hK 2 dL_law_938 dL_law_939 dL_law_940 dL_law_941 dL_law_942 h0 h3 hi (by decide) (by omega) hLs ?_
  refine r_callV Ra (z := ZL) (c_pM_weave hV1 (inR_32 _) (inR_32 _) e2) mw_X12_weave mi_X12_weave (by decide) t475 (by decide) rfl rfl rfl k_L_120 ⟨rfl, rfl, Nat.le_of_ble_eq_true rfl, Nat.le_of_ble_eq_true rfl⟩ ⟨Nat.le_of_ble_eq_true rfl, Nat.le_of_ble_eq_true rfl⟩ (Nat.le_of_ble_eq_true rfl) dL_law_943 (fun okM => ?_)
  refine r_icmp_eq Ra 1092 dL_law_946 hr1 hr1 (by decide) (fun _ => kk _ okM.1 hI2) (fun q => absurd rfl q)
theorem law_undo (Ra : Ru false none l en code RL 4 room_1 K) (hK : LawK b Ls xs K) (hO : ok_undo Inv N) (h0 : L 0 = some (.ref b)) (h1 : L 1 = some (vA en 0)) (h2 : L 2 = some (vA en 475)) (h3 : L 3 = some (vI i)) (hi : 0 ≤ i) (hi6 : i + 6 ≤ (Ls : Int)) (hLs : Ls ≤ 3072) (hV0 : VT μ) (hI : Inv μ) (kk : ∀ μ2, VT μ2 → Inv μ2 → K ZL 1092 L [] μ2) : K ZL 951 L [] μ := by
  obtain ⟨r, m1, m2, e1, e2, hI2⟩ := hO μ  hV0 hI 
  refine r_aload_n Ra (i := 1) dL_law_951 rfl h1 ?_
  refine r_callV Ra (z := ZL) (c_pD_undo hV0  e1) mw_X11_undo mi_X11_undo (by decide) t0 (by decide) rfl rfl rfl k_L_121 ⟨rfl, rfl, Nat.le_of_ble_eq_true rfl, Nat.le_of_ble_eq_true rfl⟩ ⟨Nat.le_of_ble_eq_true rfl, Nat.le_of_ble_eq_true rfl⟩ (Nat.le_of_ble_eq_true rfl) dL_law_952 (fun okD => ?_)
  have hV1 := okD.1
  have hr1 : inR r := inR_01 okD.2
  refine r_aload_n Ra (i := 2) dL_law_955 rfl h2 ?_
  refine r_callV Ra (z := ZL) (c_pM_undo hV1  e2) mw_X12_undo mi_X12_undo (by decide) t475 (by decide) rfl rfl rfl k_L_125 ⟨rfl, rfl, Nat.le_of_ble_eq_true rfl, Nat.le_of_ble_eq_true rfl⟩ ⟨Nat.le_of_ble_eq_true rfl, Nat.le_of_ble_eq_true rfl⟩ (Nat.le_of_ble_eq_true rfl) dL_law_956 (fun okM => ?_)
  refine r_icmp_eq Ra 1092 dL_law_959 hr1 hr1 (by decide) (fun _ => kk _ okM.1 hI2) (fun q => absurd rfl q)
theorem law_seed (Ra : Ru false none l en code RL 4 room_1 K) (hK : LawK b Ls xs K) (hO : ok_seed Inv N) (h0 : L 0 = some (.ref b)) (h1 : L 1 = some (vA en 0)) (h2 : L 2 = some (vA en 475)) (h3 : L 3 = some (vI i)) (hi : 0 ≤ i) (hi6 : i + 6 ≤ (Ls : Int)) (hLs : Ls ≤ 3072) (hV0 : VT μ) (hI : Inv μ) (kk : ∀ μ2, VT μ2 → Inv μ2 → K ZL 1092 L [] μ2) : K ZL 964 L [] μ := by
  obtain ⟨r, m1, m2, e1, e2, hI2⟩ := hO μ (xs (i + 1).toNat).toInt hV0 hI (inR_32 _)
  refine r_aload_n Ra (i := 1) dL_law_964 rfl h1 ?_
  refine law_arg Ra hK 1 dL_law_965 dL_law_966 dL_law_967 dL_law_968 dL_law_969 h0 h3 hi (by decide) (by omega) hLs ?_
  refine r_callV Ra (z := ZL) (c_pD_seed hV0 (inR_32 _) e1) mw_X11_seed mi_X11_seed (by decide) t0 (by decide) rfl rfl rfl k_L_126 ⟨rfl, rfl, Nat.le_of_ble_eq_true rfl, Nat.le_of_ble_eq_true rfl⟩ ⟨Nat.le_of_ble_eq_true rfl, Nat.le_of_ble_eq_true rfl⟩ (Nat.le_of_ble_eq_true rfl) dL_law_970 (fun okD => ?_)
  have hV1 := okD.1
  have hr1 : inR r := inR_01 okD.2
  refine r_aload_n Ra (i := 2) dL_law_973 rfl h2 ?_
  refine law_arg Ra hK 1 dL_law_974 dL_law_975 dL_law_976 dL_law_977 dL_law_978 h0 h3 hi (by decide) (by omega) hLs ?_
  refine r_callV Ra (z := ZL) (c_pM_seed hV1 (inR_32 _) e2) mw_X12_seed mi_X12_seed (by decide) t475 (by decide) rfl rfl rfl k_L_129 ⟨rfl, rfl, Nat.le_of_ble_eq_true rfl, Nat.le_of_ble_eq_true rfl⟩ ⟨Nat.le_of_ble_eq_true rfl, Nat.le_of_ble_eq_true rfl⟩ (Nat.le_of_ble_eq_true rfl) dL_law_979 (fun okM => ?_)
  refine r_icmp_eq Ra 1092 dL_law_982 hr1 hr1 (by decide) (fun _ => kk _ okM.1 hI2) (fun q => absurd rfl q)
theorem law_kept (Ra : Ru false none l en code RL 4 room_1 K) (hK : LawK b Ls xs K) (hO : ok_kept Inv N) (h0 : L 0 = some (.ref b)) (h1 : L 1 = some (vA en 0)) (h2 : L 2 = some (vA en 475)) (h3 : L 3 = some (vI i)) (hi : 0 ≤ i) (hi6 : i + 6 ≤ (Ls : Int)) (hLs : Ls ≤ 3072) (hV0 : VT μ) (hI : Inv μ) (kk : ∀ μ2, VT μ2 → Inv μ2 → K ZL 1092 L [] μ2) : K ZL 987 L [] μ := by
  obtain ⟨r, m1, m2, e1, rfl, e2, rfl, hI2⟩ := hO μ (xs (i + 1).toNat).toInt (xs (i + 2).toNat).toInt hV0 hI (inR_32 _) (inR_32 _)
  refine r_aload_n Ra (i := 1) dL_law_987 rfl h1 ?_
  refine law_arg Ra hK 1 dL_law_988 dL_law_989 dL_law_990 dL_law_991 dL_law_992 h0 h3 hi (by decide) (by omega) hLs ?_
  refine law_arg Ra hK 2 dL_law_993 dL_law_994 dL_law_995 dL_law_996 dL_law_997 h0 h3 hi (by decide) (by omega) hLs ?_
  refine r_callV Ra (z := ZL) (c_pD_kept hV0 (inR_32 _) (inR_32 _) e1) mw_X11_kept mi_X11_kept (by decide) t0 (by decide) rfl rfl rfl k_L_130 ⟨rfl, rfl, Nat.le_of_ble_eq_true rfl, Nat.le_of_ble_eq_true rfl⟩ ⟨Nat.le_of_ble_eq_true rfl, Nat.le_of_ble_eq_true rfl⟩ (Nat.le_of_ble_eq_true rfl) dL_law_998 (fun okD => ?_)
  have hV1 := hV0
  have hr1 : inR r := okD
  refine r_aload_n Ra (i := 2) dL_law_1001 rfl h2 ?_
  refine law_arg Ra hK 1 dL_law_1002 dL_law_1003 dL_law_1004 dL_law_1005 dL_law_1006 h0 h3 hi (by decide) (by omega) hLs ?_
  refine law_arg Ra hK 2 dL_law_1007 dL_law_1008 dL_law_1009 dL_law_1010 dL_law_1011 h0 h3 hi (by decide) (by omega) hLs ?_
  refine r_callV Ra (z := ZL) (c_pM_kept hV1 (inR_32 _) (inR_32 _) e2) mw_X12_kept mi_X12_kept (by decide) t475 (by decide) rfl rfl rfl k_L_133 ⟨rfl, rfl, Nat.le_of_ble_eq_true rfl, Nat.le_of_ble_eq_true rfl⟩ ⟨Nat.le_of_ble_eq_true rfl, Nat.le_of_ble_eq_true rfl⟩ (Nat.le_of_ble_eq_true rfl) dL_law_1012 (fun okM => ?_)
  refine r_icmp_eq Ra 1092 dL_law_1015 hr1 hr1 (by decide) (fun _ => kk _ hV1 hI2) (fun q => absurd rfl q)
theorem law_image (Ra : Ru false none l en code RL 4 room_1 K) (hK : LawK b Ls xs K) (hO : ok_image Inv N) (h0 : L 0 = some (.ref b)) (h1 : L 1 = some (vA en 0)) (h2 : L 2 = some (vA en 475)) (h3 : L 3 = some (vI i)) (hi : 0 ≤ i) (hi6 : i + 6 ≤ (Ls : Int)) (hLs : Ls ≤ 3072) (hV0 : VT μ) (hI : Inv μ) (kk : ∀ μ2, VT μ2 → Inv μ2 → K ZL 1092 L [] μ2) : K ZL 1020 L [] μ := by
  obtain ⟨r, m1, m2, e1, e2, hI2⟩ := hO μ  hV0 hI 
  refine r_aload_n Ra (i := 1) dL_law_1020 rfl h1 ?_
  refine r_callV Ra (z := ZL) (c_pD_image hV0  e1) mw_X11_image mi_X11_image (by decide) t0 (by decide) rfl rfl rfl k_L_134 ⟨rfl, rfl, Nat.le_of_ble_eq_true rfl, Nat.le_of_ble_eq_true rfl⟩ ⟨Nat.le_of_ble_eq_true rfl, Nat.le_of_ble_eq_true rfl⟩ (Nat.le_of_ble_eq_true rfl) dL_law_1021 (fun okD => ?_)
  have hV1 := okD.1
  have hr1 : inR r := okD.2
  refine r_aload_n Ra (i := 2) dL_law_1024 rfl h2 ?_
  refine r_callV Ra (z := ZL) (c_pM_image hV1  e2) mw_X12_image mi_X12_image (by decide) t475 (by decide) rfl rfl rfl k_L_137 ⟨rfl, rfl, Nat.le_of_ble_eq_true rfl, Nat.le_of_ble_eq_true rfl⟩ ⟨Nat.le_of_ble_eq_true rfl, Nat.le_of_ble_eq_true rfl⟩ (Nat.le_of_ble_eq_true rfl) dL_law_1025 (fun okM => ?_)
  refine r_icmp_eq Ra 1092 dL_law_1028 hr1 hr1 (by decide) (fun _ => kk _ okM.1 hI2) (fun q => absurd rfl q)
theorem law_octet (Ra : Ru false none l en code RL 4 room_1 K) (hK : LawK b Ls xs K) (hO : ok_octet Inv N) (h0 : L 0 = some (.ref b)) (h1 : L 1 = some (vA en 0)) (h2 : L 2 = some (vA en 475)) (h3 : L 3 = some (vI i)) (hi : 0 ≤ i) (hi6 : i + 6 ≤ (Ls : Int)) (hLs : Ls ≤ 3072) (hV0 : VT μ) (hI : Inv μ) (kk : ∀ μ2, VT μ2 → Inv μ2 → K ZL 1092 L [] μ2) : K ZL 1033 L [] μ := by
  obtain ⟨r, m1, m2, e1, rfl, e2, rfl, hI2⟩ := hO μ (xs (i + 1).toNat).toInt hV0 hI (inR_32 _)
  refine r_aload_n Ra (i := 1) dL_law_1033 rfl h1 ?_
  refine law_arg Ra hK 1 dL_law_1034 dL_law_1035 dL_law_1036 dL_law_1037 dL_law_1038 h0 h3 hi (by decide) (by omega) hLs ?_
  refine r_callV Ra (z := ZL) (c_pD_octet hV0 (inR_32 _) e1) mw_X11_octet mi_X11_octet (by decide) t0 (by decide) rfl rfl rfl k_L_138 ⟨rfl, rfl, Nat.le_of_ble_eq_true rfl, Nat.le_of_ble_eq_true rfl⟩ ⟨Nat.le_of_ble_eq_true rfl, Nat.le_of_ble_eq_true rfl⟩ (Nat.le_of_ble_eq_true rfl) dL_law_1039 (fun okD => ?_)
  have hV1 := hV0
  have hr1 : inR r := okD
  refine r_aload_n Ra (i := 2) dL_law_1042 rfl h2 ?_
  refine law_arg Ra hK 1 dL_law_1043 dL_law_1044 dL_law_1045 dL_law_1046 dL_law_1047 h0 h3 hi (by decide) (by omega) hLs ?_
  refine r_callV Ra (z := ZL) (c_pM_octet hV1 (inR_32 _) e2) mw_X12_octet mi_X12_octet (by decide) t475 (by decide) rfl rfl rfl k_L_141 ⟨rfl, rfl, Nat.le_of_ble_eq_true rfl, Nat.le_of_ble_eq_true rfl⟩ ⟨Nat.le_of_ble_eq_true rfl, Nat.le_of_ble_eq_true rfl⟩ (Nat.le_of_ble_eq_true rfl) dL_law_1048 (fun okM => ?_)
  refine r_icmp_eq Ra 1092 dL_law_1051 hr1 hr1 (by decide) (fun _ => kk _ hV1 hI2) (fun q => absurd rfl q)
theorem law_on (Ra : Ru false none l en code RL 4 room_1 K) (hK : LawK b Ls xs K) (hO : ok_on Inv N) (h0 : L 0 = some (.ref b)) (h1 : L 1 = some (vA en 0)) (h2 : L 2 = some (vA en 475)) (h3 : L 3 = some (vI i)) (hi : 0 ≤ i) (hi6 : i + 6 ≤ (Ls : Int)) (hLs : Ls ≤ 3072) (hV0 : VT μ) (hI : Inv μ) (kk : ∀ μ2, VT μ2 → Inv μ2 → K ZL 1092 L [] μ2) : K ZL 1056 L [] μ := by
  obtain ⟨r, m1, m2, e1, e2, hI2⟩ := hO μ  hV0 hI 
  refine r_aload_n Ra (i := 1) dL_law_1056 rfl h1 ?_
  refine r_callV Ra (z := ZL) (c_pD_on hV0  e1) mw_X11_on mi_X11_on (by decide) t0 (by decide) rfl rfl rfl k_L_142 ⟨rfl, rfl, Nat.le_of_ble_eq_true rfl, Nat.le_of_ble_eq_true rfl⟩ ⟨Nat.le_of_ble_eq_true rfl, Nat.le_of_ble_eq_true rfl⟩ (Nat.le_of_ble_eq_true rfl) dL_law_1057 (fun okD => ?_)
  have hV1 := okD.1
  have hr1 : inR r := inR_01 okD.2
  refine r_aload_n Ra (i := 2) dL_law_1060 rfl h2 ?_
  refine r_callV Ra (z := ZL) (c_pM_on hV1  e2) mw_X12_on mi_X12_on (by decide) t475 (by decide) rfl rfl rfl k_L_145 ⟨rfl, rfl, Nat.le_of_ble_eq_true rfl, Nat.le_of_ble_eq_true rfl⟩ ⟨Nat.le_of_ble_eq_true rfl, Nat.le_of_ble_eq_true rfl⟩ (Nat.le_of_ble_eq_true rfl) dL_law_1061 (fun okM => ?_)
  refine r_icmp_eq Ra 1092 dL_law_1064 hr1 hr1 (by decide) (fun _ => kk _ okM.1 hI2) (fun q => absurd rfl q)
theorem law_status (Ra : Ru false none l en code RL 4 room_1 K) (hK : LawK b Ls xs K) (hO : ok_status Inv N) (h0 : L 0 = some (.ref b)) (h1 : L 1 = some (vA en 0)) (h2 : L 2 = some (vA en 475)) (h3 : L 3 = some (vI i)) (hi : 0 ≤ i) (hi6 : i + 6 ≤ (Ls : Int)) (hLs : Ls ≤ 3072) (hV0 : VT μ) (hI : Inv μ) (kk : ∀ μ2, VT μ2 → Inv μ2 → K ZL 1092 L [] μ2) : K ZL 1069 L [] μ := by
  obtain ⟨r, m1, m2, e1, rfl, e2, rfl, hI2⟩ := hO μ (xs (i + 1).toNat).toInt hV0 hI (inR_32 _)
  refine r_aload_n Ra (i := 1) dL_law_1069 rfl h1 ?_
  refine law_arg Ra hK 1 dL_law_1070 dL_law_1071 dL_law_1072 dL_law_1073 dL_law_1074 h0 h3 hi (by decide) (by omega) hLs ?_
  refine r_callV Ra (z := ZL) (c_pD_status hV0 (inR_32 _) e1) mw_X11_status mi_X11_status (by decide) t0 (by decide) rfl rfl rfl k_L_146 ⟨rfl, rfl, Nat.le_of_ble_eq_true rfl, Nat.le_of_ble_eq_true rfl⟩ ⟨Nat.le_of_ble_eq_true rfl, Nat.le_of_ble_eq_true rfl⟩ (Nat.le_of_ble_eq_true rfl) dL_law_1075 (fun okD => ?_)
  have hV1 := hV0
  have hr1 : inR r := okD
  refine r_aload_n Ra (i := 2) dL_law_1078 rfl h2 ?_
  refine law_arg Ra hK 1 dL_law_1079 dL_law_1080 dL_law_1081 dL_law_1082 dL_law_1083 h0 h3 hi (by decide) (by omega) hLs ?_
  refine r_callV Ra (z := ZL) (c_pM_status hV1 (inR_32 _) e2) mw_X12_status mi_X12_status (by decide) t475 (by decide) rfl rfl rfl k_L_149 ⟨rfl, rfl, Nat.le_of_ble_eq_true rfl, Nat.le_of_ble_eq_true rfl⟩ ⟨Nat.le_of_ble_eq_true rfl, Nat.le_of_ble_eq_true rfl⟩ (Nat.le_of_ble_eq_true rfl) dL_law_1084 (fun okM => ?_)
  refine r_icmp_eq Ra 1092 dL_law_1087 hr1 hr1 (by decide) (fun _ => kk _ hV1 hI2) (fun q => absurd rfl q)
theorem and31 (x : Int) : 0 ≤ a32 x 31 ∧ a32 x 31 ≤ 31 := by
  obtain ⟨j, hj, e⟩ := pk_andE (Int32.ofInt x) (m := Int32.ofInt 31) 5 rfl
  have h : ∀ j, j < 32 → 0 ≤ (nI j).toInt ∧ (nI j).toInt ≤ 31 := by decide +kernel
  unfold a32
  rw [e]
  exact h j hj
theorem law_loop (Ra : Ru false none l en code RL 4 room_1 K) (hK : LawK b Ls xs K) (hO : okAll Inv N) (hLs : Ls ≤ 3072) : ∀ (n : Nat) (i : Int) (L : Lo) (μ : Mem), (Ls : Int) - i < (n : Int) → 0 ≤ i → i ≤ 3078 → L 0 = some (.ref b) → L 1 = some (vA en 0) → L 2 = some (vA en 475) → L 3 = some (vI i) → VT μ → Inv μ → K ZL 18 L [] μ := by
  intro n
  induction n with
  | zero =>
    intro i L μ hn hi hb h0 h1 h2 h3 hV hI
    refine r_iload_n Ra (i := 3) dL_law_18 rfl h3 ?_
    refine hK.2.2.1 _ _ _ _ _ dL_law_19 h0 ?_
    refine hK.2.1 _ _ _ _ _ dL_law_20 ?_
    refine r_bipush Ra dL_law_21 rfl ?_
    refine r_isub Ra dL_law_23 ?_
    rw [w32_id (x := (Ls : Int) - 6) ⟨by omega, by omega⟩]
    refine r_icmp_gt Ra 1098 dL_law_24 ⟨by omega, by omega⟩ ⟨by omega, by omega⟩ (by decide) (fun q => ?_) (fun q => by omega)
    exact r_iconst Ra dL_law_1098 (hK.2.2.2 _ _)
  | succ n ih =>
    intro i L μ hn hi hb h0 h1 h2 h3 hV hI
    refine r_iload_n Ra (i := 3) dL_law_18 rfl h3 ?_
    refine hK.2.2.1 _ _ _ _ _ dL_law_19 h0 ?_
    refine hK.2.1 _ _ _ _ _ dL_law_20 ?_
    refine r_bipush Ra dL_law_21 rfl ?_
    refine r_isub Ra dL_law_23 ?_
    rw [w32_id (x := (Ls : Int) - 6) ⟨by omega, by omega⟩]
    refine r_icmp_gt Ra 1098 dL_law_24 ⟨by omega, by omega⟩ ⟨by omega, by omega⟩ (by decide) (fun q => ?_) (fun q => ?_)
    · exact r_iconst Ra dL_law_1098 (hK.2.2.2 _ _)
    have hi6 : i + 6 ≤ (Ls : Int) := by omega
    have kk : ∀ μ2, VT μ2 → Inv μ2 → K ZL 1092 L [] μ2 := by
      intro μ2 hV2 hI2
      refine r_iinc Ra dL_law_1092 h3 ?_
      rw [w32_id (x := i + 6) ⟨by omega, by omega⟩]
      refine r_goto Ra 18 dL_law_1095 (by decide) ?_
      exact ih (i + 6) _ μ2 (by omega) (by omega) (by omega) h0 h1 h2 rfl hV2 hI2
    refine hK.2.2.1 _ _ _ _ _ dL_law_27 h0 ?_
    refine r_iload_n Ra (i := 3) dL_law_28 rfl h3 ?_
    refine hK.1 _ _ _ _ _ i dL_law_29 hi (by omega) ?_
    refine r_bipush Ra dL_law_30 rfl ?_
    refine r_iand Ra dL_law_32 ?_
    have h31 := and31 (xs i.toNat).toInt
    generalize a32 (xs i.toNat).toInt 31 = x at h31 ⊢
    obtain ⟨o0, o1, o2, o3, o4, o5, o6, o7, o8, o9, o10, o11, o12, o13, o14, o15, o16, o17, o18, o19, o20, o21, o22, o23, o24, o25, o26, o27, o28, o29, o30, o31⟩ := hO
    rcases (show x = 0 ∨ x = 1 ∨ x = 2 ∨ x = 3 ∨ x = 4 ∨ x = 5 ∨ x = 6 ∨ x = 7 ∨ x = 8 ∨ x = 9 ∨ x = 10 ∨ x = 11 ∨ x = 12 ∨ x = 13 ∨ x = 14 ∨ x = 15 ∨ x = 16 ∨ x = 17 ∨ x = 18 ∨ x = 19 ∨ x = 20 ∨ x = 21 ∨ x = 22 ∨ x = 23 ∨ x = 24 ∨ x = 25 ∨ x = 26 ∨ x = 27 ∨ x = 28 ∨ x = 29 ∨ x = 30 ∨ x = 31 by omega) with rfl | rfl | rfl | rfl | rfl | rfl | rfl | rfl | rfl | rfl | rfl | rfl | rfl | rfl | rfl | rfl | rfl | rfl | rfl | rfl | rfl | rfl | rfl | rfl | rfl | rfl | rfl | rfl | rfl | rfl | rfl | rfl
    · exact r_tableIn Ra 176 dL_law_33 (Rk rfl) (by decide) (by decide) rfl (by decide) (law_feed Ra hK o0 h0 h1 h2 h3 hi hi6 hLs hV hI kk)
    · exact r_tableIn Ra 239 dL_law_33 (Rk rfl) (by decide) (by decide) rfl (by decide) (law_end Ra hK o1 h0 h1 h2 h3 hi hi6 hLs hV hI kk)
    · exact r_tableIn Ra 262 dL_law_33 (Rk rfl) (by decide) (by decide) rfl (by decide) (law_valley Ra hK o2 h0 h1 h2 h3 hi hi6 hLs hV hI kk)
    · exact r_tableIn Ra 275 dL_law_33 (Rk rfl) (by decide) (by decide) rfl (by decide) (law_fault Ra hK o3 h0 h1 h2 h3 hi hi6 hLs hV hI kk)
    · exact r_tableIn Ra 298 dL_law_33 (Rk rfl) (by decide) (by decide) rfl (by decide) (law_has Ra hK o4 h0 h1 h2 h3 hi hi6 hLs hV hI kk)
    · exact r_tableIn Ra 321 dL_law_33 (Rk rfl) (by decide) (by decide) rfl (by decide) (law_letter Ra hK o5 h0 h1 h2 h3 hi hi6 hLs hV hI kk)
    · exact r_tableIn Ra 354 dL_law_33 (Rk rfl) (by decide) (by decide) rfl (by decide) (law_cell Ra hK o6 h0 h1 h2 h3 hi hi6 hLs hV hI kk)
    · exact r_tableIn Ra 387 dL_law_33 (Rk rfl) (by decide) (by decide) rfl (by decide) (law_person Ra hK o7 h0 h1 h2 h3 hi hi6 hLs hV hI kk)
    · exact r_tableIn Ra 420 dL_law_33 (Rk rfl) (by decide) (by decide) rfl (by decide) (law_today Ra hK o8 h0 h1 h2 h3 hi hi6 hLs hV hI kk)
    · exact r_tableIn Ra 463 dL_law_33 (Rk rfl) (by decide) (by decide) rfl (by decide) (law_dew Ra hK o9 h0 h1 h2 h3 hi hi6 hLs hV hI kk)
    · exact r_tableIn Ra 506 dL_law_33 (Rk rfl) (by decide) (by decide) rfl (by decide) (law_up Ra hK o10 h0 h1 h2 h3 hi hi6 hLs hV hI kk)
    · exact r_tableIn Ra 539 dL_law_33 (Rk rfl) (by decide) (by decide) rfl (by decide) (law_home Ra hK o11 h0 h1 h2 h3 hi hi6 hLs hV hI kk)
    · exact r_tableIn Ra 572 dL_law_33 (Rk rfl) (by decide) (by decide) rfl (by decide) (law_way Ra hK o12 h0 h1 h2 h3 hi hi6 hLs hV hI kk)
    · exact r_tableIn Ra 615 dL_law_33 (Rk rfl) (by decide) (by decide) rfl (by decide) (law_changed Ra hK o13 h0 h1 h2 h3 hi hi6 hLs hV hI kk)
    · exact r_tableIn Ra 638 dL_law_33 (Rk rfl) (by decide) (by decide) rfl (by decide) (law_later Ra hK o14 h0 h1 h2 h3 hi hi6 hLs hV hI kk)
    · exact r_tableIn Ra 681 dL_law_33 (Rk rfl) (by decide) (by decide) rfl (by decide) (law_purse Ra hK o15 h0 h1 h2 h3 hi hi6 hLs hV hI kk)
    · exact r_tableIn Ra 714 dL_law_33 (Rk rfl) (by decide) (by decide) rfl (by decide) (law_dry Ra hK o16 h0 h1 h2 h3 hi hi6 hLs hV hI kk)
    · exact r_tableIn Ra 737 dL_law_33 (Rk rfl) (by decide) (by decide) rfl (by decide) (law_see Ra hK o17 h0 h1 h2 h3 hi hi6 hLs hV hI kk)
    · exact r_tableIn Ra 750 dL_law_33 (Rk rfl) (by decide) (by decide) rfl (by decide) (law_walkers Ra hK o18 h0 h1 h2 h3 hi hi6 hLs hV hI kk)
    · exact r_tableIn Ra 773 dL_law_33 (Rk rfl) (by decide) (by decide) rfl (by decide) (law_tells Ra hK o19 h0 h1 h2 h3 hi hi6 hLs hV hI kk)
    · exact r_tableIn Ra 796 dL_law_33 (Rk rfl) (by decide) (by decide) rfl (by decide) (law_days Ra hK o20 h0 h1 h2 h3 hi hi6 hLs hV hI kk)
    · exact r_tableIn Ra 819 dL_law_33 (Rk rfl) (by decide) (by decide) rfl (by decide) (law_chance Ra hK o21 h0 h1 h2 h3 hi hi6 hLs hV hI kk)
    · exact r_tableIn Ra 842 dL_law_33 (Rk rfl) (by decide) (by decide) rfl (by decide) (law_rise Ra hK o22 h0 h1 h2 h3 hi hi6 hLs hV hI kk)
    · exact r_tableIn Ra 875 dL_law_33 (Rk rfl) (by decide) (by decide) rfl (by decide) (law_move Ra hK o23 h0 h1 h2 h3 hi hi6 hLs hV hI kk)
    · exact r_tableIn Ra 918 dL_law_33 (Rk rfl) (by decide) (by decide) rfl (by decide) (law_weave Ra hK o24 h0 h1 h2 h3 hi hi6 hLs hV hI kk)
    · exact r_tableIn Ra 951 dL_law_33 (Rk rfl) (by decide) (by decide) rfl (by decide) (law_undo Ra hK o25 h0 h1 h2 h3 hi hi6 hLs hV hI kk)
    · exact r_tableIn Ra 964 dL_law_33 (Rk rfl) (by decide) (by decide) rfl (by decide) (law_seed Ra hK o26 h0 h1 h2 h3 hi hi6 hLs hV hI kk)
    · exact r_tableIn Ra 987 dL_law_33 (Rk rfl) (by decide) (by decide) rfl (by decide) (law_kept Ra hK o27 h0 h1 h2 h3 hi hi6 hLs hV hI kk)
    · exact r_tableIn Ra 1020 dL_law_33 (Rk rfl) (by decide) (by decide) rfl (by decide) (law_image Ra hK o28 h0 h1 h2 h3 hi hi6 hLs hV hI kk)
    · exact r_tableIn Ra 1033 dL_law_33 (Rk rfl) (by decide) (by decide) rfl (by decide) (law_octet Ra hK o29 h0 h1 h2 h3 hi hi6 hLs hV hI kk)
    · exact r_tableIn Ra 1056 dL_law_33 (Rk rfl) (by decide) (by decide) rfl (by decide) (law_on Ra hK o30 h0 h1 h2 h3 hi hi6 hLs hV hI kk)
    · exact r_tableIn Ra 1069 dL_law_33 (Rk rfl) (by decide) (by decide) rfl (by decide) (law_status Ra hK o31 h0 h1 h2 h3 hi hi6 hLs hV hI kk)
end LAW
