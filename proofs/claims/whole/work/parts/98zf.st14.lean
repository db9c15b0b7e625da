/-! VALLEY: statements side by side: PERSON, the end -/
def CEnd : Mem → Option (Int × Mem) := fun m => (some (mset m 19 3 (w32 ((m 19 3) + 1)))).bind fun m215 => some (1, m215)
noncomputable def CQt (i : Int) : Mem → Option (Int × Mem) := CC i (CW 5 0 8 23 i (CW 6 1 99 24 i (CW 7 0 99 25 i CEnd)))
theorem o_ptail {N : Nat} {t mc m : Mem} {RT : Int → Mem → Prop} {ib k0 k i x nm : Int} (hL : LX N t RT) (hz : NXt t) (hib : ib = 0 ∨ ib = 1) (hi : 0 ≤ i ∧ i < 6) (hx : x = 6 * ib + i) (h3 : mc 19 3 = i) (hkk : k0 ≤ k) (hcz : CZm mc) (hc : CKt t m k) (hF : Fr (fun b j => b = 18 ∧ j = 7 ∨ (b = 21 ∧ 6 * i ≤ j ∧ j < 6 * i + 6)) mc m) (hnm : ∃ n : Nat, (1 ≤ n ∧ n ≤ 6) ∧ (∀ k : Int, 0 ≤ k → k < n → 1 ≤ m 21 (6 * i + k) ∧ m 21 (6 * i + k) ≤ 26) ∧ (∀ k : Int, (n : Int) ≤ k → k < 6 → m 21 (6 * i + k) = 0) ∧ nm = packW (fun k => m 21 (6 * i + k) + 96) n)
    {vals : Int → Int} (v490 : vals 490 = nm) (v481 : vals 481 = 8 * t 37 (k + 1 + 1) + t 37 (k + 1)) (v482 : vals 482 = t 37 (k + 1 + 1 + 1 + 1)) (v483 : vals 483 = t 37 (k + 1 + 1 + 1 + 1 + 1 + 1)) (v484 : vals 484 = t 37 (k + 1 + 1 + 1 + 1 + 1 + 1 + 1 + 1)) :
    Rn (CQt i m) (SQt t RT ib k0 mc (PN RT ib k0 mc x vals (fun c => c = 490) k) (GQ1 N x)) := by
  have hf : Fr FCv mc m := hF.mono (fun b j c => by unfold FCv; omega)
  unfold CQt GQ1
  refine o_pcell hL hz hib hi hx (fun b c => by omega) (GQ2_dd hib hi hx) hcz hc hf (hF _ _ (by omega)) (hF _ _ (by omega)) v481 (fun hX hY c1 f1 => ?_)
  unfold GQ2
  refine o_pstep 5 (by decide) rfl hL hz hib hi hx (by omega) (fun b c => by omega) (GQ3_dd hib hi hx) c1 f1 (by omega) v482 (fun q2 c2 f2 => ?_)
  unfold GQ3
  refine o_pstep 6 (by decide) rfl hL hz hib hi hx (by omega) (fun b c => by omega) (GQ4_dd hib hi hx) c2 f2 (by omega) v483 (fun q3 c3 f3 => ?_)
  unfold GQ4
  refine o_pstep 7 (by decide) rfl hL hz hib hi hx (by omega) (fun b c => by omega) GQz_dd c3 f3 (by omega) v484 (fun q4 c4 f4 => ?_)
  have hm3 : m 19 3 = i := (hF _ _ (by omega)).trans h3
  have e3 : (mset (mset (mset (mset (mset (mset (mset (mset (mset (mset (mset (mset (mset m 18 7 (k + 1)) 18 7 (k + 1 + 1)) 18 7 (k + 1 + 1 + 1)) 22 i (t 37 (k + 1 + 1) * mc 19 0 + t 37 (k + 1))) 18 7 (k + 1 + 1 + 1 + 1)) 18 7 (k + 1 + 1 + 1 + 1 + 1)) 23 i (t 37 (k + 1 + 1 + 1 + 1))) 18 7 (k + 1 + 1 + 1 + 1 + 1 + 1)) 18 7 (k + 1 + 1 + 1 + 1 + 1 + 1 + 1)) 24 i (t 37 (k + 1 + 1 + 1 + 1 + 1 + 1))) 18 7 (k + 1 + 1 + 1 + 1 + 1 + 1 + 1 + 1)) 18 7 (k + 1 + 1 + 1 + 1 + 1 + 1 + 1 + 1 + 1)) 25 i (t 37 (k + 1 + 1 + 1 + 1 + 1 + 1 + 1 + 1))) 19 3 = i := by
    simp (disch := omega) only [mset_o]
    exact hm3
  have hat := at_lt hX hY
  have hcz1 := hcz.1
  -- the cells of the end
  have g22 : (mset (mset (mset (mset (mset (mset (mset (mset (mset (mset (mset (mset (mset m 18 7 (k + 1)) 18 7 (k + 1 + 1)) 18 7 (k + 1 + 1 + 1)) 22 i (t 37 (k + 1 + 1) * mc 19 0 + t 37 (k + 1))) 18 7 (k + 1 + 1 + 1 + 1)) 18 7 (k + 1 + 1 + 1 + 1 + 1)) 23 i (t 37 (k + 1 + 1 + 1 + 1))) 18 7 (k + 1 + 1 + 1 + 1 + 1 + 1)) 18 7 (k + 1 + 1 + 1 + 1 + 1 + 1 + 1)) 24 i (t 37 (k + 1 + 1 + 1 + 1 + 1 + 1))) 18 7 (k + 1 + 1 + 1 + 1 + 1 + 1 + 1 + 1)) 18 7 (k + 1 + 1 + 1 + 1 + 1 + 1 + 1 + 1 + 1)) 25 i (t 37 (k + 1 + 1 + 1 + 1 + 1 + 1 + 1 + 1))) 22 i = t 37 (k + 1 + 1) * mc 19 0 + t 37 (k + 1) := by simp (disch := omega) only [mset_o, mset_s]
  have g23 : (mset (mset (mset (mset (mset (mset (mset (mset (mset (mset (mset (mset (mset m 18 7 (k + 1)) 18 7 (k + 1 + 1)) 18 7 (k + 1 + 1 + 1)) 22 i (t 37 (k + 1 + 1) * mc 19 0 + t 37 (k + 1))) 18 7 (k + 1 + 1 + 1 + 1)) 18 7 (k + 1 + 1 + 1 + 1 + 1)) 23 i (t 37 (k + 1 + 1 + 1 + 1))) 18 7 (k + 1 + 1 + 1 + 1 + 1 + 1)) 18 7 (k + 1 + 1 + 1 + 1 + 1 + 1 + 1)) 24 i (t 37 (k + 1 + 1 + 1 + 1 + 1 + 1))) 18 7 (k + 1 + 1 + 1 + 1 + 1 + 1 + 1 + 1)) 18 7 (k + 1 + 1 + 1 + 1 + 1 + 1 + 1 + 1 + 1)) 25 i (t 37 (k + 1 + 1 + 1 + 1 + 1 + 1 + 1 + 1))) 23 i = t 37 (k + 1 + 1 + 1 + 1) := by simp (disch := omega) only [mset_o, mset_s]
  have g24 : (mset (mset (mset (mset (mset (mset (mset (mset (mset (mset (mset (mset (mset m 18 7 (k + 1)) 18 7 (k + 1 + 1)) 18 7 (k + 1 + 1 + 1)) 22 i (t 37 (k + 1 + 1) * mc 19 0 + t 37 (k + 1))) 18 7 (k + 1 + 1 + 1 + 1)) 18 7 (k + 1 + 1 + 1 + 1 + 1)) 23 i (t 37 (k + 1 + 1 + 1 + 1))) 18 7 (k + 1 + 1 + 1 + 1 + 1 + 1)) 18 7 (k + 1 + 1 + 1 + 1 + 1 + 1 + 1)) 24 i (t 37 (k + 1 + 1 + 1 + 1 + 1 + 1))) 18 7 (k + 1 + 1 + 1 + 1 + 1 + 1 + 1 + 1)) 18 7 (k + 1 + 1 + 1 + 1 + 1 + 1 + 1 + 1 + 1)) 25 i (t 37 (k + 1 + 1 + 1 + 1 + 1 + 1 + 1 + 1))) 24 i = t 37 (k + 1 + 1 + 1 + 1 + 1 + 1) := by simp (disch := omega) only [mset_o, mset_s]
  have g25 : (mset (mset (mset (mset (mset (mset (mset (mset (mset (mset (mset (mset (mset m 18 7 (k + 1)) 18 7 (k + 1 + 1)) 18 7 (k + 1 + 1 + 1)) 22 i (t 37 (k + 1 + 1) * mc 19 0 + t 37 (k + 1))) 18 7 (k + 1 + 1 + 1 + 1)) 18 7 (k + 1 + 1 + 1 + 1 + 1)) 23 i (t 37 (k + 1 + 1 + 1 + 1))) 18 7 (k + 1 + 1 + 1 + 1 + 1 + 1)) 18 7 (k + 1 + 1 + 1 + 1 + 1 + 1 + 1)) 24 i (t 37 (k + 1 + 1 + 1 + 1 + 1 + 1))) 18 7 (k + 1 + 1 + 1 + 1 + 1 + 1 + 1 + 1)) 18 7 (k + 1 + 1 + 1 + 1 + 1 + 1 + 1 + 1 + 1)) 25 i (t 37 (k + 1 + 1 + 1 + 1 + 1 + 1 + 1 + 1))) 25 i = t 37 (k + 1 + 1 + 1 + 1 + 1 + 1 + 1 + 1) := by simp (disch := omega) only [mset_o, mset_s]
  have g21 : ∀ j, (mset (mset (mset (mset (mset (mset (mset (mset (mset (mset (mset (mset (mset m 18 7 (k + 1)) 18 7 (k + 1 + 1)) 18 7 (k + 1 + 1 + 1)) 22 i (t 37 (k + 1 + 1) * mc 19 0 + t 37 (k + 1))) 18 7 (k + 1 + 1 + 1 + 1)) 18 7 (k + 1 + 1 + 1 + 1 + 1)) 23 i (t 37 (k + 1 + 1 + 1 + 1))) 18 7 (k + 1 + 1 + 1 + 1 + 1 + 1)) 18 7 (k + 1 + 1 + 1 + 1 + 1 + 1 + 1)) 24 i (t 37 (k + 1 + 1 + 1 + 1 + 1 + 1))) 18 7 (k + 1 + 1 + 1 + 1 + 1 + 1 + 1 + 1)) 18 7 (k + 1 + 1 + 1 + 1 + 1 + 1 + 1 + 1 + 1)) 25 i (t 37 (k + 1 + 1 + 1 + 1 + 1 + 1 + 1 + 1))) 21 j = m 21 j := fun j => by simp (disch := omega) only [mset_o]
  have FF : Fr (fun b j => b = 18 ∨ (b = 21 ∧ 6 * i ≤ j ∧ j < 6 * i + 6) ∨ ((22 ≤ b ∧ b ≤ 25) ∧ j = i) ∨ (b = 19 ∧ j = 3)) mc (mset (mset (mset (mset (mset (mset (mset (mset (mset (mset (mset (mset (mset m 18 7 (k + 1)) 18 7 (k + 1 + 1)) 18 7 (k + 1 + 1 + 1)) 22 i (t 37 (k + 1 + 1) * mc 19 0 + t 37 (k + 1))) 18 7 (k + 1 + 1 + 1 + 1)) 18 7 (k + 1 + 1 + 1 + 1 + 1)) 23 i (t 37 (k + 1 + 1 + 1 + 1))) 18 7 (k + 1 + 1 + 1 + 1 + 1 + 1)) 18 7 (k + 1 + 1 + 1 + 1 + 1 + 1 + 1)) 24 i (t 37 (k + 1 + 1 + 1 + 1 + 1 + 1))) 18 7 (k + 1 + 1 + 1 + 1 + 1 + 1 + 1 + 1)) 18 7 (k + 1 + 1 + 1 + 1 + 1 + 1 + 1 + 1 + 1)) 25 i (t 37 (k + 1 + 1 + 1 + 1 + 1 + 1 + 1 + 1))) := by
    have h0 : Fr (fun b j => b = 18 ∨ (b = 21 ∧ 6 * i ≤ j ∧ j < 6 * i + 6) ∨ ((22 ≤ b ∧ b ≤ 25) ∧ j = i) ∨ (b = 19 ∧ j = 3)) mc m := hF.mono (fun b j c => by omega)
    repeat (first | exact h0 | refine Fr.set ?_ (by omega))
  generalize (mset (mset (mset (mset (mset (mset (mset (mset (mset (mset (mset (mset (mset m 18 7 (k + 1)) 18 7 (k + 1 + 1)) 18 7 (k + 1 + 1 + 1)) 22 i (t 37 (k + 1 + 1) * mc 19 0 + t 37 (k + 1))) 18 7 (k + 1 + 1 + 1 + 1)) 18 7 (k + 1 + 1 + 1 + 1 + 1)) 23 i (t 37 (k + 1 + 1 + 1 + 1))) 18 7 (k + 1 + 1 + 1 + 1 + 1 + 1)) 18 7 (k + 1 + 1 + 1 + 1 + 1 + 1 + 1)) 24 i (t 37 (k + 1 + 1 + 1 + 1 + 1 + 1))) 18 7 (k + 1 + 1 + 1 + 1 + 1 + 1 + 1 + 1)) 18 7 (k + 1 + 1 + 1 + 1 + 1 + 1 + 1 + 1 + 1)) 25 i (t 37 (k + 1 + 1 + 1 + 1 + 1 + 1 + 1 + 1))) = mF at c4 f4 e3 g22 g23 g24 g25 g21 FF ⊢
  unfold CEnd
  rw [e3, w32_eq (x := i + 1) (by omega) (by omega)]
  refine rn_v (rn_s ⟨f4.set (by unfold FCv; omega), Or.inl ⟨rfl, (k + 1 + 1 + 1 + 1 + 1 + 1 + 1 + 1 + 1), by omega, c4.fr (S := fun b _ => b = 19) (Fr.rfl'.set rfl) (fun b j c => by omega), fun mr0 mr hp => ?_⟩⟩)
  have e29 : mr 475 29 = ib := by rw [hp.2.2.1 475 29 (by unfold FNi FRa; omega)]; exact hp.1.2.1
  have hD := hp.1.2.2.1
  have e480 : mr 480 ib = i := by
    rw [hp.2.2.1 480 ib (by unfold FNi FRa; omega)]
    have := hD.2.2.2.1.2.1
    rw [NP_bk, NP_rf (by omega) (by omega), NP_pl (by omega)] at this
    exact this.trans h3
  unfold GQz
  rw [e29, e480, w32_eq (x := i + 1) (by omega) (by omega)]
  refine rn_t hp.2.1.2 (rn_t (by omega) (rn_t (by omega) (rn_v (rn_s ⟨⟨⟨hL.2.1 _ _ _ hp.2.1.1 (fun b j c => mset_o (by omega)), by rw [mset_o (by omega)]; exact hp.2.1.2⟩, by rw [mset_o (by omega)]; exact e29, ?_, ?_⟩, ?_⟩))))
  · show DR (NP ib (mset mF 19 3 (i + 1)) (mset mr 480 ib (i + 1)))
    have val : ∀ b, (b = 481 ∨ b = 482 ∨ b = 483 ∨ b = 484 ∨ b = 490) → mset mr 480 ib (i + 1) b x = vals b := fun b c => by
      rw [mset_o (by omega)]
      exact hp.2.2.2 b (by omega)
    refine person_DR (i := i) (x := x) (c := 0) hib hi hx h3 hD (FF.set (by omega)) (Fr.set (hp.2.2.1.mono (fun b j c => ?_)) (Or.inr (Or.inr ⟨rfl, rfl⟩))) (mset_s rfl rfl) (mset_s rfl rfl) ?_
    · rcases c with c | c
      · exact Or.inl c
      · exact Or.inr (Or.inl c)
    · have nph : ∀ p, ph (NP ib (mset mF 19 3 (i + 1)) (mset mr 480 ib (i + 1))) p = ph (NP ib mc mr0) p := fun p => ph_ceq (by rw [NP_pl (by omega), NP_pl (by omega)]; show mset mF 19 3 (i + 1) 19 0 = mc 19 0; rw [mset_o (by omega)]; exact FF _ _ (by omega)) p
      have e19 : mset mF 19 3 (i + 1) 19 2 = mc 19 0 * mc 19 1 := by rw [mset_o (by omega), FF _ _ (by omega)]; exact hp.1.z.2.2.2
      have n20 : NP ib mc mr0 2 0 = mc 19 0 := NP_pl (by omega)
      have hph : ph (NP ib mc mr0) (t 37 (k + 1 + 1) * mc 19 0 + t 37 (k + 1)) = 8 * t 37 (k + 1 + 1) + t 37 (k + 1) := by
        have := ph_at (P := NP ib mc mr0) (x := t 37 (k + 1)) (y := t 37 (k + 1 + 1)) (by rw [n20]; exact hX)
        rw [n20] at this
        exact this
      have pl : ∀ b j, 4 ≤ b → b ≤ 8 → NP ib (mset mF 19 3 (i + 1)) (mset mr 480 ib (i + 1)) b j = mF (b + 17) j := fun b j h1 h2 => by rw [NP_pl (by omega), mset_o (by omega)]
      have rl : ∀ b, (b = 481 ∨ b = 482 ∨ b = 483 ∨ b = 484 ∨ b = 490) → NP ib (mset mF 19 3 (i + 1)) (mset mr 480 ib (i + 1)) b (6 * NP ib (mset mF 19 3 (i + 1)) (mset mr 480 ib (i + 1)) 475 13 + i) = vals b := fun b c => by
        rw [NP_bk, ← hx, NP_rf (by omega) (by omega)]
        exact val b c
      have p22 : NP ib (mset mF 19 3 (i + 1)) (mset mr 480 ib (i + 1)) 2 2 = mc 19 0 * mc 19 1 := by
        rw [NP_pl (by omega)]; exact e19
      have p8 : NP ib (mset mF 19 3 (i + 1)) (mset mr 480 ib (i + 1)) 8 i = t 37 (k + 1 + 1 + 1 + 1 + 1 + 1 + 1 + 1) := (pl 8 i (by omega) (by omega)).trans g25
      have p5 : NP ib (mset mF 19 3 (i + 1)) (mset mr 480 ib (i + 1)) 5 i = t 37 (k + 1 + 1) * mc 19 0 + t 37 (k + 1) := (pl 5 i (by omega) (by omega)).trans g22
      have p6 : NP ib (mset mF 19 3 (i + 1)) (mset mr 480 ib (i + 1)) 6 i = t 37 (k + 1 + 1 + 1 + 1) := (pl 6 i (by omega) (by omega)).trans g23
      have p7 : NP ib (mset mF 19 3 (i + 1)) (mset mr 480 ib (i + 1)) 7 i = t 37 (k + 1 + 1 + 1 + 1 + 1 + 1) := (pl 7 i (by omega) (by omega)).trans g24
      have hnok : nameOK (NP ib (mset mF 19 3 (i + 1)) (mset mr 480 ib (i + 1))) i := by
        obtain ⟨n, a1, a2, a3, a4⟩ := hnm
        have p4 : ∀ j, NP ib (mset mF 19 3 (i + 1)) (mset mr 480 ib (i + 1)) 4 j = m 21 j := fun j => (pl 4 j (by omega) (by omega)).trans (g21 j)
        refine ⟨n, a1, fun l l0 l1 => by rw [p4]; exact a2 l l0 l1, fun l l0 l1 => by rw [p4]; exact a3 l l0 l1, ?_⟩
        rw [rl 490 (by omega), v490, a4]
        exact packW_ext (fun j _ => by show m 21 (6 * i + j) + 96 = NP ib (mset mF 19 3 (i + 1)) (mset mr 480 ib (i + 1)) 4 (6 * i + j) + 96; rw [p4])
      unfold Dq
      rw [rl 484 (by omega), rl 481 (by omega), rl 482 (by omega), rl 483 (by omega), p8, p5, p6, p7, p22, nph, hph]
      exact ⟨⟨q4.1, q4.2, v484⟩, hnok, ⟨hat, v481⟩, ⟨q2, v482⟩, ⟨q3, v483⟩⟩
  · rw [mset_o (by omega), hp.2.2.1 _ _ (by unfold FNi FRa; omega)]
    have := hp.1.2.2.2
    omega
  · refine Fr.set (hp.2.2.1.mono (fun b j c => ?_)) (Or.inr (Or.inl ⟨by omega, rfl⟩))
    rcases c with c | ⟨c, rfl⟩
    · exact FV_a c
    · exact FV_i hi hx c
